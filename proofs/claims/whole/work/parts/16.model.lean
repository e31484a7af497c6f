abbrev mtX6_begins : MT := (RX6, yX6_begins, cX6_begins, 3, none)
theorem miX6_begins : MV mtX6_begins 0 := ⟨wd_874, ⟨wd_873, wd_29⟩, wd_86, ⟨by decide, by decide, by decide +kernel⟩, by decide⟩
def mX6_begins_9   : Nat → Int32 → Int32 → Mem → Mem
  | 0, _, _, M => M
  | n + 1, v1, v2, M => (if 56 ≤ v2 then (upm (upm (upm (upm (upm M 47 2 v1) 47 4 3) 47 5 6) 47 6 2) 47 7 20) else (mX6_begins_9 n v1 (v2 + 1) (upm M 47 v2.toNatClampNeg 0)))
def PX6_begins_9   : Nat → Int32 → Int32 → Mem → Prop
  | 0, _, _, _ => False
  | n + 1, v1, v2, M => (¬ 56 ≤ v2 → vp_in v2 56 ∧ (PX6_begins_9 n v1 (v2 + 1) (upm M 47 v2.toNatClampNeg 0)))
set_option maxRecDepth 100000 in
theorem cX6_begins_9    (M0 : Mem) : ∀ (n : Nat) (v1 : Int32) (v2 : Int32) (M : Mem), PX6_begins_9 n v1 v2 M → AWP (GV mtX6_begins 0 M0 (mX6_begins_9 n v1 v2 M)) mtX6_begins 9 [(0, .ref 46), (1, .int v1), (2, .int v2)] [] M := by
  intro n
  induction n with
  | zero =>
    intro v1 v2 M hp
    exact hp.elim
  | succ n ih =>
    intro v1 v2 M hp
    rw [mX6_begins_9]
    rw [PX6_begins_9] at hp
    refine r_iload_n MF.bs dX6_begins_9 rfl 2 rfl ?_
    refine r_bipush MF.bs dX6_begins_10 (v := 56) (by decide) ?_
    refine r_ite (GV mtX6_begins 0 M0) (fun h_1 => ?_) (fun h_1 => ?_)
    · refine r_icmp_ge_t MF.bs (tgt := 28) dX6_begins_12 (by decide) h_1 ?_
      refine r_aload_n MF.bs dX6_begins_28 rfl 0 rfl ?_
      refine r_getR MF.bs dX6_begins_29 rfl rfl 0 (by decide) wd_875 rfl ?_
      refine r_iconst MF.bs dX6_begins_32 (v := 2) (by decide) ?_
      refine r_iload_n MF.bs dX6_begins_33 rfl 1 rfl ?_
      refine r_iastoreL MF.bs dX6_begins_34 rfl (vin_l (by decide) (by decide)) (k9 := 2) (by decide) ?_
      refine r_aload_n MF.bs dX6_begins_35 rfl 0 rfl ?_
      refine r_getR MF.bs dX6_begins_36 rfl rfl 0 (by decide) wd_875 rfl ?_
      refine r_iconst MF.bs dX6_begins_39 (v := 4) (by decide) ?_
      refine r_iconst MF.bs dX6_begins_40 (v := 3) (by decide) ?_
      refine r_iastoreL MF.bs dX6_begins_41 rfl (vin_l (by decide) (by decide)) (k9 := 4) (by decide) ?_
      refine r_aload_n MF.bs dX6_begins_42 rfl 0 rfl ?_
      refine r_getR MF.bs dX6_begins_43 rfl rfl 0 (by decide) wd_875 rfl ?_
      refine r_iconst MF.bs dX6_begins_46 (v := 5) (by decide) ?_
      refine r_bipush MF.bs dX6_begins_47 (v := 6) (by decide) ?_
      refine r_iastoreL MF.bs dX6_begins_49 rfl (vin_l (by decide) (by decide)) (k9 := 5) (by decide) ?_
      refine r_aload_n MF.bs dX6_begins_50 rfl 0 rfl ?_
      refine r_getR MF.bs dX6_begins_51 rfl rfl 0 (by decide) wd_875 rfl ?_
      refine r_bipush MF.bs dX6_begins_54 (v := 6) (by decide) ?_
      refine r_iconst MF.bs dX6_begins_56 (v := 2) (by decide) ?_
      refine r_iastoreL MF.bs dX6_begins_57 rfl (vin_l (by decide) (by decide)) (k9 := 6) (by decide) ?_
      refine r_aload_n MF.bs dX6_begins_58 rfl 0 rfl ?_
      refine r_getR MF.bs dX6_begins_59 rfl rfl 0 (by decide) wd_875 rfl ?_
      refine r_bipush MF.bs dX6_begins_62 (v := 7) (by decide) ?_
      refine r_bipush MF.bs dX6_begins_64 (v := 20) (by decide) ?_
      refine r_iastoreL MF.bs dX6_begins_66 rfl (vin_l (by decide) (by decide)) (k9 := 7) (by decide) ?_
      exact r_vret dX6_begins_67 rfl
    · have hp := hp h_1
      refine r_icmp_ge_f MF.bs (tgt := 28) dX6_begins_12 (by decide) h_1 ?_
      obtain ⟨hq_2, hp⟩ := hp
      refine r_aload_n MF.bs dX6_begins_15 rfl 0 rfl ?_
      refine r_getR MF.bs dX6_begins_16 rfl rfl 0 (by decide) wd_875 rfl ?_
      refine r_iload_n MF.bs dX6_begins_19 rfl 2 rfl ?_
      refine r_iconst MF.bs dX6_begins_20 (v := 0) (by decide) ?_
      refine r_iastore MF.bs dX6_begins_21 rfl hq_2 ?_
      refine r_iinc MF.bs (v := (v2 + 1)) (lv' := [(2, .int (v2 + 1)), (0, .ref 46), (1, .int v1)]) dX6_begins_22 2 rfl rfl (by decide) rfl ?_
      refine r_goto MF.bs dX6_begins_25 (tgt := 9) (by decide) ?_
      refine r_sub [(0, .ref 46), (1, .int v1), (2, .int (v2 + 1))] [1, 2, 0] rfl ?_
      exact ih v1 (v2 + 1) (upm M 47 v2.toNatClampNeg 0) hp
def mX6_begins  (M : Mem) : Mem := (mX6_begins_9 400 (M 47 2) 0 M)
def PX6_begins  (M : Mem) : Prop := PX6_begins_9 400 (M 47 2) 0 M
set_option maxRecDepth 100000 in
theorem ctX6_begins   (M : Mem) (hp : PX6_begins M) : CT mtX6_begins 0 [.ref 46] M (none, mX6_begins M) := by
  refine CT.of (by decide) rfl (Nat.le_of_ble_eq_true rfl) ?_
  show AWP (GV mtX6_begins 0 M (mX6_begins M)) mtX6_begins 0 [(0, .ref 46)] [] M
  unfold mX6_begins
  unfold PX6_begins at hp
  refine r_aload_n MF.bs dX6_begins_0 rfl 0 rfl ?_
  refine r_getR MF.bs dX6_begins_1 rfl rfl 0 (by decide) wd_875 rfl ?_
  refine r_iconst MF.bs dX6_begins_4 (v := 2) (by decide) ?_
  refine r_ialoadL MF.bs dX6_begins_5 rfl (vin_l (by decide) (by decide)) (k9 := 2) (by decide) ?_
  refine r_istore_n MF.bs (lv' := [(1, .int (M 47 2)), (0, .ref 46)]) dX6_begins_6 rfl (by decide) rfl ?_
  refine r_iconst MF.bs dX6_begins_7 (v := 0) (by decide) ?_
  refine r_istore_n MF.bs (lv' := [(2, .int 0), (1, .int (M 47 2)), (0, .ref 46)]) dX6_begins_8 rfl (by decide) rfl ?_
  refine r_sub [(0, .ref 46), (1, .int (M 47 2)), (2, .int 0)] [2, 1, 0] rfl ?_
  exact cX6_begins_9 M 400 (M 47 2) 0 M hp
abbrev mtX6_isIn : MT := (RX6, yX6_isIn, cX6_isIn, 6, (some .boolean))
theorem miX6_isIn : MS mtX6_isIn 3 := ⟨wd_973, wd_972, wd_86, ⟨by decide, by decide, by decide +kernel⟩, by decide⟩
def mX6_isIn  (a0 : Int64) (a2 : Int64) (a4 : Int64) : Bool := (if (lg_cmp a0 a2) < 0 then false else (if 0 < (lg_cmp a0 a4) then false else true))
set_option maxRecDepth 100000 in
theorem ctX6_isIn   (a0 : Int64) (a2 : Int64) (a4 : Int64) (M : Mem) : CT mtX6_isIn 0 [.long a0, .long a2, .long a4] M (some (.int (b2i (mX6_isIn a0 a2 a4))), M) := by
  refine CT.of (by decide) rfl (Nat.le_of_ble_eq_true rfl) ?_
  show AWP (GB mtX6_isIn 0 M M (mX6_isIn a0 a2 a4)) mtX6_isIn 0 [(0, .long a0), (2, .long a2), (4, .long a4)] [] M
  unfold mX6_isIn
  refine r_lload_n MF.bs dX6_isIn_0 rfl 0 rfl ?_
  refine r_lload_n MF.bs dX6_isIn_1 rfl 1 rfl ?_
  refine r_lcmp MF.bs dX6_isIn_2 ?_
  refine r_ite (GB mtX6_isIn 0 M M) (fun h_1 => ?_) (fun h_1 => ?_)
  · refine r_if_lt_t MF.bs (tgt := 17) dX6_isIn_3 (by decide) h_1 ?_
    refine r_iconst MF.bs dX6_isIn_17 (v := 0) (by decide) ?_
    exact r_zret0 dX6_isIn_18 rfl
  · refine r_if_lt_f MF.bs (tgt := 17) dX6_isIn_3 (by decide) h_1 ?_
    refine r_lload_n MF.bs dX6_isIn_6 rfl 0 rfl ?_
    refine r_lload MF.bs dX6_isIn_7 2 rfl ?_
    refine r_lcmp MF.bs dX6_isIn_9 ?_
    refine r_ite (GB mtX6_isIn 0 M M) (fun h_2 => ?_) (fun h_2 => ?_)
    · refine r_if_gt_t MF.bs (tgt := 17) dX6_isIn_10 (by decide) h_2 ?_
      refine r_iconst MF.bs dX6_isIn_17 (v := 0) (by decide) ?_
      exact r_zret0 dX6_isIn_18 rfl
    · refine r_if_gt_f MF.bs (tgt := 17) dX6_isIn_10 (by decide) h_2 ?_
      refine r_iconst MF.bs dX6_isIn_13 (v := 1) (by decide) ?_
      refine r_goto MF.bs dX6_isIn_14 (tgt := 18) (by decide) ?_
      exact r_zret1 dX6_isIn_18 rfl
abbrev mtX6_isHouse : MT := (RX6, yX6_isHouse, cX6_isHouse, 1, (some .boolean))
theorem miX6_isHouse : MS mtX6_isHouse 1 := ⟨wd_1074, wd_1073, wd_86, ⟨by decide, by decide, by decide +kernel⟩, by decide⟩
def mX6_isHouse  (a0 : Int32) : Bool := (if a0 < 0 then false else (if 16 ≤ a0 then false else true))
set_option maxRecDepth 100000 in
theorem ctX6_isHouse   (a0 : Int32) (M : Mem) : CT mtX6_isHouse 0 [.int a0] M (some (.int (b2i (mX6_isHouse a0))), M) := by
  refine CT.of (by decide) rfl (Nat.le_of_ble_eq_true rfl) ?_
  show AWP (GB mtX6_isHouse 0 M M (mX6_isHouse a0)) mtX6_isHouse 0 [(0, .int a0)] [] M
  unfold mX6_isHouse
  refine r_iload_n MF.bs dX6_isHouse_0 rfl 0 rfl ?_
  refine r_ite (GB mtX6_isHouse 0 M M) (fun h_1 => ?_) (fun h_1 => ?_)
  · refine r_if_lt_t MF.bs (tgt := 14) dX6_isHouse_1 (by decide) h_1 ?_
    refine r_iconst MF.bs dX6_isHouse_14 (v := 0) (by decide) ?_
    exact r_zret0 dX6_isHouse_15 rfl
  · refine r_if_lt_f MF.bs (tgt := 14) dX6_isHouse_1 (by decide) h_1 ?_
    refine r_iload_n MF.bs dX6_isHouse_4 rfl 0 rfl ?_
    refine r_bipush MF.bs dX6_isHouse_5 (v := 16) (by decide) ?_
    refine r_ite (GB mtX6_isHouse 0 M M) (fun h_2 => ?_) (fun h_2 => ?_)
    · refine r_icmp_ge_t MF.bs (tgt := 14) dX6_isHouse_7 (by decide) h_2 ?_
      refine r_iconst MF.bs dX6_isHouse_14 (v := 0) (by decide) ?_
      exact r_zret0 dX6_isHouse_15 rfl
    · refine r_icmp_ge_f MF.bs (tgt := 14) dX6_isHouse_7 (by decide) h_2 ?_
      refine r_iconst MF.bs dX6_isHouse_10 (v := 1) (by decide) ?_
      refine r_goto MF.bs dX6_isHouse_11 (tgt := 15) (by decide) ?_
      exact r_zret1 dX6_isHouse_15 rfl
abbrev mtX6_isOne : MT := (RX6, yX6_isOne, cX6_isOne, 2, (some .boolean))
theorem miX6_isOne : MV mtX6_isOne 1 := ⟨wd_1082, ⟨wd_1081, wd_47⟩, wd_86, ⟨by decide, by decide, by decide +kernel⟩, by decide⟩
def mX6_isOne  (a1 : Int32) (M : Mem) : Bool := (if a1 < 0 then false else (if (M 47 0) ≤ a1 then false else true))
set_option maxRecDepth 100000 in
theorem ctX6_isOne   (a1 : Int32) (M : Mem) : CT mtX6_isOne 0 [.ref 46, .int a1] M (some (.int (b2i (mX6_isOne a1 M))), M) := by
  refine CT.of (by decide) rfl (Nat.le_of_ble_eq_true rfl) ?_
  show AWP (GB mtX6_isOne 0 M M (mX6_isOne a1 M)) mtX6_isOne 0 [(0, .ref 46), (1, .int a1)] [] M
  unfold mX6_isOne
  refine r_iload_n MF.bs dX6_isOne_0 rfl 1 rfl ?_
  refine r_ite (GB mtX6_isOne 0 M M) (fun h_1 => ?_) (fun h_1 => ?_)
  · refine r_if_lt_t MF.bs (tgt := 18) dX6_isOne_1 (by decide) h_1 ?_
    refine r_iconst MF.bs dX6_isOne_18 (v := 0) (by decide) ?_
    exact r_zret0 dX6_isOne_19 rfl
  · refine r_if_lt_f MF.bs (tgt := 18) dX6_isOne_1 (by decide) h_1 ?_
    refine r_iload_n MF.bs dX6_isOne_4 rfl 1 rfl ?_
    refine r_aload_n MF.bs dX6_isOne_5 rfl 0 rfl ?_
    refine r_getR MF.bs dX6_isOne_6 rfl rfl 0 (by decide) wd_875 rfl ?_
    refine r_iconst MF.bs dX6_isOne_9 (v := 0) (by decide) ?_
    refine r_ialoadL MF.bs dX6_isOne_10 rfl (vin_l (by decide) (by decide)) (k9 := 0) (by decide) ?_
    refine r_ite (GB mtX6_isOne 0 M M) (fun h_2 => ?_) (fun h_2 => ?_)
    · refine r_icmp_ge_t MF.bs (tgt := 18) dX6_isOne_11 (by decide) h_2 ?_
      refine r_iconst MF.bs dX6_isOne_18 (v := 0) (by decide) ?_
      exact r_zret0 dX6_isOne_19 rfl
    · refine r_icmp_ge_f MF.bs (tgt := 18) dX6_isOne_11 (by decide) h_2 ?_
      refine r_iconst MF.bs dX6_isOne_14 (v := 1) (by decide) ?_
      refine r_goto MF.bs dX6_isOne_15 (tgt := 19) (by decide) ?_
      exact r_zret1 dX6_isOne_19 rfl
abbrev mtX6_its : MT := (RX6, yX6_its, cX6_its, 3, (some .int))
theorem miX6_its : MV mtX6_its 2 := ⟨wd_1086, ⟨wd_1085, wd_48⟩, wd_86, ⟨by decide, by decide, by decide +kernel⟩, by decide⟩
def mX6_its  (a1 : Int32) (a2 : Int32) (M : Mem) : Int32 := (M 47 ((24 + (4 * a1)) + a2).toNatClampNeg)
def PX6_its  (a1 : Int32) (a2 : Int32) (M : Mem) : Prop := vp_in ((24 + (4 * a1)) + a2) 56
set_option maxRecDepth 100000 in
theorem ctX6_its   (a1 : Int32) (a2 : Int32) (M : Mem) (hp : PX6_its a1 a2 M) : CT mtX6_its 0 [.ref 46, .int a1, .int a2] M (some (.int (mX6_its a1 a2 M)), M) := by
  refine CT.of (by decide) rfl (Nat.le_of_ble_eq_true rfl) ?_
  show AWP (GI mtX6_its 0 M M (mX6_its a1 a2 M)) mtX6_its 0 [(0, .ref 46), (1, .int a1), (2, .int a2)] [] M
  unfold mX6_its
  unfold PX6_its at hp
  have hq_1 := hp
  refine r_aload_n MF.bs dX6_its_0 rfl 0 rfl ?_
  refine r_getR MF.bs dX6_its_1 rfl rfl 0 (by decide) wd_875 rfl ?_
  refine r_bipush MF.bs dX6_its_4 (v := 24) (by decide) ?_
  refine r_iconst MF.bs dX6_its_6 (v := 4) (by decide) ?_
  refine r_iload_n MF.bs dX6_its_7 rfl 1 rfl ?_
  refine r_imul MF.bs dX6_its_8 ?_
  refine r_iadd MF.bs dX6_its_9 ?_
  refine r_iload_n MF.bs dX6_its_10 rfl 2 rfl ?_
  refine r_iadd MF.bs dX6_its_11 ?_
  refine r_iaload MF.bs dX6_its_12 rfl hq_1 ?_
  exact r_iret dX6_its_13 rfl
abbrev mtX6_becomes : MT := (RX6, yX6_becomes, cX6_becomes, 4, (some .int))
theorem miX6_becomes : MV mtX6_becomes 2 := ⟨wd_1062, ⟨wd_1061, wd_46⟩, wd_86, ⟨by decide, by decide, by decide +kernel⟩, by decide⟩
def mX6_becomes  (a1 : Int32) (a2 : Int32) (M : Mem) : Int32 × Mem := ((M 47 a1.toNatClampNeg), (upm M 47 a1.toNatClampNeg a2))
def PX6_becomes  (a1 : Int32) (a2 : Int32) (M : Mem) : Prop := vp_in a1 56 ∧ (vp_in a1 56)
set_option maxRecDepth 100000 in
theorem ctX6_becomes   (a1 : Int32) (a2 : Int32) (M : Mem) (hp : PX6_becomes a1 a2 M) : CT mtX6_becomes 0 [.ref 46, .int a1, .int a2] M (some (.int ((mX6_becomes a1 a2 M).1)), (mX6_becomes a1 a2 M).2) := by
  refine CT.of (by decide) rfl (Nat.le_of_ble_eq_true rfl) ?_
  show AWP (GIM mtX6_becomes 0 M (mX6_becomes a1 a2 M)) mtX6_becomes 0 [(0, .ref 46), (1, .int a1), (2, .int a2)] [] M
  unfold mX6_becomes
  unfold PX6_becomes at hp
  obtain ⟨hq_1, hp⟩ := hp
  have hq_2 := hp
  refine r_aload_n MF.bs dX6_becomes_0 rfl 0 rfl ?_
  refine r_getR MF.bs dX6_becomes_1 rfl rfl 0 (by decide) wd_875 rfl ?_
  refine r_iload_n MF.bs dX6_becomes_4 rfl 1 rfl ?_
  refine r_iaload MF.bs dX6_becomes_5 rfl hq_1 ?_
  refine r_istore_n MF.bs (lv' := [(3, .int (M 47 a1.toNatClampNeg)), (0, .ref 46), (1, .int a1), (2, .int a2)]) dX6_becomes_6 rfl (by decide) rfl ?_
  refine r_aload_n MF.bs dX6_becomes_7 rfl 1 rfl ?_
  refine r_getR MF.bs dX6_becomes_8 rfl rfl 0 (by decide) wd_875 rfl ?_
  refine r_iload_n MF.bs dX6_becomes_11 rfl 2 rfl ?_
  refine r_iload_n MF.bs dX6_becomes_12 rfl 3 rfl ?_
  refine r_iastore MF.bs dX6_becomes_13 rfl hq_2 ?_
  refine r_iload_n MF.bs dX6_becomes_14 rfl 0 rfl ?_
  exact r_iret dX6_becomes_15 rfl
abbrev mtX6_copyRow : MT := (RX6, yX6_copyRow, cX6_copyRow, 3, none)
theorem miX6_copyRow : MS mtX6_copyRow 2 := ⟨wd_981, wd_980, wd_86, ⟨by decide, by decide, by decide +kernel⟩, by decide⟩
def mX6_copyRow_2 (p0 : Nat) (n0 : Nat) (p1 : Nat) (n1 : Nat)  : Nat → Int32 → Mem → Mem
  | 0, _, M => M
  | n + 1, v2, M => (if 56 ≤ v2 then M else (mX6_copyRow_2 p0 n0 p1 n1 n (v2 + 1) (upm M p1 v2.toNatClampNeg (M p0 v2.toNatClampNeg))))
def PX6_copyRow_2 (p0 : Nat) (n0 : Nat) (p1 : Nat) (n1 : Nat)  : Nat → Int32 → Mem → Prop
  | 0, _, _ => False
  | n + 1, v2, M => (¬ 56 ≤ v2 → vp_in v2 n0 ∧ (vp_in v2 n1 ∧ (PX6_copyRow_2 p0 n0 p1 n1 n (v2 + 1) (upm M p1 v2.toNatClampNeg (M p0 v2.toNatClampNeg)))))
set_option maxRecDepth 100000 in
theorem cX6_copyRow_2 (p0 : Nat) (n0 : Nat) (p1 : Nat) (n1 : Nat) (h0 : SH[p0]? = some (.inr (.inl n0))) (h1 : SH[p1]? = some (.inr (.inl n1)))  (M0 : Mem) : ∀ (n : Nat) (v2 : Int32) (M : Mem), PX6_copyRow_2 p0 n0 p1 n1 n v2 M → AWP (GV mtX6_copyRow 0 M0 (mX6_copyRow_2 p0 n0 p1 n1 n v2 M)) mtX6_copyRow 2 [(0, .ref p0), (1, .ref p1), (2, .int v2)] [] M := by
  intro n
  induction n with
  | zero =>
    intro v2 M hp
    exact hp.elim
  | succ n ih =>
    intro v2 M hp
    rw [mX6_copyRow_2]
    rw [PX6_copyRow_2] at hp
    refine r_iload_n MF.bs dX6_copyRow_2 rfl 2 rfl ?_
    refine r_bipush MF.bs dX6_copyRow_3 (v := 56) (by decide) ?_
    refine r_ite (GV mtX6_copyRow 0 M0) (fun h_1 => ?_) (fun h_1 => ?_)
    · refine r_icmp_ge_t MF.bs (tgt := 20) dX6_copyRow_5 (by decide) h_1 ?_
      exact r_vret dX6_copyRow_20 rfl
    · have hp := hp h_1
      refine r_icmp_ge_f MF.bs (tgt := 20) dX6_copyRow_5 (by decide) h_1 ?_
      obtain ⟨hq_2, hp⟩ := hp
      obtain ⟨hq_3, hp⟩ := hp
      refine r_aload_n MF.bs dX6_copyRow_8 rfl 1 rfl ?_
      refine r_iload_n MF.bs dX6_copyRow_9 rfl 2 rfl ?_
      refine r_aload_n MF.bs dX6_copyRow_10 rfl 0 rfl ?_
      refine r_iload_n MF.bs dX6_copyRow_11 rfl 2 rfl ?_
      refine r_iaload MF.bs dX6_copyRow_12 h0 hq_2 ?_
      refine r_iastore MF.bs dX6_copyRow_13 h1 hq_3 ?_
      refine r_iinc MF.bs (v := (v2 + 1)) (lv' := [(2, .int (v2 + 1)), (0, .ref p0), (1, .ref p1)]) dX6_copyRow_14 2 rfl rfl (by decide) rfl ?_
      refine r_goto MF.bs dX6_copyRow_17 (tgt := 2) (by decide) ?_
      refine r_sub [(0, .ref p0), (1, .ref p1), (2, .int (v2 + 1))] [1, 2, 0] rfl ?_
      exact ih (v2 + 1) (upm M p1 v2.toNatClampNeg (M p0 v2.toNatClampNeg)) hp
def mX6_copyRow (p0 : Nat) (n0 : Nat) (p1 : Nat) (n1 : Nat) (M : Mem) : Mem := (mX6_copyRow_2 p0 n0 p1 n1 400 0 M)
def PX6_copyRow (p0 : Nat) (n0 : Nat) (p1 : Nat) (n1 : Nat) (M : Mem) : Prop := PX6_copyRow_2 p0 n0 p1 n1 400 0 M
set_option maxRecDepth 100000 in
theorem ctX6_copyRow (p0 : Nat) (n0 : Nat) (p1 : Nat) (n1 : Nat) (h0 : SH[p0]? = some (.inr (.inl n0))) (h1 : SH[p1]? = some (.inr (.inl n1))) (M : Mem) (hp : PX6_copyRow p0 n0 p1 n1 M) : CT mtX6_copyRow 0 [.ref p0, .ref p1] M (none, mX6_copyRow p0 n0 p1 n1 M) := by
  refine CT.of (by decide) rfl (Nat.le_of_ble_eq_true rfl) ?_
  show AWP (GV mtX6_copyRow 0 M (mX6_copyRow p0 n0 p1 n1 M)) mtX6_copyRow 0 [(0, .ref p0), (1, .ref p1)] [] M
  unfold mX6_copyRow
  unfold PX6_copyRow at hp
  refine r_iconst MF.bs dX6_copyRow_0 (v := 0) (by decide) ?_
  refine r_istore_n MF.bs (lv' := [(2, .int 0), (0, .ref p0), (1, .ref p1)]) dX6_copyRow_1 rfl (by decide) rfl ?_
  refine r_sub [(0, .ref p0), (1, .ref p1), (2, .int 0)] [1, 2, 0] rfl ?_
  exact cX6_copyRow_2 p0 n0 p1 n1 h0 h1 M 400 0 M hp
abbrev mtX6_least : MT := (RX6, yX6_least, cX6_least, 2, (some .int))
theorem miX6_least : MS mtX6_least 2 := ⟨wd_1236, wd_1235, wd_86, ⟨by decide, by decide, by decide +kernel⟩, by decide⟩
def mX6_least  (a0 : Int32) (a1 : Int32) : Int32 := (if a1 ≤ a0 then a1 else a0)
set_option maxRecDepth 100000 in
theorem ctX6_least   (a0 : Int32) (a1 : Int32) (M : Mem) : CT mtX6_least 0 [.int a0, .int a1] M (some (.int (mX6_least a0 a1)), M) := by
  refine CT.of (by decide) rfl (Nat.le_of_ble_eq_true rfl) ?_
  show AWP (GI mtX6_least 0 M M (mX6_least a0 a1)) mtX6_least 0 [(0, .int a0), (1, .int a1)] [] M
  unfold mX6_least
  refine r_iload_n MF.bs dX6_least_0 rfl 0 rfl ?_
  refine r_iload_n MF.bs dX6_least_1 rfl 1 rfl ?_
  refine r_ite (GI mtX6_least 0 M M) (fun h_1 => ?_) (fun h_1 => ?_)
  · refine r_icmp_ge_t MF.bs (tgt := 9) dX6_least_2 (by decide) h_1 ?_
    refine r_iload_n MF.bs dX6_least_9 rfl 1 rfl ?_
    exact r_iret dX6_least_10 rfl
  · refine r_icmp_ge_f MF.bs (tgt := 9) dX6_least_2 (by decide) h_1 ?_
    refine r_iload_n MF.bs dX6_least_5 rfl 0 rfl ?_
    refine r_goto MF.bs dX6_least_6 (tgt := 10) (by decide) ?_
    exact r_iret dX6_least_10 rfl
abbrev mtX6_apart : MT := (RX6, yX6_apart, cX6_apart, 2, (some .int))
theorem miX6_apart : MS mtX6_apart 2 := ⟨wd_1222, wd_1221, wd_86, ⟨by decide, by decide, by decide +kernel⟩, by decide⟩
def mX6_apart  (a0 : Int32) (a1 : Int32) : Int32 := (if a1 ≤ a0 then (a0 - a1) else (a1 - a0))
set_option maxRecDepth 100000 in
theorem ctX6_apart   (a0 : Int32) (a1 : Int32) (M : Mem) : CT mtX6_apart 0 [.int a0, .int a1] M (some (.int (mX6_apart a0 a1)), M) := by
  refine CT.of (by decide) rfl (Nat.le_of_ble_eq_true rfl) ?_
  show AWP (GI mtX6_apart 0 M M (mX6_apart a0 a1)) mtX6_apart 0 [(0, .int a0), (1, .int a1)] [] M
  unfold mX6_apart
  refine r_iload_n MF.bs dX6_apart_0 rfl 0 rfl ?_
  refine r_iload_n MF.bs dX6_apart_1 rfl 1 rfl ?_
  refine r_ite (GI mtX6_apart 0 M M) (fun h_1 => ?_) (fun h_1 => ?_)
  · refine r_icmp_ge_t MF.bs (tgt := 11) dX6_apart_2 (by decide) h_1 ?_
    refine r_iload_n MF.bs dX6_apart_11 rfl 0 rfl ?_
    refine r_iload_n MF.bs dX6_apart_12 rfl 1 rfl ?_
    refine r_isub MF.bs dX6_apart_13 ?_
    exact r_iret dX6_apart_14 rfl
  · refine r_icmp_ge_f MF.bs (tgt := 11) dX6_apart_2 (by decide) h_1 ?_
    refine r_iload_n MF.bs dX6_apart_5 rfl 1 rfl ?_
    refine r_iload_n MF.bs dX6_apart_6 rfl 0 rfl ?_
    refine r_isub MF.bs dX6_apart_7 ?_
    refine r_goto MF.bs dX6_apart_8 (tgt := 14) (by decide) ?_
    exact r_iret dX6_apart_14 rfl
abbrev mtX6_bounded : MT := (RX6, yX6_bounded, cX6_bounded, 2, (some .int))
theorem miX6_bounded : MS mtX6_bounded 2 := ⟨wd_1145, wd_1144, wd_86, ⟨by decide, by decide, by decide +kernel⟩, by decide⟩
def mX6_bounded  (a0 : Int32) (a1 : Int32) : Int32 := (if 0 ≤ a0 then (if a0 ≤ a1 then a0 else a1) else 0)
set_option maxRecDepth 100000 in
theorem ctX6_bounded   (a0 : Int32) (a1 : Int32) (M : Mem) : CT mtX6_bounded 0 [.int a0, .int a1] M (some (.int (mX6_bounded a0 a1)), M) := by
  refine CT.of (by decide) rfl (Nat.le_of_ble_eq_true rfl) ?_
  show AWP (GI mtX6_bounded 0 M M (mX6_bounded a0 a1)) mtX6_bounded 0 [(0, .int a0), (1, .int a1)] [] M
  unfold mX6_bounded
  refine r_iload_n MF.bs dX6_bounded_0 rfl 0 rfl ?_
  refine r_ite (GI mtX6_bounded 0 M M) (fun h_1 => ?_) (fun h_1 => ?_)
  · refine r_if_ge_t MF.bs (tgt := 8) dX6_bounded_1 (by decide) h_1 ?_
    refine r_iload_n MF.bs dX6_bounded_8 rfl 0 rfl ?_
    refine r_iload_n MF.bs dX6_bounded_9 rfl 1 rfl ?_
    refine r_ite (GI mtX6_bounded 0 M M) (fun h_2 => ?_) (fun h_2 => ?_)
    · refine r_icmp_le_t MF.bs (tgt := 17) dX6_bounded_10 (by decide) h_2 ?_
      refine r_iload_n MF.bs dX6_bounded_17 rfl 0 rfl ?_
      exact r_iret dX6_bounded_18 rfl
    · refine r_icmp_le_f MF.bs (tgt := 17) dX6_bounded_10 (by decide) h_2 ?_
      refine r_iload_n MF.bs dX6_bounded_13 rfl 1 rfl ?_
      refine r_goto MF.bs dX6_bounded_14 (tgt := 18) (by decide) ?_
      exact r_iret dX6_bounded_18 rfl
  · refine r_if_ge_f MF.bs (tgt := 8) dX6_bounded_1 (by decide) h_1 ?_
    refine r_iconst MF.bs dX6_bounded_4 (v := 0) (by decide) ?_
    refine r_goto MF.bs dX6_bounded_5 (tgt := 18) (by decide) ?_
    exact r_iret dX6_bounded_18 rfl
abbrev mtX6_within : MT := (RX6, yX6_within, cX6_within, 1, (some .int))
theorem miX6_within : MS mtX6_within 1 := ⟨wd_1320, wd_1319, wd_86, ⟨by decide, by decide, by decide +kernel⟩, by decide⟩
def mX6_within  (a0 : Int32) : Int32 := (mX6_bounded a0 9)
set_option maxRecDepth 100000 in
theorem ctX6_within   (a0 : Int32) (M : Mem) : CT mtX6_within 1 [.int a0] M (some (.int (mX6_within a0)), M) := by
  refine CT.of (by decide) rfl (Nat.le_of_ble_eq_true rfl) ?_
  show AWP (GI mtX6_within 1 M M (mX6_within a0)) mtX6_within 0 [(0, .int a0)] [] M
  unfold mX6_within
  refine r_iload_n MF.bs dX6_within_0 rfl 0 rfl ?_
  refine r_bipush MF.bs dX6_within_1 (v := 9) (by decide) ?_
  refine r_callS_v MF.bs (st := []) dX6_within_3 (ctX6_bounded a0 9 M) miX6_bounded wd_1143 rfl (by decide) rfl (Nat.le_of_ble_eq_true rfl) ?_
  exact r_iret dX6_within_6 rfl
abbrev mtX6_size : MT := (RX6, yX6_size, cX6_size, 3, (some .int))
theorem miX6_size : MS mtX6_size 1 := ⟨wd_1152, wd_1151, wd_86, ⟨by decide, by decide, by decide +kernel⟩, by decide⟩
def mX6_size_4   : Nat → Int32 → Int32 → Mem → Int32
  | 0, _, _, _ => 0
  | n + 1, v1, v2, M => (if v2 = 0 then v1 else (mX6_size_4 n (v1 + 1) (v2 &&& (v2 - 1)) M))
def PX6_size_4   : Nat → Int32 → Int32 → Mem → Prop
  | 0, _, _, _ => False
  | n + 1, v1, v2, M => (¬ v2 = 0 → PX6_size_4 n (v1 + 1) (v2 &&& (v2 - 1)) M)
set_option maxRecDepth 100000 in
theorem cX6_size_4    : ∀ (n : Nat) (v1 : Int32) (v2 : Int32) (M : Mem), PX6_size_4 n v1 v2 M → AWP (GI mtX6_size 0 M M (mX6_size_4 n v1 v2 M)) mtX6_size 4 [(1, .int v1), (2, .int v2)] [] M := by
  intro n
  induction n with
  | zero =>
    intro v1 v2 M hp
    exact hp.elim
  | succ n ih =>
    intro v1 v2 M hp
    rw [mX6_size_4]
    rw [PX6_size_4] at hp
    refine r_iload_n MF.bs dX6_size_4 rfl 1 rfl ?_
    refine r_ite (GI mtX6_size 0 M M) (fun h_1 => ?_) (fun h_1 => ?_)
    · refine r_if_eq_t MF.bs (tgt := 20) dX6_size_5 (by decide) h_1 ?_
      refine r_iload_n MF.bs dX6_size_20 rfl 0 rfl ?_
      exact r_iret dX6_size_21 rfl
    · have hp := hp h_1
      refine r_if_eq_f MF.bs (tgt := 20) dX6_size_5 (by decide) h_1 ?_
      refine r_iinc MF.bs (v := (v1 + 1)) (lv' := [(1, .int (v1 + 1)), (2, .int v2)]) dX6_size_8 0 rfl rfl (by decide) rfl ?_
      refine r_iload_n MF.bs dX6_size_11 rfl 1 rfl ?_
      refine r_iload_n MF.bs dX6_size_12 rfl 1 rfl ?_
      refine r_iconst MF.bs dX6_size_13 (v := 1) (by decide) ?_
      refine r_isub MF.bs dX6_size_14 ?_
      refine r_iand MF.bs dX6_size_15 ?_
      refine r_istore_n MF.bs (lv' := [(2, .int (v2 &&& (v2 - 1))), (1, .int (v1 + 1))]) dX6_size_16 rfl (by decide) rfl ?_
      refine r_goto MF.bs dX6_size_17 (tgt := 4) (by decide) ?_
      refine r_sub [(1, .int (v1 + 1)), (2, .int (v2 &&& (v2 - 1)))] [1, 0] rfl ?_
      exact ih (v1 + 1) (v2 &&& (v2 - 1)) M hp
def mX6_size  (a0 : Int32) (M : Mem) : Int32 := (mX6_size_4 400 0 a0 M)
def PX6_size  (a0 : Int32) (M : Mem) : Prop := PX6_size_4 400 0 a0 M
set_option maxRecDepth 100000 in
theorem ctX6_size   (a0 : Int32) (M : Mem) (hp : PX6_size a0 M) : CT mtX6_size 0 [.int a0] M (some (.int (mX6_size a0 M)), M) := by
  refine CT.of (by decide) rfl (Nat.le_of_ble_eq_true rfl) ?_
  show AWP (GI mtX6_size 0 M M (mX6_size a0 M)) mtX6_size 0 [(0, .int a0)] [] M
  unfold mX6_size
  unfold PX6_size at hp
  refine r_iconst MF.bs dX6_size_0 (v := 0) (by decide) ?_
  refine r_istore_n MF.bs (lv' := [(1, .int 0), (0, .int a0)]) dX6_size_1 rfl (by decide) rfl ?_
  refine r_iload_n MF.bs dX6_size_2 rfl 1 rfl ?_
  refine r_istore_n MF.bs (lv' := [(2, .int a0), (1, .int 0), (0, .int a0)]) dX6_size_3 rfl (by decide) rfl ?_
  refine r_sub [(1, .int 0), (2, .int a0)] [1, 0] rfl ?_
  exact cX6_size_4 400 0 a0 M hp
abbrev mtX6_isUnder : MT := (RX6, yX6_isUnder, cX6_isUnder, 2, (some .boolean))
theorem miX6_isUnder : MS mtX6_isUnder 2 := ⟨wd_1340, wd_1339, wd_86, ⟨by decide, by decide, by decide +kernel⟩, by decide⟩
def mX6_isUnder_29   (M : Mem) : Bool := true
def PX6_isUnder_29   (M : Mem) : Prop := True
set_option maxRecDepth 100000 in
theorem cX6_isUnder_29    (M : Mem) (hp : PX6_isUnder_29 M) : AWP (GB mtX6_isUnder 0 M M (mX6_isUnder_29 M)) mtX6_isUnder 29 [] [] M := by
  unfold mX6_isUnder_29
  unfold PX6_isUnder_29 at hp
  refine r_iconst MF.bs dX6_isUnder_29 (v := 1) (by decide) ?_
  refine r_goto MF.bs dX6_isUnder_30 (tgt := 34) (by decide) ?_
  exact r_zret1 dX6_isUnder_34 rfl
def mX6_isUnder_19   (v0 : Int32) (v1 : Int32) (M : Mem) : Bool := (if v1 = 2 then (if v0 = 4 then (mX6_isUnder_29 M) else false) else false)
def PX6_isUnder_19   (v0 : Int32) (v1 : Int32) (M : Mem) : Prop := (v1 = 2 → (v0 = 4 → PX6_isUnder_29 M))
set_option maxRecDepth 100000 in
theorem cX6_isUnder_19    (v0 : Int32) (v1 : Int32) (M : Mem) (hp : PX6_isUnder_19 v0 v1 M) : AWP (GB mtX6_isUnder 0 M M (mX6_isUnder_19 v0 v1 M)) mtX6_isUnder 19 [(0, .int v0), (1, .int v1)] [] M := by
  unfold mX6_isUnder_19
  unfold PX6_isUnder_19 at hp
  refine r_iload_n MF.bs dX6_isUnder_19 rfl 1 rfl ?_
  refine r_iconst MF.bs dX6_isUnder_20 (v := 2) (by decide) ?_
  refine r_ite (GB mtX6_isUnder 0 M M) (fun h_5 => ?_) (fun h_5 => ?_)
  · have hp := hp h_5
    refine r_icmp_ne_f MF.bs (tgt := 33) dX6_isUnder_21 (by decide) h_5 ?_
    refine r_iload_n MF.bs dX6_isUnder_24 rfl 0 rfl ?_
    refine r_iconst MF.bs dX6_isUnder_25 (v := 4) (by decide) ?_
    refine r_ite (GB mtX6_isUnder 0 M M) (fun h_6 => ?_) (fun h_6 => ?_)
    · have hp := hp h_6
      refine r_icmp_ne_f MF.bs (tgt := 33) dX6_isUnder_26 (by decide) h_6 ?_
      refine r_sub [] [] rfl ?_
      exact cX6_isUnder_29 M hp
    · refine r_icmp_ne_t MF.bs (tgt := 33) dX6_isUnder_26 (by decide) h_6 ?_
      refine r_iconst MF.bs dX6_isUnder_33 (v := 0) (by decide) ?_
      exact r_zret0 dX6_isUnder_34 rfl
  · refine r_icmp_ne_t MF.bs (tgt := 33) dX6_isUnder_21 (by decide) h_5 ?_
    refine r_iconst MF.bs dX6_isUnder_33 (v := 0) (by decide) ?_
    exact r_zret0 dX6_isUnder_34 rfl
def mX6_isUnder  (a0 : Int32) (a1 : Int32) (M : Mem) : Bool := (if a1 = 0 then (mX6_isUnder_29 M) else (if a0 = a1 then (mX6_isUnder_29 M) else (if a1 = 1 then (if a0 = 3 then (mX6_isUnder_29 M) else (mX6_isUnder_19 a0 a1 M)) else (mX6_isUnder_19 a0 a1 M))))
def PX6_isUnder  (a0 : Int32) (a1 : Int32) (M : Mem) : Prop := ((a1 = 0 → PX6_isUnder_29 M) ∧ (¬ a1 = 0 → ((a0 = a1 → PX6_isUnder_29 M) ∧ (¬ a0 = a1 → ((a1 = 1 → ((a0 = 3 → PX6_isUnder_29 M) ∧ (¬ a0 = 3 → PX6_isUnder_19 a0 a1 M))) ∧ (¬ a1 = 1 → PX6_isUnder_19 a0 a1 M))))))
set_option maxRecDepth 100000 in
theorem ctX6_isUnder   (a0 : Int32) (a1 : Int32) (M : Mem) (hp : PX6_isUnder a0 a1 M) : CT mtX6_isUnder 0 [.int a0, .int a1] M (some (.int (b2i (mX6_isUnder a0 a1 M))), M) := by
  refine CT.of (by decide) rfl (Nat.le_of_ble_eq_true rfl) ?_
  show AWP (GB mtX6_isUnder 0 M M (mX6_isUnder a0 a1 M)) mtX6_isUnder 0 [(0, .int a0), (1, .int a1)] [] M
  unfold mX6_isUnder
  unfold PX6_isUnder at hp
  refine r_iload_n MF.bs dX6_isUnder_0 rfl 1 rfl ?_
  refine r_ite (GB mtX6_isUnder 0 M M) (fun h_1 => ?_) (fun h_1 => ?_)
  · have hp := hp.1 h_1
    refine r_if_eq_t MF.bs (tgt := 29) dX6_isUnder_1 (by decide) h_1 ?_
    refine r_sub [] [] rfl ?_
    exact cX6_isUnder_29 M hp
  · have hp := hp.2 h_1
    refine r_if_eq_f MF.bs (tgt := 29) dX6_isUnder_1 (by decide) h_1 ?_
    refine r_iload_n MF.bs dX6_isUnder_4 rfl 0 rfl ?_
    refine r_iload_n MF.bs dX6_isUnder_5 rfl 1 rfl ?_
    refine r_ite (GB mtX6_isUnder 0 M M) (fun h_2 => ?_) (fun h_2 => ?_)
    · have hp := hp.1 h_2
      refine r_icmp_eq_t MF.bs (tgt := 29) dX6_isUnder_6 (by decide) h_2 ?_
      refine r_sub [] [] rfl ?_
      exact cX6_isUnder_29 M hp
    · have hp := hp.2 h_2
      refine r_icmp_eq_f MF.bs (tgt := 29) dX6_isUnder_6 (by decide) h_2 ?_
      refine r_iload_n MF.bs dX6_isUnder_9 rfl 1 rfl ?_
      refine r_iconst MF.bs dX6_isUnder_10 (v := 1) (by decide) ?_
      refine r_ite (GB mtX6_isUnder 0 M M) (fun h_3 => ?_) (fun h_3 => ?_)
      · have hp := hp.1 h_3
        refine r_icmp_ne_f MF.bs (tgt := 19) dX6_isUnder_11 (by decide) h_3 ?_
        refine r_iload_n MF.bs dX6_isUnder_14 rfl 0 rfl ?_
        refine r_iconst MF.bs dX6_isUnder_15 (v := 3) (by decide) ?_
        refine r_ite (GB mtX6_isUnder 0 M M) (fun h_4 => ?_) (fun h_4 => ?_)
        · have hp := hp.1 h_4
          refine r_icmp_eq_t MF.bs (tgt := 29) dX6_isUnder_16 (by decide) h_4 ?_
          refine r_sub [] [] rfl ?_
          exact cX6_isUnder_29 M hp
        · have hp := hp.2 h_4
          refine r_icmp_eq_f MF.bs (tgt := 29) dX6_isUnder_16 (by decide) h_4 ?_
          exact cX6_isUnder_19 a0 a1 M hp
      · have hp := hp.2 h_3
        refine r_icmp_ne_t MF.bs (tgt := 19) dX6_isUnder_11 (by decide) h_3 ?_
        exact cX6_isUnder_19 a0 a1 M hp
abbrev mtX6_feed : MT := (RX6, yX6_feed, cX6_feed, 5, (some .int))
theorem miX6_feed : MV mtX6_feed 2 := ⟨wd_969, ⟨wd_967, wd_968⟩, wd_86, ⟨by decide, by decide, by decide +kernel⟩, by decide⟩
def mX6_feed_32   : Nat → Int64 → Int32 → Int32 → Mem → Int32 × Mem
  | 0, _, _, _, M => (0, M)
  | n + 1, v1, v3, v4, M => (if v3 ≤ v4 then ((M 46 6), M) else (mX6_feed_32 n v1 v3 (v4 + 1) (upm (upm M 51 (M 46 6).toNatClampNeg ((((v1 >>> (((8 * v4) : Int32).toInt64 &&& 63)) &&& 255) : Int64).toInt32)) 46 6 (((upm M 51 (M 46 6).toNatClampNeg ((((v1 >>> (((8 * v4) : Int32).toInt64 &&& 63)) &&& 255) : Int64).toInt32)) 46 6) + 1))))
def PX6_feed_32   : Nat → Int64 → Int32 → Int32 → Mem → Prop
  | 0, _, _, _, _ => False
  | n + 1, v1, v3, v4, M => (¬ v3 ≤ v4 → vp_in (M 46 6) 200 ∧ (PX6_feed_32 n v1 v3 (v4 + 1) (upm (upm M 51 (M 46 6).toNatClampNeg ((((v1 >>> (((8 * v4) : Int32).toInt64 &&& 63)) &&& 255) : Int64).toInt32)) 46 6 (((upm M 51 (M 46 6).toNatClampNeg ((((v1 >>> (((8 * v4) : Int32).toInt64 &&& 63)) &&& 255) : Int64).toInt32)) 46 6) + 1))))
set_option maxRecDepth 100000 in
theorem cX6_feed_32    (M0 : Mem) : ∀ (n : Nat) (v1 : Int64) (v3 : Int32) (v4 : Int32) (M : Mem), PX6_feed_32 n v1 v3 v4 M → AWP (GIM mtX6_feed 1 M0 (mX6_feed_32 n v1 v3 v4 M)) mtX6_feed 32 [(0, .ref 46), (1, .long v1), (3, .int v3), (4, .int v4)] [] M := by
  intro n
  induction n with
  | zero =>
    intro v1 v3 v4 M hp
    exact hp.elim
  | succ n ih =>
    intro v1 v3 v4 M hp
    rw [mX6_feed_32]
    rw [PX6_feed_32] at hp
    refine r_iload MF.bs dX6_feed_32 3 rfl ?_
    refine r_iload_n MF.bs dX6_feed_34 rfl 2 rfl ?_
    refine r_ite (GIM mtX6_feed 1 M0) (fun h_3 => ?_) (fun h_3 => ?_)
    · refine r_icmp_ge_t MF.bs (tgt := 75) dX6_feed_35 (by decide) h_3 ?_
      refine r_aload_n MF.bs dX6_feed_75 rfl 0 rfl ?_
      refine r_getI MF.bs dX6_feed_76 rfl rfl 6 (by decide) wd_881 rfl ?_
      exact r_iret dX6_feed_79 rfl
    · have hp := hp h_3
      refine r_icmp_ge_f MF.bs (tgt := 75) dX6_feed_35 (by decide) h_3 ?_
      obtain ⟨hq_4, hp⟩ := hp
      refine r_aload_n MF.bs dX6_feed_38 rfl 0 rfl ?_
      refine r_getR MF.bs dX6_feed_39 rfl rfl 5 (by decide) wd_880 rfl ?_
      refine r_aload_n MF.bs dX6_feed_42 rfl 0 rfl ?_
      refine r_getI MF.bs dX6_feed_43 rfl rfl 6 (by decide) wd_881 rfl ?_
      refine r_lload_n MF.bs dX6_feed_46 rfl 1 rfl ?_
      refine r_bipush MF.bs dX6_feed_47 (v := 8) (by decide) ?_
      refine r_iload MF.bs dX6_feed_49 3 rfl ?_
      refine r_imul MF.bs dX6_feed_51 ?_
      refine r_lshr MF.bs dX6_feed_52 ?_
      refine r_ldc2 MF.bs (v := 255) dX6_feed_53 wd_974 ?_
      refine r_land MF.bs dX6_feed_56 ?_
      refine r_l2i MF.bs dX6_feed_57 ?_
      refine r_iastore MF.bs dX6_feed_58 rfl hq_4 ?_
      refine r_aload_n MF.bs dX6_feed_59 rfl 0 rfl ?_
      refine r_dup MF.bs dX6_feed_60 rfl ?_
      refine r_getI MF.bs dX6_feed_61 rfl rfl 6 (by decide) wd_881 rfl ?_
      refine r_iconst MF.bs dX6_feed_64 (v := 1) (by decide) ?_
      refine r_iadd MF.bs dX6_feed_65 ?_
      refine r_putI MF.bs dX6_feed_66 rfl rfl 6 (by decide) wd_881 rfl rfl rfl rfl rfl ?_
      refine r_iinc MF.bs (v := (v4 + 1)) (lv' := [(4, .int (v4 + 1)), (0, .ref 46), (1, .long v1), (3, .int v3)]) dX6_feed_69 3 rfl rfl (by decide) rfl ?_
      refine r_goto MF.bs dX6_feed_72 (tgt := 32) (by decide) ?_
      refine r_sub [(0, .ref 46), (1, .long v1), (3, .int v3), (4, .int (v4 + 1))] [1, 2, 3, 0] rfl ?_
      exact ih v1 v3 (v4 + 1) (upm (upm M 51 (M 46 6).toNatClampNeg ((((v1 >>> (((8 * v4) : Int32).toInt64 &&& 63)) &&& 255) : Int64).toInt32)) 46 6 (((upm M 51 (M 46 6).toNatClampNeg ((((v1 >>> (((8 * v4) : Int32).toInt64 &&& 63)) &&& 255) : Int64).toInt32)) 46 6) + 1)) hp
def mX6_feed  (a1 : Int64) (a3 : Int32) (M : Mem) : Int32 × Mem := (if (mX6_isIn ((a3 : Int32).toInt64) 1 8) = true then (if ((M 46 6) + a3) ≤ 200 then (mX6_feed_32 400 a1 a3 0 M) else ((-2), M)) else ((-1), M))
def PX6_feed  (a1 : Int64) (a3 : Int32) (M : Mem) : Prop := ((mX6_isIn ((a3 : Int32).toInt64) 1 8) = true → (((M 46 6) + a3) ≤ 200 → PX6_feed_32 400 a1 a3 0 M))
set_option maxRecDepth 100000 in
theorem ctX6_feed   (a1 : Int64) (a3 : Int32) (M : Mem) (hp : PX6_feed a1 a3 M) : CT mtX6_feed 1 [.ref 46, .long a1, .int a3] M (some (.int ((mX6_feed a1 a3 M).1)), (mX6_feed a1 a3 M).2) := by
  refine CT.of (by decide) rfl (Nat.le_of_ble_eq_true rfl) ?_
  show AWP (GIM mtX6_feed 1 M (mX6_feed a1 a3 M)) mtX6_feed 0 [(0, .ref 46), (1, .long a1), (3, .int a3)] [] M
  unfold mX6_feed
  unfold PX6_feed at hp
  refine r_iload_n MF.bs dX6_feed_0 rfl 2 rfl ?_
  refine r_i2l MF.bs dX6_feed_1 ?_
  refine r_lconst MF.bs dX6_feed_2 (v := 1) (by decide) ?_
  refine r_ldc2 MF.bs (v := 8) dX6_feed_3 wd_970 ?_
  refine r_callS_v MF.bs (st := []) dX6_feed_6 (ctX6_isIn ((a3 : Int32).toInt64) 1 8 M) miX6_isIn wd_971 rfl (by decide) rfl (Nat.le_of_ble_eq_true rfl) ?_
  refine r_ite (GIM mtX6_feed 1 M) (fun h_1 => ?_) (fun h_1 => ?_)
  · have hp := hp h_1
    refine r_if_ne_t MF.bs (tgt := 14) dX6_feed_9 (by decide) (b2i_1 h_1) ?_
    refine r_aload_n MF.bs dX6_feed_14 rfl 0 rfl ?_
    refine r_getI MF.bs dX6_feed_15 rfl rfl 6 (by decide) wd_881 rfl ?_
    refine r_iload_n MF.bs dX6_feed_18 rfl 2 rfl ?_
    refine r_iadd MF.bs dX6_feed_19 ?_
    refine r_sipush MF.bs dX6_feed_20 (v := 200) (by decide) ?_
    refine r_ite (GIM mtX6_feed 1 M) (fun h_2 => ?_) (fun h_2 => ?_)
    · have hp := hp h_2
      refine r_icmp_le_t MF.bs (tgt := 29) dX6_feed_23 (by decide) h_2 ?_
      refine r_iconst MF.bs dX6_feed_29 (v := 0) (by decide) ?_
      refine r_istore MF.bs (lv' := [(4, .int 0), (0, .ref 46), (1, .long a1), (3, .int a3)]) dX6_feed_30 (by decide) rfl ?_
      refine r_sub [(0, .ref 46), (1, .long a1), (3, .int a3), (4, .int 0)] [1, 2, 3, 0] rfl ?_
      exact cX6_feed_32 M 400 a1 a3 0 M hp
    · refine r_icmp_le_f MF.bs (tgt := 29) dX6_feed_23 (by decide) h_2 ?_
      refine r_bipush MF.bs dX6_feed_26 (v := -2) (by decide) ?_
      exact r_iret dX6_feed_28 rfl
  · refine r_if_ne_f MF.bs (tgt := 14) dX6_feed_9 (by decide) (b2i_0 h_1) ?_
    refine r_iconst MF.bs dX6_feed_12 (v := -1) (by decide) ?_
    exact r_iret dX6_feed_13 rfl
abbrev mtX6_isAlpha : MT := (RX6, yX6_isAlpha, cX6_isAlpha, 1, (some .boolean))
theorem miX6_isAlpha : MS mtX6_isAlpha 1 := ⟨wd_992, wd_991, wd_86, ⟨by decide, by decide, by decide +kernel⟩, by decide⟩
def mX6_isAlpha  (a0 : Int32) : Bool := (if a0 < 97 then false else (if 122 < a0 then false else true))
set_option maxRecDepth 100000 in
theorem ctX6_isAlpha   (a0 : Int32) (M : Mem) : CT mtX6_isAlpha 0 [.int a0] M (some (.int (b2i (mX6_isAlpha a0))), M) := by
  refine CT.of (by decide) rfl (Nat.le_of_ble_eq_true rfl) ?_
  show AWP (GB mtX6_isAlpha 0 M M (mX6_isAlpha a0)) mtX6_isAlpha 0 [(0, .int a0)] [] M
  unfold mX6_isAlpha
  refine r_iload_n MF.bs dX6_isAlpha_0 rfl 0 rfl ?_
  refine r_bipush MF.bs dX6_isAlpha_1 (v := 97) (by decide) ?_
  refine r_ite (GB mtX6_isAlpha 0 M M) (fun h_1 => ?_) (fun h_1 => ?_)
  · refine r_icmp_lt_t MF.bs (tgt := 16) dX6_isAlpha_3 (by decide) h_1 ?_
    refine r_iconst MF.bs dX6_isAlpha_16 (v := 0) (by decide) ?_
    exact r_zret0 dX6_isAlpha_17 rfl
  · refine r_icmp_lt_f MF.bs (tgt := 16) dX6_isAlpha_3 (by decide) h_1 ?_
    refine r_iload_n MF.bs dX6_isAlpha_6 rfl 0 rfl ?_
    refine r_bipush MF.bs dX6_isAlpha_7 (v := 122) (by decide) ?_
    refine r_ite (GB mtX6_isAlpha 0 M M) (fun h_2 => ?_) (fun h_2 => ?_)
    · refine r_icmp_gt_t MF.bs (tgt := 16) dX6_isAlpha_9 (by decide) h_2 ?_
      refine r_iconst MF.bs dX6_isAlpha_16 (v := 0) (by decide) ?_
      exact r_zret0 dX6_isAlpha_17 rfl
    · refine r_icmp_gt_f MF.bs (tgt := 16) dX6_isAlpha_9 (by decide) h_2 ?_
      refine r_iconst MF.bs dX6_isAlpha_12 (v := 1) (by decide) ?_
      refine r_goto MF.bs dX6_isAlpha_13 (tgt := 17) (by decide) ?_
      exact r_zret1 dX6_isAlpha_17 rfl
abbrev mtX6_isDigit : MT := (RX6, yX6_isDigit, cX6_isDigit, 1, (some .boolean))
theorem miX6_isDigit : MS mtX6_isDigit 1 := ⟨wd_995, wd_994, wd_86, ⟨by decide, by decide, by decide +kernel⟩, by decide⟩
def mX6_isDigit  (a0 : Int32) : Bool := (if a0 < 48 then false else (if 57 < a0 then false else true))
set_option maxRecDepth 100000 in
theorem ctX6_isDigit   (a0 : Int32) (M : Mem) : CT mtX6_isDigit 0 [.int a0] M (some (.int (b2i (mX6_isDigit a0))), M) := by
  refine CT.of (by decide) rfl (Nat.le_of_ble_eq_true rfl) ?_
  show AWP (GB mtX6_isDigit 0 M M (mX6_isDigit a0)) mtX6_isDigit 0 [(0, .int a0)] [] M
  unfold mX6_isDigit
  refine r_iload_n MF.bs dX6_isDigit_0 rfl 0 rfl ?_
  refine r_bipush MF.bs dX6_isDigit_1 (v := 48) (by decide) ?_
  refine r_ite (GB mtX6_isDigit 0 M M) (fun h_1 => ?_) (fun h_1 => ?_)
  · refine r_icmp_lt_t MF.bs (tgt := 16) dX6_isDigit_3 (by decide) h_1 ?_
    refine r_iconst MF.bs dX6_isDigit_16 (v := 0) (by decide) ?_
    exact r_zret0 dX6_isDigit_17 rfl
  · refine r_icmp_lt_f MF.bs (tgt := 16) dX6_isDigit_3 (by decide) h_1 ?_
    refine r_iload_n MF.bs dX6_isDigit_6 rfl 0 rfl ?_
    refine r_bipush MF.bs dX6_isDigit_7 (v := 57) (by decide) ?_
    refine r_ite (GB mtX6_isDigit 0 M M) (fun h_2 => ?_) (fun h_2 => ?_)
    · refine r_icmp_gt_t MF.bs (tgt := 16) dX6_isDigit_9 (by decide) h_2 ?_
      refine r_iconst MF.bs dX6_isDigit_16 (v := 0) (by decide) ?_
      exact r_zret0 dX6_isDigit_17 rfl
    · refine r_icmp_gt_f MF.bs (tgt := 16) dX6_isDigit_9 (by decide) h_2 ?_
      refine r_iconst MF.bs dX6_isDigit_12 (v := 1) (by decide) ?_
      refine r_goto MF.bs dX6_isDigit_13 (tgt := 17) (by decide) ?_
      exact r_zret1 dX6_isDigit_17 rfl
abbrev mtX6_byteAt : MT := (RX6, yX6_byteAt, cX6_byteAt, 2, (some .int))
theorem miX6_byteAt : MV mtX6_byteAt 1 := ⟨wd_989, ⟨wd_988, wd_31⟩, wd_86, ⟨by decide, by decide, by decide +kernel⟩, by decide⟩
def mX6_byteAt  (a1 : Int32) (M : Mem) : Int32 := (if (M 46 6) ≤ a1 then (-1) else (M 51 a1.toNatClampNeg))
def PX6_byteAt  (a1 : Int32) (M : Mem) : Prop := (¬ (M 46 6) ≤ a1 → vp_in a1 200)
set_option maxRecDepth 100000 in
theorem ctX6_byteAt   (a1 : Int32) (M : Mem) (hp : PX6_byteAt a1 M) : CT mtX6_byteAt 0 [.ref 46, .int a1] M (some (.int (mX6_byteAt a1 M)), M) := by
  refine CT.of (by decide) rfl (Nat.le_of_ble_eq_true rfl) ?_
  show AWP (GI mtX6_byteAt 0 M M (mX6_byteAt a1 M)) mtX6_byteAt 0 [(0, .ref 46), (1, .int a1)] [] M
  unfold mX6_byteAt
  unfold PX6_byteAt at hp
  refine r_iload_n MF.bs dX6_byteAt_0 rfl 1 rfl ?_
  refine r_aload_n MF.bs dX6_byteAt_1 rfl 0 rfl ?_
  refine r_getI MF.bs dX6_byteAt_2 rfl rfl 6 (by decide) wd_881 rfl ?_
  refine r_ite (GI mtX6_byteAt 0 M M) (fun h_1 => ?_) (fun h_1 => ?_)
  · refine r_icmp_ge_t MF.bs (tgt := 17) dX6_byteAt_5 (by decide) h_1 ?_
    refine r_iconst MF.bs dX6_byteAt_17 (v := -1) (by decide) ?_
    exact r_iret dX6_byteAt_18 rfl
  · have hp := hp h_1
    refine r_icmp_ge_f MF.bs (tgt := 17) dX6_byteAt_5 (by decide) h_1 ?_
    have hq_2 := hp
    refine r_aload_n MF.bs dX6_byteAt_8 rfl 0 rfl ?_
    refine r_getR MF.bs dX6_byteAt_9 rfl rfl 5 (by decide) wd_880 rfl ?_
    refine r_iload_n MF.bs dX6_byteAt_12 rfl 1 rfl ?_
    refine r_iaload MF.bs dX6_byteAt_13 rfl hq_2 ?_
    refine r_goto MF.bs dX6_byteAt_14 (tgt := 18) (by decide) ?_
    exact r_iret dX6_byteAt_18 rfl
abbrev mtX6_nextToken : MT := (RX6, yX6_nextToken, cX6_nextToken, 2, none)
theorem miX6_nextToken : MV mtX6_nextToken 0 := ⟨wd_985, ⟨wd_984, wd_30⟩, wd_86, ⟨by decide, by decide, by decide +kernel⟩, by decide⟩
def mX6_nextToken_185   (kf126 : Mem → Mem) (k0 : Int32) (M : Mem) : Mem := (kf126 (upm (upm M 46 10 k0) 46 9 (((upm M 46 10 k0) 46 9) + 1)))
def PX6_nextToken_185   (kP126 : Mem → Prop) (k0 : Int32) (M : Mem) : Prop := kP126 (upm (upm M 46 10 k0) 46 9 (((upm M 46 10 k0) 46 9) + 1))
set_option maxRecDepth 100000 in
theorem cX6_nextToken_185    (M0 : Mem) (kf126 : Mem → Mem) (kP126 : Mem → Prop) (hk126 : ∀ (M : Mem), kP126 M → AWP (GV mtX6_nextToken 1 M0 (kf126 M)) mtX6_nextToken 126 [(0, .ref 46)] [] M) (k0 : Int32) (M : Mem) (hp : PX6_nextToken_185 kP126 k0 M) : AWP (GV mtX6_nextToken 1 M0 (mX6_nextToken_185 kf126 k0 M)) mtX6_nextToken 185 [(0, .ref 46)] [.int k0, .ref 46] M := by
  unfold mX6_nextToken_185
  unfold PX6_nextToken_185 at hp
  refine r_putI MF.bs dX6_nextToken_185 rfl rfl 10 (by decide) wd_885 rfl rfl rfl rfl rfl ?_
  refine r_aload_n MF.bs dX6_nextToken_188 rfl 0 rfl ?_
  refine r_dup MF.bs dX6_nextToken_189 rfl ?_
  refine r_getI MF.bs dX6_nextToken_190 rfl rfl 9 (by decide) wd_884 rfl ?_
  refine r_iconst MF.bs dX6_nextToken_193 (v := 1) (by decide) ?_
  refine r_iadd MF.bs dX6_nextToken_194 ?_
  refine r_putI MF.bs dX6_nextToken_195 rfl rfl 9 (by decide) wd_884 rfl rfl rfl rfl rfl ?_
  refine r_goto MF.bs dX6_nextToken_198 (tgt := 126) (by decide) ?_
  exact hk126 (upm (upm M 46 10 k0) 46 9 (((upm M 46 10 k0) 46 9) + 1)) hp
def mX6_nextToken_219   (k0 : Int32) (k1 : Int32) (M : Mem) : Mem := (upm M 46 9 (k1 + k0))
def PX6_nextToken_219   (k0 : Int32) (k1 : Int32) (M : Mem) : Prop := True
set_option maxRecDepth 100000 in
theorem cX6_nextToken_219    (M0 : Mem) (k0 : Int32) (k1 : Int32) (M : Mem) (hp : PX6_nextToken_219 k0 k1 M) : AWP (GV mtX6_nextToken 1 M0 (mX6_nextToken_219 k0 k1 M)) mtX6_nextToken 219 [] [.int k0, .int k1, .ref 46] M := by
  unfold mX6_nextToken_219
  unfold PX6_nextToken_219 at hp
  refine r_iadd MF.bs dX6_nextToken_219 ?_
  refine r_putI MF.bs dX6_nextToken_220 rfl rfl 9 (by decide) wd_884 rfl rfl rfl rfl rfl ?_
  exact r_vret dX6_nextToken_223 rfl
def mX6_nextToken_201   (M : Mem) : Mem := (if (M 46 7) ≤ 2 then (mX6_nextToken_219 0 (M 46 9) M) else (mX6_nextToken_219 1 (M 46 9) M))
def PX6_nextToken_201   (M : Mem) : Prop := (((M 46 7) ≤ 2 → PX6_nextToken_219 0 (M 46 9) M) ∧ (¬ (M 46 7) ≤ 2 → PX6_nextToken_219 1 (M 46 9) M))
set_option maxRecDepth 100000 in
theorem cX6_nextToken_201    (M0 : Mem) (M : Mem) (hp : PX6_nextToken_201 M) : AWP (GV mtX6_nextToken 1 M0 (mX6_nextToken_201 M)) mtX6_nextToken 201 [(0, .ref 46)] [] M := by
  unfold mX6_nextToken_201
  unfold PX6_nextToken_201 at hp
  refine r_aload_n MF.bs dX6_nextToken_201 rfl 0 rfl ?_
  refine r_dup MF.bs dX6_nextToken_202 rfl ?_
  refine r_getI MF.bs dX6_nextToken_203 rfl rfl 9 (by decide) wd_884 rfl ?_
  refine r_aload_n MF.bs dX6_nextToken_206 rfl 0 rfl ?_
  refine r_getI MF.bs dX6_nextToken_207 rfl rfl 7 (by decide) wd_882 rfl ?_
  refine r_iconst MF.bs dX6_nextToken_210 (v := 2) (by decide) ?_
  refine r_ite (GV mtX6_nextToken 1 M0) (fun h_15 => ?_) (fun h_15 => ?_)
  · have hp := hp.1 h_15
    refine r_icmp_le_t MF.bs (tgt := 218) dX6_nextToken_211 (by decide) h_15 ?_
    refine r_iconst MF.bs dX6_nextToken_218 (v := 0) (by decide) ?_
    refine r_sub [] [] rfl ?_
    exact cX6_nextToken_219 M0 0 (M 46 9) M hp
  · have hp := hp.2 h_15
    refine r_icmp_le_f MF.bs (tgt := 218) dX6_nextToken_211 (by decide) h_15 ?_
    refine r_iconst MF.bs dX6_nextToken_214 (v := 1) (by decide) ?_
    refine r_goto MF.bs dX6_nextToken_215 (tgt := 219) (by decide) ?_
    refine r_sub [] [] rfl ?_
    exact cX6_nextToken_219 M0 1 (M 46 9) M hp
def mX6_nextToken_126   : Nat → Mem → Mem
  | 0, M => M
  | n + 1, M => (if (M 46 7) = 2 then (if (mX6_isDigit (mX6_byteAt (M 46 9) M)) = true then (if (M 46 10) ≤ 999 then (mX6_nextToken_185 (mX6_nextToken_126 n) (((10 * (M 46 10)) + (mX6_byteAt (M 46 9) M)) - 48) M) else (mX6_nextToken_185 (mX6_nextToken_126 n) (M 46 10) M)) else (mX6_nextToken_201 M)) else (mX6_nextToken_201 M))
def PX6_nextToken_126   : Nat → Mem → Prop
  | 0, _ => False
  | n + 1, M => (((M 46 7) = 2 → PX6_byteAt (M 46 9) M ∧ ((((mX6_isDigit (mX6_byteAt (M 46 9) M)) = true → (((M 46 10) ≤ 999 → PX6_byteAt (M 46 9) M ∧ (PX6_nextToken_185 (PX6_nextToken_126 n) (((10 * (M 46 10)) + (mX6_byteAt (M 46 9) M)) - 48) M)) ∧ (¬ (M 46 10) ≤ 999 → PX6_nextToken_185 (PX6_nextToken_126 n) (M 46 10) M))) ∧ (¬ (mX6_isDigit (mX6_byteAt (M 46 9) M)) = true → PX6_nextToken_201 M)))) ∧ (¬ (M 46 7) = 2 → PX6_nextToken_201 M))
set_option maxRecDepth 100000 in
theorem cX6_nextToken_126    (M0 : Mem) : ∀ (n : Nat) (M : Mem), PX6_nextToken_126 n M → AWP (GV mtX6_nextToken 1 M0 (mX6_nextToken_126 n M)) mtX6_nextToken 126 [(0, .ref 46)] [] M := by
  intro n
  induction n with
  | zero =>
    intro M hp
    exact hp.elim
  | succ n ih =>
    intro M hp
    rw [mX6_nextToken_126]
    rw [PX6_nextToken_126] at hp
    refine r_aload_n MF.bs dX6_nextToken_126 rfl 0 rfl ?_
    refine r_getI MF.bs dX6_nextToken_127 rfl rfl 7 (by decide) wd_882 rfl ?_
    refine r_iconst MF.bs dX6_nextToken_130 (v := 2) (by decide) ?_
    refine r_ite (GV mtX6_nextToken 1 M0) (fun h_10 => ?_) (fun h_10 => ?_)
    · have hp := hp.1 h_10
      refine r_icmp_ne_f MF.bs (tgt := 201) dX6_nextToken_131 (by decide) h_10 ?_
      obtain ⟨hq_11, hp⟩ := hp
      refine r_aload_n MF.bs dX6_nextToken_134 rfl 0 rfl ?_
      refine r_aload_n MF.bs dX6_nextToken_135 rfl 0 rfl ?_
      refine r_getI MF.bs dX6_nextToken_136 rfl rfl 9 (by decide) wd_884 rfl ?_
      refine r_callV_v MF.bs (st := []) dX6_nextToken_139 (ctX6_byteAt (M 46 9) M hq_11) miX6_byteAt wd_986 rfl (by decide) rfl (Nat.le_of_ble_eq_true rfl) rfl rfl rfl ?_
      refine r_callS_v MF.bs (st := []) dX6_nextToken_142 (ctX6_isDigit (mX6_byteAt (M 46 9) M) M) miX6_isDigit wd_993 rfl (by decide) rfl (Nat.le_of_ble_eq_true rfl) ?_
      refine r_ite (GV mtX6_nextToken 1 M0) (fun h_12 => ?_) (fun h_12 => ?_)
      · have hp := hp.1 h_12
        refine r_if_eq_f MF.bs (tgt := 201) dX6_nextToken_145 (by decide) (b2i_1 h_12) ?_
        refine r_aload_n MF.bs dX6_nextToken_148 rfl 0 rfl ?_
        refine r_aload_n MF.bs dX6_nextToken_149 rfl 0 rfl ?_
        refine r_getI MF.bs dX6_nextToken_150 rfl rfl 10 (by decide) wd_885 rfl ?_
        refine r_sipush MF.bs dX6_nextToken_153 (v := 999) (by decide) ?_
        refine r_ite (GV mtX6_nextToken 1 M0) (fun h_13 => ?_) (fun h_13 => ?_)
        · have hp := hp.1 h_13
          refine r_icmp_le_t MF.bs (tgt := 166) dX6_nextToken_156 (by decide) h_13 ?_
          obtain ⟨hq_14, hp⟩ := hp
          refine r_bipush MF.bs dX6_nextToken_166 (v := 10) (by decide) ?_
          refine r_aload_n MF.bs dX6_nextToken_168 rfl 0 rfl ?_
          refine r_getI MF.bs dX6_nextToken_169 rfl rfl 10 (by decide) wd_885 rfl ?_
          refine r_imul MF.bs dX6_nextToken_172 ?_
          refine r_aload_n MF.bs dX6_nextToken_173 rfl 0 rfl ?_
          refine r_aload_n MF.bs dX6_nextToken_174 rfl 0 rfl ?_
          refine r_getI MF.bs dX6_nextToken_175 rfl rfl 9 (by decide) wd_884 rfl ?_
          refine r_callV_v MF.bs (st := [.int (10 * (M 46 10)), .ref 46]) dX6_nextToken_178 (ctX6_byteAt (M 46 9) M hq_14) miX6_byteAt wd_986 rfl (by decide) rfl (Nat.le_of_ble_eq_true rfl) rfl rfl rfl ?_
          refine r_iadd MF.bs dX6_nextToken_181 ?_
          refine r_bipush MF.bs dX6_nextToken_182 (v := 48) (by decide) ?_
          refine r_isub MF.bs dX6_nextToken_184 ?_
          exact cX6_nextToken_185 M0 (mX6_nextToken_126 n) (PX6_nextToken_126 n) ih (((10 * (M 46 10)) + (mX6_byteAt (M 46 9) M)) - 48) M hp
        · have hp := hp.2 h_13
          refine r_icmp_le_f MF.bs (tgt := 166) dX6_nextToken_156 (by decide) h_13 ?_
          refine r_aload_n MF.bs dX6_nextToken_159 rfl 0 rfl ?_
          refine r_getI MF.bs dX6_nextToken_160 rfl rfl 10 (by decide) wd_885 rfl ?_
          refine r_goto MF.bs dX6_nextToken_163 (tgt := 185) (by decide) ?_
          exact cX6_nextToken_185 M0 (mX6_nextToken_126 n) (PX6_nextToken_126 n) ih (M 46 10) M hp
      · have hp := hp.2 h_12
        refine r_if_eq_t MF.bs (tgt := 201) dX6_nextToken_145 (by decide) (b2i_0 h_12) ?_
        exact cX6_nextToken_201 M0 M hp
    · have hp := hp.2 h_10
      refine r_icmp_ne_t MF.bs (tgt := 201) dX6_nextToken_131 (by decide) h_10 ?_
      exact cX6_nextToken_201 M0 M hp
def mX6_nextToken_91   : Nat → Mem → Mem
  | 0, M => M
  | n + 1, M => (if (M 46 7) = 1 then (if (mX6_isAlpha (mX6_byteAt (M 46 9) M)) = true then (mX6_nextToken_91 n (upm M 46 9 ((M 46 9) + 1))) else (mX6_nextToken_126 400 M)) else (mX6_nextToken_126 400 M))
def PX6_nextToken_91   : Nat → Mem → Prop
  | 0, _ => False
  | n + 1, M => (((M 46 7) = 1 → PX6_byteAt (M 46 9) M ∧ ((((mX6_isAlpha (mX6_byteAt (M 46 9) M)) = true → PX6_nextToken_91 n (upm M 46 9 ((M 46 9) + 1))) ∧ (¬ (mX6_isAlpha (mX6_byteAt (M 46 9) M)) = true → PX6_nextToken_126 400 M)))) ∧ (¬ (M 46 7) = 1 → PX6_nextToken_126 400 M))
set_option maxRecDepth 100000 in
theorem cX6_nextToken_91    (M0 : Mem) : ∀ (n : Nat) (M : Mem), PX6_nextToken_91 n M → AWP (GV mtX6_nextToken 1 M0 (mX6_nextToken_91 n M)) mtX6_nextToken 91 [(0, .ref 46)] [] M := by
  intro n
  induction n with
  | zero =>
    intro M hp
    exact hp.elim
  | succ n ih =>
    intro M hp
    rw [mX6_nextToken_91]
    rw [PX6_nextToken_91] at hp
    refine r_aload_n MF.bs dX6_nextToken_91 rfl 0 rfl ?_
    refine r_getI MF.bs dX6_nextToken_92 rfl rfl 7 (by decide) wd_882 rfl ?_
    refine r_iconst MF.bs dX6_nextToken_95 (v := 1) (by decide) ?_
    refine r_ite (GV mtX6_nextToken 1 M0) (fun h_7 => ?_) (fun h_7 => ?_)
    · have hp := hp.1 h_7
      refine r_icmp_ne_f MF.bs (tgt := 126) dX6_nextToken_96 (by decide) h_7 ?_
      obtain ⟨hq_8, hp⟩ := hp
      refine r_aload_n MF.bs dX6_nextToken_99 rfl 0 rfl ?_
      refine r_aload_n MF.bs dX6_nextToken_100 rfl 0 rfl ?_
      refine r_getI MF.bs dX6_nextToken_101 rfl rfl 9 (by decide) wd_884 rfl ?_
      refine r_callV_v MF.bs (st := []) dX6_nextToken_104 (ctX6_byteAt (M 46 9) M hq_8) miX6_byteAt wd_986 rfl (by decide) rfl (Nat.le_of_ble_eq_true rfl) rfl rfl rfl ?_
      refine r_callS_v MF.bs (st := []) dX6_nextToken_107 (ctX6_isAlpha (mX6_byteAt (M 46 9) M) M) miX6_isAlpha wd_990 rfl (by decide) rfl (Nat.le_of_ble_eq_true rfl) ?_
      refine r_ite (GV mtX6_nextToken 1 M0) (fun h_9 => ?_) (fun h_9 => ?_)
      · have hp := hp.1 h_9
        refine r_if_eq_f MF.bs (tgt := 126) dX6_nextToken_110 (by decide) (b2i_1 h_9) ?_
        refine r_aload_n MF.bs dX6_nextToken_113 rfl 0 rfl ?_
        refine r_dup MF.bs dX6_nextToken_114 rfl ?_
        refine r_getI MF.bs dX6_nextToken_115 rfl rfl 9 (by decide) wd_884 rfl ?_
        refine r_iconst MF.bs dX6_nextToken_118 (v := 1) (by decide) ?_
        refine r_iadd MF.bs dX6_nextToken_119 ?_
        refine r_putI MF.bs dX6_nextToken_120 rfl rfl 9 (by decide) wd_884 rfl rfl rfl rfl rfl ?_
        refine r_goto MF.bs dX6_nextToken_123 (tgt := 91) (by decide) ?_
        exact ih (upm M 46 9 ((M 46 9) + 1)) hp
      · have hp := hp.2 h_9
        refine r_if_eq_t MF.bs (tgt := 126) dX6_nextToken_110 (by decide) (b2i_0 h_9) ?_
        exact cX6_nextToken_126 M0 400 M hp
    · have hp := hp.2 h_7
      refine r_icmp_ne_t MF.bs (tgt := 126) dX6_nextToken_96 (by decide) h_7 ?_
      exact cX6_nextToken_126 M0 400 M hp
def mX6_nextToken_83   (k0 : Int32) (M : Mem) : Mem := (mX6_nextToken_91 400 (upm (upm M 46 7 k0) 46 10 0))
def PX6_nextToken_83   (k0 : Int32) (M : Mem) : Prop := PX6_nextToken_91 400 (upm (upm M 46 7 k0) 46 10 0)
set_option maxRecDepth 100000 in
theorem cX6_nextToken_83    (M0 : Mem) (k0 : Int32) (M : Mem) (hp : PX6_nextToken_83 k0 M) : AWP (GV mtX6_nextToken 1 M0 (mX6_nextToken_83 k0 M)) mtX6_nextToken 83 [(0, .ref 46)] [.int k0, .ref 46] M := by
  unfold mX6_nextToken_83
  unfold PX6_nextToken_83 at hp
  refine r_putI MF.bs dX6_nextToken_83 rfl rfl 7 (by decide) wd_882 rfl rfl rfl rfl rfl ?_
  refine r_aload_n MF.bs dX6_nextToken_86 rfl 0 rfl ?_
  refine r_iconst MF.bs dX6_nextToken_87 (v := 0) (by decide) ?_
  refine r_putI MF.bs dX6_nextToken_88 rfl rfl 10 (by decide) wd_885 rfl rfl rfl rfl rfl ?_
  exact cX6_nextToken_91 M0 400 (upm (upm M 46 7 k0) 46 10 0) hp
def mX6_nextToken_8   : Nat → Mem → Mem
  | 0, M => M
  | n + 1, M => (if (mX6_byteAt (M 46 8) M) = 32 then (mX6_nextToken_8 n (upm M 46 8 ((M 46 8) + 1))) else (if 0 ≤ (mX6_byteAt ((upm M 46 9 (M 46 8)) 46 8) (upm M 46 9 (M 46 8))) then (if (mX6_isAlpha (mX6_byteAt ((upm M 46 9 (M 46 8)) 46 8) (upm M 46 9 (M 46 8)))) = true then (mX6_nextToken_83 1 (upm M 46 9 (M 46 8))) else (if (mX6_isDigit (mX6_byteAt ((upm M 46 9 (M 46 8)) 46 8) (upm M 46 9 (M 46 8)))) = true then (mX6_nextToken_83 2 (upm M 46 9 (M 46 8))) else (mX6_nextToken_83 3 (upm M 46 9 (M 46 8))))) else (mX6_nextToken_83 0 (upm M 46 9 (M 46 8)))))
def PX6_nextToken_8   : Nat → Mem → Prop
  | 0, _ => False
  | n + 1, M => PX6_byteAt (M 46 8) M ∧ ((((mX6_byteAt (M 46 8) M) = 32 → PX6_nextToken_8 n (upm M 46 8 ((M 46 8) + 1))) ∧ (¬ (mX6_byteAt (M 46 8) M) = 32 → PX6_byteAt ((upm M 46 9 (M 46 8)) 46 8) (upm M 46 9 (M 46 8)) ∧ (((0 ≤ (mX6_byteAt ((upm M 46 9 (M 46 8)) 46 8) (upm M 46 9 (M 46 8))) → (((mX6_isAlpha (mX6_byteAt ((upm M 46 9 (M 46 8)) 46 8) (upm M 46 9 (M 46 8)))) = true → PX6_nextToken_83 1 (upm M 46 9 (M 46 8))) ∧ (¬ (mX6_isAlpha (mX6_byteAt ((upm M 46 9 (M 46 8)) 46 8) (upm M 46 9 (M 46 8)))) = true → (((mX6_isDigit (mX6_byteAt ((upm M 46 9 (M 46 8)) 46 8) (upm M 46 9 (M 46 8)))) = true → PX6_nextToken_83 2 (upm M 46 9 (M 46 8))) ∧ (¬ (mX6_isDigit (mX6_byteAt ((upm M 46 9 (M 46 8)) 46 8) (upm M 46 9 (M 46 8)))) = true → PX6_nextToken_83 3 (upm M 46 9 (M 46 8))))))) ∧ (¬ 0 ≤ (mX6_byteAt ((upm M 46 9 (M 46 8)) 46 8) (upm M 46 9 (M 46 8))) → PX6_nextToken_83 0 (upm M 46 9 (M 46 8))))))))
set_option maxRecDepth 100000 in
theorem cX6_nextToken_8    (M0 : Mem) : ∀ (n : Nat) (M : Mem), PX6_nextToken_8 n M → AWP (GV mtX6_nextToken 1 M0 (mX6_nextToken_8 n M)) mtX6_nextToken 8 [(0, .ref 46)] [] M := by
  intro n
  induction n with
  | zero =>
    intro M hp
    exact hp.elim
  | succ n ih =>
    intro M hp
    rw [mX6_nextToken_8]
    rw [PX6_nextToken_8] at hp
    obtain ⟨hq_1, hp⟩ := hp
    refine r_aload_n MF.bs dX6_nextToken_8 rfl 0 rfl ?_
    refine r_aload_n MF.bs dX6_nextToken_9 rfl 0 rfl ?_
    refine r_getI MF.bs dX6_nextToken_10 rfl rfl 8 (by decide) wd_883 rfl ?_
    refine r_callV_v MF.bs (st := []) dX6_nextToken_13 (ctX6_byteAt (M 46 8) M hq_1) miX6_byteAt wd_986 rfl (by decide) rfl (Nat.le_of_ble_eq_true rfl) rfl rfl rfl ?_
    refine r_bipush MF.bs dX6_nextToken_16 (v := 32) (by decide) ?_
    refine r_ite (GV mtX6_nextToken 1 M0) (fun h_2 => ?_) (fun h_2 => ?_)
    · have hp := hp.1 h_2
      refine r_icmp_ne_f MF.bs (tgt := 34) dX6_nextToken_18 (by decide) h_2 ?_
      refine r_aload_n MF.bs dX6_nextToken_21 rfl 0 rfl ?_
      refine r_dup MF.bs dX6_nextToken_22 rfl ?_
      refine r_getI MF.bs dX6_nextToken_23 rfl rfl 8 (by decide) wd_883 rfl ?_
      refine r_iconst MF.bs dX6_nextToken_26 (v := 1) (by decide) ?_
      refine r_iadd MF.bs dX6_nextToken_27 ?_
      refine r_putI MF.bs dX6_nextToken_28 rfl rfl 8 (by decide) wd_883 rfl rfl rfl rfl rfl ?_
      refine r_goto MF.bs dX6_nextToken_31 (tgt := 8) (by decide) ?_
      exact ih (upm M 46 8 ((M 46 8) + 1)) hp
    · have hp := hp.2 h_2
      refine r_icmp_ne_t MF.bs (tgt := 34) dX6_nextToken_18 (by decide) h_2 ?_
      obtain ⟨hq_3, hp⟩ := hp
      refine r_aload_n MF.bs dX6_nextToken_34 rfl 0 rfl ?_
      refine r_aload_n MF.bs dX6_nextToken_35 rfl 0 rfl ?_
      refine r_getI MF.bs dX6_nextToken_36 rfl rfl 8 (by decide) wd_883 rfl ?_
      refine r_putI MF.bs dX6_nextToken_39 rfl rfl 9 (by decide) wd_884 rfl rfl rfl rfl rfl ?_
      refine r_aload_n MF.bs dX6_nextToken_42 rfl 0 rfl ?_
      refine r_aload_n MF.bs dX6_nextToken_43 rfl 0 rfl ?_
      refine r_getI MF.bs dX6_nextToken_44 rfl rfl 8 (by decide) wd_883 rfl ?_
      refine r_callV_v MF.bs (st := []) dX6_nextToken_47 (ctX6_byteAt ((upm M 46 9 (M 46 8)) 46 8) (upm M 46 9 (M 46 8)) hq_3) miX6_byteAt wd_986 rfl (by decide) rfl (Nat.le_of_ble_eq_true rfl) rfl rfl rfl ?_
      refine r_istore_n MF.bs (lv' := [(1, .int (mX6_byteAt ((upm M 46 9 (M 46 8)) 46 8) (upm M 46 9 (M 46 8)))), (0, .ref 46)]) dX6_nextToken_50 rfl (by decide) rfl ?_
      refine r_aload_n MF.bs dX6_nextToken_51 rfl 1 rfl ?_
      refine r_iload_n MF.bs dX6_nextToken_52 rfl 0 rfl ?_
      refine r_ite (GV mtX6_nextToken 1 M0) (fun h_4 => ?_) (fun h_4 => ?_)
      · have hp := hp.1 h_4
        refine r_if_ge_t MF.bs (tgt := 60) dX6_nextToken_53 (by decide) h_4 ?_
        refine r_iload_n MF.bs dX6_nextToken_60 rfl 0 rfl ?_
        refine r_callS_v MF.bs (st := [.ref 46]) dX6_nextToken_61 (ctX6_isAlpha (mX6_byteAt ((upm M 46 9 (M 46 8)) 46 8) (upm M 46 9 (M 46 8))) (upm M 46 9 (M 46 8))) miX6_isAlpha wd_990 rfl (by decide) rfl (Nat.le_of_ble_eq_true rfl) ?_
        refine r_ite (GV mtX6_nextToken 1 M0) (fun h_5 => ?_) (fun h_5 => ?_)
        · have hp := hp.1 h_5
          refine r_if_eq_f MF.bs (tgt := 71) dX6_nextToken_64 (by decide) (b2i_1 h_5) ?_
          refine r_iconst MF.bs dX6_nextToken_67 (v := 1) (by decide) ?_
          refine r_goto MF.bs dX6_nextToken_68 (tgt := 83) (by decide) ?_
          refine r_sub [(0, .ref 46)] [1] rfl ?_
          exact cX6_nextToken_83 M0 1 (upm M 46 9 (M 46 8)) hp
        · have hp := hp.2 h_5
          refine r_if_eq_t MF.bs (tgt := 71) dX6_nextToken_64 (by decide) (b2i_0 h_5) ?_
          refine r_iload_n MF.bs dX6_nextToken_71 rfl 0 rfl ?_
          refine r_callS_v MF.bs (st := [.ref 46]) dX6_nextToken_72 (ctX6_isDigit (mX6_byteAt ((upm M 46 9 (M 46 8)) 46 8) (upm M 46 9 (M 46 8))) (upm M 46 9 (M 46 8))) miX6_isDigit wd_993 rfl (by decide) rfl (Nat.le_of_ble_eq_true rfl) ?_
          refine r_ite (GV mtX6_nextToken 1 M0) (fun h_6 => ?_) (fun h_6 => ?_)
          · have hp := hp.1 h_6
            refine r_if_eq_f MF.bs (tgt := 82) dX6_nextToken_75 (by decide) (b2i_1 h_6) ?_
            refine r_iconst MF.bs dX6_nextToken_78 (v := 2) (by decide) ?_
            refine r_goto MF.bs dX6_nextToken_79 (tgt := 83) (by decide) ?_
            refine r_sub [(0, .ref 46)] [1] rfl ?_
            exact cX6_nextToken_83 M0 2 (upm M 46 9 (M 46 8)) hp
          · have hp := hp.2 h_6
            refine r_if_eq_t MF.bs (tgt := 82) dX6_nextToken_75 (by decide) (b2i_0 h_6) ?_
            refine r_iconst MF.bs dX6_nextToken_82 (v := 3) (by decide) ?_
            refine r_sub [(0, .ref 46)] [1] rfl ?_
            exact cX6_nextToken_83 M0 3 (upm M 46 9 (M 46 8)) hp
      · have hp := hp.2 h_4
        refine r_if_ge_f MF.bs (tgt := 60) dX6_nextToken_53 (by decide) h_4 ?_
        refine r_iconst MF.bs dX6_nextToken_56 (v := 0) (by decide) ?_
        refine r_goto MF.bs dX6_nextToken_57 (tgt := 83) (by decide) ?_
        refine r_sub [(0, .ref 46)] [1] rfl ?_
        exact cX6_nextToken_83 M0 0 (upm M 46 9 (M 46 8)) hp
def mX6_nextToken  (M : Mem) : Mem := (mX6_nextToken_8 400 (upm M 46 8 (M 46 9)))
def PX6_nextToken  (M : Mem) : Prop := PX6_nextToken_8 400 (upm M 46 8 (M 46 9))
set_option maxRecDepth 100000 in
theorem ctX6_nextToken   (M : Mem) (hp : PX6_nextToken M) : CT mtX6_nextToken 1 [.ref 46] M (none, mX6_nextToken M) := by
  refine CT.of (by decide) rfl (Nat.le_of_ble_eq_true rfl) ?_
  show AWP (GV mtX6_nextToken 1 M (mX6_nextToken M)) mtX6_nextToken 0 [(0, .ref 46)] [] M
  unfold mX6_nextToken
  unfold PX6_nextToken at hp
  refine r_aload_n MF.bs dX6_nextToken_0 rfl 0 rfl ?_
  refine r_aload_n MF.bs dX6_nextToken_1 rfl 0 rfl ?_
  refine r_getI MF.bs dX6_nextToken_2 rfl rfl 9 (by decide) wd_884 rfl ?_
  refine r_putI MF.bs dX6_nextToken_5 rfl rfl 8 (by decide) wd_883 rfl rfl rfl rfl rfl ?_
  exact cX6_nextToken_8 M 400 (upm M 46 8 (M 46 9)) hp
abbrev mtX6_needs : MT := (RX6, yX6_needs, cX6_needs, 2, none)
theorem miX6_needs : MV mtX6_needs 1 := ⟨wd_1027, ⟨wd_1026, wd_39⟩, wd_86, ⟨by decide, by decide, by decide +kernel⟩, by decide⟩
def mX6_needs_17   (k0 : Int32) (M : Mem) : Mem := (if ((upm M 46 11 k0) 46 11) = 0 then (mX6_nextToken (upm M 46 11 k0)) else (upm M 46 11 k0))
def PX6_needs_17   (k0 : Int32) (M : Mem) : Prop := (k0 = 0 ∨ k0 = 1) ∧ ((((upm M 46 11 k0) 46 11) = 0 → PX6_nextToken (upm M 46 11 k0)))
set_option maxRecDepth 100000 in
theorem cX6_needs_17    (M0 : Mem) (k0 : Int32) (M : Mem) (hp : PX6_needs_17 k0 M) : AWP (GV mtX6_needs 2 M0 (mX6_needs_17 k0 M)) mtX6_needs 17 [(0, .ref 46)] [.int k0, .ref 46] M := by
  unfold mX6_needs_17
  unfold PX6_needs_17 at hp
  obtain ⟨hq_3, hp⟩ := hp
  refine r_putI MF.bs dX6_needs_17 rfl rfl 11 (by decide) wd_886 rfl rfl rfl (z_nar hq_3) (z_fit hq_3) ?_
  refine r_aload_n MF.bs dX6_needs_20 rfl 0 rfl ?_
  refine r_getI MF.bs dX6_needs_21 rfl rfl 11 (by decide) wd_886 rfl ?_
  refine r_ite (GV mtX6_needs 2 M0) (fun h_4 => ?_) (fun h_4 => ?_)
  · have hp := hp h_4
    refine r_if_ne_f MF.bs (tgt := 31) dX6_needs_24 (by decide) h_4 ?_
    have hq_5 := hp
    refine r_aload_n MF.bs dX6_needs_27 rfl 0 rfl ?_
    refine r_callV_n MF.bs (st := []) dX6_needs_28 (ctX6_nextToken (upm M 46 11 k0) hq_5) miX6_nextToken wd_982 rfl (by decide) rfl (Nat.le_of_ble_eq_true rfl) rfl rfl rfl ?_
    exact r_vret dX6_needs_31 rfl
  · refine r_if_ne_t MF.bs (tgt := 31) dX6_needs_24 (by decide) h_4 ?_
    exact r_vret dX6_needs_31 rfl
def mX6_needs_12   (M : Mem) : Mem := (mX6_needs_17 1 M)
def PX6_needs_12   (M : Mem) : Prop := PX6_needs_17 1 M
set_option maxRecDepth 100000 in
theorem cX6_needs_12    (M0 : Mem) (M : Mem) (hp : PX6_needs_12 M) : AWP (GV mtX6_needs 2 M0 (mX6_needs_12 M)) mtX6_needs 12 [(0, .ref 46)] [.ref 46] M := by
  unfold mX6_needs_12
  unfold PX6_needs_12 at hp
  refine r_iconst MF.bs dX6_needs_12 (v := 1) (by decide) ?_
  refine r_goto MF.bs dX6_needs_13 (tgt := 17) (by decide) ?_
  exact cX6_needs_17 M0 1 M hp
def mX6_needs  (a1 : Int32) (M : Mem) : Mem := (if (M 46 11) = 0 then (if a1 = 0 then (mX6_needs_12 M) else (mX6_needs_17 0 M)) else (mX6_needs_12 M))
def PX6_needs  (a1 : Int32) (M : Mem) : Prop := (((M 46 11) = 0 → ((a1 = 0 → PX6_needs_12 M) ∧ (¬ a1 = 0 → PX6_needs_17 0 M))) ∧ (¬ (M 46 11) = 0 → PX6_needs_12 M))
set_option maxRecDepth 100000 in
theorem ctX6_needs   (a1 : Int32) (M : Mem) (hp : PX6_needs a1 M) : CT mtX6_needs 2 [.ref 46, .int a1] M (none, mX6_needs a1 M) := by
  refine CT.of (by decide) rfl (Nat.le_of_ble_eq_true rfl) ?_
  show AWP (GV mtX6_needs 2 M (mX6_needs a1 M)) mtX6_needs 0 [(0, .ref 46), (1, .int a1)] [] M
  unfold mX6_needs
  unfold PX6_needs at hp
  refine r_aload_n MF.bs dX6_needs_0 rfl 0 rfl ?_
  refine r_aload_n MF.bs dX6_needs_1 rfl 0 rfl ?_
  refine r_getI MF.bs dX6_needs_2 rfl rfl 11 (by decide) wd_886 rfl ?_
  refine r_ite (GV mtX6_needs 2 M) (fun h_1 => ?_) (fun h_1 => ?_)
  · have hp := hp.1 h_1
    refine r_if_ne_f MF.bs (tgt := 12) dX6_needs_5 (by decide) h_1 ?_
    refine r_iload_n MF.bs dX6_needs_8 rfl 1 rfl ?_
    refine r_ite (GV mtX6_needs 2 M) (fun h_2 => ?_) (fun h_2 => ?_)
    · have hp := hp.1 h_2
      refine r_if_ne_f MF.bs (tgt := 16) dX6_needs_9 (by decide) h_2 ?_
      refine r_sub [(0, .ref 46)] [0] rfl ?_
      exact cX6_needs_12 M M hp
    · have hp := hp.2 h_2
      refine r_if_ne_t MF.bs (tgt := 16) dX6_needs_9 (by decide) h_2 ?_
      refine r_iconst MF.bs dX6_needs_16 (v := 0) (by decide) ?_
      refine r_sub [(0, .ref 46)] [0] rfl ?_
      exact cX6_needs_17 M 0 M hp
  · have hp := hp.2 h_1
    refine r_if_ne_t MF.bs (tgt := 12) dX6_needs_5 (by decide) h_1 ?_
    refine r_sub [(0, .ref 46)] [0] rfl ?_
    exact cX6_needs_12 M M hp
abbrev mtX6_isName : MT := (RX6, yX6_isName, cX6_isName, 6, (some .boolean))
theorem miX6_isName : MV mtX6_isName 5 := ⟨wd_1007, ⟨wd_1006, wd_34⟩, wd_86, ⟨by decide, by decide, by decide +kernel⟩, by decide⟩
def mX6_isName  (a1 : Int32) (a2 : Int32) (a3 : Int32) (a4 : Int32) (a5 : Int32) (M : Mem) : Bool := (if (M 46 7) = 1 then (if ((M 46 9) - (M 46 8)) = a1 then (if (mX6_byteAt (M 46 8) M) = a2 then (if (mX6_byteAt ((M 46 8) + 1) M) = a3 then (if (mX6_byteAt ((M 46 8) + 2) M) = a4 then (if (mX6_byteAt ((M 46 9) - 1) M) = a5 then true else false) else false) else false) else false) else false) else false)
def PX6_isName  (a1 : Int32) (a2 : Int32) (a3 : Int32) (a4 : Int32) (a5 : Int32) (M : Mem) : Prop := ((M 46 7) = 1 → (((M 46 9) - (M 46 8)) = a1 → PX6_byteAt (M 46 8) M ∧ (((mX6_byteAt (M 46 8) M) = a2 → PX6_byteAt ((M 46 8) + 1) M ∧ (((mX6_byteAt ((M 46 8) + 1) M) = a3 → PX6_byteAt ((M 46 8) + 2) M ∧ (((mX6_byteAt ((M 46 8) + 2) M) = a4 → PX6_byteAt ((M 46 9) - 1) M))))))))
set_option maxRecDepth 100000 in
theorem ctX6_isName   (a1 : Int32) (a2 : Int32) (a3 : Int32) (a4 : Int32) (a5 : Int32) (M : Mem) (hp : PX6_isName a1 a2 a3 a4 a5 M) : CT mtX6_isName 1 [.ref 46, .int a1, .int a2, .int a3, .int a4, .int a5] M (some (.int (b2i (mX6_isName a1 a2 a3 a4 a5 M))), M) := by
  refine CT.of (by decide) rfl (Nat.le_of_ble_eq_true rfl) ?_
  show AWP (GB mtX6_isName 1 M M (mX6_isName a1 a2 a3 a4 a5 M)) mtX6_isName 0 [(0, .ref 46), (1, .int a1), (2, .int a2), (3, .int a3), (4, .int a4), (5, .int a5)] [] M
  unfold mX6_isName
  unfold PX6_isName at hp
  refine r_aload_n MF.bs dX6_isName_0 rfl 0 rfl ?_
  refine r_getI MF.bs dX6_isName_1 rfl rfl 7 (by decide) wd_882 rfl ?_
  refine r_iconst MF.bs dX6_isName_4 (v := 1) (by decide) ?_
  refine r_ite (GB mtX6_isName 1 M M) (fun h_1 => ?_) (fun h_1 => ?_)
  · have hp := hp h_1
    refine r_icmp_ne_f MF.bs (tgt := 81) dX6_isName_5 (by decide) h_1 ?_
    refine r_aload_n MF.bs dX6_isName_8 rfl 0 rfl ?_
    refine r_getI MF.bs dX6_isName_9 rfl rfl 9 (by decide) wd_884 rfl ?_
    refine r_aload_n MF.bs dX6_isName_12 rfl 0 rfl ?_
    refine r_getI MF.bs dX6_isName_13 rfl rfl 8 (by decide) wd_883 rfl ?_
    refine r_isub MF.bs dX6_isName_16 ?_
    refine r_iload_n MF.bs dX6_isName_17 rfl 1 rfl ?_
    refine r_ite (GB mtX6_isName 1 M M) (fun h_2 => ?_) (fun h_2 => ?_)
    · have hp := hp h_2
      refine r_icmp_ne_f MF.bs (tgt := 81) dX6_isName_18 (by decide) h_2 ?_
      obtain ⟨hq_3, hp⟩ := hp
      refine r_aload_n MF.bs dX6_isName_21 rfl 0 rfl ?_
      refine r_aload_n MF.bs dX6_isName_22 rfl 0 rfl ?_
      refine r_getI MF.bs dX6_isName_23 rfl rfl 8 (by decide) wd_883 rfl ?_
      refine r_callV_v MF.bs (st := []) dX6_isName_26 (ctX6_byteAt (M 46 8) M hq_3) miX6_byteAt wd_986 rfl (by decide) rfl (Nat.le_of_ble_eq_true rfl) rfl rfl rfl ?_
      refine r_iload_n MF.bs dX6_isName_29 rfl 2 rfl ?_
      refine r_ite (GB mtX6_isName 1 M M) (fun h_4 => ?_) (fun h_4 => ?_)
      · have hp := hp h_4
        refine r_icmp_ne_f MF.bs (tgt := 81) dX6_isName_30 (by decide) h_4 ?_
        obtain ⟨hq_5, hp⟩ := hp
        refine r_aload_n MF.bs dX6_isName_33 rfl 0 rfl ?_
        refine r_aload_n MF.bs dX6_isName_34 rfl 0 rfl ?_
        refine r_getI MF.bs dX6_isName_35 rfl rfl 8 (by decide) wd_883 rfl ?_
        refine r_iconst MF.bs dX6_isName_38 (v := 1) (by decide) ?_
        refine r_iadd MF.bs dX6_isName_39 ?_
        refine r_callV_v MF.bs (st := []) dX6_isName_40 (ctX6_byteAt ((M 46 8) + 1) M hq_5) miX6_byteAt wd_986 rfl (by decide) rfl (Nat.le_of_ble_eq_true rfl) rfl rfl rfl ?_
        refine r_iload_n MF.bs dX6_isName_43 rfl 3 rfl ?_
        refine r_ite (GB mtX6_isName 1 M M) (fun h_6 => ?_) (fun h_6 => ?_)
        · have hp := hp h_6
          refine r_icmp_ne_f MF.bs (tgt := 81) dX6_isName_44 (by decide) h_6 ?_
          obtain ⟨hq_7, hp⟩ := hp
          refine r_aload_n MF.bs dX6_isName_47 rfl 0 rfl ?_
          refine r_aload_n MF.bs dX6_isName_48 rfl 0 rfl ?_
          refine r_getI MF.bs dX6_isName_49 rfl rfl 8 (by decide) wd_883 rfl ?_
          refine r_iconst MF.bs dX6_isName_52 (v := 2) (by decide) ?_
          refine r_iadd MF.bs dX6_isName_53 ?_
          refine r_callV_v MF.bs (st := []) dX6_isName_54 (ctX6_byteAt ((M 46 8) + 2) M hq_7) miX6_byteAt wd_986 rfl (by decide) rfl (Nat.le_of_ble_eq_true rfl) rfl rfl rfl ?_
          refine r_iload MF.bs dX6_isName_57 4 rfl ?_
          refine r_ite (GB mtX6_isName 1 M M) (fun h_8 => ?_) (fun h_8 => ?_)
          · have hp := hp h_8
            refine r_icmp_ne_f MF.bs (tgt := 81) dX6_isName_59 (by decide) h_8 ?_
            have hq_9 := hp
            refine r_aload_n MF.bs dX6_isName_62 rfl 0 rfl ?_
            refine r_aload_n MF.bs dX6_isName_63 rfl 0 rfl ?_
            refine r_getI MF.bs dX6_isName_64 rfl rfl 9 (by decide) wd_884 rfl ?_
            refine r_iconst MF.bs dX6_isName_67 (v := 1) (by decide) ?_
            refine r_isub MF.bs dX6_isName_68 ?_
            refine r_callV_v MF.bs (st := []) dX6_isName_69 (ctX6_byteAt ((M 46 9) - 1) M hq_9) miX6_byteAt wd_986 rfl (by decide) rfl (Nat.le_of_ble_eq_true rfl) rfl rfl rfl ?_
            refine r_iload MF.bs dX6_isName_72 5 rfl ?_
            refine r_ite (GB mtX6_isName 1 M M) (fun h_10 => ?_) (fun h_10 => ?_)
            · refine r_icmp_ne_f MF.bs (tgt := 81) dX6_isName_74 (by decide) h_10 ?_
              refine r_iconst MF.bs dX6_isName_77 (v := 1) (by decide) ?_
              refine r_goto MF.bs dX6_isName_78 (tgt := 82) (by decide) ?_
              exact r_zret1 dX6_isName_82 rfl
            · refine r_icmp_ne_t MF.bs (tgt := 81) dX6_isName_74 (by decide) h_10 ?_
              refine r_iconst MF.bs dX6_isName_81 (v := 0) (by decide) ?_
              exact r_zret0 dX6_isName_82 rfl
          · refine r_icmp_ne_t MF.bs (tgt := 81) dX6_isName_59 (by decide) h_8 ?_
            refine r_iconst MF.bs dX6_isName_81 (v := 0) (by decide) ?_
            exact r_zret0 dX6_isName_82 rfl
        · refine r_icmp_ne_t MF.bs (tgt := 81) dX6_isName_44 (by decide) h_6 ?_
          refine r_iconst MF.bs dX6_isName_81 (v := 0) (by decide) ?_
          exact r_zret0 dX6_isName_82 rfl
      · refine r_icmp_ne_t MF.bs (tgt := 81) dX6_isName_30 (by decide) h_4 ?_
        refine r_iconst MF.bs dX6_isName_81 (v := 0) (by decide) ?_
        exact r_zret0 dX6_isName_82 rfl
    · refine r_icmp_ne_t MF.bs (tgt := 81) dX6_isName_18 (by decide) h_2 ?_
      refine r_iconst MF.bs dX6_isName_81 (v := 0) (by decide) ?_
      exact r_zret0 dX6_isName_82 rfl
  · refine r_icmp_ne_t MF.bs (tgt := 81) dX6_isName_5 (by decide) h_1 ?_
    refine r_iconst MF.bs dX6_isName_81 (v := 0) (by decide) ?_
    exact r_zret0 dX6_isName_82 rfl
abbrev mtX6_isSame : MT := (RX6, yX6_isSame, cX6_isSame, 5, (some .boolean))
theorem miX6_isSame : MV mtX6_isSame 4 := ⟨wd_1015, ⟨wd_1014, wd_36⟩, wd_86, ⟨by decide, by decide, by decide +kernel⟩, by decide⟩
def mX6_isSame  (a1 : Int32) (a2 : Int32) (a3 : Int32) (a4 : Int32) (M : Mem) : Bool := (if (mX6_byteAt ((M 46 8) + a1) M) = a2 then (if (mX6_byteAt (((M 46 8) + a1) + 1) M) = a3 then (if (mX6_byteAt (((M 46 8) + a1) + 2) M) = a4 then true else false) else false) else false)
def PX6_isSame  (a1 : Int32) (a2 : Int32) (a3 : Int32) (a4 : Int32) (M : Mem) : Prop := PX6_byteAt ((M 46 8) + a1) M ∧ (((mX6_byteAt ((M 46 8) + a1) M) = a2 → PX6_byteAt (((M 46 8) + a1) + 1) M ∧ (((mX6_byteAt (((M 46 8) + a1) + 1) M) = a3 → PX6_byteAt (((M 46 8) + a1) + 2) M))))
set_option maxRecDepth 100000 in
theorem ctX6_isSame   (a1 : Int32) (a2 : Int32) (a3 : Int32) (a4 : Int32) (M : Mem) (hp : PX6_isSame a1 a2 a3 a4 M) : CT mtX6_isSame 1 [.ref 46, .int a1, .int a2, .int a3, .int a4] M (some (.int (b2i (mX6_isSame a1 a2 a3 a4 M))), M) := by
  refine CT.of (by decide) rfl (Nat.le_of_ble_eq_true rfl) ?_
  show AWP (GB mtX6_isSame 1 M M (mX6_isSame a1 a2 a3 a4 M)) mtX6_isSame 0 [(0, .ref 46), (1, .int a1), (2, .int a2), (3, .int a3), (4, .int a4)] [] M
  unfold mX6_isSame
  unfold PX6_isSame at hp
  obtain ⟨hq_1, hp⟩ := hp
  refine r_aload_n MF.bs dX6_isSame_0 rfl 0 rfl ?_
  refine r_aload_n MF.bs dX6_isSame_1 rfl 0 rfl ?_
  refine r_getI MF.bs dX6_isSame_2 rfl rfl 8 (by decide) wd_883 rfl ?_
  refine r_iload_n MF.bs dX6_isSame_5 rfl 1 rfl ?_
  refine r_iadd MF.bs dX6_isSame_6 ?_
  refine r_callV_v MF.bs (st := []) dX6_isSame_7 (ctX6_byteAt ((M 46 8) + a1) M hq_1) miX6_byteAt wd_986 rfl (by decide) rfl (Nat.le_of_ble_eq_true rfl) rfl rfl rfl ?_
  refine r_iload_n MF.bs dX6_isSame_10 rfl 2 rfl ?_
  refine r_ite (GB mtX6_isSame 1 M M) (fun h_2 => ?_) (fun h_2 => ?_)
  · have hp := hp h_2
    refine r_icmp_ne_f MF.bs (tgt := 51) dX6_isSame_11 (by decide) h_2 ?_
    obtain ⟨hq_3, hp⟩ := hp
    refine r_aload_n MF.bs dX6_isSame_14 rfl 0 rfl ?_
    refine r_aload_n MF.bs dX6_isSame_15 rfl 0 rfl ?_
    refine r_getI MF.bs dX6_isSame_16 rfl rfl 8 (by decide) wd_883 rfl ?_
    refine r_iload_n MF.bs dX6_isSame_19 rfl 1 rfl ?_
    refine r_iadd MF.bs dX6_isSame_20 ?_
    refine r_iconst MF.bs dX6_isSame_21 (v := 1) (by decide) ?_
    refine r_iadd MF.bs dX6_isSame_22 ?_
    refine r_callV_v MF.bs (st := []) dX6_isSame_23 (ctX6_byteAt (((M 46 8) + a1) + 1) M hq_3) miX6_byteAt wd_986 rfl (by decide) rfl (Nat.le_of_ble_eq_true rfl) rfl rfl rfl ?_
    refine r_iload_n MF.bs dX6_isSame_26 rfl 3 rfl ?_
    refine r_ite (GB mtX6_isSame 1 M M) (fun h_4 => ?_) (fun h_4 => ?_)
    · have hp := hp h_4
      refine r_icmp_ne_f MF.bs (tgt := 51) dX6_isSame_27 (by decide) h_4 ?_
      have hq_5 := hp
      refine r_aload_n MF.bs dX6_isSame_30 rfl 0 rfl ?_
      refine r_aload_n MF.bs dX6_isSame_31 rfl 0 rfl ?_
      refine r_getI MF.bs dX6_isSame_32 rfl rfl 8 (by decide) wd_883 rfl ?_
      refine r_iload_n MF.bs dX6_isSame_35 rfl 1 rfl ?_
      refine r_iadd MF.bs dX6_isSame_36 ?_
      refine r_iconst MF.bs dX6_isSame_37 (v := 2) (by decide) ?_
      refine r_iadd MF.bs dX6_isSame_38 ?_
      refine r_callV_v MF.bs (st := []) dX6_isSame_39 (ctX6_byteAt (((M 46 8) + a1) + 2) M hq_5) miX6_byteAt wd_986 rfl (by decide) rfl (Nat.le_of_ble_eq_true rfl) rfl rfl rfl ?_
      refine r_iload MF.bs dX6_isSame_42 4 rfl ?_
      refine r_ite (GB mtX6_isSame 1 M M) (fun h_6 => ?_) (fun h_6 => ?_)
      · refine r_icmp_ne_f MF.bs (tgt := 51) dX6_isSame_44 (by decide) h_6 ?_
        refine r_iconst MF.bs dX6_isSame_47 (v := 1) (by decide) ?_
        refine r_goto MF.bs dX6_isSame_48 (tgt := 52) (by decide) ?_
        exact r_zret1 dX6_isSame_52 rfl
      · refine r_icmp_ne_t MF.bs (tgt := 51) dX6_isSame_44 (by decide) h_6 ?_
        refine r_iconst MF.bs dX6_isSame_51 (v := 0) (by decide) ?_
        exact r_zret0 dX6_isSame_52 rfl
    · refine r_icmp_ne_t MF.bs (tgt := 51) dX6_isSame_27 (by decide) h_4 ?_
      refine r_iconst MF.bs dX6_isSame_51 (v := 0) (by decide) ?_
      exact r_zret0 dX6_isSame_52 rfl
  · refine r_icmp_ne_t MF.bs (tgt := 51) dX6_isSame_11 (by decide) h_2 ?_
    refine r_iconst MF.bs dX6_isSame_51 (v := 0) (by decide) ?_
    exact r_zret0 dX6_isSame_52 rfl
abbrev mtX6_isFour : MT := (RX6, yX6_isFour, cX6_isFour, 5, (some .boolean))
theorem miX6_isFour : MV mtX6_isFour 4 := ⟨wd_1011, ⟨wd_1010, wd_35⟩, wd_86, ⟨by decide, by decide, by decide +kernel⟩, by decide⟩
def mX6_isFour  (a1 : Int32) (a2 : Int32) (a3 : Int32) (a4 : Int32) (M : Mem) : Bool := (mX6_isName 4 a1 a2 a3 a4 M)
def PX6_isFour  (a1 : Int32) (a2 : Int32) (a3 : Int32) (a4 : Int32) (M : Mem) : Prop := PX6_isName 4 a1 a2 a3 a4 M
set_option maxRecDepth 100000 in
theorem ctX6_isFour   (a1 : Int32) (a2 : Int32) (a3 : Int32) (a4 : Int32) (M : Mem) (hp : PX6_isFour a1 a2 a3 a4 M) : CT mtX6_isFour 2 [.ref 46, .int a1, .int a2, .int a3, .int a4] M (some (.int (b2i (mX6_isFour a1 a2 a3 a4 M))), M) := by
  refine CT.of (by decide) rfl (Nat.le_of_ble_eq_true rfl) ?_
  show AWP (GB mtX6_isFour 2 M M (mX6_isFour a1 a2 a3 a4 M)) mtX6_isFour 0 [(0, .ref 46), (1, .int a1), (2, .int a2), (3, .int a3), (4, .int a4)] [] M
  unfold mX6_isFour
  unfold PX6_isFour at hp
  have hq_1 := hp
  refine r_aload_n MF.bs dX6_isFour_0 rfl 0 rfl ?_
  refine r_iconst MF.bs dX6_isFour_1 (v := 4) (by decide) ?_
  refine r_iload_n MF.bs dX6_isFour_2 rfl 1 rfl ?_
  refine r_iload_n MF.bs dX6_isFour_3 rfl 2 rfl ?_
  refine r_iload_n MF.bs dX6_isFour_4 rfl 3 rfl ?_
  refine r_iload MF.bs dX6_isFour_5 4 rfl ?_
  refine r_callV_v MF.bs (st := []) dX6_isFour_7 (ctX6_isName 4 a1 a2 a3 a4 M hq_1) miX6_isName wd_1004 rfl (by decide) rfl (Nat.le_of_ble_eq_true rfl) rfl rfl rfl ?_
  exact r_zret dX6_isFour_10 rfl (b2i_nar _)
abbrev mtX6_isFive : MT := (RX6, yX6_isFive, cX6_isFive, 6, (some .boolean))
theorem miX6_isFive : MV mtX6_isFive 5 := ⟨wd_1043, ⟨wd_1042, wd_43⟩, wd_86, ⟨by decide, by decide, by decide +kernel⟩, by decide⟩
def mX6_isFive  (a1 : Int32) (a2 : Int32) (a3 : Int32) (a4 : Int32) (a5 : Int32) (M : Mem) : Bool := (if (mX6_isName 5 a1 a2 a3 a5 M) = true then (if (mX6_byteAt ((M 46 8) + 3) M) = a4 then true else false) else false)
def PX6_isFive  (a1 : Int32) (a2 : Int32) (a3 : Int32) (a4 : Int32) (a5 : Int32) (M : Mem) : Prop := PX6_isName 5 a1 a2 a3 a5 M ∧ (((mX6_isName 5 a1 a2 a3 a5 M) = true → PX6_byteAt ((M 46 8) + 3) M))
set_option maxRecDepth 100000 in
theorem ctX6_isFive   (a1 : Int32) (a2 : Int32) (a3 : Int32) (a4 : Int32) (a5 : Int32) (M : Mem) (hp : PX6_isFive a1 a2 a3 a4 a5 M) : CT mtX6_isFive 2 [.ref 46, .int a1, .int a2, .int a3, .int a4, .int a5] M (some (.int (b2i (mX6_isFive a1 a2 a3 a4 a5 M))), M) := by
  refine CT.of (by decide) rfl (Nat.le_of_ble_eq_true rfl) ?_
  show AWP (GB mtX6_isFive 2 M M (mX6_isFive a1 a2 a3 a4 a5 M)) mtX6_isFive 0 [(0, .ref 46), (1, .int a1), (2, .int a2), (3, .int a3), (4, .int a4), (5, .int a5)] [] M
  unfold mX6_isFive
  unfold PX6_isFive at hp
  obtain ⟨hq_1, hp⟩ := hp
  refine r_aload_n MF.bs dX6_isFive_0 rfl 0 rfl ?_
  refine r_iconst MF.bs dX6_isFive_1 (v := 5) (by decide) ?_
  refine r_iload_n MF.bs dX6_isFive_2 rfl 1 rfl ?_
  refine r_iload_n MF.bs dX6_isFive_3 rfl 2 rfl ?_
  refine r_iload_n MF.bs dX6_isFive_4 rfl 3 rfl ?_
  refine r_iload MF.bs dX6_isFive_5 5 rfl ?_
  refine r_callV_v MF.bs (st := []) dX6_isFive_7 (ctX6_isName 5 a1 a2 a3 a5 M hq_1) miX6_isName wd_1004 rfl (by decide) rfl (Nat.le_of_ble_eq_true rfl) rfl rfl rfl ?_
  refine r_ite (GB mtX6_isFive 2 M M) (fun h_2 => ?_) (fun h_2 => ?_)
  · have hp := hp h_2
    refine r_if_eq_f MF.bs (tgt := 32) dX6_isFive_10 (by decide) (b2i_1 h_2) ?_
    have hq_3 := hp
    refine r_aload_n MF.bs dX6_isFive_13 rfl 0 rfl ?_
    refine r_aload_n MF.bs dX6_isFive_14 rfl 0 rfl ?_
    refine r_getI MF.bs dX6_isFive_15 rfl rfl 8 (by decide) wd_883 rfl ?_
    refine r_iconst MF.bs dX6_isFive_18 (v := 3) (by decide) ?_
    refine r_iadd MF.bs dX6_isFive_19 ?_
    refine r_callV_v MF.bs (st := []) dX6_isFive_20 (ctX6_byteAt ((M 46 8) + 3) M hq_3) miX6_byteAt wd_986 rfl (by decide) rfl (Nat.le_of_ble_eq_true rfl) rfl rfl rfl ?_
    refine r_iload MF.bs dX6_isFive_23 4 rfl ?_
    refine r_ite (GB mtX6_isFive 2 M M) (fun h_4 => ?_) (fun h_4 => ?_)
    · refine r_icmp_ne_f MF.bs (tgt := 32) dX6_isFive_25 (by decide) h_4 ?_
      refine r_iconst MF.bs dX6_isFive_28 (v := 1) (by decide) ?_
      refine r_goto MF.bs dX6_isFive_29 (tgt := 33) (by decide) ?_
      exact r_zret1 dX6_isFive_33 rfl
    · refine r_icmp_ne_t MF.bs (tgt := 32) dX6_isFive_25 (by decide) h_4 ?_
      refine r_iconst MF.bs dX6_isFive_32 (v := 0) (by decide) ?_
      exact r_zret0 dX6_isFive_33 rfl
  · refine r_if_eq_t MF.bs (tgt := 32) dX6_isFive_10 (by decide) (b2i_0 h_2) ?_
    refine r_iconst MF.bs dX6_isFive_32 (v := 0) (by decide) ?_
    exact r_zret0 dX6_isFive_33 rfl
abbrev mtX6_kindHere : MT := (RX6, yX6_kindHere, cX6_kindHere, 1, (some .int))
theorem miX6_kindHere : MV mtX6_kindHere 0 := ⟨wd_1003, ⟨wd_1002, wd_33⟩, wd_86, ⟨by decide, by decide, by decide +kernel⟩, by decide⟩
def mX6_kindHere_86   (M : Mem) : Int32 := (if (mX6_isFour 109 105 115 116 M) = true then 4 else (if (mX6_isFour 104 101 97 116 M) = true then 5 else (-1)))
def PX6_kindHere_86   (M : Mem) : Prop := PX6_isFour 109 105 115 116 M ∧ ((¬ (mX6_isFour 109 105 115 116 M) = true → PX6_isFour 104 101 97 116 M))
set_option maxRecDepth 100000 in
theorem cX6_kindHere_86    (M : Mem) (hp : PX6_kindHere_86 M) : AWP (GI mtX6_kindHere 3 M M (mX6_kindHere_86 M)) mtX6_kindHere 86 [(0, .ref 46)] [] M := by
  unfold mX6_kindHere_86
  unfold PX6_kindHere_86 at hp
  obtain ⟨hq_11, hp⟩ := hp
  refine r_aload_n MF.bs dX6_kindHere_86 rfl 0 rfl ?_
  refine r_bipush MF.bs dX6_kindHere_87 (v := 109) (by decide) ?_
  refine r_bipush MF.bs dX6_kindHere_89 (v := 105) (by decide) ?_
  refine r_bipush MF.bs dX6_kindHere_91 (v := 115) (by decide) ?_
  refine r_bipush MF.bs dX6_kindHere_93 (v := 116) (by decide) ?_
  refine r_callV_v MF.bs (st := []) dX6_kindHere_95 (ctX6_isFour 109 105 115 116 M hq_11) miX6_isFour wd_1008 rfl (by decide) rfl (Nat.le_of_ble_eq_true rfl) rfl rfl rfl ?_
  refine r_ite (GI mtX6_kindHere 3 M M) (fun h_12 => ?_) (fun h_12 => ?_)
  · refine r_if_eq_f MF.bs (tgt := 103) dX6_kindHere_98 (by decide) (b2i_1 h_12) ?_
    refine r_iconst MF.bs dX6_kindHere_101 (v := 4) (by decide) ?_
    exact r_iret dX6_kindHere_102 rfl
  · have hp := hp h_12
    refine r_if_eq_t MF.bs (tgt := 103) dX6_kindHere_98 (by decide) (b2i_0 h_12) ?_
    have hq_13 := hp
    refine r_aload_n MF.bs dX6_kindHere_103 rfl 0 rfl ?_
    refine r_bipush MF.bs dX6_kindHere_104 (v := 104) (by decide) ?_
    refine r_bipush MF.bs dX6_kindHere_106 (v := 101) (by decide) ?_
    refine r_bipush MF.bs dX6_kindHere_108 (v := 97) (by decide) ?_
    refine r_bipush MF.bs dX6_kindHere_110 (v := 116) (by decide) ?_
    refine r_callV_v MF.bs (st := []) dX6_kindHere_112 (ctX6_isFour 104 101 97 116 M hq_13) miX6_isFour wd_1008 rfl (by decide) rfl (Nat.le_of_ble_eq_true rfl) rfl rfl rfl ?_
    refine r_ite (GI mtX6_kindHere 3 M M) (fun h_14 => ?_) (fun h_14 => ?_)
    · refine r_if_eq_f MF.bs (tgt := 122) dX6_kindHere_115 (by decide) (b2i_1 h_14) ?_
      refine r_iconst MF.bs dX6_kindHere_118 (v := 5) (by decide) ?_
      refine r_goto MF.bs dX6_kindHere_119 (tgt := 123) (by decide) ?_
      exact r_iret dX6_kindHere_123 rfl
    · refine r_if_eq_t MF.bs (tgt := 122) dX6_kindHere_115 (by decide) (b2i_0 h_14) ?_
      refine r_iconst MF.bs dX6_kindHere_122 (v := -1) (by decide) ?_
      exact r_iret dX6_kindHere_123 rfl
def mX6_kindHere  (M : Mem) : Int32 := (if (mX6_isName 3 97 105 114 114 M) = true then 0 else (if (mX6_isFour 114 97 105 110 M) = true then 1 else (if (mX6_isName 3 102 111 103 103 M) = true then 2 else (if (mX6_isName 7 100 114 105 101 M) = true then (if (mX6_isSame 3 122 122 108 M) = true then 3 else (mX6_kindHere_86 M)) else (mX6_kindHere_86 M)))))
def PX6_kindHere  (M : Mem) : Prop := PX6_isName 3 97 105 114 114 M ∧ ((¬ (mX6_isName 3 97 105 114 114 M) = true → PX6_isFour 114 97 105 110 M ∧ ((¬ (mX6_isFour 114 97 105 110 M) = true → PX6_isName 3 102 111 103 103 M ∧ ((¬ (mX6_isName 3 102 111 103 103 M) = true → PX6_isName 7 100 114 105 101 M ∧ ((((mX6_isName 7 100 114 105 101 M) = true → PX6_isSame 3 122 122 108 M ∧ ((¬ (mX6_isSame 3 122 122 108 M) = true → PX6_kindHere_86 M))) ∧ (¬ (mX6_isName 7 100 114 105 101 M) = true → PX6_kindHere_86 M)))))))))
set_option maxRecDepth 100000 in
theorem ctX6_kindHere   (M : Mem) (hp : PX6_kindHere M) : CT mtX6_kindHere 3 [.ref 46] M (some (.int (mX6_kindHere M)), M) := by
  refine CT.of (by decide) rfl (Nat.le_of_ble_eq_true rfl) ?_
  show AWP (GI mtX6_kindHere 3 M M (mX6_kindHere M)) mtX6_kindHere 0 [(0, .ref 46)] [] M
  unfold mX6_kindHere
  unfold PX6_kindHere at hp
  obtain ⟨hq_1, hp⟩ := hp
  refine r_aload_n MF.bs dX6_kindHere_0 rfl 0 rfl ?_
  refine r_iconst MF.bs dX6_kindHere_1 (v := 3) (by decide) ?_
  refine r_bipush MF.bs dX6_kindHere_2 (v := 97) (by decide) ?_
  refine r_bipush MF.bs dX6_kindHere_4 (v := 105) (by decide) ?_
  refine r_bipush MF.bs dX6_kindHere_6 (v := 114) (by decide) ?_
  refine r_bipush MF.bs dX6_kindHere_8 (v := 114) (by decide) ?_
  refine r_callV_v MF.bs (st := []) dX6_kindHere_10 (ctX6_isName 3 97 105 114 114 M hq_1) miX6_isName wd_1004 rfl (by decide) rfl (Nat.le_of_ble_eq_true rfl) rfl rfl rfl ?_
  refine r_ite (GI mtX6_kindHere 3 M M) (fun h_2 => ?_) (fun h_2 => ?_)
  · refine r_if_eq_f MF.bs (tgt := 18) dX6_kindHere_13 (by decide) (b2i_1 h_2) ?_
    refine r_iconst MF.bs dX6_kindHere_16 (v := 0) (by decide) ?_
    exact r_iret dX6_kindHere_17 rfl
  · have hp := hp h_2
    refine r_if_eq_t MF.bs (tgt := 18) dX6_kindHere_13 (by decide) (b2i_0 h_2) ?_
    obtain ⟨hq_3, hp⟩ := hp
    refine r_aload_n MF.bs dX6_kindHere_18 rfl 0 rfl ?_
    refine r_bipush MF.bs dX6_kindHere_19 (v := 114) (by decide) ?_
    refine r_bipush MF.bs dX6_kindHere_21 (v := 97) (by decide) ?_
    refine r_bipush MF.bs dX6_kindHere_23 (v := 105) (by decide) ?_
    refine r_bipush MF.bs dX6_kindHere_25 (v := 110) (by decide) ?_
    refine r_callV_v MF.bs (st := []) dX6_kindHere_27 (ctX6_isFour 114 97 105 110 M hq_3) miX6_isFour wd_1008 rfl (by decide) rfl (Nat.le_of_ble_eq_true rfl) rfl rfl rfl ?_
    refine r_ite (GI mtX6_kindHere 3 M M) (fun h_4 => ?_) (fun h_4 => ?_)
    · refine r_if_eq_f MF.bs (tgt := 35) dX6_kindHere_30 (by decide) (b2i_1 h_4) ?_
      refine r_iconst MF.bs dX6_kindHere_33 (v := 1) (by decide) ?_
      exact r_iret dX6_kindHere_34 rfl
    · have hp := hp h_4
      refine r_if_eq_t MF.bs (tgt := 35) dX6_kindHere_30 (by decide) (b2i_0 h_4) ?_
      obtain ⟨hq_5, hp⟩ := hp
      refine r_aload_n MF.bs dX6_kindHere_35 rfl 0 rfl ?_
      refine r_iconst MF.bs dX6_kindHere_36 (v := 3) (by decide) ?_
      refine r_bipush MF.bs dX6_kindHere_37 (v := 102) (by decide) ?_
      refine r_bipush MF.bs dX6_kindHere_39 (v := 111) (by decide) ?_
      refine r_bipush MF.bs dX6_kindHere_41 (v := 103) (by decide) ?_
      refine r_bipush MF.bs dX6_kindHere_43 (v := 103) (by decide) ?_
      refine r_callV_v MF.bs (st := []) dX6_kindHere_45 (ctX6_isName 3 102 111 103 103 M hq_5) miX6_isName wd_1004 rfl (by decide) rfl (Nat.le_of_ble_eq_true rfl) rfl rfl rfl ?_
      refine r_ite (GI mtX6_kindHere 3 M M) (fun h_6 => ?_) (fun h_6 => ?_)
      · refine r_if_eq_f MF.bs (tgt := 53) dX6_kindHere_48 (by decide) (b2i_1 h_6) ?_
        refine r_iconst MF.bs dX6_kindHere_51 (v := 2) (by decide) ?_
        exact r_iret dX6_kindHere_52 rfl
      · have hp := hp h_6
        refine r_if_eq_t MF.bs (tgt := 53) dX6_kindHere_48 (by decide) (b2i_0 h_6) ?_
        obtain ⟨hq_7, hp⟩ := hp
        refine r_aload_n MF.bs dX6_kindHere_53 rfl 0 rfl ?_
        refine r_bipush MF.bs dX6_kindHere_54 (v := 7) (by decide) ?_
        refine r_bipush MF.bs dX6_kindHere_56 (v := 100) (by decide) ?_
        refine r_bipush MF.bs dX6_kindHere_58 (v := 114) (by decide) ?_
        refine r_bipush MF.bs dX6_kindHere_60 (v := 105) (by decide) ?_
        refine r_bipush MF.bs dX6_kindHere_62 (v := 101) (by decide) ?_
        refine r_callV_v MF.bs (st := []) dX6_kindHere_64 (ctX6_isName 7 100 114 105 101 M hq_7) miX6_isName wd_1004 rfl (by decide) rfl (Nat.le_of_ble_eq_true rfl) rfl rfl rfl ?_
        refine r_ite (GI mtX6_kindHere 3 M M) (fun h_8 => ?_) (fun h_8 => ?_)
        · have hp := hp.1 h_8
          refine r_if_eq_f MF.bs (tgt := 86) dX6_kindHere_67 (by decide) (b2i_1 h_8) ?_
          obtain ⟨hq_9, hp⟩ := hp
          refine r_aload_n MF.bs dX6_kindHere_70 rfl 0 rfl ?_
          refine r_iconst MF.bs dX6_kindHere_71 (v := 3) (by decide) ?_
          refine r_bipush MF.bs dX6_kindHere_72 (v := 122) (by decide) ?_
          refine r_bipush MF.bs dX6_kindHere_74 (v := 122) (by decide) ?_
          refine r_bipush MF.bs dX6_kindHere_76 (v := 108) (by decide) ?_
          refine r_callV_v MF.bs (st := []) dX6_kindHere_78 (ctX6_isSame 3 122 122 108 M hq_9) miX6_isSame wd_1012 rfl (by decide) rfl (Nat.le_of_ble_eq_true rfl) rfl rfl rfl ?_
          refine r_ite (GI mtX6_kindHere 3 M M) (fun h_10 => ?_) (fun h_10 => ?_)
          · refine r_if_eq_f MF.bs (tgt := 86) dX6_kindHere_81 (by decide) (b2i_1 h_10) ?_
            refine r_iconst MF.bs dX6_kindHere_84 (v := 3) (by decide) ?_
            exact r_iret dX6_kindHere_85 rfl
          · have hp := hp h_10
            refine r_if_eq_t MF.bs (tgt := 86) dX6_kindHere_81 (by decide) (b2i_0 h_10) ?_
            exact cX6_kindHere_86 M hp
        · have hp := hp.2 h_8
          refine r_if_eq_t MF.bs (tgt := 86) dX6_kindHere_67 (by decide) (b2i_0 h_8) ?_
          exact cX6_kindHere_86 M hp
abbrev mtX6_numberTo : MT := (RX6, yX6_numberTo, cX6_numberTo, 5, none)
theorem miX6_numberTo : MV mtX6_numberTo 3 := ⟨wd_1039, ⟨wd_1038, wd_42⟩, wd_86, ⟨by decide, by decide, by decide +kernel⟩, by decide⟩
def mX6_numberTo_66   (v4 : Int32) (M : Mem) : Mem := (mX6_needs v4 M)
def PX6_numberTo_66   (v4 : Int32) (M : Mem) : Prop := PX6_needs v4 M
set_option maxRecDepth 100000 in
theorem cX6_numberTo_66    (M0 : Mem) (v4 : Int32) (M : Mem) (hp : PX6_numberTo_66 v4 M) : AWP (GV mtX6_numberTo 3 M0 (mX6_numberTo_66 v4 M)) mtX6_numberTo 66 [(0, .ref 46), (4, .int v4)] [] M := by
  unfold mX6_numberTo_66
  unfold PX6_numberTo_66 at hp
  have hq_8 := hp
  refine r_aload_n MF.bs dX6_numberTo_66 rfl 0 rfl ?_
  refine r_iload MF.bs dX6_numberTo_67 1 rfl ?_
  refine r_callV_n MF.bs (st := []) dX6_numberTo_69 (ctX6_needs v4 M hq_8) miX6_needs wd_1024 rfl (by decide) rfl (Nat.le_of_ble_eq_true rfl) rfl rfl rfl ?_
  exact r_vret dX6_numberTo_72 rfl
def mX6_numberTo_42   (v1 : Int32) (k0 : Int32) (M : Mem) : Mem := (if k0 = 0 then (mX6_numberTo_66 k0 M) else (if (M 46 11) = 0 then (mX6_numberTo_66 k0 (upm M 47 v1.toNatClampNeg (M 46 10))) else (mX6_numberTo_66 k0 M)))
def PX6_numberTo_42   (v1 : Int32) (k0 : Int32) (M : Mem) : Prop := ((k0 = 0 → PX6_numberTo_66 k0 M) ∧ (¬ k0 = 0 → (((M 46 11) = 0 → vp_in v1 56 ∧ (PX6_numberTo_66 k0 (upm M 47 v1.toNatClampNeg (M 46 10)))) ∧ (¬ (M 46 11) = 0 → PX6_numberTo_66 k0 M))))
set_option maxRecDepth 100000 in
theorem cX6_numberTo_42    (M0 : Mem) (v1 : Int32) (k0 : Int32) (M : Mem) (hp : PX6_numberTo_42 v1 k0 M) : AWP (GV mtX6_numberTo 3 M0 (mX6_numberTo_42 v1 k0 M)) mtX6_numberTo 42 [(0, .ref 46), (1, .int v1)] [.int k0] M := by
  unfold mX6_numberTo_42
  unfold PX6_numberTo_42 at hp
  refine r_istore MF.bs (lv' := [(4, .int k0), (0, .ref 46), (1, .int v1)]) dX6_numberTo_42 (by decide) rfl ?_
  refine r_iload MF.bs dX6_numberTo_44 0 rfl ?_
  refine r_ite (GV mtX6_numberTo 3 M0) (fun h_5 => ?_) (fun h_5 => ?_)
  · have hp := hp.1 h_5
    refine r_if_eq_t MF.bs (tgt := 66) dX6_numberTo_46 (by decide) h_5 ?_
    refine r_sub [(0, .ref 46), (4, .int k0)] [1, 0] rfl ?_
    exact cX6_numberTo_66 M0 k0 M hp
  · have hp := hp.2 h_5
    refine r_if_eq_f MF.bs (tgt := 66) dX6_numberTo_46 (by decide) h_5 ?_
    refine r_aload_n MF.bs dX6_numberTo_49 rfl 1 rfl ?_
    refine r_getI MF.bs dX6_numberTo_50 rfl rfl 11 (by decide) wd_886 rfl ?_
    refine r_ite (GV mtX6_numberTo 3 M0) (fun h_6 => ?_) (fun h_6 => ?_)
    · have hp := hp.1 h_6
      refine r_if_ne_f MF.bs (tgt := 66) dX6_numberTo_53 (by decide) h_6 ?_
      obtain ⟨hq_7, hp⟩ := hp
      refine r_aload_n MF.bs dX6_numberTo_56 rfl 1 rfl ?_
      refine r_getR MF.bs dX6_numberTo_57 rfl rfl 0 (by decide) wd_875 rfl ?_
      refine r_iload_n MF.bs dX6_numberTo_60 rfl 2 rfl ?_
      refine r_aload_n MF.bs dX6_numberTo_61 rfl 1 rfl ?_
      refine r_getI MF.bs dX6_numberTo_62 rfl rfl 10 (by decide) wd_885 rfl ?_
      refine r_iastore MF.bs dX6_numberTo_65 rfl hq_7 ?_
      refine r_sub [(0, .ref 46), (4, .int k0)] [1, 0] rfl ?_
      exact cX6_numberTo_66 M0 k0 (upm M 47 v1.toNatClampNeg (M 46 10)) hp
    · have hp := hp.2 h_6
      refine r_if_ne_t MF.bs (tgt := 66) dX6_numberTo_53 (by decide) h_6 ?_
      refine r_sub [(0, .ref 46), (4, .int k0)] [1, 0] rfl ?_
      exact cX6_numberTo_66 M0 k0 M hp
def mX6_numberTo_41   (v1 : Int32) (M : Mem) : Mem := (mX6_numberTo_42 v1 0 M)
def PX6_numberTo_41   (v1 : Int32) (M : Mem) : Prop := PX6_numberTo_42 v1 0 M
set_option maxRecDepth 100000 in
theorem cX6_numberTo_41    (M0 : Mem) (v1 : Int32) (M : Mem) (hp : PX6_numberTo_41 v1 M) : AWP (GV mtX6_numberTo 3 M0 (mX6_numberTo_41 v1 M)) mtX6_numberTo 41 [(0, .ref 46), (1, .int v1)] [] M := by
  unfold mX6_numberTo_41
  unfold PX6_numberTo_41 at hp
  refine r_iconst MF.bs dX6_numberTo_41 (v := 0) (by decide) ?_
  exact cX6_numberTo_42 M0 v1 0 M hp
def mX6_numberTo  (a1 : Int32) (a2 : Int32) (a3 : Int32) (M : Mem) : Mem := (if (M 46 7) = 2 then (if 3 < ((M 46 9) - (M 46 8)) then (mX6_numberTo_41 a1 M) else (if (M 46 10) < a2 then (mX6_numberTo_41 a1 M) else (if a3 < (M 46 10) then (mX6_numberTo_41 a1 M) else (mX6_numberTo_42 a1 1 M)))) else (mX6_numberTo_41 a1 M))
def PX6_numberTo  (a1 : Int32) (a2 : Int32) (a3 : Int32) (M : Mem) : Prop := (((M 46 7) = 2 → ((3 < ((M 46 9) - (M 46 8)) → PX6_numberTo_41 a1 M) ∧ (¬ 3 < ((M 46 9) - (M 46 8)) → (((M 46 10) < a2 → PX6_numberTo_41 a1 M) ∧ (¬ (M 46 10) < a2 → ((a3 < (M 46 10) → PX6_numberTo_41 a1 M) ∧ (¬ a3 < (M 46 10) → PX6_numberTo_42 a1 1 M))))))) ∧ (¬ (M 46 7) = 2 → PX6_numberTo_41 a1 M))
set_option maxRecDepth 100000 in
theorem ctX6_numberTo   (a1 : Int32) (a2 : Int32) (a3 : Int32) (M : Mem) (hp : PX6_numberTo a1 a2 a3 M) : CT mtX6_numberTo 3 [.ref 46, .int a1, .int a2, .int a3] M (none, mX6_numberTo a1 a2 a3 M) := by
  refine CT.of (by decide) rfl (Nat.le_of_ble_eq_true rfl) ?_
  show AWP (GV mtX6_numberTo 3 M (mX6_numberTo a1 a2 a3 M)) mtX6_numberTo 0 [(0, .ref 46), (1, .int a1), (2, .int a2), (3, .int a3)] [] M
  unfold mX6_numberTo
  unfold PX6_numberTo at hp
  refine r_aload_n MF.bs dX6_numberTo_0 rfl 0 rfl ?_
  refine r_getI MF.bs dX6_numberTo_1 rfl rfl 7 (by decide) wd_882 rfl ?_
  refine r_iconst MF.bs dX6_numberTo_4 (v := 2) (by decide) ?_
  refine r_ite (GV mtX6_numberTo 3 M) (fun h_1 => ?_) (fun h_1 => ?_)
  · have hp := hp.1 h_1
    refine r_icmp_ne_f MF.bs (tgt := 41) dX6_numberTo_5 (by decide) h_1 ?_
    refine r_aload_n MF.bs dX6_numberTo_8 rfl 0 rfl ?_
    refine r_getI MF.bs dX6_numberTo_9 rfl rfl 9 (by decide) wd_884 rfl ?_
    refine r_aload_n MF.bs dX6_numberTo_12 rfl 0 rfl ?_
    refine r_getI MF.bs dX6_numberTo_13 rfl rfl 8 (by decide) wd_883 rfl ?_
    refine r_isub MF.bs dX6_numberTo_16 ?_
    refine r_iconst MF.bs dX6_numberTo_17 (v := 3) (by decide) ?_
    refine r_ite (GV mtX6_numberTo 3 M) (fun h_2 => ?_) (fun h_2 => ?_)
    · have hp := hp.1 h_2
      refine r_icmp_gt_t MF.bs (tgt := 41) dX6_numberTo_18 (by decide) h_2 ?_
      refine r_sub [(0, .ref 46), (1, .int a1)] [0, 1] rfl ?_
      exact cX6_numberTo_41 M a1 M hp
    · have hp := hp.2 h_2
      refine r_icmp_gt_f MF.bs (tgt := 41) dX6_numberTo_18 (by decide) h_2 ?_
      refine r_aload_n MF.bs dX6_numberTo_21 rfl 0 rfl ?_
      refine r_getI MF.bs dX6_numberTo_22 rfl rfl 10 (by decide) wd_885 rfl ?_
      refine r_iload_n MF.bs dX6_numberTo_25 rfl 2 rfl ?_
      refine r_ite (GV mtX6_numberTo 3 M) (fun h_3 => ?_) (fun h_3 => ?_)
      · have hp := hp.1 h_3
        refine r_icmp_lt_t MF.bs (tgt := 41) dX6_numberTo_26 (by decide) h_3 ?_
        refine r_sub [(0, .ref 46), (1, .int a1)] [0, 1] rfl ?_
        exact cX6_numberTo_41 M a1 M hp
      · have hp := hp.2 h_3
        refine r_icmp_lt_f MF.bs (tgt := 41) dX6_numberTo_26 (by decide) h_3 ?_
        refine r_aload_n MF.bs dX6_numberTo_29 rfl 0 rfl ?_
        refine r_getI MF.bs dX6_numberTo_30 rfl rfl 10 (by decide) wd_885 rfl ?_
        refine r_iload_n MF.bs dX6_numberTo_33 rfl 3 rfl ?_
        refine r_ite (GV mtX6_numberTo 3 M) (fun h_4 => ?_) (fun h_4 => ?_)
        · have hp := hp.1 h_4
          refine r_icmp_gt_t MF.bs (tgt := 41) dX6_numberTo_34 (by decide) h_4 ?_
          refine r_sub [(0, .ref 46), (1, .int a1)] [0, 1] rfl ?_
          exact cX6_numberTo_41 M a1 M hp
        · have hp := hp.2 h_4
          refine r_icmp_gt_f MF.bs (tgt := 41) dX6_numberTo_34 (by decide) h_4 ?_
          refine r_iconst MF.bs dX6_numberTo_37 (v := 1) (by decide) ?_
          refine r_goto MF.bs dX6_numberTo_38 (tgt := 42) (by decide) ?_
          refine r_sub [(0, .ref 46), (1, .int a1)] [0, 1] rfl ?_
          exact cX6_numberTo_42 M a1 1 M hp
  · have hp := hp.2 h_1
    refine r_icmp_ne_t MF.bs (tgt := 41) dX6_numberTo_5 (by decide) h_1 ?_
    refine r_sub [(0, .ref 46), (1, .int a1)] [0, 1] rfl ?_
    exact cX6_numberTo_41 M a1 M hp
abbrev mtX6_perhaps : MT := (RX6, yX6_perhaps, cX6_perhaps, 4, none)
theorem miX6_perhaps : MV mtX6_perhaps 3 := ⟨wd_1047, ⟨wd_1046, wd_44⟩, wd_86, ⟨by decide, by decide, by decide +kernel⟩, by decide⟩
def mX6_perhaps_15   (v2 : Int32) (v3 : Int32) (M : Mem) : Mem := (mX6_numberTo v2 0 v3 M)
def PX6_perhaps_15   (v2 : Int32) (v3 : Int32) (M : Mem) : Prop := PX6_numberTo v2 0 v3 M
set_option maxRecDepth 100000 in
theorem cX6_perhaps_15    (M0 : Mem) (v2 : Int32) (v3 : Int32) (M : Mem) (hp : PX6_perhaps_15 v2 v3 M) : AWP (GV mtX6_perhaps 4 M0 (mX6_perhaps_15 v2 v3 M)) mtX6_perhaps 15 [(0, .ref 46), (2, .int v2), (3, .int v3)] [] M := by
  unfold mX6_perhaps_15
  unfold PX6_perhaps_15 at hp
  have hq_4 := hp
  refine r_aload_n MF.bs dX6_perhaps_15 rfl 0 rfl ?_
  refine r_iload_n MF.bs dX6_perhaps_16 rfl 1 rfl ?_
  refine r_iconst MF.bs dX6_perhaps_17 (v := 0) (by decide) ?_
  refine r_iload_n MF.bs dX6_perhaps_18 rfl 2 rfl ?_
  refine r_callV_n MF.bs (st := []) dX6_perhaps_19 (ctX6_numberTo v2 0 v3 M hq_4) miX6_numberTo wd_1036 rfl (by decide) rfl (Nat.le_of_ble_eq_true rfl) rfl rfl rfl ?_
  exact r_vret dX6_perhaps_22 rfl
def mX6_perhaps  (a1 : Int32) (a2 : Int32) (a3 : Int32) (M : Mem) : Mem := (if (M 46 11) = 0 then (if a1 = 0 then M else (mX6_perhaps_15 a2 a3 (mX6_nextToken M))) else M)
def PX6_perhaps  (a1 : Int32) (a2 : Int32) (a3 : Int32) (M : Mem) : Prop := ((M 46 11) = 0 → (¬ a1 = 0 → PX6_nextToken M ∧ (PX6_perhaps_15 a2 a3 (mX6_nextToken M))))
set_option maxRecDepth 100000 in
theorem ctX6_perhaps   (a1 : Int32) (a2 : Int32) (a3 : Int32) (M : Mem) (hp : PX6_perhaps a1 a2 a3 M) : CT mtX6_perhaps 4 [.ref 46, .int a1, .int a2, .int a3] M (none, mX6_perhaps a1 a2 a3 M) := by
  refine CT.of (by decide) rfl (Nat.le_of_ble_eq_true rfl) ?_
  show AWP (GV mtX6_perhaps 4 M (mX6_perhaps a1 a2 a3 M)) mtX6_perhaps 0 [(0, .ref 46), (1, .int a1), (2, .int a2), (3, .int a3)] [] M
  unfold mX6_perhaps
  unfold PX6_perhaps at hp
  refine r_aload_n MF.bs dX6_perhaps_0 rfl 0 rfl ?_
  refine r_getI MF.bs dX6_perhaps_1 rfl rfl 11 (by decide) wd_886 rfl ?_
  refine r_ite (GV mtX6_perhaps 4 M) (fun h_1 => ?_) (fun h_1 => ?_)
  · have hp := hp h_1
    refine r_if_ne_f MF.bs (tgt := 22) dX6_perhaps_4 (by decide) h_1 ?_
    refine r_iload_n MF.bs dX6_perhaps_7 rfl 1 rfl ?_
    refine r_ite (GV mtX6_perhaps 4 M) (fun h_2 => ?_) (fun h_2 => ?_)
    · refine r_if_eq_t MF.bs (tgt := 22) dX6_perhaps_8 (by decide) h_2 ?_
      exact r_vret dX6_perhaps_22 rfl
    · have hp := hp h_2
      refine r_if_eq_f MF.bs (tgt := 22) dX6_perhaps_8 (by decide) h_2 ?_
      obtain ⟨hq_3, hp⟩ := hp
      refine r_aload_n MF.bs dX6_perhaps_11 rfl 0 rfl ?_
      refine r_callV_n MF.bs (st := []) dX6_perhaps_12 (ctX6_nextToken M hq_3) miX6_nextToken wd_982 rfl (by decide) rfl (Nat.le_of_ble_eq_true rfl) rfl rfl rfl ?_
      refine r_sub [(0, .ref 46), (2, .int a2), (3, .int a3)] [0, 2, 3] rfl ?_
      exact cX6_perhaps_15 M a2 a3 (mX6_nextToken M) hp
  · refine r_if_ne_t MF.bs (tgt := 22) dX6_perhaps_4 (by decide) h_1 ?_
    exact r_vret dX6_perhaps_22 rfl
abbrev mtX6_isTwo : MT := (RX6, yX6_isTwo, cX6_isTwo, 3, (some .boolean))
theorem miX6_isTwo : MV mtX6_isTwo 2 := ⟨wd_1031, ⟨wd_1030, wd_40⟩, wd_86, ⟨by decide, by decide, by decide +kernel⟩, by decide⟩
def mX6_isTwo  (a1 : Int32) (a2 : Int32) (M : Mem) : Bool := (if (M 46 7) = 1 then (if ((M 46 9) - (M 46 8)) = 2 then (if (mX6_byteAt (M 46 8) M) = a1 then (if (mX6_byteAt ((M 46 8) + 1) M) = a2 then true else false) else false) else false) else false)
def PX6_isTwo  (a1 : Int32) (a2 : Int32) (M : Mem) : Prop := ((M 46 7) = 1 → (((M 46 9) - (M 46 8)) = 2 → PX6_byteAt (M 46 8) M ∧ (((mX6_byteAt (M 46 8) M) = a1 → PX6_byteAt ((M 46 8) + 1) M))))
set_option maxRecDepth 100000 in
theorem ctX6_isTwo   (a1 : Int32) (a2 : Int32) (M : Mem) (hp : PX6_isTwo a1 a2 M) : CT mtX6_isTwo 1 [.ref 46, .int a1, .int a2] M (some (.int (b2i (mX6_isTwo a1 a2 M))), M) := by
  refine CT.of (by decide) rfl (Nat.le_of_ble_eq_true rfl) ?_
  show AWP (GB mtX6_isTwo 1 M M (mX6_isTwo a1 a2 M)) mtX6_isTwo 0 [(0, .ref 46), (1, .int a1), (2, .int a2)] [] M
  unfold mX6_isTwo
  unfold PX6_isTwo at hp
  refine r_aload_n MF.bs dX6_isTwo_0 rfl 0 rfl ?_
  refine r_getI MF.bs dX6_isTwo_1 rfl rfl 7 (by decide) wd_882 rfl ?_
  refine r_iconst MF.bs dX6_isTwo_4 (v := 1) (by decide) ?_
  refine r_ite (GB mtX6_isTwo 1 M M) (fun h_1 => ?_) (fun h_1 => ?_)
  · have hp := hp h_1
    refine r_icmp_ne_f MF.bs (tgt := 51) dX6_isTwo_5 (by decide) h_1 ?_
    refine r_aload_n MF.bs dX6_isTwo_8 rfl 0 rfl ?_
    refine r_getI MF.bs dX6_isTwo_9 rfl rfl 9 (by decide) wd_884 rfl ?_
    refine r_aload_n MF.bs dX6_isTwo_12 rfl 0 rfl ?_
    refine r_getI MF.bs dX6_isTwo_13 rfl rfl 8 (by decide) wd_883 rfl ?_
    refine r_isub MF.bs dX6_isTwo_16 ?_
    refine r_iconst MF.bs dX6_isTwo_17 (v := 2) (by decide) ?_
    refine r_ite (GB mtX6_isTwo 1 M M) (fun h_2 => ?_) (fun h_2 => ?_)
    · have hp := hp h_2
      refine r_icmp_ne_f MF.bs (tgt := 51) dX6_isTwo_18 (by decide) h_2 ?_
      obtain ⟨hq_3, hp⟩ := hp
      refine r_aload_n MF.bs dX6_isTwo_21 rfl 0 rfl ?_
      refine r_aload_n MF.bs dX6_isTwo_22 rfl 0 rfl ?_
      refine r_getI MF.bs dX6_isTwo_23 rfl rfl 8 (by decide) wd_883 rfl ?_
      refine r_callV_v MF.bs (st := []) dX6_isTwo_26 (ctX6_byteAt (M 46 8) M hq_3) miX6_byteAt wd_986 rfl (by decide) rfl (Nat.le_of_ble_eq_true rfl) rfl rfl rfl ?_
      refine r_iload_n MF.bs dX6_isTwo_29 rfl 1 rfl ?_
      refine r_ite (GB mtX6_isTwo 1 M M) (fun h_4 => ?_) (fun h_4 => ?_)
      · have hp := hp h_4
        refine r_icmp_ne_f MF.bs (tgt := 51) dX6_isTwo_30 (by decide) h_4 ?_
        have hq_5 := hp
        refine r_aload_n MF.bs dX6_isTwo_33 rfl 0 rfl ?_
        refine r_aload_n MF.bs dX6_isTwo_34 rfl 0 rfl ?_
        refine r_getI MF.bs dX6_isTwo_35 rfl rfl 8 (by decide) wd_883 rfl ?_
        refine r_iconst MF.bs dX6_isTwo_38 (v := 1) (by decide) ?_
        refine r_iadd MF.bs dX6_isTwo_39 ?_
        refine r_callV_v MF.bs (st := []) dX6_isTwo_40 (ctX6_byteAt ((M 46 8) + 1) M hq_5) miX6_byteAt wd_986 rfl (by decide) rfl (Nat.le_of_ble_eq_true rfl) rfl rfl rfl ?_
        refine r_iload_n MF.bs dX6_isTwo_43 rfl 2 rfl ?_
        refine r_ite (GB mtX6_isTwo 1 M M) (fun h_6 => ?_) (fun h_6 => ?_)
        · refine r_icmp_ne_f MF.bs (tgt := 51) dX6_isTwo_44 (by decide) h_6 ?_
          refine r_iconst MF.bs dX6_isTwo_47 (v := 1) (by decide) ?_
          refine r_goto MF.bs dX6_isTwo_48 (tgt := 52) (by decide) ?_
          exact r_zret1 dX6_isTwo_52 rfl
        · refine r_icmp_ne_t MF.bs (tgt := 51) dX6_isTwo_44 (by decide) h_6 ?_
          refine r_iconst MF.bs dX6_isTwo_51 (v := 0) (by decide) ?_
          exact r_zret0 dX6_isTwo_52 rfl
      · refine r_icmp_ne_t MF.bs (tgt := 51) dX6_isTwo_30 (by decide) h_4 ?_
        refine r_iconst MF.bs dX6_isTwo_51 (v := 0) (by decide) ?_
        exact r_zret0 dX6_isTwo_52 rfl
    · refine r_icmp_ne_t MF.bs (tgt := 51) dX6_isTwo_18 (by decide) h_2 ?_
      refine r_iconst MF.bs dX6_isTwo_51 (v := 0) (by decide) ?_
      exact r_zret0 dX6_isTwo_52 rfl
  · refine r_icmp_ne_t MF.bs (tgt := 51) dX6_isTwo_5 (by decide) h_1 ?_
    refine r_iconst MF.bs dX6_isTwo_51 (v := 0) (by decide) ?_
    exact r_zret0 dX6_isTwo_52 rfl
abbrev mtX6_comes : MT := (RX6, yX6_comes, cX6_comes, 6, none)
theorem miX6_comes : MV mtX6_comes 4 := ⟨wd_1035, ⟨wd_1034, wd_41⟩, wd_86, ⟨by decide, by decide, by decide +kernel⟩, by decide⟩
def mX6_comes  (a1 : Int32) (a2 : Int32) (a3 : Int32) (a4 : Int32) (M : Mem) : Mem := (upm (upm (upm (upm (upm M 47 (24 + (4 * (M 47 0))).toNatClampNeg a1) 47 ((24 + (4 * (M 47 0))) + 1).toNatClampNeg a2) 47 ((24 + (4 * (M 47 0))) + 2).toNatClampNeg a3) 47 ((24 + (4 * (M 47 0))) + 3).toNatClampNeg a4) 47 0 (((upm (upm (upm (upm M 47 (24 + (4 * (M 47 0))).toNatClampNeg a1) 47 ((24 + (4 * (M 47 0))) + 1).toNatClampNeg a2) 47 ((24 + (4 * (M 47 0))) + 2).toNatClampNeg a3) 47 ((24 + (4 * (M 47 0))) + 3).toNatClampNeg a4) 47 0) + 1))
def PX6_comes  (a1 : Int32) (a2 : Int32) (a3 : Int32) (a4 : Int32) (M : Mem) : Prop := vp_in (24 + (4 * (M 47 0))) 56 ∧ (vp_in ((24 + (4 * (M 47 0))) + 1) 56 ∧ (vp_in ((24 + (4 * (M 47 0))) + 2) 56 ∧ (vp_in ((24 + (4 * (M 47 0))) + 3) 56)))
set_option maxRecDepth 100000 in
theorem ctX6_comes   (a1 : Int32) (a2 : Int32) (a3 : Int32) (a4 : Int32) (M : Mem) (hp : PX6_comes a1 a2 a3 a4 M) : CT mtX6_comes 0 [.ref 46, .int a1, .int a2, .int a3, .int a4] M (none, mX6_comes a1 a2 a3 a4 M) := by
  refine CT.of (by decide) rfl (Nat.le_of_ble_eq_true rfl) ?_
  show AWP (GV mtX6_comes 0 M (mX6_comes a1 a2 a3 a4 M)) mtX6_comes 0 [(0, .ref 46), (1, .int a1), (2, .int a2), (3, .int a3), (4, .int a4)] [] M
  unfold mX6_comes
  unfold PX6_comes at hp
  obtain ⟨hq_1, hp⟩ := hp
  obtain ⟨hq_2, hp⟩ := hp
  obtain ⟨hq_3, hp⟩ := hp
  have hq_4 := hp
  refine r_bipush MF.bs dX6_comes_0 (v := 24) (by decide) ?_
  refine r_iconst MF.bs dX6_comes_2 (v := 4) (by decide) ?_
  refine r_aload_n MF.bs dX6_comes_3 rfl 0 rfl ?_
  refine r_getR MF.bs dX6_comes_4 rfl rfl 0 (by decide) wd_875 rfl ?_
  refine r_iconst MF.bs dX6_comes_7 (v := 0) (by decide) ?_
  refine r_ialoadL MF.bs dX6_comes_8 rfl (vin_l (by decide) (by decide)) (k9 := 0) (by decide) ?_
  refine r_imul MF.bs dX6_comes_9 ?_
  refine r_iadd MF.bs dX6_comes_10 ?_
  refine r_istore MF.bs (lv' := [(5, .int (24 + (4 * (M 47 0)))), (0, .ref 46), (1, .int a1), (2, .int a2), (3, .int a3), (4, .int a4)]) dX6_comes_11 (by decide) rfl ?_
  refine r_aload_n MF.bs dX6_comes_13 rfl 1 rfl ?_
  refine r_getR MF.bs dX6_comes_14 rfl rfl 0 (by decide) wd_875 rfl ?_
  refine r_iload MF.bs dX6_comes_17 0 rfl ?_
  refine r_iload_n MF.bs dX6_comes_19 rfl 2 rfl ?_
  refine r_iastore MF.bs dX6_comes_20 rfl hq_1 ?_
  refine r_aload_n MF.bs dX6_comes_21 rfl 1 rfl ?_
  refine r_getR MF.bs dX6_comes_22 rfl rfl 0 (by decide) wd_875 rfl ?_
  refine r_iload MF.bs dX6_comes_25 0 rfl ?_
  refine r_iconst MF.bs dX6_comes_27 (v := 1) (by decide) ?_
  refine r_iadd MF.bs dX6_comes_28 ?_
  refine r_iload_n MF.bs dX6_comes_29 rfl 3 rfl ?_
  refine r_iastore MF.bs dX6_comes_30 rfl hq_2 ?_
  refine r_aload_n MF.bs dX6_comes_31 rfl 1 rfl ?_
  refine r_getR MF.bs dX6_comes_32 rfl rfl 0 (by decide) wd_875 rfl ?_
  refine r_iload MF.bs dX6_comes_35 0 rfl ?_
  refine r_iconst MF.bs dX6_comes_37 (v := 2) (by decide) ?_
  refine r_iadd MF.bs dX6_comes_38 ?_
  refine r_iload_n MF.bs dX6_comes_39 rfl 4 rfl ?_
  refine r_iastore MF.bs dX6_comes_40 rfl hq_3 ?_
  refine r_aload_n MF.bs dX6_comes_41 rfl 1 rfl ?_
  refine r_getR MF.bs dX6_comes_42 rfl rfl 0 (by decide) wd_875 rfl ?_
  refine r_iload MF.bs dX6_comes_45 0 rfl ?_
  refine r_iconst MF.bs dX6_comes_47 (v := 3) (by decide) ?_
  refine r_iadd MF.bs dX6_comes_48 ?_
  refine r_iload MF.bs dX6_comes_49 5 rfl ?_
  refine r_iastore MF.bs dX6_comes_51 rfl hq_4 ?_
  refine r_aload_n MF.bs dX6_comes_52 rfl 1 rfl ?_
  refine r_getR MF.bs dX6_comes_53 rfl rfl 0 (by decide) wd_875 rfl ?_
  refine r_iconst MF.bs dX6_comes_56 (v := 0) (by decide) ?_
  refine r_dup2 MF.bs dX6_comes_57 rfl rfl ?_
  refine r_ialoadL MF.bs dX6_comes_58 rfl (vin_l (by decide) (by decide)) (k9 := 0) (by decide) ?_
  refine r_iconst MF.bs dX6_comes_59 (v := 1) (by decide) ?_
  refine r_iadd MF.bs dX6_comes_60 ?_
  refine r_iastoreL MF.bs dX6_comes_61 rfl (vin_l (by decide) (by decide)) (k9 := 0) (by decide) ?_
  exact r_vret dX6_comes_62 rfl
abbrev mtX6_airHere : MT := (RX6, yX6_airHere, cX6_airHere, 3, none)
theorem miX6_airHere : MV mtX6_airHere 1 := ⟨wd_1023, ⟨wd_1022, wd_38⟩, wd_86, ⟨by decide, by decide, by decide +kernel⟩, by decide⟩
def mX6_airHere_140   (v2 : Int32) (k0 : Int32) (M : Mem) : Mem := (mX6_perhaps k0 (v2 + 2) 15 M)
def PX6_airHere_140   (v2 : Int32) (k0 : Int32) (M : Mem) : Prop := PX6_perhaps k0 (v2 + 2) 15 M
set_option maxRecDepth 100000 in
theorem cX6_airHere_140    (M0 : Mem) (v2 : Int32) (k0 : Int32) (M : Mem) (hp : PX6_airHere_140 v2 k0 M) : AWP (GV mtX6_airHere 5 M0 (mX6_airHere_140 v2 k0 M)) mtX6_airHere 140 [(2, .int v2)] [.int k0, .ref 46] M := by
  unfold mX6_airHere_140
  unfold PX6_airHere_140 at hp
  have hq_15 := hp
  refine r_iload_n MF.bs dX6_airHere_140 rfl 0 rfl ?_
  refine r_iconst MF.bs dX6_airHere_141 (v := 2) (by decide) ?_
  refine r_iadd MF.bs dX6_airHere_142 ?_
  refine r_bipush MF.bs dX6_airHere_143 (v := 15) (by decide) ?_
  refine r_callV_n MF.bs (st := []) dX6_airHere_145 (ctX6_perhaps k0 (v2 + 2) 15 M hq_15) miX6_perhaps wd_1044 rfl (by decide) rfl (Nat.le_of_ble_eq_true rfl) rfl rfl rfl ?_
  exact r_vret dX6_airHere_148 rfl
def mX6_airHere_139   (v2 : Int32) (M : Mem) : Mem := (mX6_airHere_140 v2 0 M)
def PX6_airHere_139   (v2 : Int32) (M : Mem) : Prop := PX6_airHere_140 v2 0 M
set_option maxRecDepth 100000 in
theorem cX6_airHere_139    (M0 : Mem) (v2 : Int32) (M : Mem) (hp : PX6_airHere_139 v2 M) : AWP (GV mtX6_airHere 5 M0 (mX6_airHere_139 v2 M)) mtX6_airHere 139 [(2, .int v2)] [.ref 46] M := by
  unfold mX6_airHere_139
  unfold PX6_airHere_139 at hp
  refine r_iconst MF.bs dX6_airHere_139 (v := 0) (by decide) ?_
  exact cX6_airHere_140 M0 v2 0 M hp
def mX6_airHere_103   (v2 : Int32) (M : Mem) : Mem := (if (mX6_isName 6 101 114 114 100 M) = true then (if (mX6_isSame 2 114 97 110 M) = true then (mX6_airHere_140 v2 1 M) else (mX6_airHere_139 v2 M)) else (mX6_airHere_139 v2 M))
def PX6_airHere_103   (v2 : Int32) (M : Mem) : Prop := PX6_isName 6 101 114 114 100 M ∧ ((((mX6_isName 6 101 114 114 100 M) = true → PX6_isSame 2 114 97 110 M ∧ ((((mX6_isSame 2 114 97 110 M) = true → PX6_airHere_140 v2 1 M) ∧ (¬ (mX6_isSame 2 114 97 110 M) = true → PX6_airHere_139 v2 M)))) ∧ (¬ (mX6_isName 6 101 114 114 100 M) = true → PX6_airHere_139 v2 M)))
set_option maxRecDepth 100000 in
theorem cX6_airHere_103    (M0 : Mem) (v2 : Int32) (M : Mem) (hp : PX6_airHere_103 v2 M) : AWP (GV mtX6_airHere 5 M0 (mX6_airHere_103 v2 M)) mtX6_airHere 103 [(0, .ref 46), (2, .int v2)] [] M := by
  unfold mX6_airHere_103
  unfold PX6_airHere_103 at hp
  obtain ⟨hq_11, hp⟩ := hp
  refine r_aload_n MF.bs dX6_airHere_103 rfl 0 rfl ?_
  refine r_aload_n MF.bs dX6_airHere_104 rfl 0 rfl ?_
  refine r_bipush MF.bs dX6_airHere_105 (v := 6) (by decide) ?_
  refine r_bipush MF.bs dX6_airHere_107 (v := 101) (by decide) ?_
  refine r_bipush MF.bs dX6_airHere_109 (v := 114) (by decide) ?_
  refine r_bipush MF.bs dX6_airHere_111 (v := 114) (by decide) ?_
  refine r_bipush MF.bs dX6_airHere_113 (v := 100) (by decide) ?_
  refine r_callV_v MF.bs (st := [.ref 46]) dX6_airHere_115 (ctX6_isName 6 101 114 114 100 M hq_11) miX6_isName wd_1004 rfl (by decide) rfl (Nat.le_of_ble_eq_true rfl) rfl rfl rfl ?_
  refine r_ite (GV mtX6_airHere 5 M0) (fun h_12 => ?_) (fun h_12 => ?_)
  · have hp := hp.1 h_12
    refine r_if_eq_f MF.bs (tgt := 139) dX6_airHere_118 (by decide) (b2i_1 h_12) ?_
    obtain ⟨hq_13, hp⟩ := hp
    refine r_aload_n MF.bs dX6_airHere_121 rfl 0 rfl ?_
    refine r_iconst MF.bs dX6_airHere_122 (v := 2) (by decide) ?_
    refine r_bipush MF.bs dX6_airHere_123 (v := 114) (by decide) ?_
    refine r_bipush MF.bs dX6_airHere_125 (v := 97) (by decide) ?_
    refine r_bipush MF.bs dX6_airHere_127 (v := 110) (by decide) ?_
    refine r_callV_v MF.bs (st := [.ref 46]) dX6_airHere_129 (ctX6_isSame 2 114 97 110 M hq_13) miX6_isSame wd_1012 rfl (by decide) rfl (Nat.le_of_ble_eq_true rfl) rfl rfl rfl ?_
    refine r_ite (GV mtX6_airHere 5 M0) (fun h_14 => ?_) (fun h_14 => ?_)
    · have hp := hp.1 h_14
      refine r_if_eq_f MF.bs (tgt := 139) dX6_airHere_132 (by decide) (b2i_1 h_14) ?_
      refine r_iconst MF.bs dX6_airHere_135 (v := 1) (by decide) ?_
      refine r_goto MF.bs dX6_airHere_136 (tgt := 140) (by decide) ?_
      refine r_sub [(2, .int v2)] [1] rfl ?_
      exact cX6_airHere_140 M0 v2 1 M hp
    · have hp := hp.2 h_14
      refine r_if_eq_t MF.bs (tgt := 139) dX6_airHere_132 (by decide) (b2i_0 h_14) ?_
      refine r_sub [(2, .int v2)] [1] rfl ?_
      exact cX6_airHere_139 M0 v2 M hp
  · have hp := hp.2 h_12
    refine r_if_eq_t MF.bs (tgt := 139) dX6_airHere_118 (by decide) (b2i_0 h_12) ?_
    refine r_sub [(2, .int v2)] [1] rfl ?_
    exact cX6_airHere_139 M0 v2 M hp
def mX6_airHere_80   (v2 : Int32) (M : Mem) : Mem := (mX6_airHere_103 v2 (mX6_perhaps (b2i (mX6_isFive 102 111 114 99 101 M)) (v2 + 1) 9 M))
def PX6_airHere_80   (v2 : Int32) (M : Mem) : Prop := PX6_isFive 102 111 114 99 101 M ∧ (PX6_perhaps (b2i (mX6_isFive 102 111 114 99 101 M)) (v2 + 1) 9 M ∧ (PX6_airHere_103 v2 (mX6_perhaps (b2i (mX6_isFive 102 111 114 99 101 M)) (v2 + 1) 9 M)))
set_option maxRecDepth 100000 in
theorem cX6_airHere_80    (M0 : Mem) (v2 : Int32) (M : Mem) (hp : PX6_airHere_80 v2 M) : AWP (GV mtX6_airHere 5 M0 (mX6_airHere_80 v2 M)) mtX6_airHere 80 [(0, .ref 46), (2, .int v2)] [] M := by
  unfold mX6_airHere_80
  unfold PX6_airHere_80 at hp
  obtain ⟨hq_9, hp⟩ := hp
  obtain ⟨hq_10, hp⟩ := hp
  refine r_aload_n MF.bs dX6_airHere_80 rfl 0 rfl ?_
  refine r_aload_n MF.bs dX6_airHere_81 rfl 0 rfl ?_
  refine r_bipush MF.bs dX6_airHere_82 (v := 102) (by decide) ?_
  refine r_bipush MF.bs dX6_airHere_84 (v := 111) (by decide) ?_
  refine r_bipush MF.bs dX6_airHere_86 (v := 114) (by decide) ?_
  refine r_bipush MF.bs dX6_airHere_88 (v := 99) (by decide) ?_
  refine r_bipush MF.bs dX6_airHere_90 (v := 101) (by decide) ?_
  refine r_callV_v MF.bs (st := [.ref 46]) dX6_airHere_92 (ctX6_isFive 102 111 114 99 101 M hq_9) miX6_isFive wd_1040 rfl (by decide) rfl (Nat.le_of_ble_eq_true rfl) rfl rfl rfl ?_
  refine r_iload_n MF.bs dX6_airHere_95 rfl 1 rfl ?_
  refine r_iconst MF.bs dX6_airHere_96 (v := 1) (by decide) ?_
  refine r_iadd MF.bs dX6_airHere_97 ?_
  refine r_bipush MF.bs dX6_airHere_98 (v := 9) (by decide) ?_
  refine r_callV_n MF.bs (st := []) dX6_airHere_100 (ctX6_perhaps (b2i (mX6_isFive 102 111 114 99 101 M)) (v2 + 1) 9 M hq_10) miX6_perhaps wd_1044 rfl (by decide) rfl (Nat.le_of_ble_eq_true rfl) rfl rfl rfl ?_
  exact cX6_airHere_103 M0 v2 (mX6_perhaps (b2i (mX6_isFive 102 111 114 99 101 M)) (v2 + 1) 9 M) hp
def mX6_airHere_74   (v2 : Int32) (k0 : Int32) (M : Mem) : Mem := (mX6_airHere_80 v2 (mX6_numberTo k0 0 15 M))
def PX6_airHere_74   (v2 : Int32) (k0 : Int32) (M : Mem) : Prop := PX6_numberTo k0 0 15 M ∧ (PX6_airHere_80 v2 (mX6_numberTo k0 0 15 M))
set_option maxRecDepth 100000 in
theorem cX6_airHere_74    (M0 : Mem) (v2 : Int32) (k0 : Int32) (M : Mem) (hp : PX6_airHere_74 v2 k0 M) : AWP (GV mtX6_airHere 5 M0 (mX6_airHere_74 v2 k0 M)) mtX6_airHere 74 [(0, .ref 46), (2, .int v2)] [.int k0, .ref 46] M := by
  unfold mX6_airHere_74
  unfold PX6_airHere_74 at hp
  obtain ⟨hq_8, hp⟩ := hp
  refine r_iconst MF.bs dX6_airHere_74 (v := 0) (by decide) ?_
  refine r_bipush MF.bs dX6_airHere_75 (v := 15) (by decide) ?_
  refine r_callV_n MF.bs (st := []) dX6_airHere_77 (ctX6_numberTo k0 0 15 M hq_8) miX6_numberTo wd_1036 rfl (by decide) rfl (Nat.le_of_ble_eq_true rfl) rfl rfl rfl ?_
  exact cX6_airHere_80 M0 v2 (mX6_numberTo k0 0 15 M) hp
def mX6_airHere_59   (v2 : Int32) (M : Mem) : Mem := (if (M 46 11) = 0 then (mX6_airHere_74 v2 (v2 + 3) M) else (mX6_airHere_74 v2 0 M))
def PX6_airHere_59   (v2 : Int32) (M : Mem) : Prop := (((M 46 11) = 0 → PX6_airHere_74 v2 (v2 + 3) M) ∧ (¬ (M 46 11) = 0 → PX6_airHere_74 v2 0 M))
set_option maxRecDepth 100000 in
theorem cX6_airHere_59    (M0 : Mem) (v2 : Int32) (M : Mem) (hp : PX6_airHere_59 v2 M) : AWP (GV mtX6_airHere 5 M0 (mX6_airHere_59 v2 M)) mtX6_airHere 59 [(0, .ref 46), (2, .int v2)] [] M := by
  unfold mX6_airHere_59
  unfold PX6_airHere_59 at hp
  refine r_aload_n MF.bs dX6_airHere_59 rfl 0 rfl ?_
  refine r_aload_n MF.bs dX6_airHere_60 rfl 0 rfl ?_
  refine r_getI MF.bs dX6_airHere_61 rfl rfl 11 (by decide) wd_886 rfl ?_
  refine r_ite (GV mtX6_airHere 5 M0) (fun h_7 => ?_) (fun h_7 => ?_)
  · have hp := hp.1 h_7
    refine r_if_eq_t MF.bs (tgt := 71) dX6_airHere_64 (by decide) h_7 ?_
    refine r_iload_n MF.bs dX6_airHere_71 rfl 1 rfl ?_
    refine r_iconst MF.bs dX6_airHere_72 (v := 3) (by decide) ?_
    refine r_iadd MF.bs dX6_airHere_73 ?_
    exact cX6_airHere_74 M0 v2 (v2 + 3) M hp
  · have hp := hp.2 h_7
    refine r_if_eq_f MF.bs (tgt := 71) dX6_airHere_64 (by decide) h_7 ?_
    refine r_iconst MF.bs dX6_airHere_67 (v := 0) (by decide) ?_
    refine r_goto MF.bs dX6_airHere_68 (tgt := 74) (by decide) ?_
    exact cX6_airHere_74 M0 v2 0 M hp
def mX6_airHere_44   (v1 : Int32) (v2 : Int32) (M : Mem) : Mem := (if (M 46 11) = 0 then (mX6_airHere_59 v2 (mX6_comes v1 3 0 0 M)) else (mX6_airHere_59 v2 M))
def PX6_airHere_44   (v1 : Int32) (v2 : Int32) (M : Mem) : Prop := (((M 46 11) = 0 → PX6_comes v1 3 0 0 M ∧ (PX6_airHere_59 v2 (mX6_comes v1 3 0 0 M))) ∧ (¬ (M 46 11) = 0 → PX6_airHere_59 v2 M))
set_option maxRecDepth 100000 in
theorem cX6_airHere_44    (M0 : Mem) (v1 : Int32) (v2 : Int32) (M : Mem) (hp : PX6_airHere_44 v1 v2 M) : AWP (GV mtX6_airHere 5 M0 (mX6_airHere_44 v1 v2 M)) mtX6_airHere 44 [(0, .ref 46), (1, .int v1), (2, .int v2)] [] M := by
  unfold mX6_airHere_44
  unfold PX6_airHere_44 at hp
  refine r_aload_n MF.bs dX6_airHere_44 rfl 0 rfl ?_
  refine r_getI MF.bs dX6_airHere_45 rfl rfl 11 (by decide) wd_886 rfl ?_
  refine r_ite (GV mtX6_airHere 5 M0) (fun h_5 => ?_) (fun h_5 => ?_)
  · have hp := hp.1 h_5
    refine r_if_ne_f MF.bs (tgt := 59) dX6_airHere_48 (by decide) h_5 ?_
    obtain ⟨hq_6, hp⟩ := hp
    refine r_aload_n MF.bs dX6_airHere_51 rfl 0 rfl ?_
    refine r_iload_n MF.bs dX6_airHere_52 rfl 1 rfl ?_
    refine r_iconst MF.bs dX6_airHere_53 (v := 3) (by decide) ?_
    refine r_iconst MF.bs dX6_airHere_54 (v := 0) (by decide) ?_
    refine r_iconst MF.bs dX6_airHere_55 (v := 0) (by decide) ?_
    refine r_callV_n MF.bs (st := []) dX6_airHere_56 (ctX6_comes v1 3 0 0 M hq_6) miX6_comes wd_1032 rfl (by decide) rfl (Nat.le_of_ble_eq_true rfl) rfl rfl rfl ?_
    refine r_sub [(0, .ref 46), (2, .int v2)] [0, 2] rfl ?_
    exact cX6_airHere_59 M0 v2 (mX6_comes v1 3 0 0 M) hp
  · have hp := hp.2 h_5
    refine r_if_ne_t MF.bs (tgt := 59) dX6_airHere_48 (by decide) h_5 ?_
    refine r_sub [(0, .ref 46), (2, .int v2)] [0, 2] rfl ?_
    exact cX6_airHere_59 M0 v2 M hp
def mX6_airHere_32   (v1 : Int32) (v2 : Int32) (M : Mem) : Mem := (mX6_airHere_44 v1 v2 (mX6_needs (b2i (mX6_isTwo 97 116 M)) M))
def PX6_airHere_32   (v1 : Int32) (v2 : Int32) (M : Mem) : Prop := PX6_isTwo 97 116 M ∧ (PX6_needs (b2i (mX6_isTwo 97 116 M)) M ∧ (PX6_airHere_44 v1 v2 (mX6_needs (b2i (mX6_isTwo 97 116 M)) M)))
set_option maxRecDepth 100000 in
theorem cX6_airHere_32    (M0 : Mem) (v1 : Int32) (v2 : Int32) (M : Mem) (hp : PX6_airHere_32 v1 v2 M) : AWP (GV mtX6_airHere 5 M0 (mX6_airHere_32 v1 v2 M)) mtX6_airHere 32 [(0, .ref 46), (1, .int v1), (2, .int v2)] [] M := by
  unfold mX6_airHere_32
  unfold PX6_airHere_32 at hp
  obtain ⟨hq_3, hp⟩ := hp
  obtain ⟨hq_4, hp⟩ := hp
  refine r_aload_n MF.bs dX6_airHere_32 rfl 0 rfl ?_
  refine r_aload_n MF.bs dX6_airHere_33 rfl 0 rfl ?_
  refine r_bipush MF.bs dX6_airHere_34 (v := 97) (by decide) ?_
  refine r_bipush MF.bs dX6_airHere_36 (v := 116) (by decide) ?_
  refine r_callV_v MF.bs (st := [.ref 46]) dX6_airHere_38 (ctX6_isTwo 97 116 M hq_3) miX6_isTwo wd_1028 rfl (by decide) rfl (Nat.le_of_ble_eq_true rfl) rfl rfl rfl ?_
  refine r_callV_n MF.bs (st := []) dX6_airHere_41 (ctX6_needs (b2i (mX6_isTwo 97 116 M)) M hq_4) miX6_needs wd_1024 rfl (by decide) rfl (Nat.le_of_ble_eq_true rfl) rfl rfl rfl ?_
  exact cX6_airHere_44 M0 v1 v2 (mX6_needs (b2i (mX6_isTwo 97 116 M)) M) hp
def mX6_airHere_29   (v1 : Int32) (v2 : Int32) (k0 : Int32) (M : Mem) : Mem := (mX6_airHere_32 v1 v2 (mX6_needs k0 M))
def PX6_airHere_29   (v1 : Int32) (v2 : Int32) (k0 : Int32) (M : Mem) : Prop := PX6_needs k0 M ∧ (PX6_airHere_32 v1 v2 (mX6_needs k0 M))
set_option maxRecDepth 100000 in
theorem cX6_airHere_29    (M0 : Mem) (v1 : Int32) (v2 : Int32) (k0 : Int32) (M : Mem) (hp : PX6_airHere_29 v1 v2 k0 M) : AWP (GV mtX6_airHere 5 M0 (mX6_airHere_29 v1 v2 k0 M)) mtX6_airHere 29 [(0, .ref 46), (1, .int v1), (2, .int v2)] [.int k0, .ref 46] M := by
  unfold mX6_airHere_29
  unfold PX6_airHere_29 at hp
  obtain ⟨hq_2, hp⟩ := hp
  refine r_callV_n MF.bs (st := []) dX6_airHere_29 (ctX6_needs k0 M hq_2) miX6_needs wd_1024 rfl (by decide) rfl (Nat.le_of_ble_eq_true rfl) rfl rfl rfl ?_
  exact cX6_airHere_32 M0 v1 v2 (mX6_needs k0 M) hp
def mX6_airHere  (a1 : Int32) (M : Mem) : Mem := (if 8 ≤ (M 47 0) then (mX6_airHere_29 a1 (24 + (4 * (M 47 0))) 0 M) else (mX6_airHere_29 a1 (24 + (4 * (M 47 0))) 1 M))
def PX6_airHere  (a1 : Int32) (M : Mem) : Prop := ((8 ≤ (M 47 0) → PX6_airHere_29 a1 (24 + (4 * (M 47 0))) 0 M) ∧ (¬ 8 ≤ (M 47 0) → PX6_airHere_29 a1 (24 + (4 * (M 47 0))) 1 M))
set_option maxRecDepth 100000 in
theorem ctX6_airHere   (a1 : Int32) (M : Mem) (hp : PX6_airHere a1 M) : CT mtX6_airHere 5 [.ref 46, .int a1] M (none, mX6_airHere a1 M) := by
  refine CT.of (by decide) rfl (Nat.le_of_ble_eq_true rfl) ?_
  show AWP (GV mtX6_airHere 5 M (mX6_airHere a1 M)) mtX6_airHere 0 [(0, .ref 46), (1, .int a1)] [] M
  unfold mX6_airHere
  unfold PX6_airHere at hp
  refine r_bipush MF.bs dX6_airHere_0 (v := 24) (by decide) ?_
  refine r_iconst MF.bs dX6_airHere_2 (v := 4) (by decide) ?_
  refine r_aload_n MF.bs dX6_airHere_3 rfl 0 rfl ?_
  refine r_getR MF.bs dX6_airHere_4 rfl rfl 0 (by decide) wd_875 rfl ?_
  refine r_iconst MF.bs dX6_airHere_7 (v := 0) (by decide) ?_
  refine r_ialoadL MF.bs dX6_airHere_8 rfl (vin_l (by decide) (by decide)) (k9 := 0) (by decide) ?_
  refine r_imul MF.bs dX6_airHere_9 ?_
  refine r_iadd MF.bs dX6_airHere_10 ?_
  refine r_istore_n MF.bs (lv' := [(2, .int (24 + (4 * (M 47 0)))), (0, .ref 46), (1, .int a1)]) dX6_airHere_11 rfl (by decide) rfl ?_
  refine r_aload_n MF.bs dX6_airHere_12 rfl 1 rfl ?_
  refine r_aload_n MF.bs dX6_airHere_13 rfl 1 rfl ?_
  refine r_getR MF.bs dX6_airHere_14 rfl rfl 0 (by decide) wd_875 rfl ?_
  refine r_iconst MF.bs dX6_airHere_17 (v := 0) (by decide) ?_
  refine r_ialoadL MF.bs dX6_airHere_18 rfl (vin_l (by decide) (by decide)) (k9 := 0) (by decide) ?_
  refine r_bipush MF.bs dX6_airHere_19 (v := 8) (by decide) ?_
  refine r_ite (GV mtX6_airHere 5 M) (fun h_1 => ?_) (fun h_1 => ?_)
  · have hp := hp.1 h_1
    refine r_icmp_ge_t MF.bs (tgt := 28) dX6_airHere_21 (by decide) h_1 ?_
    refine r_iconst MF.bs dX6_airHere_28 (v := 0) (by decide) ?_
    refine r_sub [(0, .ref 46), (1, .int a1), (2, .int (24 + (4 * (M 47 0))))] [1, 2, 0] rfl ?_
    exact cX6_airHere_29 M a1 (24 + (4 * (M 47 0))) 0 M hp
  · have hp := hp.2 h_1
    refine r_icmp_ge_f MF.bs (tgt := 28) dX6_airHere_21 (by decide) h_1 ?_
    refine r_iconst MF.bs dX6_airHere_24 (v := 1) (by decide) ?_
    refine r_goto MF.bs dX6_airHere_25 (tgt := 29) (by decide) ?_
    refine r_sub [(0, .ref 46), (1, .int a1), (2, .int (24 + (4 * (M 47 0))))] [1, 2, 0] rfl ?_
    exact cX6_airHere_29 M a1 (24 + (4 * (M 47 0))) 1 M hp
abbrev mtX6_wetHere : MT := (RX6, yX6_wetHere, cX6_wetHere, 2, none)
theorem miX6_wetHere : MV mtX6_wetHere 0 := ⟨wd_1051, ⟨wd_1050, wd_45⟩, wd_86, ⟨by decide, by decide, by decide +kernel⟩, by decide⟩
def mX6_wetHere_76   (k0 : Int32) (M : Mem) : Mem := (mX6_numberTo k0 0 99 M)
def PX6_wetHere_76   (k0 : Int32) (M : Mem) : Prop := PX6_numberTo k0 0 99 M
set_option maxRecDepth 100000 in
theorem cX6_wetHere_76    (M0 : Mem) (k0 : Int32) (M : Mem) (hp : PX6_wetHere_76 k0 M) : AWP (GV mtX6_wetHere 4 M0 (mX6_wetHere_76 k0 M)) mtX6_wetHere 76 [] [.int k0, .ref 46] M := by
  unfold mX6_wetHere_76
  unfold PX6_wetHere_76 at hp
  have hq_9 := hp
  refine r_iconst MF.bs dX6_wetHere_76 (v := 0) (by decide) ?_
  refine r_bipush MF.bs dX6_wetHere_77 (v := 99) (by decide) ?_
  refine r_callV_n MF.bs (st := []) dX6_wetHere_79 (ctX6_numberTo k0 0 99 M hq_9) miX6_numberTo wd_1036 rfl (by decide) rfl (Nat.le_of_ble_eq_true rfl) rfl rfl rfl ?_
  exact r_vret dX6_wetHere_82 rfl
def mX6_wetHere_60   (v1 : Int32) (M : Mem) : Mem := (if (M 46 11) = 0 then (mX6_wetHere_76 (8 + v1) M) else (mX6_wetHere_76 0 M))
def PX6_wetHere_60   (v1 : Int32) (M : Mem) : Prop := (((M 46 11) = 0 → PX6_wetHere_76 (8 + v1) M) ∧ (¬ (M 46 11) = 0 → PX6_wetHere_76 0 M))
set_option maxRecDepth 100000 in
theorem cX6_wetHere_60    (M0 : Mem) (v1 : Int32) (M : Mem) (hp : PX6_wetHere_60 v1 M) : AWP (GV mtX6_wetHere 4 M0 (mX6_wetHere_60 v1 M)) mtX6_wetHere 60 [(0, .ref 46), (1, .int v1)] [] M := by
  unfold mX6_wetHere_60
  unfold PX6_wetHere_60 at hp
  refine r_aload_n MF.bs dX6_wetHere_60 rfl 0 rfl ?_
  refine r_aload_n MF.bs dX6_wetHere_61 rfl 0 rfl ?_
  refine r_getI MF.bs dX6_wetHere_62 rfl rfl 11 (by decide) wd_886 rfl ?_
  refine r_ite (GV mtX6_wetHere 4 M0) (fun h_8 => ?_) (fun h_8 => ?_)
  · have hp := hp.1 h_8
    refine r_if_eq_t MF.bs (tgt := 72) dX6_wetHere_65 (by decide) h_8 ?_
    refine r_bipush MF.bs dX6_wetHere_72 (v := 8) (by decide) ?_
    refine r_iload_n MF.bs dX6_wetHere_74 rfl 1 rfl ?_
    refine r_iadd MF.bs dX6_wetHere_75 ?_
    refine r_sub [] [] rfl ?_
    exact cX6_wetHere_76 M0 (8 + v1) M hp
  · have hp := hp.2 h_8
    refine r_if_eq_f MF.bs (tgt := 72) dX6_wetHere_65 (by decide) h_8 ?_
    refine r_iconst MF.bs dX6_wetHere_68 (v := 0) (by decide) ?_
    refine r_goto MF.bs dX6_wetHere_69 (tgt := 76) (by decide) ?_
    refine r_sub [] [] rfl ?_
    exact cX6_wetHere_76 M0 0 M hp
def mX6_wetHere_48   (v1 : Int32) (M : Mem) : Mem := (mX6_wetHere_60 v1 (mX6_needs (b2i (mX6_isTwo 105 115 M)) M))
def PX6_wetHere_48   (v1 : Int32) (M : Mem) : Prop := PX6_isTwo 105 115 M ∧ (PX6_needs (b2i (mX6_isTwo 105 115 M)) M ∧ (PX6_wetHere_60 v1 (mX6_needs (b2i (mX6_isTwo 105 115 M)) M)))
set_option maxRecDepth 100000 in
theorem cX6_wetHere_48    (M0 : Mem) (v1 : Int32) (M : Mem) (hp : PX6_wetHere_48 v1 M) : AWP (GV mtX6_wetHere 4 M0 (mX6_wetHere_48 v1 M)) mtX6_wetHere 48 [(0, .ref 46), (1, .int v1)] [] M := by
  unfold mX6_wetHere_48
  unfold PX6_wetHere_48 at hp
  obtain ⟨hq_6, hp⟩ := hp
  obtain ⟨hq_7, hp⟩ := hp
  refine r_aload_n MF.bs dX6_wetHere_48 rfl 0 rfl ?_
  refine r_aload_n MF.bs dX6_wetHere_49 rfl 0 rfl ?_
  refine r_bipush MF.bs dX6_wetHere_50 (v := 105) (by decide) ?_
  refine r_bipush MF.bs dX6_wetHere_52 (v := 115) (by decide) ?_
  refine r_callV_v MF.bs (st := [.ref 46]) dX6_wetHere_54 (ctX6_isTwo 105 115 M hq_6) miX6_isTwo wd_1028 rfl (by decide) rfl (Nat.le_of_ble_eq_true rfl) rfl rfl rfl ?_
  refine r_callV_n MF.bs (st := []) dX6_wetHere_57 (ctX6_needs (b2i (mX6_isTwo 105 115 M)) M hq_7) miX6_needs wd_1024 rfl (by decide) rfl (Nat.le_of_ble_eq_true rfl) rfl rfl rfl ?_
  exact cX6_wetHere_60 M0 v1 (mX6_needs (b2i (mX6_isTwo 105 115 M)) M) hp
def mX6_wetHere_45   (v1 : Int32) (k0 : Int32) (M : Mem) : Mem := (mX6_wetHere_48 v1 (mX6_needs k0 M))
def PX6_wetHere_45   (v1 : Int32) (k0 : Int32) (M : Mem) : Prop := PX6_needs k0 M ∧ (PX6_wetHere_48 v1 (mX6_needs k0 M))
set_option maxRecDepth 100000 in
theorem cX6_wetHere_45    (M0 : Mem) (v1 : Int32) (k0 : Int32) (M : Mem) (hp : PX6_wetHere_45 v1 k0 M) : AWP (GV mtX6_wetHere 4 M0 (mX6_wetHere_45 v1 k0 M)) mtX6_wetHere 45 [(0, .ref 46), (1, .int v1)] [.int k0, .ref 46] M := by
  unfold mX6_wetHere_45
  unfold PX6_wetHere_45 at hp
  obtain ⟨hq_5, hp⟩ := hp
  refine r_callV_n MF.bs (st := []) dX6_wetHere_45 (ctX6_needs k0 M hq_5) miX6_needs wd_1024 rfl (by decide) rfl (Nat.le_of_ble_eq_true rfl) rfl rfl rfl ?_
  exact cX6_wetHere_48 M0 v1 (mX6_needs k0 M) hp
def mX6_wetHere_44   (v1 : Int32) (M : Mem) : Mem := (mX6_wetHere_45 v1 0 M)
def PX6_wetHere_44   (v1 : Int32) (M : Mem) : Prop := PX6_wetHere_45 v1 0 M
set_option maxRecDepth 100000 in
theorem cX6_wetHere_44    (M0 : Mem) (v1 : Int32) (M : Mem) (hp : PX6_wetHere_44 v1 M) : AWP (GV mtX6_wetHere 4 M0 (mX6_wetHere_44 v1 M)) mtX6_wetHere 44 [(0, .ref 46), (1, .int v1)] [.ref 46] M := by
  unfold mX6_wetHere_44
  unfold PX6_wetHere_44 at hp
  refine r_iconst MF.bs dX6_wetHere_44 (v := 0) (by decide) ?_
  exact cX6_wetHere_45 M0 v1 0 M hp
def mX6_wetHere_4   (M : Mem) : Mem := (if (M 46 7) = 2 then (if 3 < ((M 46 9) - (M 46 8)) then (mX6_wetHere_44 (M 46 10) M) else (if 16 ≤ (M 46 10) then (mX6_wetHere_44 (M 46 10) M) else (mX6_wetHere_45 (M 46 10) 1 M))) else (mX6_wetHere_44 (M 46 10) M))
def PX6_wetHere_4   (M : Mem) : Prop := (((M 46 7) = 2 → ((3 < ((M 46 9) - (M 46 8)) → PX6_wetHere_44 (M 46 10) M) ∧ (¬ 3 < ((M 46 9) - (M 46 8)) → ((16 ≤ (M 46 10) → PX6_wetHere_44 (M 46 10) M) ∧ (¬ 16 ≤ (M 46 10) → PX6_wetHere_45 (M 46 10) 1 M))))) ∧ (¬ (M 46 7) = 2 → PX6_wetHere_44 (M 46 10) M))
set_option maxRecDepth 100000 in
theorem cX6_wetHere_4    (M0 : Mem) (M : Mem) (hp : PX6_wetHere_4 M) : AWP (GV mtX6_wetHere 4 M0 (mX6_wetHere_4 M)) mtX6_wetHere 4 [(0, .ref 46)] [] M := by
  unfold mX6_wetHere_4
  unfold PX6_wetHere_4 at hp
  refine r_aload_n MF.bs dX6_wetHere_4 rfl 0 rfl ?_
  refine r_getI MF.bs dX6_wetHere_5 rfl rfl 10 (by decide) wd_885 rfl ?_
  refine r_istore_n MF.bs (lv' := [(1, .int (M 46 10)), (0, .ref 46)]) dX6_wetHere_8 rfl (by decide) rfl ?_
  refine r_aload_n MF.bs dX6_wetHere_9 rfl 1 rfl ?_
  refine r_aload_n MF.bs dX6_wetHere_10 rfl 1 rfl ?_
  refine r_getI MF.bs dX6_wetHere_11 rfl rfl 7 (by decide) wd_882 rfl ?_
  refine r_iconst MF.bs dX6_wetHere_14 (v := 2) (by decide) ?_
  refine r_ite (GV mtX6_wetHere 4 M0) (fun h_2 => ?_) (fun h_2 => ?_)
  · have hp := hp.1 h_2
    refine r_icmp_ne_f MF.bs (tgt := 44) dX6_wetHere_15 (by decide) h_2 ?_
    refine r_aload_n MF.bs dX6_wetHere_18 rfl 1 rfl ?_
    refine r_getI MF.bs dX6_wetHere_19 rfl rfl 9 (by decide) wd_884 rfl ?_
    refine r_aload_n MF.bs dX6_wetHere_22 rfl 1 rfl ?_
    refine r_getI MF.bs dX6_wetHere_23 rfl rfl 8 (by decide) wd_883 rfl ?_
    refine r_isub MF.bs dX6_wetHere_26 ?_
    refine r_iconst MF.bs dX6_wetHere_27 (v := 3) (by decide) ?_
    refine r_ite (GV mtX6_wetHere 4 M0) (fun h_3 => ?_) (fun h_3 => ?_)
    · have hp := hp.1 h_3
      refine r_icmp_gt_t MF.bs (tgt := 44) dX6_wetHere_28 (by decide) h_3 ?_
      refine r_sub [(0, .ref 46), (1, .int (M 46 10))] [1, 0] rfl ?_
      exact cX6_wetHere_44 M0 (M 46 10) M hp
    · have hp := hp.2 h_3
      refine r_icmp_gt_f MF.bs (tgt := 44) dX6_wetHere_28 (by decide) h_3 ?_
      refine r_aload_n MF.bs dX6_wetHere_31 rfl 1 rfl ?_
      refine r_getI MF.bs dX6_wetHere_32 rfl rfl 10 (by decide) wd_885 rfl ?_
      refine r_bipush MF.bs dX6_wetHere_35 (v := 16) (by decide) ?_
      refine r_ite (GV mtX6_wetHere 4 M0) (fun h_4 => ?_) (fun h_4 => ?_)
      · have hp := hp.1 h_4
        refine r_icmp_ge_t MF.bs (tgt := 44) dX6_wetHere_37 (by decide) h_4 ?_
        refine r_sub [(0, .ref 46), (1, .int (M 46 10))] [1, 0] rfl ?_
        exact cX6_wetHere_44 M0 (M 46 10) M hp
      · have hp := hp.2 h_4
        refine r_icmp_ge_f MF.bs (tgt := 44) dX6_wetHere_37 (by decide) h_4 ?_
        refine r_iconst MF.bs dX6_wetHere_40 (v := 1) (by decide) ?_
        refine r_goto MF.bs dX6_wetHere_41 (tgt := 45) (by decide) ?_
        refine r_sub [(0, .ref 46), (1, .int (M 46 10))] [1, 0] rfl ?_
        exact cX6_wetHere_45 M0 (M 46 10) 1 M hp
  · have hp := hp.2 h_2
    refine r_icmp_ne_t MF.bs (tgt := 44) dX6_wetHere_15 (by decide) h_2 ?_
    refine r_sub [(0, .ref 46), (1, .int (M 46 10))] [1, 0] rfl ?_
    exact cX6_wetHere_44 M0 (M 46 10) M hp
def mX6_wetHere  (M : Mem) : Mem := (mX6_wetHere_4 (mX6_nextToken M))
def PX6_wetHere  (M : Mem) : Prop := PX6_nextToken M ∧ (PX6_wetHere_4 (mX6_nextToken M))
set_option maxRecDepth 100000 in
theorem ctX6_wetHere   (M : Mem) (hp : PX6_wetHere M) : CT mtX6_wetHere 4 [.ref 46] M (none, mX6_wetHere M) := by
  refine CT.of (by decide) rfl (Nat.le_of_ble_eq_true rfl) ?_
  show AWP (GV mtX6_wetHere 4 M (mX6_wetHere M)) mtX6_wetHere 0 [(0, .ref 46)] [] M
  unfold mX6_wetHere
  unfold PX6_wetHere at hp
  obtain ⟨hq_1, hp⟩ := hp
  refine r_aload_n MF.bs dX6_wetHere_0 rfl 0 rfl ?_
  refine r_callV_n MF.bs (st := []) dX6_wetHere_1 (ctX6_nextToken M hq_1) miX6_nextToken wd_982 rfl (by decide) rfl (Nat.le_of_ble_eq_true rfl) rfl rfl rfl ?_
  exact cX6_wetHere_4 M (mX6_nextToken M) hp
abbrev mtX6_ownHere : MT := (RX6, yX6_ownHere, cX6_ownHere, 1, (some .int))
theorem miX6_ownHere : MV mtX6_ownHere 0 := ⟨wd_1019, ⟨wd_1018, wd_37⟩, wd_86, ⟨by decide, by decide, by decide +kernel⟩, by decide⟩
def mX6_ownHere  (M : Mem) : Int32 := (if (mX6_isFour 119 105 110 100 M) = true then 3 else (if (mX6_isFour 116 117 114 110 M) = true then 4 else (if (mX6_isFour 100 97 109 112 M) = true then 5 else (if (mX6_isName 3 115 104 121 121 M) = true then 6 else (if (mX6_isFour 103 117 115 116 M) = true then 7 else (-1))))))
def PX6_ownHere  (M : Mem) : Prop := PX6_isFour 119 105 110 100 M ∧ ((¬ (mX6_isFour 119 105 110 100 M) = true → PX6_isFour 116 117 114 110 M ∧ ((¬ (mX6_isFour 116 117 114 110 M) = true → PX6_isFour 100 97 109 112 M ∧ ((¬ (mX6_isFour 100 97 109 112 M) = true → PX6_isName 3 115 104 121 121 M ∧ ((¬ (mX6_isName 3 115 104 121 121 M) = true → PX6_isFour 103 117 115 116 M))))))))
set_option maxRecDepth 100000 in
theorem ctX6_ownHere   (M : Mem) (hp : PX6_ownHere M) : CT mtX6_ownHere 3 [.ref 46] M (some (.int (mX6_ownHere M)), M) := by
  refine CT.of (by decide) rfl (Nat.le_of_ble_eq_true rfl) ?_
  show AWP (GI mtX6_ownHere 3 M M (mX6_ownHere M)) mtX6_ownHere 0 [(0, .ref 46)] [] M
  unfold mX6_ownHere
  unfold PX6_ownHere at hp
  obtain ⟨hq_1, hp⟩ := hp
  refine r_aload_n MF.bs dX6_ownHere_0 rfl 0 rfl ?_
  refine r_bipush MF.bs dX6_ownHere_1 (v := 119) (by decide) ?_
  refine r_bipush MF.bs dX6_ownHere_3 (v := 105) (by decide) ?_
  refine r_bipush MF.bs dX6_ownHere_5 (v := 110) (by decide) ?_
  refine r_bipush MF.bs dX6_ownHere_7 (v := 100) (by decide) ?_
  refine r_callV_v MF.bs (st := []) dX6_ownHere_9 (ctX6_isFour 119 105 110 100 M hq_1) miX6_isFour wd_1008 rfl (by decide) rfl (Nat.le_of_ble_eq_true rfl) rfl rfl rfl ?_
  refine r_ite (GI mtX6_ownHere 3 M M) (fun h_2 => ?_) (fun h_2 => ?_)
  · refine r_if_eq_f MF.bs (tgt := 17) dX6_ownHere_12 (by decide) (b2i_1 h_2) ?_
    refine r_iconst MF.bs dX6_ownHere_15 (v := 3) (by decide) ?_
    exact r_iret dX6_ownHere_16 rfl
  · have hp := hp h_2
    refine r_if_eq_t MF.bs (tgt := 17) dX6_ownHere_12 (by decide) (b2i_0 h_2) ?_
    obtain ⟨hq_3, hp⟩ := hp
    refine r_aload_n MF.bs dX6_ownHere_17 rfl 0 rfl ?_
    refine r_bipush MF.bs dX6_ownHere_18 (v := 116) (by decide) ?_
    refine r_bipush MF.bs dX6_ownHere_20 (v := 117) (by decide) ?_
    refine r_bipush MF.bs dX6_ownHere_22 (v := 114) (by decide) ?_
    refine r_bipush MF.bs dX6_ownHere_24 (v := 110) (by decide) ?_
    refine r_callV_v MF.bs (st := []) dX6_ownHere_26 (ctX6_isFour 116 117 114 110 M hq_3) miX6_isFour wd_1008 rfl (by decide) rfl (Nat.le_of_ble_eq_true rfl) rfl rfl rfl ?_
    refine r_ite (GI mtX6_ownHere 3 M M) (fun h_4 => ?_) (fun h_4 => ?_)
    · refine r_if_eq_f MF.bs (tgt := 34) dX6_ownHere_29 (by decide) (b2i_1 h_4) ?_
      refine r_iconst MF.bs dX6_ownHere_32 (v := 4) (by decide) ?_
      exact r_iret dX6_ownHere_33 rfl
    · have hp := hp h_4
      refine r_if_eq_t MF.bs (tgt := 34) dX6_ownHere_29 (by decide) (b2i_0 h_4) ?_
      obtain ⟨hq_5, hp⟩ := hp
      refine r_aload_n MF.bs dX6_ownHere_34 rfl 0 rfl ?_
      refine r_bipush MF.bs dX6_ownHere_35 (v := 100) (by decide) ?_
      refine r_bipush MF.bs dX6_ownHere_37 (v := 97) (by decide) ?_
      refine r_bipush MF.bs dX6_ownHere_39 (v := 109) (by decide) ?_
      refine r_bipush MF.bs dX6_ownHere_41 (v := 112) (by decide) ?_
      refine r_callV_v MF.bs (st := []) dX6_ownHere_43 (ctX6_isFour 100 97 109 112 M hq_5) miX6_isFour wd_1008 rfl (by decide) rfl (Nat.le_of_ble_eq_true rfl) rfl rfl rfl ?_
      refine r_ite (GI mtX6_ownHere 3 M M) (fun h_6 => ?_) (fun h_6 => ?_)
      · refine r_if_eq_f MF.bs (tgt := 51) dX6_ownHere_46 (by decide) (b2i_1 h_6) ?_
        refine r_iconst MF.bs dX6_ownHere_49 (v := 5) (by decide) ?_
        exact r_iret dX6_ownHere_50 rfl
      · have hp := hp h_6
        refine r_if_eq_t MF.bs (tgt := 51) dX6_ownHere_46 (by decide) (b2i_0 h_6) ?_
        obtain ⟨hq_7, hp⟩ := hp
        refine r_aload_n MF.bs dX6_ownHere_51 rfl 0 rfl ?_
        refine r_iconst MF.bs dX6_ownHere_52 (v := 3) (by decide) ?_
        refine r_bipush MF.bs dX6_ownHere_53 (v := 115) (by decide) ?_
        refine r_bipush MF.bs dX6_ownHere_55 (v := 104) (by decide) ?_
        refine r_bipush MF.bs dX6_ownHere_57 (v := 121) (by decide) ?_
        refine r_bipush MF.bs dX6_ownHere_59 (v := 121) (by decide) ?_
        refine r_callV_v MF.bs (st := []) dX6_ownHere_61 (ctX6_isName 3 115 104 121 121 M hq_7) miX6_isName wd_1004 rfl (by decide) rfl (Nat.le_of_ble_eq_true rfl) rfl rfl rfl ?_
        refine r_ite (GI mtX6_ownHere 3 M M) (fun h_8 => ?_) (fun h_8 => ?_)
        · refine r_if_eq_f MF.bs (tgt := 70) dX6_ownHere_64 (by decide) (b2i_1 h_8) ?_
          refine r_bipush MF.bs dX6_ownHere_67 (v := 6) (by decide) ?_
          exact r_iret dX6_ownHere_69 rfl
        · have hp := hp h_8
          refine r_if_eq_t MF.bs (tgt := 70) dX6_ownHere_64 (by decide) (b2i_0 h_8) ?_
          have hq_9 := hp
          refine r_aload_n MF.bs dX6_ownHere_70 rfl 0 rfl ?_
          refine r_bipush MF.bs dX6_ownHere_71 (v := 103) (by decide) ?_
          refine r_bipush MF.bs dX6_ownHere_73 (v := 117) (by decide) ?_
          refine r_bipush MF.bs dX6_ownHere_75 (v := 115) (by decide) ?_
          refine r_bipush MF.bs dX6_ownHere_77 (v := 116) (by decide) ?_
          refine r_callV_v MF.bs (st := []) dX6_ownHere_79 (ctX6_isFour 103 117 115 116 M hq_9) miX6_isFour wd_1008 rfl (by decide) rfl (Nat.le_of_ble_eq_true rfl) rfl rfl rfl ?_
          refine r_ite (GI mtX6_ownHere 3 M M) (fun h_10 => ?_) (fun h_10 => ?_)
          · refine r_if_eq_f MF.bs (tgt := 90) dX6_ownHere_82 (by decide) (b2i_1 h_10) ?_
            refine r_bipush MF.bs dX6_ownHere_85 (v := 7) (by decide) ?_
            refine r_goto MF.bs dX6_ownHere_87 (tgt := 91) (by decide) ?_
            exact r_iret dX6_ownHere_91 rfl
          · refine r_if_eq_t MF.bs (tgt := 90) dX6_ownHere_82 (by decide) (b2i_0 h_10) ?_
            refine r_iconst MF.bs dX6_ownHere_90 (v := -1) (by decide) ?_
            exact r_iret dX6_ownHere_91 rfl
abbrev mtX6_itemHere : MT := (RX6, yX6_itemHere, cX6_itemHere, 3, none)
theorem miX6_itemHere : MV mtX6_itemHere 0 := ⟨wd_999, ⟨wd_998, wd_32⟩, wd_86, ⟨by decide, by decide, by decide +kernel⟩, by decide⟩
def mX6_itemHere_130   (k0 : Int32) (M : Mem) : Mem := (mX6_needs k0 M)
def PX6_itemHere_130   (k0 : Int32) (M : Mem) : Prop := PX6_needs k0 M
set_option maxRecDepth 100000 in
theorem cX6_itemHere_130    (M0 : Mem) (k0 : Int32) (M : Mem) (hp : PX6_itemHere_130 k0 M) : AWP (GV mtX6_itemHere 6 M0 (mX6_itemHere_130 k0 M)) mtX6_itemHere 130 [] [.int k0, .ref 46] M := by
  unfold mX6_itemHere_130
  unfold PX6_itemHere_130 at hp
  have hq_15 := hp
  refine r_callV_n MF.bs (st := []) dX6_itemHere_130 (ctX6_needs k0 M hq_15) miX6_needs wd_1024 rfl (by decide) rfl (Nat.le_of_ble_eq_true rfl) rfl rfl rfl ?_
  exact r_vret dX6_itemHere_133 rfl
def mX6_itemHere_129   (M : Mem) : Mem := (mX6_itemHere_130 0 M)
def PX6_itemHere_129   (M : Mem) : Prop := PX6_itemHere_130 0 M
set_option maxRecDepth 100000 in
theorem cX6_itemHere_129    (M0 : Mem) (M : Mem) (hp : PX6_itemHere_129 M) : AWP (GV mtX6_itemHere 6 M0 (mX6_itemHere_129 M)) mtX6_itemHere 129 [] [.ref 46] M := by
  unfold mX6_itemHere_129
  unfold PX6_itemHere_129 at hp
  refine r_iconst MF.bs dX6_itemHere_129 (v := 0) (by decide) ?_
  exact cX6_itemHere_130 M0 0 M hp
def mX6_itemHere_103   (M : Mem) : Mem := (if (M 46 7) = 3 then (if (mX6_byteAt (M 46 8) M) = 59 then (mX6_itemHere_130 1 M) else (mX6_itemHere_129 M)) else (mX6_itemHere_129 M))
def PX6_itemHere_103   (M : Mem) : Prop := (((M 46 7) = 3 → PX6_byteAt (M 46 8) M ∧ ((((mX6_byteAt (M 46 8) M) = 59 → PX6_itemHere_130 1 M) ∧ (¬ (mX6_byteAt (M 46 8) M) = 59 → PX6_itemHere_129 M)))) ∧ (¬ (M 46 7) = 3 → PX6_itemHere_129 M))
set_option maxRecDepth 100000 in
theorem cX6_itemHere_103    (M0 : Mem) (M : Mem) (hp : PX6_itemHere_103 M) : AWP (GV mtX6_itemHere 6 M0 (mX6_itemHere_103 M)) mtX6_itemHere 103 [(0, .ref 46)] [] M := by
  unfold mX6_itemHere_103
  unfold PX6_itemHere_103 at hp
  refine r_aload_n MF.bs dX6_itemHere_103 rfl 0 rfl ?_
  refine r_aload_n MF.bs dX6_itemHere_104 rfl 0 rfl ?_
  refine r_getI MF.bs dX6_itemHere_105 rfl rfl 7 (by decide) wd_882 rfl ?_
  refine r_iconst MF.bs dX6_itemHere_108 (v := 3) (by decide) ?_
  refine r_ite (GV mtX6_itemHere 6 M0) (fun h_11 => ?_) (fun h_11 => ?_)
  · have hp := hp.1 h_11
    refine r_icmp_ne_f MF.bs (tgt := 129) dX6_itemHere_109 (by decide) h_11 ?_
    obtain ⟨hq_12, hp⟩ := hp
    refine r_aload_n MF.bs dX6_itemHere_112 rfl 0 rfl ?_
    refine r_aload_n MF.bs dX6_itemHere_113 rfl 0 rfl ?_
    refine r_getI MF.bs dX6_itemHere_114 rfl rfl 8 (by decide) wd_883 rfl ?_
    refine r_callV_v MF.bs (st := [.ref 46]) dX6_itemHere_117 (ctX6_byteAt (M 46 8) M hq_12) miX6_byteAt wd_986 rfl (by decide) rfl (Nat.le_of_ble_eq_true rfl) rfl rfl rfl ?_
    refine r_bipush MF.bs dX6_itemHere_120 (v := 59) (by decide) ?_
    refine r_ite (GV mtX6_itemHere 6 M0) (fun h_13 => ?_) (fun h_13 => ?_)
    · have hp := hp.1 h_13
      refine r_icmp_ne_f MF.bs (tgt := 129) dX6_itemHere_122 (by decide) h_13 ?_
      refine r_iconst MF.bs dX6_itemHere_125 (v := 1) (by decide) ?_
      refine r_goto MF.bs dX6_itemHere_126 (tgt := 130) (by decide) ?_
      refine r_sub [] [] rfl ?_
      exact cX6_itemHere_130 M0 1 M hp
    · have hp := hp.2 h_13
      refine r_icmp_ne_t MF.bs (tgt := 129) dX6_itemHere_122 (by decide) h_13 ?_
      refine r_sub [] [] rfl ?_
      exact cX6_itemHere_129 M0 M hp
  · have hp := hp.2 h_11
    refine r_icmp_ne_t MF.bs (tgt := 129) dX6_itemHere_109 (by decide) h_11 ?_
    refine r_sub [] [] rfl ?_
    exact cX6_itemHere_129 M0 M hp
def mX6_itemHere_19   (M : Mem) : Mem := (mX6_itemHere_103 M)
def PX6_itemHere_19   (M : Mem) : Prop := PX6_itemHere_103 M
set_option maxRecDepth 100000 in
theorem cX6_itemHere_19    (M0 : Mem) (M : Mem) (hp : PX6_itemHere_19 M) : AWP (GV mtX6_itemHere 6 M0 (mX6_itemHere_19 M)) mtX6_itemHere 19 [(0, .ref 46)] [] M := by
  unfold mX6_itemHere_19
  unfold PX6_itemHere_19 at hp
  refine r_goto MF.bs dX6_itemHere_19 (tgt := 103) (by decide) ?_
  exact cX6_itemHere_103 M0 M hp
def mX6_itemHere_72   (M : Mem) : Mem := (mX6_itemHere_103 M)
def PX6_itemHere_72   (M : Mem) : Prop := PX6_itemHere_103 M
set_option maxRecDepth 100000 in
theorem cX6_itemHere_72    (M0 : Mem) (M : Mem) (hp : PX6_itemHere_72 M) : AWP (GV mtX6_itemHere 6 M0 (mX6_itemHere_72 M)) mtX6_itemHere 72 [(0, .ref 46)] [] M := by
  unfold mX6_itemHere_72
  unfold PX6_itemHere_72 at hp
  refine r_goto MF.bs dX6_itemHere_72 (tgt := 103) (by decide) ?_
  exact cX6_itemHere_103 M0 M hp
def mX6_itemHere_69   (k0 : Int32) (k1 : Int32) (k2 : Int32) (M : Mem) : Mem := (mX6_itemHere_72 (mX6_numberTo k2 k1 k0 M))
def PX6_itemHere_69   (k0 : Int32) (k1 : Int32) (k2 : Int32) (M : Mem) : Prop := PX6_numberTo k2 k1 k0 M ∧ (PX6_itemHere_72 (mX6_numberTo k2 k1 k0 M))
set_option maxRecDepth 100000 in
theorem cX6_itemHere_69    (M0 : Mem) (k0 : Int32) (k1 : Int32) (k2 : Int32) (M : Mem) (hp : PX6_itemHere_69 k0 k1 k2 M) : AWP (GV mtX6_itemHere 6 M0 (mX6_itemHere_69 k0 k1 k2 M)) mtX6_itemHere 69 [(0, .ref 46)] [.int k0, .int k1, .int k2, .ref 46] M := by
  unfold mX6_itemHere_69
  unfold PX6_itemHere_69 at hp
  obtain ⟨hq_19, hp⟩ := hp
  refine r_callV_n MF.bs (st := []) dX6_itemHere_69 (ctX6_numberTo k2 k1 k0 M hq_19) miX6_numberTo wd_1036 rfl (by decide) rfl (Nat.le_of_ble_eq_true rfl) rfl rfl rfl ?_
  exact cX6_itemHere_72 M0 (mX6_numberTo k2 k1 k0 M) hp
def mX6_itemHere_62   (k0 : Int32) (k1 : Int32) (M : Mem) : Mem := (mX6_itemHere_69 99 k0 k1 M)
def PX6_itemHere_62   (k0 : Int32) (k1 : Int32) (M : Mem) : Prop := PX6_itemHere_69 99 k0 k1 M
set_option maxRecDepth 100000 in
theorem cX6_itemHere_62    (M0 : Mem) (k0 : Int32) (k1 : Int32) (M : Mem) (hp : PX6_itemHere_62 k0 k1 M) : AWP (GV mtX6_itemHere 6 M0 (mX6_itemHere_62 k0 k1 M)) mtX6_itemHere 62 [(0, .ref 46)] [.int k0, .int k1, .ref 46] M := by
  unfold mX6_itemHere_62
  unfold PX6_itemHere_62 at hp
  refine r_bipush MF.bs dX6_itemHere_62 (v := 99) (by decide) ?_
  refine r_goto MF.bs dX6_itemHere_64 (tgt := 69) (by decide) ?_
  exact cX6_itemHere_69 M0 99 k0 k1 M hp
def mX6_itemHere_42   (v2 : Int32) (k0 : Int32) (k1 : Int32) (M : Mem) : Mem := (if v2 = 3 then (mX6_itemHere_69 3 k0 k1 M) else (if v2 = 5 then (mX6_itemHere_62 k0 k1 M) else (if v2 = 7 then (mX6_itemHere_62 k0 k1 M) else (mX6_itemHere_69 9 k0 k1 M))))
def PX6_itemHere_42   (v2 : Int32) (k0 : Int32) (k1 : Int32) (M : Mem) : Prop := ((v2 = 3 → PX6_itemHere_69 3 k0 k1 M) ∧ (¬ v2 = 3 → ((v2 = 5 → PX6_itemHere_62 k0 k1 M) ∧ (¬ v2 = 5 → ((v2 = 7 → PX6_itemHere_62 k0 k1 M) ∧ (¬ v2 = 7 → PX6_itemHere_69 9 k0 k1 M))))))
set_option maxRecDepth 100000 in
theorem cX6_itemHere_42    (M0 : Mem) (v2 : Int32) (k0 : Int32) (k1 : Int32) (M : Mem) (hp : PX6_itemHere_42 v2 k0 k1 M) : AWP (GV mtX6_itemHere 6 M0 (mX6_itemHere_42 v2 k0 k1 M)) mtX6_itemHere 42 [(0, .ref 46), (2, .int v2)] [.int k0, .int k1, .ref 46] M := by
  unfold mX6_itemHere_42
  unfold PX6_itemHere_42 at hp
  refine r_iload_n MF.bs dX6_itemHere_42 rfl 1 rfl ?_
  refine r_iconst MF.bs dX6_itemHere_43 (v := 3) (by decide) ?_
  refine r_ite (GV mtX6_itemHere 6 M0) (fun h_16 => ?_) (fun h_16 => ?_)
  · have hp := hp.1 h_16
    refine r_icmp_ne_f MF.bs (tgt := 51) dX6_itemHere_44 (by decide) h_16 ?_
    refine r_iconst MF.bs dX6_itemHere_47 (v := 3) (by decide) ?_
    refine r_goto MF.bs dX6_itemHere_48 (tgt := 69) (by decide) ?_
    refine r_sub [(0, .ref 46)] [0] rfl ?_
    exact cX6_itemHere_69 M0 3 k0 k1 M hp
  · have hp := hp.2 h_16
    refine r_icmp_ne_t MF.bs (tgt := 51) dX6_itemHere_44 (by decide) h_16 ?_
    refine r_iload_n MF.bs dX6_itemHere_51 rfl 1 rfl ?_
    refine r_iconst MF.bs dX6_itemHere_52 (v := 5) (by decide) ?_
    refine r_ite (GV mtX6_itemHere 6 M0) (fun h_17 => ?_) (fun h_17 => ?_)
    · have hp := hp.1 h_17
      refine r_icmp_eq_t MF.bs (tgt := 62) dX6_itemHere_53 (by decide) h_17 ?_
      refine r_sub [(0, .ref 46)] [0] rfl ?_
      exact cX6_itemHere_62 M0 k0 k1 M hp
    · have hp := hp.2 h_17
      refine r_icmp_eq_f MF.bs (tgt := 62) dX6_itemHere_53 (by decide) h_17 ?_
      refine r_iload_n MF.bs dX6_itemHere_56 rfl 1 rfl ?_
      refine r_bipush MF.bs dX6_itemHere_57 (v := 7) (by decide) ?_
      refine r_ite (GV mtX6_itemHere 6 M0) (fun h_18 => ?_) (fun h_18 => ?_)
      · have hp := hp.1 h_18
        refine r_icmp_ne_f MF.bs (tgt := 67) dX6_itemHere_59 (by decide) h_18 ?_
        refine r_sub [(0, .ref 46)] [0] rfl ?_
        exact cX6_itemHere_62 M0 k0 k1 M hp
      · have hp := hp.2 h_18
        refine r_icmp_ne_t MF.bs (tgt := 67) dX6_itemHere_59 (by decide) h_18 ?_
        refine r_bipush MF.bs dX6_itemHere_67 (v := 9) (by decide) ?_
        refine r_sub [(0, .ref 46)] [0] rfl ?_
        exact cX6_itemHere_69 M0 9 k0 k1 M hp
def mX6_itemHere_30   (v2 : Int32) (M : Mem) : Mem := (if v2 = 4 then (mX6_itemHere_42 v2 1 v2 M) else (mX6_itemHere_42 v2 0 v2 M))
def PX6_itemHere_30   (v2 : Int32) (M : Mem) : Prop := ((v2 = 4 → PX6_itemHere_42 v2 1 v2 M) ∧ (¬ v2 = 4 → PX6_itemHere_42 v2 0 v2 M))
set_option maxRecDepth 100000 in
theorem cX6_itemHere_30    (M0 : Mem) (v2 : Int32) (M : Mem) (hp : PX6_itemHere_30 v2 M) : AWP (GV mtX6_itemHere 6 M0 (mX6_itemHere_30 v2 M)) mtX6_itemHere 30 [(0, .ref 46), (2, .int v2)] [] M := by
  unfold mX6_itemHere_30
  unfold PX6_itemHere_30 at hp
  refine r_aload_n MF.bs dX6_itemHere_30 rfl 0 rfl ?_
  refine r_iload_n MF.bs dX6_itemHere_31 rfl 1 rfl ?_
  refine r_iload_n MF.bs dX6_itemHere_32 rfl 1 rfl ?_
  refine r_iconst MF.bs dX6_itemHere_33 (v := 4) (by decide) ?_
  refine r_ite (GV mtX6_itemHere 6 M0) (fun h_14 => ?_) (fun h_14 => ?_)
  · have hp := hp.1 h_14
    refine r_icmp_ne_f MF.bs (tgt := 41) dX6_itemHere_34 (by decide) h_14 ?_
    refine r_iconst MF.bs dX6_itemHere_37 (v := 1) (by decide) ?_
    refine r_goto MF.bs dX6_itemHere_38 (tgt := 42) (by decide) ?_
    exact cX6_itemHere_42 M0 v2 1 v2 M hp
  · have hp := hp.2 h_14
    refine r_icmp_ne_t MF.bs (tgt := 41) dX6_itemHere_34 (by decide) h_14 ?_
    refine r_iconst MF.bs dX6_itemHere_41 (v := 0) (by decide) ?_
    exact cX6_itemHere_42 M0 v2 0 v2 M hp
def mX6_itemHere_95   (M : Mem) : Mem := (mX6_itemHere_103 M)
def PX6_itemHere_95   (M : Mem) : Prop := PX6_itemHere_103 M
set_option maxRecDepth 100000 in
theorem cX6_itemHere_95    (M0 : Mem) (M : Mem) (hp : PX6_itemHere_95 M) : AWP (GV mtX6_itemHere 6 M0 (mX6_itemHere_95 M)) mtX6_itemHere 95 [(0, .ref 46)] [] M := by
  unfold mX6_itemHere_95
  unfold PX6_itemHere_95 at hp
  refine r_goto MF.bs dX6_itemHere_95 (tgt := 103) (by decide) ?_
  exact cX6_itemHere_103 M0 M hp
def mX6_itemHere  (M : Mem) : Mem := (if (mX6_kindHere M) < 0 then (if (mX6_ownHere M) < 0 then (if (mX6_isName 3 119 101 116 116 M) = true then (mX6_itemHere_95 (mX6_wetHere M)) else (mX6_itemHere_103 (mX6_needs 0 M))) else (mX6_itemHere_30 (mX6_ownHere M) (mX6_nextToken M))) else (mX6_itemHere_19 (mX6_airHere (mX6_kindHere M) M)))
def PX6_itemHere  (M : Mem) : Prop := PX6_kindHere M ∧ (PX6_ownHere M ∧ ((((mX6_kindHere M) < 0 → (((mX6_ownHere M) < 0 → PX6_isName 3 119 101 116 116 M ∧ ((((mX6_isName 3 119 101 116 116 M) = true → PX6_wetHere M ∧ (PX6_itemHere_95 (mX6_wetHere M))) ∧ (¬ (mX6_isName 3 119 101 116 116 M) = true → PX6_needs 0 M ∧ (PX6_itemHere_103 (mX6_needs 0 M)))))) ∧ (¬ (mX6_ownHere M) < 0 → PX6_nextToken M ∧ (PX6_itemHere_30 (mX6_ownHere M) (mX6_nextToken M))))) ∧ (¬ (mX6_kindHere M) < 0 → PX6_airHere (mX6_kindHere M) M ∧ (PX6_itemHere_19 (mX6_airHere (mX6_kindHere M) M))))))
set_option maxRecDepth 100000 in
theorem ctX6_itemHere   (M : Mem) (hp : PX6_itemHere M) : CT mtX6_itemHere 6 [.ref 46] M (none, mX6_itemHere M) := by
  refine CT.of (by decide) rfl (Nat.le_of_ble_eq_true rfl) ?_
  show AWP (GV mtX6_itemHere 6 M (mX6_itemHere M)) mtX6_itemHere 0 [(0, .ref 46)] [] M
  unfold mX6_itemHere
  unfold PX6_itemHere at hp
  obtain ⟨hq_1, hp⟩ := hp
  obtain ⟨hq_2, hp⟩ := hp
  refine r_aload_n MF.bs dX6_itemHere_0 rfl 0 rfl ?_
  refine r_callV_v MF.bs (st := []) dX6_itemHere_1 (ctX6_kindHere M hq_1) miX6_kindHere wd_1000 rfl (by decide) rfl (Nat.le_of_ble_eq_true rfl) rfl rfl rfl ?_
  refine r_istore_n MF.bs (lv' := [(1, .int (mX6_kindHere M)), (0, .ref 46)]) dX6_itemHere_4 rfl (by decide) rfl ?_
  refine r_aload_n MF.bs dX6_itemHere_5 rfl 1 rfl ?_
  refine r_callV_v MF.bs (st := []) dX6_itemHere_6 (ctX6_ownHere M hq_2) miX6_ownHere wd_1016 rfl (by decide) rfl (Nat.le_of_ble_eq_true rfl) rfl rfl rfl ?_
  refine r_istore_n MF.bs (lv' := [(2, .int (mX6_ownHere M)), (1, .int (mX6_kindHere M)), (0, .ref 46)]) dX6_itemHere_9 rfl (by decide) rfl ?_
  refine r_iload_n MF.bs dX6_itemHere_10 rfl 1 rfl ?_
  refine r_ite (GV mtX6_itemHere 6 M) (fun h_3 => ?_) (fun h_3 => ?_)
  · have hp := hp.1 h_3
    refine r_if_lt_t MF.bs (tgt := 22) dX6_itemHere_11 (by decide) h_3 ?_
    refine r_iload_n MF.bs dX6_itemHere_22 rfl 0 rfl ?_
    refine r_ite (GV mtX6_itemHere 6 M) (fun h_4 => ?_) (fun h_4 => ?_)
    · have hp := hp.1 h_4
      refine r_if_lt_t MF.bs (tgt := 75) dX6_itemHere_23 (by decide) h_4 ?_
      obtain ⟨hq_5, hp⟩ := hp
      refine r_aload_n MF.bs dX6_itemHere_75 rfl 2 rfl ?_
      refine r_iconst MF.bs dX6_itemHere_76 (v := 3) (by decide) ?_
      refine r_bipush MF.bs dX6_itemHere_77 (v := 119) (by decide) ?_
      refine r_bipush MF.bs dX6_itemHere_79 (v := 101) (by decide) ?_
      refine r_bipush MF.bs dX6_itemHere_81 (v := 116) (by decide) ?_
      refine r_bipush MF.bs dX6_itemHere_83 (v := 116) (by decide) ?_
      refine r_callV_v MF.bs (st := []) dX6_itemHere_85 (ctX6_isName 3 119 101 116 116 M hq_5) miX6_isName wd_1004 rfl (by decide) rfl (Nat.le_of_ble_eq_true rfl) rfl rfl rfl ?_
      refine r_ite (GV mtX6_itemHere 6 M) (fun h_6 => ?_) (fun h_6 => ?_)
      · have hp := hp.1 h_6
        refine r_if_eq_f MF.bs (tgt := 98) dX6_itemHere_88 (by decide) (b2i_1 h_6) ?_
        obtain ⟨hq_7, hp⟩ := hp
        refine r_aload_n MF.bs dX6_itemHere_91 rfl 2 rfl ?_
        refine r_callV_n MF.bs (st := []) dX6_itemHere_92 (ctX6_wetHere M hq_7) miX6_wetHere wd_1048 rfl (by decide) rfl (Nat.le_of_ble_eq_true rfl) rfl rfl rfl ?_
        refine r_sub [(0, .ref 46)] [2] rfl ?_
        exact cX6_itemHere_95 M (mX6_wetHere M) hp
      · have hp := hp.2 h_6
        refine r_if_eq_t MF.bs (tgt := 98) dX6_itemHere_88 (by decide) (b2i_0 h_6) ?_
        obtain ⟨hq_8, hp⟩ := hp
        refine r_aload_n MF.bs dX6_itemHere_98 rfl 2 rfl ?_
        refine r_iconst MF.bs dX6_itemHere_99 (v := 0) (by decide) ?_
        refine r_callV_n MF.bs (st := []) dX6_itemHere_100 (ctX6_needs 0 M hq_8) miX6_needs wd_1024 rfl (by decide) rfl (Nat.le_of_ble_eq_true rfl) rfl rfl rfl ?_
        refine r_sub [(0, .ref 46)] [2] rfl ?_
        exact cX6_itemHere_103 M (mX6_needs 0 M) hp
    · have hp := hp.2 h_4
      refine r_if_lt_f MF.bs (tgt := 75) dX6_itemHere_23 (by decide) h_4 ?_
      obtain ⟨hq_9, hp⟩ := hp
      refine r_aload_n MF.bs dX6_itemHere_26 rfl 2 rfl ?_
      refine r_callV_n MF.bs (st := []) dX6_itemHere_27 (ctX6_nextToken M hq_9) miX6_nextToken wd_982 rfl (by decide) rfl (Nat.le_of_ble_eq_true rfl) rfl rfl rfl ?_
      refine r_sub [(0, .ref 46), (2, .int (mX6_ownHere M))] [2, 0] rfl ?_
      exact cX6_itemHere_30 M (mX6_ownHere M) (mX6_nextToken M) hp
  · have hp := hp.2 h_3
    refine r_if_lt_f MF.bs (tgt := 22) dX6_itemHere_11 (by decide) h_3 ?_
    obtain ⟨hq_10, hp⟩ := hp
    refine r_aload_n MF.bs dX6_itemHere_14 rfl 2 rfl ?_
    refine r_iload_n MF.bs dX6_itemHere_15 rfl 1 rfl ?_
    refine r_callV_n MF.bs (st := []) dX6_itemHere_16 (ctX6_airHere (mX6_kindHere M) M hq_10) miX6_airHere wd_1020 rfl (by decide) rfl (Nat.le_of_ble_eq_true rfl) rfl rfl rfl ?_
    refine r_sub [(0, .ref 46)] [2] rfl ?_
    exact cX6_itemHere_19 M (mX6_airHere (mX6_kindHere M) M) hp
abbrev mtX6_city : MT := (RX6, yX6_city, cX6_city, 1, (some .int))
theorem miX6_city : MV mtX6_city 0 := ⟨wd_978, ⟨wd_976, wd_977⟩, wd_86, ⟨by decide, by decide, by decide +kernel⟩, by decide⟩
def mX6_city_47   (kf29 : Mem → Int32 × Mem) (M : Mem) : Int32 × Mem := (kf29 M)
def PX6_city_47   (kP29 : Mem → Prop) (M : Mem) : Prop := kP29 M
set_option maxRecDepth 100000 in
theorem cX6_city_47    (M0 : Mem) (kf29 : Mem → Int32 × Mem) (kP29 : Mem → Prop) (hk29 : ∀ (M : Mem), kP29 M → AWP (GIM mtX6_city 7 M0 (kf29 M)) mtX6_city 29 [(0, .ref 46)] [] M) (M : Mem) (hp : PX6_city_47 kP29 M) : AWP (GIM mtX6_city 7 M0 (mX6_city_47 kf29 M)) mtX6_city 47 [(0, .ref 46)] [] M := by
  unfold mX6_city_47
  unfold PX6_city_47 at hp
  refine r_goto MF.bs dX6_city_47 (tgt := 29) (by decide) ?_
  exact hk29 M hp
def mX6_city_73   (M : Mem) : Int32 × Mem := (((-100) - (M 46 8)), M)
def PX6_city_73   (M : Mem) : Prop := True
set_option maxRecDepth 100000 in
theorem cX6_city_73    (M0 : Mem) (M : Mem) (hp : PX6_city_73 M) : AWP (GIM mtX6_city 7 M0 (mX6_city_73 M)) mtX6_city 73 [(0, .ref 46)] [] M := by
  unfold mX6_city_73
  unfold PX6_city_73 at hp
  refine r_bipush MF.bs dX6_city_73 (v := -100) (by decide) ?_
  refine r_aload_n MF.bs dX6_city_75 rfl 0 rfl ?_
  refine r_getI MF.bs dX6_city_76 rfl rfl 8 (by decide) wd_883 rfl ?_
  refine r_isub MF.bs dX6_city_79 ?_
  exact r_iret dX6_city_80 rfl
def mX6_city_50   (M : Mem) : Int32 × Mem := (if ((upm M 46 6 0) 46 11) = 0 then (((upm (upm M 46 6 0) 46 17 0) 47 0), (upm (upm M 46 6 0) 46 17 0)) else (mX6_city_73 (mX6_copyRow 50 56 47 56 (upm M 46 6 0))))
def PX6_city_50   (M : Mem) : Prop := (¬ ((upm M 46 6 0) 46 11) = 0 → PX6_copyRow 50 56 47 56 (upm M 46 6 0) ∧ (PX6_city_73 (mX6_copyRow 50 56 47 56 (upm M 46 6 0))))
set_option maxRecDepth 100000 in
theorem cX6_city_50    (M0 : Mem) (M : Mem) (hp : PX6_city_50 M) : AWP (GIM mtX6_city 7 M0 (mX6_city_50 M)) mtX6_city 50 [(0, .ref 46)] [] M := by
  unfold mX6_city_50
  unfold PX6_city_50 at hp
  refine r_aload_n MF.bs dX6_city_50 rfl 0 rfl ?_
  refine r_iconst MF.bs dX6_city_51 (v := 0) (by decide) ?_
  refine r_putI MF.bs dX6_city_52 rfl rfl 6 (by decide) wd_881 rfl rfl rfl rfl rfl ?_
  refine r_aload_n MF.bs dX6_city_55 rfl 0 rfl ?_
  refine r_getI MF.bs dX6_city_56 rfl rfl 11 (by decide) wd_886 rfl ?_
  refine r_ite (GIM mtX6_city 7 M0) (fun h_7 => ?_) (fun h_7 => ?_)
  · refine r_if_eq_t MF.bs (tgt := 81) dX6_city_59 (by decide) h_7 ?_
    refine r_aload_n MF.bs dX6_city_81 rfl 0 rfl ?_
    refine r_iconst MF.bs dX6_city_82 (v := 0) (by decide) ?_
    refine r_putI MF.bs dX6_city_83 rfl rfl 17 (by decide) wd_892 rfl rfl rfl rfl rfl ?_
    refine r_aload_n MF.bs dX6_city_86 rfl 0 rfl ?_
    refine r_getR MF.bs dX6_city_87 rfl rfl 0 (by decide) wd_875 rfl ?_
    refine r_iconst MF.bs dX6_city_90 (v := 0) (by decide) ?_
    refine r_ialoadL MF.bs dX6_city_91 rfl (vin_l (by decide) (by decide)) (k9 := 0) (by decide) ?_
    exact r_iret dX6_city_92 rfl
  · have hp := hp h_7
    refine r_if_eq_f MF.bs (tgt := 81) dX6_city_59 (by decide) h_7 ?_
    obtain ⟨hq_8, hp⟩ := hp
    refine r_aload_n MF.bs dX6_city_62 rfl 0 rfl ?_
    refine r_getR MF.bs dX6_city_63 rfl rfl 3 (by decide) wd_878 rfl ?_
    refine r_aload_n MF.bs dX6_city_66 rfl 0 rfl ?_
    refine r_getR MF.bs dX6_city_67 rfl rfl 0 (by decide) wd_875 rfl ?_
    refine r_callS_n MF.bs (st := []) dX6_city_70 (ctX6_copyRow 50 56 47 56 rfl rfl (upm M 46 6 0) hq_8) miX6_copyRow wd_979 rfl (by decide) rfl (Nat.le_of_ble_eq_true rfl) ?_
    exact cX6_city_73 M0 (mX6_copyRow 50 56 47 56 (upm M 46 6 0)) hp
def mX6_city_29   : Nat → Mem → Int32 × Mem
  | 0, M => (0, M)
  | n + 1, M => (if (M 46 11) = 0 then (if (M 46 7) = 0 then (mX6_city_50 M) else (mX6_city_47 (mX6_city_29 n) (mX6_itemHere M))) else (mX6_city_50 M))
def PX6_city_29   : Nat → Mem → Prop
  | 0, _ => False
  | n + 1, M => (((M 46 11) = 0 → (((M 46 7) = 0 → PX6_city_50 M) ∧ (¬ (M 46 7) = 0 → PX6_itemHere M ∧ (PX6_city_47 (PX6_city_29 n) (mX6_itemHere M))))) ∧ (¬ (M 46 11) = 0 → PX6_city_50 M))
set_option maxRecDepth 100000 in
theorem cX6_city_29    (M0 : Mem) : ∀ (n : Nat) (M : Mem), PX6_city_29 n M → AWP (GIM mtX6_city 7 M0 (mX6_city_29 n M)) mtX6_city 29 [(0, .ref 46)] [] M := by
  intro n
  induction n with
  | zero =>
    intro M hp
    exact hp.elim
  | succ n ih =>
    intro M hp
    rw [mX6_city_29]
    rw [PX6_city_29] at hp
    refine r_aload_n MF.bs dX6_city_29 rfl 0 rfl ?_
    refine r_getI MF.bs dX6_city_30 rfl rfl 11 (by decide) wd_886 rfl ?_
    refine r_ite (GIM mtX6_city 7 M0) (fun h_4 => ?_) (fun h_4 => ?_)
    · have hp := hp.1 h_4
      refine r_if_ne_f MF.bs (tgt := 50) dX6_city_33 (by decide) h_4 ?_
      refine r_aload_n MF.bs dX6_city_36 rfl 0 rfl ?_
      refine r_getI MF.bs dX6_city_37 rfl rfl 7 (by decide) wd_882 rfl ?_
      refine r_ite (GIM mtX6_city 7 M0) (fun h_5 => ?_) (fun h_5 => ?_)
      · have hp := hp.1 h_5
        refine r_if_eq_t MF.bs (tgt := 50) dX6_city_40 (by decide) h_5 ?_
        exact cX6_city_50 M0 M hp
      · have hp := hp.2 h_5
        refine r_if_eq_f MF.bs (tgt := 50) dX6_city_40 (by decide) h_5 ?_
        obtain ⟨hq_6, hp⟩ := hp
        refine r_aload_n MF.bs dX6_city_43 rfl 0 rfl ?_
        refine r_callV_n MF.bs (st := []) dX6_city_44 (ctX6_itemHere M hq_6) miX6_itemHere wd_996 rfl (by decide) rfl (Nat.le_of_ble_eq_true rfl) rfl rfl rfl ?_
        exact cX6_city_47 M0 (mX6_city_29 n) (PX6_city_29 n) ih (mX6_itemHere M) hp
    · have hp := hp.2 h_4
      refine r_if_ne_t MF.bs (tgt := 50) dX6_city_33 (by decide) h_4 ?_
      exact cX6_city_50 M0 M hp
def mX6_city_15   (M : Mem) : Int32 × Mem := (mX6_city_29 400 (mX6_nextToken (upm (upm M 46 9 0) 46 11 0)))
def PX6_city_15   (M : Mem) : Prop := PX6_nextToken (upm (upm M 46 9 0) 46 11 0) ∧ (PX6_city_29 400 (mX6_nextToken (upm (upm M 46 9 0) 46 11 0)))
set_option maxRecDepth 100000 in
theorem cX6_city_15    (M0 : Mem) (M : Mem) (hp : PX6_city_15 M) : AWP (GIM mtX6_city 7 M0 (mX6_city_15 M)) mtX6_city 15 [(0, .ref 46)] [] M := by
  unfold mX6_city_15
  unfold PX6_city_15 at hp
  obtain ⟨hq_3, hp⟩ := hp
  refine r_aload_n MF.bs dX6_city_15 rfl 0 rfl ?_
  refine r_iconst MF.bs dX6_city_16 (v := 0) (by decide) ?_
  refine r_putI MF.bs dX6_city_17 rfl rfl 9 (by decide) wd_884 rfl rfl rfl rfl rfl ?_
  refine r_aload_n MF.bs dX6_city_20 rfl 0 rfl ?_
  refine r_iconst MF.bs dX6_city_21 (v := 0) (by decide) ?_
  refine r_putI MF.bs dX6_city_22 rfl rfl 11 (by decide) wd_886 rfl rfl rfl rfl rfl ?_
  refine r_aload_n MF.bs dX6_city_25 rfl 0 rfl ?_
  refine r_callV_n MF.bs (st := []) dX6_city_26 (ctX6_nextToken (upm (upm M 46 9 0) 46 11 0) hq_3) miX6_nextToken wd_982 rfl (by decide) rfl (Nat.le_of_ble_eq_true rfl) rfl rfl rfl ?_
  exact cX6_city_29 M0 400 (mX6_nextToken (upm (upm M 46 9 0) 46 11 0)) hp
def mX6_city_11   (M : Mem) : Int32 × Mem := (mX6_city_15 (mX6_begins M))
def PX6_city_11   (M : Mem) : Prop := PX6_begins M ∧ (PX6_city_15 (mX6_begins M))
set_option maxRecDepth 100000 in
theorem cX6_city_11    (M0 : Mem) (M : Mem) (hp : PX6_city_11 M) : AWP (GIM mtX6_city 7 M0 (mX6_city_11 M)) mtX6_city 11 [(0, .ref 46)] [] M := by
  unfold mX6_city_11
  unfold PX6_city_11 at hp
  obtain ⟨hq_2, hp⟩ := hp
  refine r_aload_n MF.bs dX6_city_11 rfl 0 rfl ?_
  refine r_callV_n MF.bs (st := []) dX6_city_12 (ctX6_begins M hq_2) miX6_begins wd_871 rfl (by decide) rfl (Nat.le_of_ble_eq_true rfl) rfl rfl rfl ?_
  exact cX6_city_15 M0 (mX6_begins M) hp
def mX6_city  (M : Mem) : Int32 × Mem := (mX6_city_11 (mX6_copyRow 47 56 50 56 M))
def PX6_city  (M : Mem) : Prop := PX6_copyRow 47 56 50 56 M ∧ (PX6_city_11 (mX6_copyRow 47 56 50 56 M))
set_option maxRecDepth 100000 in
theorem ctX6_city   (M : Mem) (hp : PX6_city M) : CT mtX6_city 7 [.ref 46] M (some (.int ((mX6_city M).1)), (mX6_city M).2) := by
  refine CT.of (by decide) rfl (Nat.le_of_ble_eq_true rfl) ?_
  show AWP (GIM mtX6_city 7 M (mX6_city M)) mtX6_city 0 [(0, .ref 46)] [] M
  unfold mX6_city
  unfold PX6_city at hp
  obtain ⟨hq_1, hp⟩ := hp
  refine r_aload_n MF.bs dX6_city_0 rfl 0 rfl ?_
  refine r_getR MF.bs dX6_city_1 rfl rfl 0 (by decide) wd_875 rfl ?_
  refine r_aload_n MF.bs dX6_city_4 rfl 0 rfl ?_
  refine r_getR MF.bs dX6_city_5 rfl rfl 3 (by decide) wd_878 rfl ?_
  refine r_callS_n MF.bs (st := []) dX6_city_8 (ctX6_copyRow 47 56 50 56 rfl rfl M hq_1) miX6_copyRow wd_979 rfl (by decide) rfl (Nat.le_of_ble_eq_true rfl) ?_
  exact cX6_city_11 M (mX6_copyRow 47 56 50 56 M) hp
abbrev mtX6_set : MT := (RX6, yX6_set, cX6_set, 4, (some .int))
theorem miX6_set : MV mtX6_set 2 := ⟨wd_1055, ⟨wd_1053, wd_1054⟩, wd_86, ⟨by decide, by decide, by decide +kernel⟩, by decide⟩
def mX6_set_66   (k0 : Int32) (M : Mem) : Int32 × Mem := (k0, M)
def PX6_set_66   (k0 : Int32) (M : Mem) : Prop := True
set_option maxRecDepth 100000 in
theorem cX6_set_66    (M0 : Mem) (k0 : Int32) (M : Mem) (hp : PX6_set_66 k0 M) : AWP (GIM mtX6_set 1 M0 (mX6_set_66 k0 M)) mtX6_set 66 [] [.int k0] M := by
  unfold mX6_set_66
  unfold PX6_set_66 at hp
  refine r_goto MF.bs dX6_set_66 (tgt := 70) (by decide) ?_
  exact r_iret dX6_set_70 rfl
def mX6_set_53   (v1 : Int32) (v2 : Int32) (k0 : Int32) (M : Mem) : Int32 × Mem := (if k0 = 0 then ((-1), M) else (mX6_set_66 ((mX6_becomes (4 + v1) v2 M).1) ((mX6_becomes (4 + v1) v2 M).2)))
def PX6_set_53   (v1 : Int32) (v2 : Int32) (k0 : Int32) (M : Mem) : Prop := (¬ k0 = 0 → PX6_becomes (4 + v1) v2 M ∧ (PX6_set_66 ((mX6_becomes (4 + v1) v2 M).1) ((mX6_becomes (4 + v1) v2 M).2)))
set_option maxRecDepth 100000 in
theorem cX6_set_53    (M0 : Mem) (v1 : Int32) (v2 : Int32) (k0 : Int32) (M : Mem) (hp : PX6_set_53 v1 v2 k0 M) : AWP (GIM mtX6_set 1 M0 (mX6_set_53 v1 v2 k0 M)) mtX6_set 53 [(0, .ref 46), (1, .int v1), (2, .int v2)] [.int k0] M := by
  unfold mX6_set_53
  unfold PX6_set_53 at hp
  refine r_istore_n MF.bs (lv' := [(3, .int k0), (0, .ref 46), (1, .int v1), (2, .int v2)]) dX6_set_53 rfl (by decide) rfl ?_
  refine r_iload_n MF.bs dX6_set_54 rfl 0 rfl ?_
  refine r_ite (GIM mtX6_set 1 M0) (fun h_6 => ?_) (fun h_6 => ?_)
  · refine r_if_eq_t MF.bs (tgt := 69) dX6_set_55 (by decide) h_6 ?_
    refine r_iconst MF.bs dX6_set_69 (v := -1) (by decide) ?_
    exact r_iret dX6_set_70 rfl
  · have hp := hp h_6
    refine r_if_eq_f MF.bs (tgt := 69) dX6_set_55 (by decide) h_6 ?_
    obtain ⟨hq_7, hp⟩ := hp
    refine r_aload_n MF.bs dX6_set_58 rfl 1 rfl ?_
    refine r_iconst MF.bs dX6_set_59 (v := 4) (by decide) ?_
    refine r_iload_n MF.bs dX6_set_60 rfl 2 rfl ?_
    refine r_iadd MF.bs dX6_set_61 ?_
    refine r_iload_n MF.bs dX6_set_62 rfl 3 rfl ?_
    refine r_callV_v MF.bs (st := []) dX6_set_63 (ctX6_becomes (4 + v1) v2 M hq_7) miX6_becomes wd_1059 rfl (by decide) rfl (Nat.le_of_ble_eq_true rfl) rfl rfl rfl ?_
    refine r_sub [] [] rfl ?_
    exact cX6_set_66 M0 ((mX6_becomes (4 + v1) v2 M).1) ((mX6_becomes (4 + v1) v2 M).2) hp
def mX6_set_52   (v1 : Int32) (v2 : Int32) (M : Mem) : Int32 × Mem := (mX6_set_53 v1 v2 0 M)
def PX6_set_52   (v1 : Int32) (v2 : Int32) (M : Mem) : Prop := PX6_set_53 v1 v2 0 M
set_option maxRecDepth 100000 in
theorem cX6_set_52    (M0 : Mem) (v1 : Int32) (v2 : Int32) (M : Mem) (hp : PX6_set_52 v1 v2 M) : AWP (GIM mtX6_set 1 M0 (mX6_set_52 v1 v2 M)) mtX6_set 52 [(0, .ref 46), (1, .int v1), (2, .int v2)] [] M := by
  unfold mX6_set_52
  unfold PX6_set_52 at hp
  refine r_iconst MF.bs dX6_set_52 (v := 0) (by decide) ?_
  exact cX6_set_53 M0 v1 v2 0 M hp
def mX6_set_42   (v1 : Int32) (v2 : Int32) (k0 : Int64) (k1 : Int64) (k2 : Int64) (M : Mem) : Int32 × Mem := (if (mX6_isIn k2 k1 k0) = true then (mX6_set_53 v1 v2 1 M) else (mX6_set_52 v1 v2 M))
def PX6_set_42   (v1 : Int32) (v2 : Int32) (k0 : Int64) (k1 : Int64) (k2 : Int64) (M : Mem) : Prop := (((mX6_isIn k2 k1 k0) = true → PX6_set_53 v1 v2 1 M) ∧ (¬ (mX6_isIn k2 k1 k0) = true → PX6_set_52 v1 v2 M))
set_option maxRecDepth 100000 in
theorem cX6_set_42    (M0 : Mem) (v1 : Int32) (v2 : Int32) (k0 : Int64) (k1 : Int64) (k2 : Int64) (M : Mem) (hp : PX6_set_42 v1 v2 k0 k1 k2 M) : AWP (GIM mtX6_set 1 M0 (mX6_set_42 v1 v2 k0 k1 k2 M)) mtX6_set 42 [(0, .ref 46), (1, .int v1), (2, .int v2)] [.long k0, .long k1, .long k2] M := by
  unfold mX6_set_42
  unfold PX6_set_42 at hp
  refine r_callS_v MF.bs (st := []) dX6_set_42 (ctX6_isIn k2 k1 k0 M) miX6_isIn wd_971 rfl (by decide) rfl (Nat.le_of_ble_eq_true rfl) ?_
  refine r_ite (GIM mtX6_set 1 M0) (fun h_5 => ?_) (fun h_5 => ?_)
  · have hp := hp.1 h_5
    refine r_if_eq_f MF.bs (tgt := 52) dX6_set_45 (by decide) (b2i_1 h_5) ?_
    refine r_iconst MF.bs dX6_set_48 (v := 1) (by decide) ?_
    refine r_goto MF.bs dX6_set_49 (tgt := 53) (by decide) ?_
    exact cX6_set_53 M0 v1 v2 1 M hp
  · have hp := hp.2 h_5
    refine r_if_eq_t MF.bs (tgt := 52) dX6_set_45 (by decide) (b2i_0 h_5) ?_
    exact cX6_set_52 M0 v1 v2 M hp
def mX6_set_33   (v1 : Int32) (v2 : Int32) (k0 : Int64) (k1 : Int64) (M : Mem) : Int32 × Mem := (mX6_set_42 v1 v2 99 k0 k1 M)
def PX6_set_33   (v1 : Int32) (v2 : Int32) (k0 : Int64) (k1 : Int64) (M : Mem) : Prop := PX6_set_42 v1 v2 99 k0 k1 M
set_option maxRecDepth 100000 in
theorem cX6_set_33    (M0 : Mem) (v1 : Int32) (v2 : Int32) (k0 : Int64) (k1 : Int64) (M : Mem) (hp : PX6_set_33 v1 v2 k0 k1 M) : AWP (GIM mtX6_set 1 M0 (mX6_set_33 v1 v2 k0 k1 M)) mtX6_set 33 [(0, .ref 46), (1, .int v1), (2, .int v2)] [.long k0, .long k1] M := by
  unfold mX6_set_33
  unfold PX6_set_33 at hp
  refine r_ldc2 MF.bs (v := 99) dX6_set_33 wd_1057 ?_
  refine r_goto MF.bs dX6_set_36 (tgt := 42) (by decide) ?_
  exact cX6_set_42 M0 v1 v2 99 k0 k1 M hp
def mX6_set_23   (v1 : Int32) (v2 : Int32) (k0 : Int64) (k1 : Int64) (M : Mem) : Int32 × Mem := (if v1 = 1 then (mX6_set_33 v1 v2 k0 k1 M) else (if v1 = 3 then (mX6_set_33 v1 v2 k0 k1 M) else (mX6_set_42 v1 v2 9 k0 k1 M)))
def PX6_set_23   (v1 : Int32) (v2 : Int32) (k0 : Int64) (k1 : Int64) (M : Mem) : Prop := ((v1 = 1 → PX6_set_33 v1 v2 k0 k1 M) ∧ (¬ v1 = 1 → ((v1 = 3 → PX6_set_33 v1 v2 k0 k1 M) ∧ (¬ v1 = 3 → PX6_set_42 v1 v2 9 k0 k1 M))))
set_option maxRecDepth 100000 in
theorem cX6_set_23    (M0 : Mem) (v1 : Int32) (v2 : Int32) (k0 : Int64) (k1 : Int64) (M : Mem) (hp : PX6_set_23 v1 v2 k0 k1 M) : AWP (GIM mtX6_set 1 M0 (mX6_set_23 v1 v2 k0 k1 M)) mtX6_set 23 [(0, .ref 46), (1, .int v1), (2, .int v2)] [.long k0, .long k1] M := by
  unfold mX6_set_23
  unfold PX6_set_23 at hp
  refine r_iload_n MF.bs dX6_set_23 rfl 1 rfl ?_
  refine r_iconst MF.bs dX6_set_24 (v := 1) (by decide) ?_
  refine r_ite (GIM mtX6_set 1 M0) (fun h_3 => ?_) (fun h_3 => ?_)
  · have hp := hp.1 h_3
    refine r_icmp_eq_t MF.bs (tgt := 33) dX6_set_25 (by decide) h_3 ?_
    exact cX6_set_33 M0 v1 v2 k0 k1 M hp
  · have hp := hp.2 h_3
    refine r_icmp_eq_f MF.bs (tgt := 33) dX6_set_25 (by decide) h_3 ?_
    refine r_iload_n MF.bs dX6_set_28 rfl 1 rfl ?_
    refine r_iconst MF.bs dX6_set_29 (v := 3) (by decide) ?_
    refine r_ite (GIM mtX6_set 1 M0) (fun h_4 => ?_) (fun h_4 => ?_)
    · have hp := hp.1 h_4
      refine r_icmp_ne_f MF.bs (tgt := 39) dX6_set_30 (by decide) h_4 ?_
      exact cX6_set_33 M0 v1 v2 k0 k1 M hp
    · have hp := hp.2 h_4
      refine r_icmp_ne_t MF.bs (tgt := 39) dX6_set_30 (by decide) h_4 ?_
      refine r_ldc2 MF.bs (v := 9) dX6_set_39 wd_1058 ?_
      exact cX6_set_42 M0 v1 v2 9 k0 k1 M hp
def mX6_set  (a1 : Int32) (a2 : Int32) (M : Mem) : Int32 × Mem := (if (mX6_isIn ((a1 : Int32).toInt64) 0 3) = true then (if a1 = 0 then (mX6_set_23 a1 a2 1 ((a2 : Int32).toInt64) M) else (mX6_set_23 a1 a2 0 ((a2 : Int32).toInt64) M)) else (mX6_set_52 a1 a2 M))
def PX6_set  (a1 : Int32) (a2 : Int32) (M : Mem) : Prop := (((mX6_isIn ((a1 : Int32).toInt64) 0 3) = true → ((a1 = 0 → PX6_set_23 a1 a2 1 ((a2 : Int32).toInt64) M) ∧ (¬ a1 = 0 → PX6_set_23 a1 a2 0 ((a2 : Int32).toInt64) M))) ∧ (¬ (mX6_isIn ((a1 : Int32).toInt64) 0 3) = true → PX6_set_52 a1 a2 M))
set_option maxRecDepth 100000 in
theorem ctX6_set   (a1 : Int32) (a2 : Int32) (M : Mem) (hp : PX6_set a1 a2 M) : CT mtX6_set 1 [.ref 46, .int a1, .int a2] M (some (.int ((mX6_set a1 a2 M).1)), (mX6_set a1 a2 M).2) := by
  refine CT.of (by decide) rfl (Nat.le_of_ble_eq_true rfl) ?_
  show AWP (GIM mtX6_set 1 M (mX6_set a1 a2 M)) mtX6_set 0 [(0, .ref 46), (1, .int a1), (2, .int a2)] [] M
  unfold mX6_set
  unfold PX6_set at hp
  refine r_iload_n MF.bs dX6_set_0 rfl 1 rfl ?_
  refine r_i2l MF.bs dX6_set_1 ?_
  refine r_lconst MF.bs dX6_set_2 (v := 0) (by decide) ?_
  refine r_ldc2 MF.bs (v := 3) dX6_set_3 wd_1056 ?_
  refine r_callS_v MF.bs (st := []) dX6_set_6 (ctX6_isIn ((a1 : Int32).toInt64) 0 3 M) miX6_isIn wd_971 rfl (by decide) rfl (Nat.le_of_ble_eq_true rfl) ?_
  refine r_ite (GIM mtX6_set 1 M) (fun h_1 => ?_) (fun h_1 => ?_)
  · have hp := hp.1 h_1
    refine r_if_eq_f MF.bs (tgt := 52) dX6_set_9 (by decide) (b2i_1 h_1) ?_
    refine r_iload_n MF.bs dX6_set_12 rfl 2 rfl ?_
    refine r_i2l MF.bs dX6_set_13 ?_
    refine r_iload_n MF.bs dX6_set_14 rfl 1 rfl ?_
    refine r_ite (GIM mtX6_set 1 M) (fun h_2 => ?_) (fun h_2 => ?_)
    · have hp := hp.1 h_2
      refine r_if_ne_f MF.bs (tgt := 22) dX6_set_15 (by decide) h_2 ?_
      refine r_lconst MF.bs dX6_set_18 (v := 1) (by decide) ?_
      refine r_goto MF.bs dX6_set_19 (tgt := 23) (by decide) ?_
      exact cX6_set_23 M a1 a2 1 ((a2 : Int32).toInt64) M hp
    · have hp := hp.2 h_2
      refine r_if_ne_t MF.bs (tgt := 22) dX6_set_15 (by decide) h_2 ?_
      refine r_lconst MF.bs dX6_set_22 (v := 0) (by decide) ?_
      exact cX6_set_23 M a1 a2 0 ((a2 : Int32).toInt64) M hp
  · have hp := hp.2 h_1
    refine r_if_eq_t MF.bs (tgt := 52) dX6_set_9 (by decide) (b2i_0 h_1) ?_
    exact cX6_set_52 M a1 a2 M hp
abbrev mtX6_lawOf : MT := (RX6, yX6_lawOf, cX6_lawOf, 2, (some .int))
theorem miX6_lawOf : MV mtX6_lawOf 1 := ⟨wd_1066, ⟨wd_1064, wd_1065⟩, wd_86, ⟨by decide, by decide, by decide +kernel⟩, by decide⟩
def mX6_lawOf  (a1 : Int32) (M : Mem) : Int32 := (if (mX6_isIn ((a1 : Int32).toInt64) 0 3) = true then (M 47 (4 + a1).toNatClampNeg) else (-1))
def PX6_lawOf  (a1 : Int32) (M : Mem) : Prop := ((mX6_isIn ((a1 : Int32).toInt64) 0 3) = true → vp_in (4 + a1) 56)
set_option maxRecDepth 100000 in
theorem ctX6_lawOf   (a1 : Int32) (M : Mem) (hp : PX6_lawOf a1 M) : CT mtX6_lawOf 1 [.ref 46, .int a1] M (some (.int (mX6_lawOf a1 M)), M) := by
  refine CT.of (by decide) rfl (Nat.le_of_ble_eq_true rfl) ?_
  show AWP (GI mtX6_lawOf 1 M M (mX6_lawOf a1 M)) mtX6_lawOf 0 [(0, .ref 46), (1, .int a1)] [] M
  unfold mX6_lawOf
  unfold PX6_lawOf at hp
  refine r_iload_n MF.bs dX6_lawOf_0 rfl 1 rfl ?_
  refine r_i2l MF.bs dX6_lawOf_1 ?_
  refine r_lconst MF.bs dX6_lawOf_2 (v := 0) (by decide) ?_
  refine r_ldc2 MF.bs (v := 3) dX6_lawOf_3 wd_1056 ?_
  refine r_callS_v MF.bs (st := []) dX6_lawOf_6 (ctX6_isIn ((a1 : Int32).toInt64) 0 3 M) miX6_isIn wd_971 rfl (by decide) rfl (Nat.le_of_ble_eq_true rfl) ?_
  refine r_ite (GI mtX6_lawOf 1 M M) (fun h_1 => ?_) (fun h_1 => ?_)
  · have hp := hp h_1
    refine r_if_eq_f MF.bs (tgt := 23) dX6_lawOf_9 (by decide) (b2i_1 h_1) ?_
    have hq_2 := hp
    refine r_aload_n MF.bs dX6_lawOf_12 rfl 0 rfl ?_
    refine r_getR MF.bs dX6_lawOf_13 rfl rfl 0 (by decide) wd_875 rfl ?_
    refine r_iconst MF.bs dX6_lawOf_16 (v := 4) (by decide) ?_
    refine r_iload_n MF.bs dX6_lawOf_17 rfl 1 rfl ?_
    refine r_iadd MF.bs dX6_lawOf_18 ?_
    refine r_iaload MF.bs dX6_lawOf_19 rfl hq_2 ?_
    refine r_goto MF.bs dX6_lawOf_20 (tgt := 24) (by decide) ?_
    exact r_iret dX6_lawOf_24 rfl
  · refine r_if_eq_t MF.bs (tgt := 23) dX6_lawOf_9 (by decide) (b2i_0 h_1) ?_
    refine r_iconst MF.bs dX6_lawOf_23 (v := -1) (by decide) ?_
    exact r_iret dX6_lawOf_24 rfl
abbrev mtX6_air : MT := (RX6, yX6_air, cX6_air, 5, (some .int))
theorem miX6_air : MV mtX6_air 4 := ⟨wd_1070, ⟨wd_1068, wd_1069⟩, wd_86, ⟨by decide, by decide, by decide +kernel⟩, by decide⟩
def mX6_air_64   (M : Mem) : Int32 × Mem := (((M 47 0) - 1), M)
def PX6_air_64   (M : Mem) : Prop := True
set_option maxRecDepth 100000 in
theorem cX6_air_64    (M0 : Mem) (M : Mem) (hp : PX6_air_64 M) : AWP (GIM mtX6_air 1 M0 (mX6_air_64 M)) mtX6_air 64 [(0, .ref 46)] [] M := by
  unfold mX6_air_64
  unfold PX6_air_64 at hp
  refine r_aload_n MF.bs dX6_air_64 rfl 0 rfl ?_
  refine r_getR MF.bs dX6_air_65 rfl rfl 0 (by decide) wd_875 rfl ?_
  refine r_iconst MF.bs dX6_air_68 (v := 0) (by decide) ?_
  refine r_ialoadL MF.bs dX6_air_69 rfl (vin_l (by decide) (by decide)) (k9 := 0) (by decide) ?_
  refine r_iconst MF.bs dX6_air_70 (v := 1) (by decide) ?_
  refine r_isub MF.bs dX6_air_71 ?_
  exact r_iret dX6_air_72 rfl
def mX6_air  (a1 : Int32) (a2 : Int32) (a3 : Int32) (a4 : Int32) (M : Mem) : Int32 × Mem := (if (mX6_isIn ((a1 : Int32).toInt64) 0 5) = true then (if (mX6_isIn ((a2 : Int32).toInt64) 0 9) = true then (if (mX6_isHouse a3) = true then (if (mX6_isHouse a4) = true then (if (M 47 0) = 8 then ((-2), M) else (mX6_air_64 (mX6_comes a1 a2 a3 a4 M))) else ((-1), M)) else ((-1), M)) else ((-1), M)) else ((-1), M))
def PX6_air  (a1 : Int32) (a2 : Int32) (a3 : Int32) (a4 : Int32) (M : Mem) : Prop := ((mX6_isIn ((a1 : Int32).toInt64) 0 5) = true → ((mX6_isIn ((a2 : Int32).toInt64) 0 9) = true → ((mX6_isHouse a3) = true → ((mX6_isHouse a4) = true → (¬ (M 47 0) = 8 → PX6_comes a1 a2 a3 a4 M ∧ (PX6_air_64 (mX6_comes a1 a2 a3 a4 M)))))))
set_option maxRecDepth 100000 in
theorem ctX6_air   (a1 : Int32) (a2 : Int32) (a3 : Int32) (a4 : Int32) (M : Mem) (hp : PX6_air a1 a2 a3 a4 M) : CT mtX6_air 1 [.ref 46, .int a1, .int a2, .int a3, .int a4] M (some (.int ((mX6_air a1 a2 a3 a4 M).1)), (mX6_air a1 a2 a3 a4 M).2) := by
  refine CT.of (by decide) rfl (Nat.le_of_ble_eq_true rfl) ?_
  show AWP (GIM mtX6_air 1 M (mX6_air a1 a2 a3 a4 M)) mtX6_air 0 [(0, .ref 46), (1, .int a1), (2, .int a2), (3, .int a3), (4, .int a4)] [] M
  unfold mX6_air
  unfold PX6_air at hp
  refine r_iload_n MF.bs dX6_air_0 rfl 1 rfl ?_
  refine r_i2l MF.bs dX6_air_1 ?_
  refine r_lconst MF.bs dX6_air_2 (v := 0) (by decide) ?_
  refine r_ldc2 MF.bs (v := 5) dX6_air_3 wd_1071 ?_
  refine r_callS_v MF.bs (st := []) dX6_air_6 (ctX6_isIn ((a1 : Int32).toInt64) 0 5 M) miX6_isIn wd_971 rfl (by decide) rfl (Nat.le_of_ble_eq_true rfl) ?_
  refine r_ite (GIM mtX6_air 1 M) (fun h_1 => ?_) (fun h_1 => ?_)
  · have hp := hp h_1
    refine r_if_eq_f MF.bs (tgt := 39) dX6_air_9 (by decide) (b2i_1 h_1) ?_
    refine r_iload_n MF.bs dX6_air_12 rfl 2 rfl ?_
    refine r_i2l MF.bs dX6_air_13 ?_
    refine r_lconst MF.bs dX6_air_14 (v := 0) (by decide) ?_
    refine r_ldc2 MF.bs (v := 9) dX6_air_15 wd_1058 ?_
    refine r_callS_v MF.bs (st := []) dX6_air_18 (ctX6_isIn ((a2 : Int32).toInt64) 0 9 M) miX6_isIn wd_971 rfl (by decide) rfl (Nat.le_of_ble_eq_true rfl) ?_
    refine r_ite (GIM mtX6_air 1 M) (fun h_2 => ?_) (fun h_2 => ?_)
    · have hp := hp h_2
      refine r_if_eq_f MF.bs (tgt := 39) dX6_air_21 (by decide) (b2i_1 h_2) ?_
      refine r_iload_n MF.bs dX6_air_24 rfl 3 rfl ?_
      refine r_callS_v MF.bs (st := []) dX6_air_25 (ctX6_isHouse a3 M) miX6_isHouse wd_1072 rfl (by decide) rfl (Nat.le_of_ble_eq_true rfl) ?_
      refine r_ite (GIM mtX6_air 1 M) (fun h_3 => ?_) (fun h_3 => ?_)
      · have hp := hp h_3
        refine r_if_eq_f MF.bs (tgt := 39) dX6_air_28 (by decide) (b2i_1 h_3) ?_
        refine r_iload MF.bs dX6_air_31 4 rfl ?_
        refine r_callS_v MF.bs (st := []) dX6_air_33 (ctX6_isHouse a4 M) miX6_isHouse wd_1072 rfl (by decide) rfl (Nat.le_of_ble_eq_true rfl) ?_
        refine r_ite (GIM mtX6_air 1 M) (fun h_4 => ?_) (fun h_4 => ?_)
        · have hp := hp h_4
          refine r_if_ne_t MF.bs (tgt := 41) dX6_air_36 (by decide) (b2i_1 h_4) ?_
          refine r_aload_n MF.bs dX6_air_41 rfl 0 rfl ?_
          refine r_getR MF.bs dX6_air_42 rfl rfl 0 (by decide) wd_875 rfl ?_
          refine r_iconst MF.bs dX6_air_45 (v := 0) (by decide) ?_
          refine r_ialoadL MF.bs dX6_air_46 rfl (vin_l (by decide) (by decide)) (k9 := 0) (by decide) ?_
          refine r_bipush MF.bs dX6_air_47 (v := 8) (by decide) ?_
          refine r_ite (GIM mtX6_air 1 M) (fun h_5 => ?_) (fun h_5 => ?_)
          · refine r_icmp_ne_f MF.bs (tgt := 55) dX6_air_49 (by decide) h_5 ?_
            refine r_bipush MF.bs dX6_air_52 (v := -2) (by decide) ?_
            exact r_iret dX6_air_54 rfl
          · have hp := hp h_5
            refine r_icmp_ne_t MF.bs (tgt := 55) dX6_air_49 (by decide) h_5 ?_
            obtain ⟨hq_6, hp⟩ := hp
            refine r_aload_n MF.bs dX6_air_55 rfl 0 rfl ?_
            refine r_iload_n MF.bs dX6_air_56 rfl 1 rfl ?_
            refine r_iload_n MF.bs dX6_air_57 rfl 2 rfl ?_
            refine r_iload_n MF.bs dX6_air_58 rfl 3 rfl ?_
            refine r_iload MF.bs dX6_air_59 4 rfl ?_
            refine r_callV_n MF.bs (st := []) dX6_air_61 (ctX6_comes a1 a2 a3 a4 M hq_6) miX6_comes wd_1032 rfl (by decide) rfl (Nat.le_of_ble_eq_true rfl) rfl rfl rfl ?_
            refine r_sub [(0, .ref 46)] [0] rfl ?_
            exact cX6_air_64 M (mX6_comes a1 a2 a3 a4 M) hp
        · refine r_if_ne_f MF.bs (tgt := 41) dX6_air_36 (by decide) (b2i_0 h_4) ?_
          refine r_iconst MF.bs dX6_air_39 (v := -1) (by decide) ?_
          exact r_iret dX6_air_40 rfl
      · refine r_if_eq_t MF.bs (tgt := 39) dX6_air_28 (by decide) (b2i_0 h_3) ?_
        refine r_iconst MF.bs dX6_air_39 (v := -1) (by decide) ?_
        exact r_iret dX6_air_40 rfl
    · refine r_if_eq_t MF.bs (tgt := 39) dX6_air_21 (by decide) (b2i_0 h_2) ?_
      refine r_iconst MF.bs dX6_air_39 (v := -1) (by decide) ?_
      exact r_iret dX6_air_40 rfl
  · refine r_if_eq_t MF.bs (tgt := 39) dX6_air_9 (by decide) (b2i_0 h_1) ?_
    refine r_iconst MF.bs dX6_air_39 (v := -1) (by decide) ?_
    exact r_iret dX6_air_40 rfl
abbrev mtX6_nextBy : MT := (RX6, yX6_nextBy, cX6_nextBy, 4, (some .int))
theorem miX6_nextBy : MS mtX6_nextBy 2 := ⟨wd_1097, wd_1096, wd_86, ⟨by decide, by decide, by decide +kernel⟩, by decide⟩
def mX6_nextBy  (a0 : Int32) (a1 : Int32) : Int32 := (if a1 = 0 then (if 3 ≤ (irem a0 4) then (-1) else (a0 + 1)) else (if a1 = 1 then (if 3 ≤ (a0 / 4) then (-1) else (a0 + 4)) else (if a1 = 2 then (if (irem a0 4) ≤ 0 then (-1) else (a0 - 1)) else (if (a0 / 4) ≤ 0 then (-1) else (a0 - 4)))))
set_option maxRecDepth 100000 in
theorem ctX6_nextBy   (a0 : Int32) (a1 : Int32) (M : Mem) : CT mtX6_nextBy 0 [.int a0, .int a1] M (some (.int (mX6_nextBy a0 a1)), M) := by
  refine CT.of (by decide) rfl (Nat.le_of_ble_eq_true rfl) ?_
  show AWP (GI mtX6_nextBy 0 M M (mX6_nextBy a0 a1)) mtX6_nextBy 0 [(0, .int a0), (1, .int a1)] [] M
  unfold mX6_nextBy
  refine r_iload_n MF.bs dX6_nextBy_0 rfl 0 rfl ?_
  refine r_iconst MF.bs dX6_nextBy_1 (v := 4) (by decide) ?_
  refine r_irem MF.bs dX6_nextBy_2 (by decide) ?_
  refine r_istore_n MF.bs (lv' := [(2, .int (irem a0 4)), (0, .int a0), (1, .int a1)]) dX6_nextBy_3 rfl (by decide) rfl ?_
  refine r_iload_n MF.bs dX6_nextBy_4 rfl 1 rfl ?_
  refine r_iconst MF.bs dX6_nextBy_5 (v := 4) (by decide) ?_
  refine r_idiv MF.bs dX6_nextBy_6 (by decide) ?_
  refine r_istore_n MF.bs (lv' := [(3, .int (a0 / 4)), (2, .int (irem a0 4)), (0, .int a0), (1, .int a1)]) dX6_nextBy_7 rfl (by decide) rfl ?_
  refine r_iload_n MF.bs dX6_nextBy_8 rfl 3 rfl ?_
  refine r_ite (GI mtX6_nextBy 0 M M) (fun h_1 => ?_) (fun h_1 => ?_)
  · refine r_tsw_in MF.bs (tgt := 36) dX6_nextBy_9 h_1 (by decide) (by decide) rfl (by decide) ?_
    refine r_iload_n MF.bs dX6_nextBy_36 rfl 1 rfl ?_
    refine r_iconst MF.bs dX6_nextBy_37 (v := 3) (by decide) ?_
    refine r_ite (GI mtX6_nextBy 0 M M) (fun h_2 => ?_) (fun h_2 => ?_)
    · refine r_icmp_ge_t MF.bs (tgt := 47) dX6_nextBy_38 (by decide) h_2 ?_
      refine r_iconst MF.bs dX6_nextBy_47 (v := -1) (by decide) ?_
      exact r_iret dX6_nextBy_48 rfl
    · refine r_icmp_ge_f MF.bs (tgt := 47) dX6_nextBy_38 (by decide) h_2 ?_
      refine r_iload_n MF.bs dX6_nextBy_41 rfl 2 rfl ?_
      refine r_iconst MF.bs dX6_nextBy_42 (v := 1) (by decide) ?_
      refine r_iadd MF.bs dX6_nextBy_43 ?_
      refine r_goto MF.bs dX6_nextBy_44 (tgt := 48) (by decide) ?_
      exact r_iret dX6_nextBy_48 rfl
  · refine r_ite (GI mtX6_nextBy 0 M M) (fun h_3 => ?_) (fun h_3 => ?_)
    · refine r_tsw_in MF.bs (tgt := 49) dX6_nextBy_9 h_3 (by decide) (by decide) rfl (by decide) ?_
      refine r_iload_n MF.bs dX6_nextBy_49 rfl 0 rfl ?_
      refine r_iconst MF.bs dX6_nextBy_50 (v := 3) (by decide) ?_
      refine r_ite (GI mtX6_nextBy 0 M M) (fun h_4 => ?_) (fun h_4 => ?_)
      · refine r_icmp_ge_t MF.bs (tgt := 60) dX6_nextBy_51 (by decide) h_4 ?_
        refine r_iconst MF.bs dX6_nextBy_60 (v := -1) (by decide) ?_
        exact r_iret dX6_nextBy_61 rfl
      · refine r_icmp_ge_f MF.bs (tgt := 60) dX6_nextBy_51 (by decide) h_4 ?_
        refine r_iload_n MF.bs dX6_nextBy_54 rfl 2 rfl ?_
        refine r_iconst MF.bs dX6_nextBy_55 (v := 4) (by decide) ?_
        refine r_iadd MF.bs dX6_nextBy_56 ?_
        refine r_goto MF.bs dX6_nextBy_57 (tgt := 61) (by decide) ?_
        exact r_iret dX6_nextBy_61 rfl
    · refine r_ite (GI mtX6_nextBy 0 M M) (fun h_5 => ?_) (fun h_5 => ?_)
      · refine r_tsw_in MF.bs (tgt := 62) dX6_nextBy_9 h_5 (by decide) (by decide) rfl (by decide) ?_
        refine r_iload_n MF.bs dX6_nextBy_62 rfl 1 rfl ?_
        refine r_ite (GI mtX6_nextBy 0 M M) (fun h_6 => ?_) (fun h_6 => ?_)
        · refine r_if_le_t MF.bs (tgt := 72) dX6_nextBy_63 (by decide) h_6 ?_
          refine r_iconst MF.bs dX6_nextBy_72 (v := -1) (by decide) ?_
          exact r_iret dX6_nextBy_73 rfl
        · refine r_if_le_f MF.bs (tgt := 72) dX6_nextBy_63 (by decide) h_6 ?_
          refine r_iload_n MF.bs dX6_nextBy_66 rfl 2 rfl ?_
          refine r_iconst MF.bs dX6_nextBy_67 (v := 1) (by decide) ?_
          refine r_isub MF.bs dX6_nextBy_68 ?_
          refine r_goto MF.bs dX6_nextBy_69 (tgt := 73) (by decide) ?_
          exact r_iret dX6_nextBy_73 rfl
      · refine r_tsw_out MF.bs (tgt := 74) dX6_nextBy_9 (by have e0 := lv_neT (a := 0) h_1 (by decide); have e1 := lv_neT (a := 1) h_3 (by decide); have e2 := lv_neT (a := 2) h_5 (by decide); omega) (by decide) ?_
        refine r_iload_n MF.bs dX6_nextBy_74 rfl 0 rfl ?_
        refine r_ite (GI mtX6_nextBy 0 M M) (fun h_7 => ?_) (fun h_7 => ?_)
        · refine r_if_le_t MF.bs (tgt := 84) dX6_nextBy_75 (by decide) h_7 ?_
          refine r_iconst MF.bs dX6_nextBy_84 (v := -1) (by decide) ?_
          exact r_iret dX6_nextBy_85 rfl
        · refine r_if_le_f MF.bs (tgt := 84) dX6_nextBy_75 (by decide) h_7 ?_
          refine r_iload_n MF.bs dX6_nextBy_78 rfl 2 rfl ?_
          refine r_iconst MF.bs dX6_nextBy_79 (v := 4) (by decide) ?_
          refine r_isub MF.bs dX6_nextBy_80 ?_
          refine r_goto MF.bs dX6_nextBy_81 (tgt := 85) (by decide) ?_
          exact r_iret dX6_nextBy_85 rfl
abbrev mtX6_towards : MT := (RX6, yX6_towards, cX6_towards, 6, (some .int))
theorem miX6_towards : MV mtX6_towards 1 := ⟨wd_1094, ⟨wd_1093, wd_50⟩, wd_86, ⟨by decide, by decide, by decide +kernel⟩, by decide⟩
def mX6_towards  (a1 : Int32) (M : Mem) : Int32 := (if (irem (mX6_its a1 3 M) 4) = (irem (mX6_its a1 2 M) 4) then (if ((mX6_its a1 3 M) / 4) = ((mX6_its a1 2 M) / 4) then 4 else (if ((mX6_its a1 2 M) / 4) ≤ ((mX6_its a1 3 M) / 4) then 3 else 1)) else (if (irem (mX6_its a1 2 M) 4) ≤ (irem (mX6_its a1 3 M) 4) then 2 else 0))
def PX6_towards  (a1 : Int32) (M : Mem) : Prop := PX6_its a1 3 M ∧ (PX6_its a1 3 M ∧ (PX6_its a1 2 M ∧ (PX6_its a1 2 M)))
set_option maxRecDepth 100000 in
theorem ctX6_towards   (a1 : Int32) (M : Mem) (hp : PX6_towards a1 M) : CT mtX6_towards 1 [.ref 46, .int a1] M (some (.int (mX6_towards a1 M)), M) := by
  refine CT.of (by decide) rfl (Nat.le_of_ble_eq_true rfl) ?_
  show AWP (GI mtX6_towards 1 M M (mX6_towards a1 M)) mtX6_towards 0 [(0, .ref 46), (1, .int a1)] [] M
  unfold mX6_towards
  unfold PX6_towards at hp
  obtain ⟨hq_1, hp⟩ := hp
  obtain ⟨hq_2, hp⟩ := hp
  obtain ⟨hq_3, hp⟩ := hp
  have hq_4 := hp
  refine r_aload_n MF.bs dX6_towards_0 rfl 0 rfl ?_
  refine r_iload_n MF.bs dX6_towards_1 rfl 1 rfl ?_
  refine r_iconst MF.bs dX6_towards_2 (v := 3) (by decide) ?_
  refine r_callV_v MF.bs (st := []) dX6_towards_3 (ctX6_its a1 3 M hq_1) miX6_its wd_1083 rfl (by decide) rfl (Nat.le_of_ble_eq_true rfl) rfl rfl rfl ?_
  refine r_iconst MF.bs dX6_towards_6 (v := 4) (by decide) ?_
  refine r_irem MF.bs dX6_towards_7 (by decide) ?_
  refine r_istore_n MF.bs (lv' := [(2, .int (irem (mX6_its a1 3 M) 4)), (0, .ref 46), (1, .int a1)]) dX6_towards_8 rfl (by decide) rfl ?_
  refine r_aload_n MF.bs dX6_towards_9 rfl 1 rfl ?_
  refine r_iload_n MF.bs dX6_towards_10 rfl 2 rfl ?_
  refine r_iconst MF.bs dX6_towards_11 (v := 3) (by decide) ?_
  refine r_callV_v MF.bs (st := []) dX6_towards_12 (ctX6_its a1 3 M hq_2) miX6_its wd_1083 rfl (by decide) rfl (Nat.le_of_ble_eq_true rfl) rfl rfl rfl ?_
  refine r_iconst MF.bs dX6_towards_15 (v := 4) (by decide) ?_
  refine r_idiv MF.bs dX6_towards_16 (by decide) ?_
  refine r_istore_n MF.bs (lv' := [(3, .int ((mX6_its a1 3 M) / 4)), (2, .int (irem (mX6_its a1 3 M) 4)), (0, .ref 46), (1, .int a1)]) dX6_towards_17 rfl (by decide) rfl ?_
  refine r_aload_n MF.bs dX6_towards_18 rfl 2 rfl ?_
  refine r_iload_n MF.bs dX6_towards_19 rfl 3 rfl ?_
  refine r_iconst MF.bs dX6_towards_20 (v := 2) (by decide) ?_
  refine r_callV_v MF.bs (st := []) dX6_towards_21 (ctX6_its a1 2 M hq_3) miX6_its wd_1083 rfl (by decide) rfl (Nat.le_of_ble_eq_true rfl) rfl rfl rfl ?_
  refine r_iconst MF.bs dX6_towards_24 (v := 4) (by decide) ?_
  refine r_irem MF.bs dX6_towards_25 (by decide) ?_
  refine r_istore MF.bs (lv' := [(4, .int (irem (mX6_its a1 2 M) 4)), (3, .int ((mX6_its a1 3 M) / 4)), (2, .int (irem (mX6_its a1 3 M) 4)), (0, .ref 46), (1, .int a1)]) dX6_towards_26 (by decide) rfl ?_
  refine r_aload_n MF.bs dX6_towards_28 rfl 3 rfl ?_
  refine r_iload_n MF.bs dX6_towards_29 rfl 4 rfl ?_
  refine r_iconst MF.bs dX6_towards_30 (v := 2) (by decide) ?_
  refine r_callV_v MF.bs (st := []) dX6_towards_31 (ctX6_its a1 2 M hq_4) miX6_its wd_1083 rfl (by decide) rfl (Nat.le_of_ble_eq_true rfl) rfl rfl rfl ?_
  refine r_iconst MF.bs dX6_towards_34 (v := 4) (by decide) ?_
  refine r_idiv MF.bs dX6_towards_35 (by decide) ?_
  refine r_istore MF.bs (lv' := [(5, .int ((mX6_its a1 2 M) / 4)), (4, .int (irem (mX6_its a1 2 M) 4)), (3, .int ((mX6_its a1 3 M) / 4)), (2, .int (irem (mX6_its a1 3 M) 4)), (0, .ref 46), (1, .int a1)]) dX6_towards_36 (by decide) rfl ?_
  refine r_iload_n MF.bs dX6_towards_38 rfl 3 rfl ?_
  refine r_iload MF.bs dX6_towards_39 1 rfl ?_
  refine r_ite (GI mtX6_towards 1 M M) (fun h_5 => ?_) (fun h_5 => ?_)
  · refine r_icmp_eq_t MF.bs (tgt := 56) dX6_towards_41 (by decide) h_5 ?_
    refine r_iload_n MF.bs dX6_towards_56 rfl 2 rfl ?_
    refine r_iload MF.bs dX6_towards_57 0 rfl ?_
    refine r_ite (GI mtX6_towards 1 M M) (fun h_6 => ?_) (fun h_6 => ?_)
    · refine r_icmp_ne_f MF.bs (tgt := 66) dX6_towards_59 (by decide) h_6 ?_
      refine r_iconst MF.bs dX6_towards_62 (v := 4) (by decide) ?_
      refine r_goto MF.bs dX6_towards_63 (tgt := 77) (by decide) ?_
      exact r_iret dX6_towards_77 rfl
    · refine r_icmp_ne_t MF.bs (tgt := 66) dX6_towards_59 (by decide) h_6 ?_
      refine r_iload_n MF.bs dX6_towards_66 rfl 2 rfl ?_
      refine r_iload MF.bs dX6_towards_67 0 rfl ?_
      refine r_ite (GI mtX6_towards 1 M M) (fun h_7 => ?_) (fun h_7 => ?_)
      · refine r_icmp_ge_t MF.bs (tgt := 76) dX6_towards_69 (by decide) h_7 ?_
        refine r_iconst MF.bs dX6_towards_76 (v := 3) (by decide) ?_
        exact r_iret dX6_towards_77 rfl
      · refine r_icmp_ge_f MF.bs (tgt := 76) dX6_towards_69 (by decide) h_7 ?_
        refine r_iconst MF.bs dX6_towards_72 (v := 1) (by decide) ?_
        refine r_goto MF.bs dX6_towards_73 (tgt := 77) (by decide) ?_
        exact r_iret dX6_towards_77 rfl
  · refine r_icmp_eq_f MF.bs (tgt := 56) dX6_towards_41 (by decide) h_5 ?_
    refine r_iload_n MF.bs dX6_towards_44 rfl 3 rfl ?_
    refine r_iload MF.bs dX6_towards_45 1 rfl ?_
    refine r_ite (GI mtX6_towards 1 M M) (fun h_8 => ?_) (fun h_8 => ?_)
    · refine r_icmp_ge_t MF.bs (tgt := 54) dX6_towards_47 (by decide) h_8 ?_
      refine r_iconst MF.bs dX6_towards_54 (v := 2) (by decide) ?_
      exact r_iret dX6_towards_55 rfl
    · refine r_icmp_ge_f MF.bs (tgt := 54) dX6_towards_47 (by decide) h_8 ?_
      refine r_iconst MF.bs dX6_towards_50 (v := 0) (by decide) ?_
      refine r_goto MF.bs dX6_towards_51 (tgt := 55) (by decide) ?_
      exact r_iret dX6_towards_55 rfl
abbrev mtX6_wayOf : MT := (RX6, yX6_wayOf, cX6_wayOf, 3, (some .int))
theorem miX6_wayOf : MV mtX6_wayOf 1 := ⟨wd_1090, ⟨wd_1089, wd_49⟩, wd_86, ⟨by decide, by decide, by decide +kernel⟩, by decide⟩
def mX6_wayOf_165   (M : Mem) : Int32 := 4
def PX6_wayOf_165   (M : Mem) : Prop := True
set_option maxRecDepth 100000 in
theorem cX6_wayOf_165    (M : Mem) (hp : PX6_wayOf_165 M) : AWP (GI mtX6_wayOf 2 M M (mX6_wayOf_165 M)) mtX6_wayOf 165 [] [] M := by
  unfold mX6_wayOf_165
  unfold PX6_wayOf_165 at hp
  refine r_iconst MF.bs dX6_wayOf_165 (v := 4) (by decide) ?_
  refine r_goto MF.bs dX6_wayOf_166 (tgt := 170) (by decide) ?_
  exact r_iret dX6_wayOf_170 rfl
def mX6_wayOf_147   (v1 : Int32) (v2 : Int32) (M : Mem) : Int32 := (if v2 = 4 then (mX6_wayOf_165 M) else (if 0 ≤ (mX6_nextBy (mX6_its v1 3 M) v2) then v2 else (mX6_wayOf_165 M)))
def PX6_wayOf_147   (v1 : Int32) (v2 : Int32) (M : Mem) : Prop := ((v2 = 4 → PX6_wayOf_165 M) ∧ (¬ v2 = 4 → PX6_its v1 3 M ∧ ((¬ 0 ≤ (mX6_nextBy (mX6_its v1 3 M) v2) → PX6_wayOf_165 M))))
set_option maxRecDepth 100000 in
theorem cX6_wayOf_147    (v1 : Int32) (v2 : Int32) (M : Mem) (hp : PX6_wayOf_147 v1 v2 M) : AWP (GI mtX6_wayOf 2 M M (mX6_wayOf_147 v1 v2 M)) mtX6_wayOf 147 [(0, .ref 46), (1, .int v1), (2, .int v2)] [] M := by
  unfold mX6_wayOf_147
  unfold PX6_wayOf_147 at hp
  refine r_iload_n MF.bs dX6_wayOf_147 rfl 2 rfl ?_
  refine r_iconst MF.bs dX6_wayOf_148 (v := 4) (by decide) ?_
  refine r_ite (GI mtX6_wayOf 2 M M) (fun h_13 => ?_) (fun h_13 => ?_)
  · have hp := hp.1 h_13
    refine r_icmp_eq_t MF.bs (tgt := 165) dX6_wayOf_149 (by decide) h_13 ?_
    refine r_sub [] [] rfl ?_
    exact cX6_wayOf_165 M hp
  · have hp := hp.2 h_13
    refine r_icmp_eq_f MF.bs (tgt := 165) dX6_wayOf_149 (by decide) h_13 ?_
    obtain ⟨hq_14, hp⟩ := hp
    refine r_aload_n MF.bs dX6_wayOf_152 rfl 0 rfl ?_
    refine r_iload_n MF.bs dX6_wayOf_153 rfl 1 rfl ?_
    refine r_iconst MF.bs dX6_wayOf_154 (v := 3) (by decide) ?_
    refine r_callV_v MF.bs (st := []) dX6_wayOf_155 (ctX6_its v1 3 M hq_14) miX6_its wd_1083 rfl (by decide) rfl (Nat.le_of_ble_eq_true rfl) rfl rfl rfl ?_
    refine r_iload_n MF.bs dX6_wayOf_158 rfl 2 rfl ?_
    refine r_callS_v MF.bs (st := []) dX6_wayOf_159 (ctX6_nextBy (mX6_its v1 3 M) v2 M) miX6_nextBy wd_1095 rfl (by decide) rfl (Nat.le_of_ble_eq_true rfl) ?_
    refine r_ite (GI mtX6_wayOf 2 M M) (fun h_15 => ?_) (fun h_15 => ?_)
    · refine r_if_ge_t MF.bs (tgt := 169) dX6_wayOf_162 (by decide) h_15 ?_
      refine r_iload_n MF.bs dX6_wayOf_169 rfl 2 rfl ?_
      exact r_iret dX6_wayOf_170 rfl
    · have hp := hp h_15
      refine r_if_ge_f MF.bs (tgt := 169) dX6_wayOf_162 (by decide) h_15 ?_
      refine r_sub [] [] rfl ?_
      exact cX6_wayOf_165 M hp
def mX6_wayOf_70   (v1 : Int32) (k0 : Int32) (M : Mem) : Int32 := (mX6_wayOf_147 v1 k0 M)
def PX6_wayOf_70   (v1 : Int32) (k0 : Int32) (M : Mem) : Prop := PX6_wayOf_147 v1 k0 M
set_option maxRecDepth 100000 in
theorem cX6_wayOf_70    (v1 : Int32) (k0 : Int32) (M : Mem) (hp : PX6_wayOf_70 v1 k0 M) : AWP (GI mtX6_wayOf 2 M M (mX6_wayOf_70 v1 k0 M)) mtX6_wayOf 70 [(0, .ref 46), (1, .int v1)] [.int k0] M := by
  unfold mX6_wayOf_70
  unfold PX6_wayOf_70 at hp
  refine r_istore_n MF.bs (lv' := [(2, .int k0), (0, .ref 46), (1, .int v1)]) dX6_wayOf_70 rfl (by decide) rfl ?_
  refine r_goto MF.bs dX6_wayOf_71 (tgt := 147) (by decide) ?_
  refine r_sub [(0, .ref 46), (1, .int v1), (2, .int k0)] [1, 2, 0] rfl ?_
  exact cX6_wayOf_147 v1 k0 M hp
def mX6_wayOf_95   (v1 : Int32) (k0 : Int32) (M : Mem) : Int32 := (mX6_wayOf_147 v1 k0 M)
def PX6_wayOf_95   (v1 : Int32) (k0 : Int32) (M : Mem) : Prop := PX6_wayOf_147 v1 k0 M
set_option maxRecDepth 100000 in
theorem cX6_wayOf_95    (v1 : Int32) (k0 : Int32) (M : Mem) (hp : PX6_wayOf_95 v1 k0 M) : AWP (GI mtX6_wayOf 2 M M (mX6_wayOf_95 v1 k0 M)) mtX6_wayOf 95 [(0, .ref 46), (1, .int v1)] [.int k0] M := by
  unfold mX6_wayOf_95
  unfold PX6_wayOf_95 at hp
  refine r_istore_n MF.bs (lv' := [(2, .int k0), (0, .ref 46), (1, .int v1)]) dX6_wayOf_95 rfl (by decide) rfl ?_
  refine r_goto MF.bs dX6_wayOf_96 (tgt := 147) (by decide) ?_
  refine r_sub [(0, .ref 46), (1, .int v1), (2, .int k0)] [1, 2, 0] rfl ?_
  exact cX6_wayOf_147 v1 k0 M hp
def mX6_wayOf_133   (v1 : Int32) (k0 : Int32) (M : Mem) : Int32 := (mX6_wayOf_147 v1 k0 M)
def PX6_wayOf_133   (v1 : Int32) (k0 : Int32) (M : Mem) : Prop := PX6_wayOf_147 v1 k0 M
set_option maxRecDepth 100000 in
theorem cX6_wayOf_133    (v1 : Int32) (k0 : Int32) (M : Mem) (hp : PX6_wayOf_133 v1 k0 M) : AWP (GI mtX6_wayOf 2 M M (mX6_wayOf_133 v1 k0 M)) mtX6_wayOf 133 [(0, .ref 46), (1, .int v1)] [.int k0] M := by
  unfold mX6_wayOf_133
  unfold PX6_wayOf_133 at hp
  refine r_istore_n MF.bs (lv' := [(2, .int k0), (0, .ref 46), (1, .int v1)]) dX6_wayOf_133 rfl (by decide) rfl ?_
  refine r_goto MF.bs dX6_wayOf_134 (tgt := 147) (by decide) ?_
  refine r_sub [(0, .ref 46), (1, .int v1), (2, .int k0)] [1, 2, 0] rfl ?_
  exact cX6_wayOf_147 v1 k0 M hp
def mX6_wayOf  (a1 : Int32) (M : Mem) : Int32 := (if (mX6_its a1 0 M) = 1 then (if (M 47 6) ≤ (mX6_its a1 1 M) then (mX6_wayOf_70 a1 (M 47 3) M) else (mX6_wayOf_70 a1 4 M)) else (if (mX6_its a1 0 M) = 2 then (if (irem (M 47 1) 2) = 0 then (mX6_wayOf_95 a1 (M 47 3) M) else (mX6_wayOf_95 a1 4 M)) else (if (mX6_its a1 0 M) = 3 then (mX6_wayOf_147 a1 (mX6_towards a1 M) M) else (if (mX6_its a1 0 M) = 4 then (if (irem (M 47 1) 4) = 0 then (mX6_wayOf_133 a1 (M 47 3) M) else (mX6_wayOf_133 a1 (mX6_towards a1 M) M)) else (if (mX6_its a1 0 M) = 5 then (mX6_wayOf_147 a1 4 M) else (mX6_wayOf_147 a1 (M 47 3) M))))))
def PX6_wayOf  (a1 : Int32) (M : Mem) : Prop := PX6_its a1 0 M ∧ ((((mX6_its a1 0 M) = 1 → PX6_its a1 1 M ∧ ((((M 47 6) ≤ (mX6_its a1 1 M) → PX6_wayOf_70 a1 (M 47 3) M) ∧ (¬ (M 47 6) ≤ (mX6_its a1 1 M) → PX6_wayOf_70 a1 4 M)))) ∧ (¬ (mX6_its a1 0 M) = 1 → (((mX6_its a1 0 M) = 2 → (((irem (M 47 1) 2) = 0 → PX6_wayOf_95 a1 (M 47 3) M) ∧ (¬ (irem (M 47 1) 2) = 0 → PX6_wayOf_95 a1 4 M))) ∧ (¬ (mX6_its a1 0 M) = 2 → (((mX6_its a1 0 M) = 3 → PX6_towards a1 M ∧ (PX6_wayOf_147 a1 (mX6_towards a1 M) M)) ∧ (¬ (mX6_its a1 0 M) = 3 → (((mX6_its a1 0 M) = 4 → (((irem (M 47 1) 4) = 0 → PX6_wayOf_133 a1 (M 47 3) M) ∧ (¬ (irem (M 47 1) 4) = 0 → PX6_towards a1 M ∧ (PX6_wayOf_133 a1 (mX6_towards a1 M) M)))) ∧ (¬ (mX6_its a1 0 M) = 4 → (((mX6_its a1 0 M) = 5 → PX6_wayOf_147 a1 4 M) ∧ (¬ (mX6_its a1 0 M) = 5 → PX6_wayOf_147 a1 (M 47 3) M)))))))))))
set_option maxRecDepth 100000 in
theorem ctX6_wayOf   (a1 : Int32) (M : Mem) (hp : PX6_wayOf a1 M) : CT mtX6_wayOf 2 [.ref 46, .int a1] M (some (.int (mX6_wayOf a1 M)), M) := by
  refine CT.of (by decide) rfl (Nat.le_of_ble_eq_true rfl) ?_
  show AWP (GI mtX6_wayOf 2 M M (mX6_wayOf a1 M)) mtX6_wayOf 0 [(0, .ref 46), (1, .int a1)] [] M
  unfold mX6_wayOf
  unfold PX6_wayOf at hp
  obtain ⟨hq_1, hp⟩ := hp
  refine r_iconst MF.bs dX6_wayOf_0 (v := 4) (by decide) ?_
  refine r_istore_n MF.bs (lv' := [(2, .int 4), (0, .ref 46), (1, .int a1)]) dX6_wayOf_1 rfl (by decide) rfl ?_
  refine r_aload_n MF.bs dX6_wayOf_2 rfl 1 rfl ?_
  refine r_iload_n MF.bs dX6_wayOf_3 rfl 2 rfl ?_
  refine r_iconst MF.bs dX6_wayOf_4 (v := 0) (by decide) ?_
  refine r_callV_v MF.bs (st := []) dX6_wayOf_5 (ctX6_its a1 0 M hq_1) miX6_its wd_1083 rfl (by decide) rfl (Nat.le_of_ble_eq_true rfl) rfl rfl rfl ?_
  refine r_ite (GI mtX6_wayOf 2 M M) (fun h_2 => ?_) (fun h_2 => ?_)
  · have hp := hp.1 h_2
    refine r_tsw_in MF.bs (tgt := 44) dX6_wayOf_8 h_2 (by decide) (by decide) rfl (by decide) ?_
    obtain ⟨hq_3, hp⟩ := hp
    refine r_aload_n MF.bs dX6_wayOf_44 rfl 1 rfl ?_
    refine r_iload_n MF.bs dX6_wayOf_45 rfl 2 rfl ?_
    refine r_iconst MF.bs dX6_wayOf_46 (v := 1) (by decide) ?_
    refine r_callV_v MF.bs (st := []) dX6_wayOf_47 (ctX6_its a1 1 M hq_3) miX6_its wd_1083 rfl (by decide) rfl (Nat.le_of_ble_eq_true rfl) rfl rfl rfl ?_
    refine r_aload_n MF.bs dX6_wayOf_50 rfl 1 rfl ?_
    refine r_getR MF.bs dX6_wayOf_51 rfl rfl 0 (by decide) wd_875 rfl ?_
    refine r_bipush MF.bs dX6_wayOf_54 (v := 6) (by decide) ?_
    refine r_ialoadL MF.bs dX6_wayOf_56 rfl (vin_l (by decide) (by decide)) (k9 := 6) (by decide) ?_
    refine r_ite (GI mtX6_wayOf 2 M M) (fun h_4 => ?_) (fun h_4 => ?_)
    · have hp := hp.1 h_4
      refine r_icmp_ge_t MF.bs (tgt := 64) dX6_wayOf_57 (by decide) h_4 ?_
      refine r_aload_n MF.bs dX6_wayOf_64 rfl 1 rfl ?_
      refine r_getR MF.bs dX6_wayOf_65 rfl rfl 0 (by decide) wd_875 rfl ?_
      refine r_iconst MF.bs dX6_wayOf_68 (v := 3) (by decide) ?_
      refine r_ialoadL MF.bs dX6_wayOf_69 rfl (vin_l (by decide) (by decide)) (k9 := 3) (by decide) ?_
      refine r_sub [(0, .ref 46), (1, .int a1)] [1, 2] rfl ?_
      exact cX6_wayOf_70 a1 (M 47 3) M hp
    · have hp := hp.2 h_4
      refine r_icmp_ge_f MF.bs (tgt := 64) dX6_wayOf_57 (by decide) h_4 ?_
      refine r_iconst MF.bs dX6_wayOf_60 (v := 4) (by decide) ?_
      refine r_goto MF.bs dX6_wayOf_61 (tgt := 70) (by decide) ?_
      refine r_sub [(0, .ref 46), (1, .int a1)] [1, 2] rfl ?_
      exact cX6_wayOf_70 a1 4 M hp
  · have hp := hp.2 h_2
    refine r_ite (GI mtX6_wayOf 2 M M) (fun h_5 => ?_) (fun h_5 => ?_)
    · have hp := hp.1 h_5
      refine r_tsw_in MF.bs (tgt := 74) dX6_wayOf_8 h_5 (by decide) (by decide) rfl (by decide) ?_
      refine r_aload_n MF.bs dX6_wayOf_74 rfl 1 rfl ?_
      refine r_getR MF.bs dX6_wayOf_75 rfl rfl 0 (by decide) wd_875 rfl ?_
      refine r_iconst MF.bs dX6_wayOf_78 (v := 1) (by decide) ?_
      refine r_ialoadL MF.bs dX6_wayOf_79 rfl (vin_l (by decide) (by decide)) (k9 := 1) (by decide) ?_
      refine r_iconst MF.bs dX6_wayOf_80 (v := 2) (by decide) ?_
      refine r_irem MF.bs dX6_wayOf_81 (by decide) ?_
      refine r_ite (GI mtX6_wayOf 2 M M) (fun h_6 => ?_) (fun h_6 => ?_)
      · have hp := hp.1 h_6
        refine r_if_ne_f MF.bs (tgt := 94) dX6_wayOf_82 (by decide) h_6 ?_
        refine r_aload_n MF.bs dX6_wayOf_85 rfl 1 rfl ?_
        refine r_getR MF.bs dX6_wayOf_86 rfl rfl 0 (by decide) wd_875 rfl ?_
        refine r_iconst MF.bs dX6_wayOf_89 (v := 3) (by decide) ?_
        refine r_ialoadL MF.bs dX6_wayOf_90 rfl (vin_l (by decide) (by decide)) (k9 := 3) (by decide) ?_
        refine r_goto MF.bs dX6_wayOf_91 (tgt := 95) (by decide) ?_
        refine r_sub [(0, .ref 46), (1, .int a1)] [1, 2] rfl ?_
        exact cX6_wayOf_95 a1 (M 47 3) M hp
      · have hp := hp.2 h_6
        refine r_if_ne_t MF.bs (tgt := 94) dX6_wayOf_82 (by decide) h_6 ?_
        refine r_iconst MF.bs dX6_wayOf_94 (v := 4) (by decide) ?_
        refine r_sub [(0, .ref 46), (1, .int a1)] [1, 2] rfl ?_
        exact cX6_wayOf_95 a1 4 M hp
    · have hp := hp.2 h_5
      refine r_ite (GI mtX6_wayOf 2 M M) (fun h_7 => ?_) (fun h_7 => ?_)
      · have hp := hp.1 h_7
        refine r_tsw_in MF.bs (tgt := 99) dX6_wayOf_8 h_7 (by decide) (by decide) rfl (by decide) ?_
        obtain ⟨hq_8, hp⟩ := hp
        refine r_aload_n MF.bs dX6_wayOf_99 rfl 1 rfl ?_
        refine r_iload_n MF.bs dX6_wayOf_100 rfl 2 rfl ?_
        refine r_callV_v MF.bs (st := []) dX6_wayOf_101 (ctX6_towards a1 M hq_8) miX6_towards wd_1091 rfl (by decide) rfl (Nat.le_of_ble_eq_true rfl) rfl rfl rfl ?_
        refine r_istore_n MF.bs (lv' := [(2, .int (mX6_towards a1 M)), (0, .ref 46), (1, .int a1)]) dX6_wayOf_104 rfl (by decide) rfl ?_
        refine r_goto MF.bs dX6_wayOf_105 (tgt := 147) (by decide) ?_
        refine r_sub [(0, .ref 46), (1, .int a1), (2, .int (mX6_towards a1 M))] [1, 2, 0] rfl ?_
        exact cX6_wayOf_147 a1 (mX6_towards a1 M) M hp
      · have hp := hp.2 h_7
        refine r_ite (GI mtX6_wayOf 2 M M) (fun h_9 => ?_) (fun h_9 => ?_)
        · have hp := hp.1 h_9
          refine r_tsw_in MF.bs (tgt := 108) dX6_wayOf_8 h_9 (by decide) (by decide) rfl (by decide) ?_
          refine r_aload_n MF.bs dX6_wayOf_108 rfl 1 rfl ?_
          refine r_getR MF.bs dX6_wayOf_109 rfl rfl 0 (by decide) wd_875 rfl ?_
          refine r_iconst MF.bs dX6_wayOf_112 (v := 1) (by decide) ?_
          refine r_ialoadL MF.bs dX6_wayOf_113 rfl (vin_l (by decide) (by decide)) (k9 := 1) (by decide) ?_
          refine r_iconst MF.bs dX6_wayOf_114 (v := 4) (by decide) ?_
          refine r_irem MF.bs dX6_wayOf_115 (by decide) ?_
          refine r_ite (GI mtX6_wayOf 2 M M) (fun h_10 => ?_) (fun h_10 => ?_)
          · have hp := hp.1 h_10
            refine r_if_ne_f MF.bs (tgt := 128) dX6_wayOf_116 (by decide) h_10 ?_
            refine r_aload_n MF.bs dX6_wayOf_119 rfl 1 rfl ?_
            refine r_getR MF.bs dX6_wayOf_120 rfl rfl 0 (by decide) wd_875 rfl ?_
            refine r_iconst MF.bs dX6_wayOf_123 (v := 3) (by decide) ?_
            refine r_ialoadL MF.bs dX6_wayOf_124 rfl (vin_l (by decide) (by decide)) (k9 := 3) (by decide) ?_
            refine r_goto MF.bs dX6_wayOf_125 (tgt := 133) (by decide) ?_
            refine r_sub [(0, .ref 46), (1, .int a1)] [1, 2] rfl ?_
            exact cX6_wayOf_133 a1 (M 47 3) M hp
          · have hp := hp.2 h_10
            refine r_if_ne_t MF.bs (tgt := 128) dX6_wayOf_116 (by decide) h_10 ?_
            obtain ⟨hq_11, hp⟩ := hp
            refine r_aload_n MF.bs dX6_wayOf_128 rfl 1 rfl ?_
            refine r_iload_n MF.bs dX6_wayOf_129 rfl 2 rfl ?_
            refine r_callV_v MF.bs (st := []) dX6_wayOf_130 (ctX6_towards a1 M hq_11) miX6_towards wd_1091 rfl (by decide) rfl (Nat.le_of_ble_eq_true rfl) rfl rfl rfl ?_
            refine r_sub [(0, .ref 46), (1, .int a1)] [1, 2] rfl ?_
            exact cX6_wayOf_133 a1 (mX6_towards a1 M) M hp
        · have hp := hp.2 h_9
          refine r_ite (GI mtX6_wayOf 2 M M) (fun h_12 => ?_) (fun h_12 => ?_)
          · have hp := hp.1 h_12
            refine r_tsw_in MF.bs (tgt := 137) dX6_wayOf_8 h_12 (by decide) (by decide) rfl (by decide) ?_
            refine r_goto MF.bs dX6_wayOf_137 (tgt := 147) (by decide) ?_
            refine r_sub [(0, .ref 46), (1, .int a1), (2, .int 4)] [1, 2, 0] rfl ?_
            exact cX6_wayOf_147 a1 4 M hp
          · have hp := hp.2 h_12
            refine r_tsw_out MF.bs (tgt := 140) dX6_wayOf_8 (by have e0 := lv_neT (a := 1) h_2 (by decide); have e1 := lv_neT (a := 2) h_5 (by decide); have e2 := lv_neT (a := 3) h_7 (by decide); have e3 := lv_neT (a := 4) h_9 (by decide); have e4 := lv_neT (a := 5) h_12 (by decide); omega) (by decide) ?_
            refine r_aload_n MF.bs dX6_wayOf_140 rfl 1 rfl ?_
            refine r_getR MF.bs dX6_wayOf_141 rfl rfl 0 (by decide) wd_875 rfl ?_
            refine r_iconst MF.bs dX6_wayOf_144 (v := 3) (by decide) ?_
            refine r_ialoadL MF.bs dX6_wayOf_145 rfl (vin_l (by decide) (by decide)) (k9 := 3) (by decide) ?_
            refine r_istore_n MF.bs (lv' := [(2, .int (M 47 3)), (0, .ref 46), (1, .int a1)]) dX6_wayOf_146 rfl (by decide) rfl ?_
            refine r_sub [(0, .ref 46), (1, .int a1), (2, .int (M 47 3))] [1, 2, 0] rfl ?_
            exact cX6_wayOf_147 a1 (M 47 3) M hp
abbrev mtX6_wets : MT := (RX6, yX6_wets, cX6_wets, 3, (some .int))
theorem miX6_wets : MV mtX6_wets 1 := ⟨wd_1101, ⟨wd_1100, wd_51⟩, wd_86, ⟨by decide, by decide, by decide +kernel⟩, by decide⟩
def mX6_wets  (a1 : Int32) (M : Mem) : Int32 := (if (mX6_its a1 0 M) = 1 then (1 + (mX6_its a1 1 M)) else (if (mX6_its a1 0 M) = 2 then 1 else (if (mX6_its a1 0 M) = 3 then (if (mX6_its a1 3 M) = (mX6_its a1 2 M) then (2 * (1 + (mX6_its a1 1 M))) else (1 + (mX6_its a1 1 M))) else (if (mX6_its a1 0 M) = 4 then (1 + ((mX6_its a1 1 M) / 3)) else (if (mX6_its a1 0 M) = 5 then (0 - (mX6_its a1 1 M)) else 0)))))
def PX6_wets  (a1 : Int32) (M : Mem) : Prop := PX6_its a1 1 M ∧ (PX6_its a1 0 M ∧ ((¬ (mX6_its a1 0 M) = 1 → (¬ (mX6_its a1 0 M) = 2 → ((mX6_its a1 0 M) = 3 → PX6_its a1 3 M ∧ (PX6_its a1 2 M))))))
set_option maxRecDepth 100000 in
theorem ctX6_wets   (a1 : Int32) (M : Mem) (hp : PX6_wets a1 M) : CT mtX6_wets 1 [.ref 46, .int a1] M (some (.int (mX6_wets a1 M)), M) := by
  refine CT.of (by decide) rfl (Nat.le_of_ble_eq_true rfl) ?_
  show AWP (GI mtX6_wets 1 M M (mX6_wets a1 M)) mtX6_wets 0 [(0, .ref 46), (1, .int a1)] [] M
  unfold mX6_wets
  unfold PX6_wets at hp
  obtain ⟨hq_1, hp⟩ := hp
  obtain ⟨hq_2, hp⟩ := hp
  refine r_aload_n MF.bs dX6_wets_0 rfl 0 rfl ?_
  refine r_iload_n MF.bs dX6_wets_1 rfl 1 rfl ?_
  refine r_iconst MF.bs dX6_wets_2 (v := 1) (by decide) ?_
  refine r_callV_v MF.bs (st := []) dX6_wets_3 (ctX6_its a1 1 M hq_1) miX6_its wd_1083 rfl (by decide) rfl (Nat.le_of_ble_eq_true rfl) rfl rfl rfl ?_
  refine r_istore_n MF.bs (lv' := [(2, .int (mX6_its a1 1 M)), (0, .ref 46), (1, .int a1)]) dX6_wets_6 rfl (by decide) rfl ?_
  refine r_aload_n MF.bs dX6_wets_7 rfl 1 rfl ?_
  refine r_iload_n MF.bs dX6_wets_8 rfl 2 rfl ?_
  refine r_iconst MF.bs dX6_wets_9 (v := 0) (by decide) ?_
  refine r_callV_v MF.bs (st := []) dX6_wets_10 (ctX6_its a1 0 M hq_2) miX6_its wd_1083 rfl (by decide) rfl (Nat.le_of_ble_eq_true rfl) rfl rfl rfl ?_
  refine r_ite (GI mtX6_wets 1 M M) (fun h_3 => ?_) (fun h_3 => ?_)
  · refine r_tsw_in MF.bs (tgt := 48) dX6_wets_13 h_3 (by decide) (by decide) rfl (by decide) ?_
    refine r_iconst MF.bs dX6_wets_48 (v := 1) (by decide) ?_
    refine r_iload_n MF.bs dX6_wets_49 rfl 0 rfl ?_
    refine r_iadd MF.bs dX6_wets_50 ?_
    exact r_iret dX6_wets_51 rfl
  · have hp := hp h_3
    refine r_ite (GI mtX6_wets 1 M M) (fun h_4 => ?_) (fun h_4 => ?_)
    · refine r_tsw_in MF.bs (tgt := 52) dX6_wets_13 h_4 (by decide) (by decide) rfl (by decide) ?_
      refine r_iconst MF.bs dX6_wets_52 (v := 1) (by decide) ?_
      exact r_iret dX6_wets_53 rfl
    · have hp := hp h_4
      refine r_ite (GI mtX6_wets 1 M M) (fun h_5 => ?_) (fun h_5 => ?_)
      · have hp := hp h_5
        refine r_tsw_in MF.bs (tgt := 54) dX6_wets_13 h_5 (by decide) (by decide) rfl (by decide) ?_
        obtain ⟨hq_6, hp⟩ := hp
        have hq_7 := hp
        refine r_aload_n MF.bs dX6_wets_54 rfl 1 rfl ?_
        refine r_iload_n MF.bs dX6_wets_55 rfl 2 rfl ?_
        refine r_iconst MF.bs dX6_wets_56 (v := 3) (by decide) ?_
        refine r_callV_v MF.bs (st := []) dX6_wets_57 (ctX6_its a1 3 M hq_6) miX6_its wd_1083 rfl (by decide) rfl (Nat.le_of_ble_eq_true rfl) rfl rfl rfl ?_
        refine r_aload_n MF.bs dX6_wets_60 rfl 1 rfl ?_
        refine r_iload_n MF.bs dX6_wets_61 rfl 2 rfl ?_
        refine r_iconst MF.bs dX6_wets_62 (v := 2) (by decide) ?_
        refine r_callV_v MF.bs (st := [.int (mX6_its a1 3 M)]) dX6_wets_63 (ctX6_its a1 2 M hq_7) miX6_its wd_1083 rfl (by decide) rfl (Nat.le_of_ble_eq_true rfl) rfl rfl rfl ?_
        refine r_ite (GI mtX6_wets 1 M M) (fun h_8 => ?_) (fun h_8 => ?_)
        · refine r_icmp_ne_f MF.bs (tgt := 77) dX6_wets_66 (by decide) h_8 ?_
          refine r_iconst MF.bs dX6_wets_69 (v := 2) (by decide) ?_
          refine r_iconst MF.bs dX6_wets_70 (v := 1) (by decide) ?_
          refine r_iload_n MF.bs dX6_wets_71 rfl 0 rfl ?_
          refine r_iadd MF.bs dX6_wets_72 ?_
          refine r_imul MF.bs dX6_wets_73 ?_
          refine r_goto MF.bs dX6_wets_74 (tgt := 80) (by decide) ?_
          exact r_iret dX6_wets_80 rfl
        · refine r_icmp_ne_t MF.bs (tgt := 77) dX6_wets_66 (by decide) h_8 ?_
          refine r_iconst MF.bs dX6_wets_77 (v := 1) (by decide) ?_
          refine r_iload_n MF.bs dX6_wets_78 rfl 0 rfl ?_
          refine r_iadd MF.bs dX6_wets_79 ?_
          exact r_iret dX6_wets_80 rfl
      · refine r_ite (GI mtX6_wets 1 M M) (fun h_9 => ?_) (fun h_9 => ?_)
        · refine r_tsw_in MF.bs (tgt := 81) dX6_wets_13 h_9 (by decide) (by decide) rfl (by decide) ?_
          refine r_iconst MF.bs dX6_wets_81 (v := 1) (by decide) ?_
          refine r_iload_n MF.bs dX6_wets_82 rfl 0 rfl ?_
          refine r_iconst MF.bs dX6_wets_83 (v := 3) (by decide) ?_
          refine r_idiv MF.bs dX6_wets_84 (by decide) ?_
          refine r_iadd MF.bs dX6_wets_85 ?_
          exact r_iret dX6_wets_86 rfl
        · refine r_ite (GI mtX6_wets 1 M M) (fun h_10 => ?_) (fun h_10 => ?_)
          · refine r_tsw_in MF.bs (tgt := 87) dX6_wets_13 h_10 (by decide) (by decide) rfl (by decide) ?_
            refine r_iconst MF.bs dX6_wets_87 (v := 0) (by decide) ?_
            refine r_iload_n MF.bs dX6_wets_88 rfl 0 rfl ?_
            refine r_isub MF.bs dX6_wets_89 ?_
            exact r_iret dX6_wets_90 rfl
          · refine r_tsw_out MF.bs (tgt := 91) dX6_wets_13 (by have e0 := lv_neT (a := 1) h_3 (by decide); have e1 := lv_neT (a := 2) h_4 (by decide); have e2 := lv_neT (a := 3) h_5 (by decide); have e3 := lv_neT (a := 4) h_9 (by decide); have e4 := lv_neT (a := 5) h_10 (by decide); omega) (by decide) ?_
            refine r_iconst MF.bs dX6_wets_91 (v := 0) (by decide) ?_
            exact r_iret dX6_wets_92 rfl
abbrev mtX6_of : MT := (RX6, yX6_of, cX6_of, 3, (some .int))
theorem miX6_of : MV mtX6_of 2 := ⟨wd_1078, ⟨wd_1076, wd_1077⟩, wd_86, ⟨by decide, by decide, by decide +kernel⟩, by decide⟩
def mX6_of  (a1 : Int32) (a2 : Int32) (M : Mem) : Int32 := (if (mX6_isOne a1 M) = true then (if (mX6_isIn ((a2 : Int32).toInt64) 0 5) = true then (if 4 ≤ a2 then (if a2 = 4 then (mX6_wayOf a1 M) else (1000 + (mX6_wets a1 M))) else (mX6_its a1 a2 M)) else (-1)) else (-1))
def PX6_of  (a1 : Int32) (a2 : Int32) (M : Mem) : Prop := ((mX6_isOne a1 M) = true → ((mX6_isIn ((a2 : Int32).toInt64) 0 5) = true → ((4 ≤ a2 → ((a2 = 4 → PX6_wayOf a1 M) ∧ (¬ a2 = 4 → PX6_wets a1 M))) ∧ (¬ 4 ≤ a2 → PX6_its a1 a2 M))))
set_option maxRecDepth 100000 in
theorem ctX6_of   (a1 : Int32) (a2 : Int32) (M : Mem) (hp : PX6_of a1 a2 M) : CT mtX6_of 3 [.ref 46, .int a1, .int a2] M (some (.int (mX6_of a1 a2 M)), M) := by
  refine CT.of (by decide) rfl (Nat.le_of_ble_eq_true rfl) ?_
  show AWP (GI mtX6_of 3 M M (mX6_of a1 a2 M)) mtX6_of 0 [(0, .ref 46), (1, .int a1), (2, .int a2)] [] M
  unfold mX6_of
  unfold PX6_of at hp
  refine r_aload_n MF.bs dX6_of_0 rfl 0 rfl ?_
  refine r_iload_n MF.bs dX6_of_1 rfl 1 rfl ?_
  refine r_callV_v MF.bs (st := []) dX6_of_2 (ctX6_isOne a1 M) miX6_isOne wd_1079 rfl (by decide) rfl (Nat.le_of_ble_eq_true rfl) rfl rfl rfl ?_
  refine r_ite (GI mtX6_of 3 M M) (fun h_1 => ?_) (fun h_1 => ?_)
  · have hp := hp h_1
    refine r_if_eq_f MF.bs (tgt := 20) dX6_of_5 (by decide) (b2i_1 h_1) ?_
    refine r_iload_n MF.bs dX6_of_8 rfl 2 rfl ?_
    refine r_i2l MF.bs dX6_of_9 ?_
    refine r_lconst MF.bs dX6_of_10 (v := 0) (by decide) ?_
    refine r_ldc2 MF.bs (v := 5) dX6_of_11 wd_1071 ?_
    refine r_callS_v MF.bs (st := []) dX6_of_14 (ctX6_isIn ((a2 : Int32).toInt64) 0 5 M) miX6_isIn wd_971 rfl (by decide) rfl (Nat.le_of_ble_eq_true rfl) ?_
    refine r_ite (GI mtX6_of 3 M M) (fun h_2 => ?_) (fun h_2 => ?_)
    · have hp := hp h_2
      refine r_if_ne_t MF.bs (tgt := 22) dX6_of_17 (by decide) (b2i_1 h_2) ?_
      refine r_iload_n MF.bs dX6_of_22 rfl 2 rfl ?_
      refine r_iconst MF.bs dX6_of_23 (v := 4) (by decide) ?_
      refine r_ite (GI mtX6_of 3 M M) (fun h_3 => ?_) (fun h_3 => ?_)
      · have hp := hp.1 h_3
        refine r_icmp_ge_t MF.bs (tgt := 36) dX6_of_24 (by decide) h_3 ?_
        refine r_iload_n MF.bs dX6_of_36 rfl 2 rfl ?_
        refine r_iconst MF.bs dX6_of_37 (v := 4) (by decide) ?_
        refine r_ite (GI mtX6_of 3 M M) (fun h_4 => ?_) (fun h_4 => ?_)
        · have hp := hp.1 h_4
          refine r_icmp_ne_f MF.bs (tgt := 49) dX6_of_38 (by decide) h_4 ?_
          have hq_5 := hp
          refine r_aload_n MF.bs dX6_of_41 rfl 0 rfl ?_
          refine r_iload_n MF.bs dX6_of_42 rfl 1 rfl ?_
          refine r_callV_v MF.bs (st := []) dX6_of_43 (ctX6_wayOf a1 M hq_5) miX6_wayOf wd_1087 rfl (by decide) rfl (Nat.le_of_ble_eq_true rfl) rfl rfl rfl ?_
          refine r_goto MF.bs dX6_of_46 (tgt := 58) (by decide) ?_
          exact r_iret dX6_of_58 rfl
        · have hp := hp.2 h_4
          refine r_icmp_ne_t MF.bs (tgt := 49) dX6_of_38 (by decide) h_4 ?_
          have hq_6 := hp
          refine r_sipush MF.bs dX6_of_49 (v := 1000) (by decide) ?_
          refine r_aload_n MF.bs dX6_of_52 rfl 0 rfl ?_
          refine r_iload_n MF.bs dX6_of_53 rfl 1 rfl ?_
          refine r_callV_v MF.bs (st := [.int 1000]) dX6_of_54 (ctX6_wets a1 M hq_6) miX6_wets wd_1098 rfl (by decide) rfl (Nat.le_of_ble_eq_true rfl) rfl rfl rfl ?_
          refine r_iadd MF.bs dX6_of_57 ?_
          exact r_iret dX6_of_58 rfl
      · have hp := hp.2 h_3
        refine r_icmp_ge_f MF.bs (tgt := 36) dX6_of_24 (by decide) h_3 ?_
        have hq_7 := hp
        refine r_aload_n MF.bs dX6_of_27 rfl 0 rfl ?_
        refine r_iload_n MF.bs dX6_of_28 rfl 1 rfl ?_
        refine r_iload_n MF.bs dX6_of_29 rfl 2 rfl ?_
        refine r_callV_v MF.bs (st := []) dX6_of_30 (ctX6_its a1 a2 M hq_7) miX6_its wd_1083 rfl (by decide) rfl (Nat.le_of_ble_eq_true rfl) rfl rfl rfl ?_
        refine r_goto MF.bs dX6_of_33 (tgt := 58) (by decide) ?_
        exact r_iret dX6_of_58 rfl
    · refine r_if_ne_f MF.bs (tgt := 22) dX6_of_17 (by decide) (b2i_0 h_2) ?_
      refine r_iconst MF.bs dX6_of_20 (v := -1) (by decide) ?_
      exact r_iret dX6_of_21 rfl
  · refine r_if_eq_t MF.bs (tgt := 20) dX6_of_5 (by decide) (b2i_0 h_1) ?_
    refine r_iconst MF.bs dX6_of_20 (v := -1) (by decide) ?_
    exact r_iret dX6_of_21 rfl
abbrev mtX6_mind : MT := (RX6, yX6_mind, cX6_mind, 4, (some .int))
theorem miX6_mind : MV mtX6_mind 3 := ⟨wd_1105, ⟨wd_1103, wd_1104⟩, wd_86, ⟨by decide, by decide, by decide +kernel⟩, by decide⟩
def mX6_mind  (a1 : Int32) (a2 : Int32) (a3 : Int32) (M : Mem) : Int32 × Mem := (if (mX6_isOne a1 M) = true then (if (mX6_isIn ((a2 : Int32).toInt64) 0 5) = true then (if (mX6_isIn ((a3 : Int32).toInt64) 0 9) = true then ((mX6_becomes (24 + (4 * a1)) a2 (upm M 47 ((24 + (4 * a1)) + 1).toNatClampNeg a3)).1, (mX6_becomes (24 + (4 * a1)) a2 (upm M 47 ((24 + (4 * a1)) + 1).toNatClampNeg a3)).2) else ((-1), M)) else ((-1), M)) else ((-1), M))
def PX6_mind  (a1 : Int32) (a2 : Int32) (a3 : Int32) (M : Mem) : Prop := ((mX6_isOne a1 M) = true → ((mX6_isIn ((a2 : Int32).toInt64) 0 5) = true → ((mX6_isIn ((a3 : Int32).toInt64) 0 9) = true → vp_in ((24 + (4 * a1)) + 1) 56 ∧ (PX6_becomes (24 + (4 * a1)) a2 (upm M 47 ((24 + (4 * a1)) + 1).toNatClampNeg a3)))))
set_option maxRecDepth 100000 in
theorem ctX6_mind   (a1 : Int32) (a2 : Int32) (a3 : Int32) (M : Mem) (hp : PX6_mind a1 a2 a3 M) : CT mtX6_mind 1 [.ref 46, .int a1, .int a2, .int a3] M (some (.int ((mX6_mind a1 a2 a3 M).1)), (mX6_mind a1 a2 a3 M).2) := by
  refine CT.of (by decide) rfl (Nat.le_of_ble_eq_true rfl) ?_
  show AWP (GIM mtX6_mind 1 M (mX6_mind a1 a2 a3 M)) mtX6_mind 0 [(0, .ref 46), (1, .int a1), (2, .int a2), (3, .int a3)] [] M
  unfold mX6_mind
  unfold PX6_mind at hp
  refine r_aload_n MF.bs dX6_mind_0 rfl 0 rfl ?_
  refine r_iload_n MF.bs dX6_mind_1 rfl 1 rfl ?_
  refine r_callV_v MF.bs (st := []) dX6_mind_2 (ctX6_isOne a1 M) miX6_isOne wd_1079 rfl (by decide) rfl (Nat.le_of_ble_eq_true rfl) rfl rfl rfl ?_
  refine r_ite (GIM mtX6_mind 1 M) (fun h_1 => ?_) (fun h_1 => ?_)
  · have hp := hp h_1
    refine r_if_eq_f MF.bs (tgt := 32) dX6_mind_5 (by decide) (b2i_1 h_1) ?_
    refine r_iload_n MF.bs dX6_mind_8 rfl 2 rfl ?_
    refine r_i2l MF.bs dX6_mind_9 ?_
    refine r_lconst MF.bs dX6_mind_10 (v := 0) (by decide) ?_
    refine r_ldc2 MF.bs (v := 5) dX6_mind_11 wd_1071 ?_
    refine r_callS_v MF.bs (st := []) dX6_mind_14 (ctX6_isIn ((a2 : Int32).toInt64) 0 5 M) miX6_isIn wd_971 rfl (by decide) rfl (Nat.le_of_ble_eq_true rfl) ?_
    refine r_ite (GIM mtX6_mind 1 M) (fun h_2 => ?_) (fun h_2 => ?_)
    · have hp := hp h_2
      refine r_if_eq_f MF.bs (tgt := 32) dX6_mind_17 (by decide) (b2i_1 h_2) ?_
      refine r_iload_n MF.bs dX6_mind_20 rfl 3 rfl ?_
      refine r_i2l MF.bs dX6_mind_21 ?_
      refine r_lconst MF.bs dX6_mind_22 (v := 0) (by decide) ?_
      refine r_ldc2 MF.bs (v := 9) dX6_mind_23 wd_1058 ?_
      refine r_callS_v MF.bs (st := []) dX6_mind_26 (ctX6_isIn ((a3 : Int32).toInt64) 0 9 M) miX6_isIn wd_971 rfl (by decide) rfl (Nat.le_of_ble_eq_true rfl) ?_
      refine r_ite (GIM mtX6_mind 1 M) (fun h_3 => ?_) (fun h_3 => ?_)
      · have hp := hp h_3
        refine r_if_ne_t MF.bs (tgt := 34) dX6_mind_29 (by decide) (b2i_1 h_3) ?_
        obtain ⟨hq_4, hp⟩ := hp
        have hq_5 := hp
        refine r_aload_n MF.bs dX6_mind_34 rfl 0 rfl ?_
        refine r_getR MF.bs dX6_mind_35 rfl rfl 0 (by decide) wd_875 rfl ?_
        refine r_bipush MF.bs dX6_mind_38 (v := 24) (by decide) ?_
        refine r_iconst MF.bs dX6_mind_40 (v := 4) (by decide) ?_
        refine r_iload_n MF.bs dX6_mind_41 rfl 1 rfl ?_
        refine r_imul MF.bs dX6_mind_42 ?_
        refine r_iadd MF.bs dX6_mind_43 ?_
        refine r_iconst MF.bs dX6_mind_44 (v := 1) (by decide) ?_
        refine r_iadd MF.bs dX6_mind_45 ?_
        refine r_iload_n MF.bs dX6_mind_46 rfl 3 rfl ?_
        refine r_iastore MF.bs dX6_mind_47 rfl hq_4 ?_
        refine r_aload_n MF.bs dX6_mind_48 rfl 0 rfl ?_
        refine r_bipush MF.bs dX6_mind_49 (v := 24) (by decide) ?_
        refine r_iconst MF.bs dX6_mind_51 (v := 4) (by decide) ?_
        refine r_iload_n MF.bs dX6_mind_52 rfl 1 rfl ?_
        refine r_imul MF.bs dX6_mind_53 ?_
        refine r_iadd MF.bs dX6_mind_54 ?_
        refine r_iload_n MF.bs dX6_mind_55 rfl 2 rfl ?_
        refine r_callV_v MF.bs (st := []) dX6_mind_56 (ctX6_becomes (24 + (4 * a1)) a2 (upm M 47 ((24 + (4 * a1)) + 1).toNatClampNeg a3) hq_5) miX6_becomes wd_1059 rfl (by decide) rfl (Nat.le_of_ble_eq_true rfl) rfl rfl rfl ?_
        exact r_iret dX6_mind_59 rfl
      · refine r_if_ne_f MF.bs (tgt := 34) dX6_mind_29 (by decide) (b2i_0 h_3) ?_
        refine r_iconst MF.bs dX6_mind_32 (v := -1) (by decide) ?_
        exact r_iret dX6_mind_33 rfl
    · refine r_if_eq_t MF.bs (tgt := 32) dX6_mind_17 (by decide) (b2i_0 h_2) ?_
      refine r_iconst MF.bs dX6_mind_32 (v := -1) (by decide) ?_
      exact r_iret dX6_mind_33 rfl
  · refine r_if_eq_t MF.bs (tgt := 32) dX6_mind_5 (by decide) (b2i_0 h_1) ?_
    refine r_iconst MF.bs dX6_mind_32 (v := -1) (by decide) ?_
    exact r_iret dX6_mind_33 rfl
abbrev mtX6_bring : MT := (RX6, yX6_bring, cX6_bring, 3, (some .int))
theorem miX6_bring : MV mtX6_bring 2 := ⟨wd_1109, ⟨wd_1107, wd_1108⟩, wd_86, ⟨by decide, by decide, by decide +kernel⟩, by decide⟩
def mX6_bring_28   (k0 : Int32) (M : Mem) : Int32 × Mem := (k0, M)
def PX6_bring_28   (k0 : Int32) (M : Mem) : Prop := True
set_option maxRecDepth 100000 in
theorem cX6_bring_28    (M0 : Mem) (k0 : Int32) (M : Mem) (hp : PX6_bring_28 k0 M) : AWP (GIM mtX6_bring 1 M0 (mX6_bring_28 k0 M)) mtX6_bring 28 [] [.int k0] M := by
  unfold mX6_bring_28
  unfold PX6_bring_28 at hp
  refine r_goto MF.bs dX6_bring_28 (tgt := 32) (by decide) ?_
  exact r_iret dX6_bring_32 rfl
def mX6_bring  (a1 : Int32) (a2 : Int32) (M : Mem) : Int32 × Mem := (if (mX6_isOne a1 M) = true then (if (mX6_isHouse a2) = true then (mX6_bring_28 ((mX6_becomes ((24 + (4 * a1)) + 3) a2 M).1) ((mX6_becomes ((24 + (4 * a1)) + 3) a2 M).2)) else ((-1), M)) else ((-1), M))
def PX6_bring  (a1 : Int32) (a2 : Int32) (M : Mem) : Prop := ((mX6_isOne a1 M) = true → ((mX6_isHouse a2) = true → PX6_becomes ((24 + (4 * a1)) + 3) a2 M ∧ (PX6_bring_28 ((mX6_becomes ((24 + (4 * a1)) + 3) a2 M).1) ((mX6_becomes ((24 + (4 * a1)) + 3) a2 M).2))))
set_option maxRecDepth 100000 in
theorem ctX6_bring   (a1 : Int32) (a2 : Int32) (M : Mem) (hp : PX6_bring a1 a2 M) : CT mtX6_bring 1 [.ref 46, .int a1, .int a2] M (some (.int ((mX6_bring a1 a2 M).1)), (mX6_bring a1 a2 M).2) := by
  refine CT.of (by decide) rfl (Nat.le_of_ble_eq_true rfl) ?_
  show AWP (GIM mtX6_bring 1 M (mX6_bring a1 a2 M)) mtX6_bring 0 [(0, .ref 46), (1, .int a1), (2, .int a2)] [] M
  unfold mX6_bring
  unfold PX6_bring at hp
  refine r_aload_n MF.bs dX6_bring_0 rfl 0 rfl ?_
  refine r_iload_n MF.bs dX6_bring_1 rfl 1 rfl ?_
  refine r_callV_v MF.bs (st := []) dX6_bring_2 (ctX6_isOne a1 M) miX6_isOne wd_1079 rfl (by decide) rfl (Nat.le_of_ble_eq_true rfl) rfl rfl rfl ?_
  refine r_ite (GIM mtX6_bring 1 M) (fun h_1 => ?_) (fun h_1 => ?_)
  · have hp := hp h_1
    refine r_if_eq_f MF.bs (tgt := 31) dX6_bring_5 (by decide) (b2i_1 h_1) ?_
    refine r_iload_n MF.bs dX6_bring_8 rfl 2 rfl ?_
    refine r_callS_v MF.bs (st := []) dX6_bring_9 (ctX6_isHouse a2 M) miX6_isHouse wd_1072 rfl (by decide) rfl (Nat.le_of_ble_eq_true rfl) ?_
    refine r_ite (GIM mtX6_bring 1 M) (fun h_2 => ?_) (fun h_2 => ?_)
    · have hp := hp h_2
      refine r_if_eq_f MF.bs (tgt := 31) dX6_bring_12 (by decide) (b2i_1 h_2) ?_
      obtain ⟨hq_3, hp⟩ := hp
      refine r_aload_n MF.bs dX6_bring_15 rfl 0 rfl ?_
      refine r_bipush MF.bs dX6_bring_16 (v := 24) (by decide) ?_
      refine r_iconst MF.bs dX6_bring_18 (v := 4) (by decide) ?_
      refine r_iload_n MF.bs dX6_bring_19 rfl 1 rfl ?_
      refine r_imul MF.bs dX6_bring_20 ?_
      refine r_iadd MF.bs dX6_bring_21 ?_
      refine r_iconst MF.bs dX6_bring_22 (v := 3) (by decide) ?_
      refine r_iadd MF.bs dX6_bring_23 ?_
      refine r_iload_n MF.bs dX6_bring_24 rfl 2 rfl ?_
      refine r_callV_v MF.bs (st := []) dX6_bring_25 (ctX6_becomes ((24 + (4 * a1)) + 3) a2 M hq_3) miX6_becomes wd_1059 rfl (by decide) rfl (Nat.le_of_ble_eq_true rfl) rfl rfl rfl ?_
      refine r_sub [] [] rfl ?_
      exact cX6_bring_28 M ((mX6_becomes ((24 + (4 * a1)) + 3) a2 M).1) ((mX6_becomes ((24 + (4 * a1)) + 3) a2 M).2) hp
    · refine r_if_eq_t MF.bs (tgt := 31) dX6_bring_12 (by decide) (b2i_0 h_2) ?_
      refine r_iconst MF.bs dX6_bring_31 (v := -1) (by decide) ?_
      exact r_iret dX6_bring_32 rfl
  · refine r_if_eq_t MF.bs (tgt := 31) dX6_bring_5 (by decide) (b2i_0 h_1) ?_
    refine r_iconst MF.bs dX6_bring_31 (v := -1) (by decide) ?_
    exact r_iret dX6_bring_32 rfl
abbrev mtX6_send : MT := (RX6, yX6_send, cX6_send, 3, (some .int))
theorem miX6_send : MV mtX6_send 2 := ⟨wd_1113, ⟨wd_1111, wd_1112⟩, wd_86, ⟨by decide, by decide, by decide +kernel⟩, by decide⟩
def mX6_send_28   (k0 : Int32) (M : Mem) : Int32 × Mem := (k0, M)
def PX6_send_28   (k0 : Int32) (M : Mem) : Prop := True
set_option maxRecDepth 100000 in
theorem cX6_send_28    (M0 : Mem) (k0 : Int32) (M : Mem) (hp : PX6_send_28 k0 M) : AWP (GIM mtX6_send 1 M0 (mX6_send_28 k0 M)) mtX6_send 28 [] [.int k0] M := by
  unfold mX6_send_28
  unfold PX6_send_28 at hp
  refine r_goto MF.bs dX6_send_28 (tgt := 32) (by decide) ?_
  exact r_iret dX6_send_32 rfl
def mX6_send  (a1 : Int32) (a2 : Int32) (M : Mem) : Int32 × Mem := (if (mX6_isOne a1 M) = true then (if (mX6_isHouse a2) = true then (mX6_send_28 ((mX6_becomes ((24 + (4 * a1)) + 2) a2 M).1) ((mX6_becomes ((24 + (4 * a1)) + 2) a2 M).2)) else ((-1), M)) else ((-1), M))
def PX6_send  (a1 : Int32) (a2 : Int32) (M : Mem) : Prop := ((mX6_isOne a1 M) = true → ((mX6_isHouse a2) = true → PX6_becomes ((24 + (4 * a1)) + 2) a2 M ∧ (PX6_send_28 ((mX6_becomes ((24 + (4 * a1)) + 2) a2 M).1) ((mX6_becomes ((24 + (4 * a1)) + 2) a2 M).2))))
set_option maxRecDepth 100000 in
theorem ctX6_send   (a1 : Int32) (a2 : Int32) (M : Mem) (hp : PX6_send a1 a2 M) : CT mtX6_send 1 [.ref 46, .int a1, .int a2] M (some (.int ((mX6_send a1 a2 M).1)), (mX6_send a1 a2 M).2) := by
  refine CT.of (by decide) rfl (Nat.le_of_ble_eq_true rfl) ?_
  show AWP (GIM mtX6_send 1 M (mX6_send a1 a2 M)) mtX6_send 0 [(0, .ref 46), (1, .int a1), (2, .int a2)] [] M
  unfold mX6_send
  unfold PX6_send at hp
  refine r_aload_n MF.bs dX6_send_0 rfl 0 rfl ?_
  refine r_iload_n MF.bs dX6_send_1 rfl 1 rfl ?_
  refine r_callV_v MF.bs (st := []) dX6_send_2 (ctX6_isOne a1 M) miX6_isOne wd_1079 rfl (by decide) rfl (Nat.le_of_ble_eq_true rfl) rfl rfl rfl ?_
  refine r_ite (GIM mtX6_send 1 M) (fun h_1 => ?_) (fun h_1 => ?_)
  · have hp := hp h_1
    refine r_if_eq_f MF.bs (tgt := 31) dX6_send_5 (by decide) (b2i_1 h_1) ?_
    refine r_iload_n MF.bs dX6_send_8 rfl 2 rfl ?_
    refine r_callS_v MF.bs (st := []) dX6_send_9 (ctX6_isHouse a2 M) miX6_isHouse wd_1072 rfl (by decide) rfl (Nat.le_of_ble_eq_true rfl) ?_
    refine r_ite (GIM mtX6_send 1 M) (fun h_2 => ?_) (fun h_2 => ?_)
    · have hp := hp h_2
      refine r_if_eq_f MF.bs (tgt := 31) dX6_send_12 (by decide) (b2i_1 h_2) ?_
      obtain ⟨hq_3, hp⟩ := hp
      refine r_aload_n MF.bs dX6_send_15 rfl 0 rfl ?_
      refine r_bipush MF.bs dX6_send_16 (v := 24) (by decide) ?_
      refine r_iconst MF.bs dX6_send_18 (v := 4) (by decide) ?_
      refine r_iload_n MF.bs dX6_send_19 rfl 1 rfl ?_
      refine r_imul MF.bs dX6_send_20 ?_
      refine r_iadd MF.bs dX6_send_21 ?_
      refine r_iconst MF.bs dX6_send_22 (v := 2) (by decide) ?_
      refine r_iadd MF.bs dX6_send_23 ?_
      refine r_iload_n MF.bs dX6_send_24 rfl 2 rfl ?_
      refine r_callV_v MF.bs (st := []) dX6_send_25 (ctX6_becomes ((24 + (4 * a1)) + 2) a2 M hq_3) miX6_becomes wd_1059 rfl (by decide) rfl (Nat.le_of_ble_eq_true rfl) rfl rfl rfl ?_
      refine r_sub [] [] rfl ?_
      exact cX6_send_28 M ((mX6_becomes ((24 + (4 * a1)) + 2) a2 M).1) ((mX6_becomes ((24 + (4 * a1)) + 2) a2 M).2) hp
    · refine r_if_eq_t MF.bs (tgt := 31) dX6_send_12 (by decide) (b2i_0 h_2) ?_
      refine r_iconst MF.bs dX6_send_31 (v := -1) (by decide) ?_
      exact r_iret dX6_send_32 rfl
  · refine r_if_eq_t MF.bs (tgt := 31) dX6_send_5 (by decide) (b2i_0 h_1) ?_
    refine r_iconst MF.bs dX6_send_31 (v := -1) (by decide) ?_
    exact r_iret dX6_send_32 rfl
abbrev mtX6_blow : MT := (RX6, yX6_blow, cX6_blow, 2, (some .int))
theorem miX6_blow : MV mtX6_blow 1 := ⟨wd_1117, ⟨wd_1115, wd_1116⟩, wd_86, ⟨by decide, by decide, by decide +kernel⟩, by decide⟩
def mX6_blow_18   (k0 : Int32) (M : Mem) : Int32 × Mem := (k0, M)
def PX6_blow_18   (k0 : Int32) (M : Mem) : Prop := True
set_option maxRecDepth 100000 in
theorem cX6_blow_18    (M0 : Mem) (k0 : Int32) (M : Mem) (hp : PX6_blow_18 k0 M) : AWP (GIM mtX6_blow 1 M0 (mX6_blow_18 k0 M)) mtX6_blow 18 [] [.int k0] M := by
  unfold mX6_blow_18
  unfold PX6_blow_18 at hp
  refine r_goto MF.bs dX6_blow_18 (tgt := 22) (by decide) ?_
  exact r_iret dX6_blow_22 rfl
def mX6_blow  (a1 : Int32) (M : Mem) : Int32 × Mem := (if (mX6_isIn ((a1 : Int32).toInt64) 0 3) = true then (mX6_blow_18 ((mX6_becomes 3 a1 M).1) ((mX6_becomes 3 a1 M).2)) else ((-1), M))
def PX6_blow  (a1 : Int32) (M : Mem) : Prop := ((mX6_isIn ((a1 : Int32).toInt64) 0 3) = true → PX6_becomes 3 a1 M ∧ (PX6_blow_18 ((mX6_becomes 3 a1 M).1) ((mX6_becomes 3 a1 M).2)))
set_option maxRecDepth 100000 in
theorem ctX6_blow   (a1 : Int32) (M : Mem) (hp : PX6_blow a1 M) : CT mtX6_blow 1 [.ref 46, .int a1] M (some (.int ((mX6_blow a1 M).1)), (mX6_blow a1 M).2) := by
  refine CT.of (by decide) rfl (Nat.le_of_ble_eq_true rfl) ?_
  show AWP (GIM mtX6_blow 1 M (mX6_blow a1 M)) mtX6_blow 0 [(0, .ref 46), (1, .int a1)] [] M
  unfold mX6_blow
  unfold PX6_blow at hp
  refine r_iload_n MF.bs dX6_blow_0 rfl 1 rfl ?_
  refine r_i2l MF.bs dX6_blow_1 ?_
  refine r_lconst MF.bs dX6_blow_2 (v := 0) (by decide) ?_
  refine r_ldc2 MF.bs (v := 3) dX6_blow_3 wd_1056 ?_
  refine r_callS_v MF.bs (st := []) dX6_blow_6 (ctX6_isIn ((a1 : Int32).toInt64) 0 3 M) miX6_isIn wd_971 rfl (by decide) rfl (Nat.le_of_ble_eq_true rfl) ?_
  refine r_ite (GIM mtX6_blow 1 M) (fun h_1 => ?_) (fun h_1 => ?_)
  · have hp := hp h_1
    refine r_if_eq_f MF.bs (tgt := 21) dX6_blow_9 (by decide) (b2i_1 h_1) ?_
    obtain ⟨hq_2, hp⟩ := hp
    refine r_aload_n MF.bs dX6_blow_12 rfl 0 rfl ?_
    refine r_iconst MF.bs dX6_blow_13 (v := 3) (by decide) ?_
    refine r_iload_n MF.bs dX6_blow_14 rfl 1 rfl ?_
    refine r_callV_v MF.bs (st := []) dX6_blow_15 (ctX6_becomes 3 a1 M hq_2) miX6_becomes wd_1059 rfl (by decide) rfl (Nat.le_of_ble_eq_true rfl) rfl rfl rfl ?_
    refine r_sub [] [] rfl ?_
    exact cX6_blow_18 M ((mX6_becomes 3 a1 M).1) ((mX6_becomes 3 a1 M).2) hp
  · refine r_if_eq_t MF.bs (tgt := 21) dX6_blow_9 (by decide) (b2i_0 h_1) ?_
    refine r_iconst MF.bs dX6_blow_21 (v := -1) (by decide) ?_
    exact r_iret dX6_blow_22 rfl
abbrev mtX6_pour : MT := (RX6, yX6_pour, cX6_pour, 3, (some .int))
theorem miX6_pour : MV mtX6_pour 2 := ⟨wd_1121, ⟨wd_1119, wd_1120⟩, wd_86, ⟨by decide, by decide, by decide +kernel⟩, by decide⟩
def mX6_pour_28   (k0 : Int32) (M : Mem) : Int32 × Mem := (k0, M)
def PX6_pour_28   (k0 : Int32) (M : Mem) : Prop := True
set_option maxRecDepth 100000 in
theorem cX6_pour_28    (M0 : Mem) (k0 : Int32) (M : Mem) (hp : PX6_pour_28 k0 M) : AWP (GIM mtX6_pour 1 M0 (mX6_pour_28 k0 M)) mtX6_pour 28 [] [.int k0] M := by
  unfold mX6_pour_28
  unfold PX6_pour_28 at hp
  refine r_goto MF.bs dX6_pour_28 (tgt := 32) (by decide) ?_
  exact r_iret dX6_pour_32 rfl
def mX6_pour  (a1 : Int32) (a2 : Int32) (M : Mem) : Int32 × Mem := (if (mX6_isHouse a1) = true then (if (mX6_isIn ((a2 : Int32).toInt64) 0 99) = true then (mX6_pour_28 ((mX6_becomes (8 + a1) a2 M).1) ((mX6_becomes (8 + a1) a2 M).2)) else ((-1), M)) else ((-1), M))
def PX6_pour  (a1 : Int32) (a2 : Int32) (M : Mem) : Prop := ((mX6_isHouse a1) = true → ((mX6_isIn ((a2 : Int32).toInt64) 0 99) = true → PX6_becomes (8 + a1) a2 M ∧ (PX6_pour_28 ((mX6_becomes (8 + a1) a2 M).1) ((mX6_becomes (8 + a1) a2 M).2))))
set_option maxRecDepth 100000 in
theorem ctX6_pour   (a1 : Int32) (a2 : Int32) (M : Mem) (hp : PX6_pour a1 a2 M) : CT mtX6_pour 1 [.ref 46, .int a1, .int a2] M (some (.int ((mX6_pour a1 a2 M).1)), (mX6_pour a1 a2 M).2) := by
  refine CT.of (by decide) rfl (Nat.le_of_ble_eq_true rfl) ?_
  show AWP (GIM mtX6_pour 1 M (mX6_pour a1 a2 M)) mtX6_pour 0 [(0, .ref 46), (1, .int a1), (2, .int a2)] [] M
  unfold mX6_pour
  unfold PX6_pour at hp
  refine r_iload_n MF.bs dX6_pour_0 rfl 1 rfl ?_
  refine r_callS_v MF.bs (st := []) dX6_pour_1 (ctX6_isHouse a1 M) miX6_isHouse wd_1072 rfl (by decide) rfl (Nat.le_of_ble_eq_true rfl) ?_
  refine r_ite (GIM mtX6_pour 1 M) (fun h_1 => ?_) (fun h_1 => ?_)
  · have hp := hp h_1
    refine r_if_eq_f MF.bs (tgt := 31) dX6_pour_4 (by decide) (b2i_1 h_1) ?_
    refine r_iload_n MF.bs dX6_pour_7 rfl 2 rfl ?_
    refine r_i2l MF.bs dX6_pour_8 ?_
    refine r_lconst MF.bs dX6_pour_9 (v := 0) (by decide) ?_
    refine r_ldc2 MF.bs (v := 99) dX6_pour_10 wd_1057 ?_
    refine r_callS_v MF.bs (st := []) dX6_pour_13 (ctX6_isIn ((a2 : Int32).toInt64) 0 99 M) miX6_isIn wd_971 rfl (by decide) rfl (Nat.le_of_ble_eq_true rfl) ?_
    refine r_ite (GIM mtX6_pour 1 M) (fun h_2 => ?_) (fun h_2 => ?_)
    · have hp := hp h_2
      refine r_if_eq_f MF.bs (tgt := 31) dX6_pour_16 (by decide) (b2i_1 h_2) ?_
      obtain ⟨hq_3, hp⟩ := hp
      refine r_aload_n MF.bs dX6_pour_19 rfl 0 rfl ?_
      refine r_bipush MF.bs dX6_pour_20 (v := 8) (by decide) ?_
      refine r_iload_n MF.bs dX6_pour_22 rfl 1 rfl ?_
      refine r_iadd MF.bs dX6_pour_23 ?_
      refine r_iload_n MF.bs dX6_pour_24 rfl 2 rfl ?_
      refine r_callV_v MF.bs (st := []) dX6_pour_25 (ctX6_becomes (8 + a1) a2 M hq_3) miX6_becomes wd_1059 rfl (by decide) rfl (Nat.le_of_ble_eq_true rfl) rfl rfl rfl ?_
      refine r_sub [] [] rfl ?_
      exact cX6_pour_28 M ((mX6_becomes (8 + a1) a2 M).1) ((mX6_becomes (8 + a1) a2 M).2) hp
    · refine r_if_eq_t MF.bs (tgt := 31) dX6_pour_16 (by decide) (b2i_0 h_2) ?_
      refine r_iconst MF.bs dX6_pour_31 (v := -1) (by decide) ?_
      exact r_iret dX6_pour_32 rfl
  · refine r_if_eq_t MF.bs (tgt := 31) dX6_pour_4 (by decide) (b2i_0 h_1) ?_
    refine r_iconst MF.bs dX6_pour_31 (v := -1) (by decide) ?_
    exact r_iret dX6_pour_32 rfl
abbrev mtX6_thoseAt : MT := (RX6, yX6_thoseAt, cX6_thoseAt, 4, (some .int))
theorem miX6_thoseAt : MV mtX6_thoseAt 1 := ⟨wd_1129, ⟨wd_1128, wd_52⟩, wd_86, ⟨by decide, by decide, by decide +kernel⟩, by decide⟩
def mX6_thoseAt_32   (kf4 : Int32 → Int32 → Int32 → Mem → Int32) (v1 : Int32) (v3 : Int32) (k0 : Int32) (k1 : Int32) (M : Mem) : Int32 := (kf4 v1 (k1 ||| k0) (v3 + 1) M)
def PX6_thoseAt_32   (kP4 : Int32 → Int32 → Int32 → Mem → Prop) (v1 : Int32) (v3 : Int32) (k0 : Int32) (k1 : Int32) (M : Mem) : Prop := kP4 v1 (k1 ||| k0) (v3 + 1) M
set_option maxRecDepth 100000 in
theorem cX6_thoseAt_32    (kf4 : Int32 → Int32 → Int32 → Mem → Int32) (kP4 : Int32 → Int32 → Int32 → Mem → Prop) (hk4 : ∀ (v1 : Int32) (v2 : Int32) (v3 : Int32) (M : Mem), kP4 v1 v2 v3 M → AWP (GI mtX6_thoseAt 1 M M (kf4 v1 v2 v3 M)) mtX6_thoseAt 4 [(0, .ref 46), (1, .int v1), (2, .int v2), (3, .int v3)] [] M) (v1 : Int32) (v3 : Int32) (k0 : Int32) (k1 : Int32) (M : Mem) (hp : PX6_thoseAt_32 kP4 v1 v3 k0 k1 M) : AWP (GI mtX6_thoseAt 1 M M (mX6_thoseAt_32 kf4 v1 v3 k0 k1 M)) mtX6_thoseAt 32 [(0, .ref 46), (1, .int v1), (3, .int v3)] [.int k0, .int k1] M := by
  unfold mX6_thoseAt_32
  unfold PX6_thoseAt_32 at hp
  refine r_ior MF.bs dX6_thoseAt_32 ?_
  refine r_istore_n MF.bs (lv' := [(2, .int (k1 ||| k0)), (0, .ref 46), (1, .int v1), (3, .int v3)]) dX6_thoseAt_33 rfl (by decide) rfl ?_
  refine r_iinc MF.bs (v := (v3 + 1)) (lv' := [(3, .int (v3 + 1)), (2, .int (k1 ||| k0)), (0, .ref 46), (1, .int v1)]) dX6_thoseAt_34 3 rfl rfl (by decide) rfl ?_
  refine r_goto MF.bs dX6_thoseAt_37 (tgt := 4) (by decide) ?_
  refine r_sub [(0, .ref 46), (1, .int v1), (2, .int (k1 ||| k0)), (3, .int (v3 + 1))] [2, 3, 1, 0] rfl ?_
  exact hk4 v1 (k1 ||| k0) (v3 + 1) M hp
def mX6_thoseAt_4   : Nat → Int32 → Int32 → Int32 → Mem → Int32
  | 0, _, _, _, _ => 0
  | n + 1, v1, v2, v3, M => (if (M 47 0) ≤ v3 then v2 else (if (mX6_its v3 3 M) = v1 then (mX6_thoseAt_32 (mX6_thoseAt_4 n) v1 v3 (1 <<< (v3 &&& 31)) v2 M) else (mX6_thoseAt_32 (mX6_thoseAt_4 n) v1 v3 0 v2 M)))
def PX6_thoseAt_4   : Nat → Int32 → Int32 → Int32 → Mem → Prop
  | 0, _, _, _, _ => False
  | n + 1, v1, v2, v3, M => (¬ (M 47 0) ≤ v3 → PX6_its v3 3 M ∧ ((((mX6_its v3 3 M) = v1 → PX6_thoseAt_32 (PX6_thoseAt_4 n) v1 v3 (1 <<< (v3 &&& 31)) v2 M) ∧ (¬ (mX6_its v3 3 M) = v1 → PX6_thoseAt_32 (PX6_thoseAt_4 n) v1 v3 0 v2 M))))
set_option maxRecDepth 100000 in
theorem cX6_thoseAt_4    : ∀ (n : Nat) (v1 : Int32) (v2 : Int32) (v3 : Int32) (M : Mem), PX6_thoseAt_4 n v1 v2 v3 M → AWP (GI mtX6_thoseAt 1 M M (mX6_thoseAt_4 n v1 v2 v3 M)) mtX6_thoseAt 4 [(0, .ref 46), (1, .int v1), (2, .int v2), (3, .int v3)] [] M := by
  intro n
  induction n with
  | zero =>
    intro v1 v2 v3 M hp
    exact hp.elim
  | succ n ih =>
    intro v1 v2 v3 M hp
    rw [mX6_thoseAt_4]
    rw [PX6_thoseAt_4] at hp
    refine r_iload_n MF.bs dX6_thoseAt_4 rfl 3 rfl ?_
    refine r_aload_n MF.bs dX6_thoseAt_5 rfl 0 rfl ?_
    refine r_getR MF.bs dX6_thoseAt_6 rfl rfl 0 (by decide) wd_875 rfl ?_
    refine r_iconst MF.bs dX6_thoseAt_9 (v := 0) (by decide) ?_
    refine r_ialoadL MF.bs dX6_thoseAt_10 rfl (vin_l (by decide) (by decide)) (k9 := 0) (by decide) ?_
    refine r_ite (GI mtX6_thoseAt 1 M M) (fun h_1 => ?_) (fun h_1 => ?_)
    · refine r_icmp_ge_t MF.bs (tgt := 40) dX6_thoseAt_11 (by decide) h_1 ?_
      refine r_iload_n MF.bs dX6_thoseAt_40 rfl 2 rfl ?_
      exact r_iret dX6_thoseAt_41 rfl
    · have hp := hp h_1
      refine r_icmp_ge_f MF.bs (tgt := 40) dX6_thoseAt_11 (by decide) h_1 ?_
      obtain ⟨hq_2, hp⟩ := hp
      refine r_iload_n MF.bs dX6_thoseAt_14 rfl 2 rfl ?_
      refine r_aload_n MF.bs dX6_thoseAt_15 rfl 0 rfl ?_
      refine r_iload_n MF.bs dX6_thoseAt_16 rfl 3 rfl ?_
      refine r_iconst MF.bs dX6_thoseAt_17 (v := 3) (by decide) ?_
      refine r_callV_v MF.bs (st := [.int v2]) dX6_thoseAt_18 (ctX6_its v3 3 M hq_2) miX6_its wd_1083 rfl (by decide) rfl (Nat.le_of_ble_eq_true rfl) rfl rfl rfl ?_
      refine r_iload_n MF.bs dX6_thoseAt_21 rfl 1 rfl ?_
      refine r_ite (GI mtX6_thoseAt 1 M M) (fun h_3 => ?_) (fun h_3 => ?_)
      · have hp := hp.1 h_3
        refine r_icmp_ne_f MF.bs (tgt := 31) dX6_thoseAt_22 (by decide) h_3 ?_
        refine r_iconst MF.bs dX6_thoseAt_25 (v := 1) (by decide) ?_
        refine r_iload_n MF.bs dX6_thoseAt_26 rfl 3 rfl ?_
        refine r_ishl MF.bs dX6_thoseAt_27 ?_
        refine r_goto MF.bs dX6_thoseAt_28 (tgt := 32) (by decide) ?_
        refine r_sub [(0, .ref 46), (1, .int v1), (3, .int v3)] [0, 1, 3] rfl ?_
        exact cX6_thoseAt_32 (mX6_thoseAt_4 n) (PX6_thoseAt_4 n) ih v1 v3 (1 <<< (v3 &&& 31)) v2 M hp
      · have hp := hp.2 h_3
        refine r_icmp_ne_t MF.bs (tgt := 31) dX6_thoseAt_22 (by decide) h_3 ?_
        refine r_iconst MF.bs dX6_thoseAt_31 (v := 0) (by decide) ?_
        refine r_sub [(0, .ref 46), (1, .int v1), (3, .int v3)] [0, 1, 3] rfl ?_
        exact cX6_thoseAt_32 (mX6_thoseAt_4 n) (PX6_thoseAt_4 n) ih v1 v3 0 v2 M hp
def mX6_thoseAt  (a1 : Int32) (M : Mem) : Int32 := (mX6_thoseAt_4 400 a1 0 0 M)
def PX6_thoseAt  (a1 : Int32) (M : Mem) : Prop := PX6_thoseAt_4 400 a1 0 0 M
set_option maxRecDepth 100000 in
theorem ctX6_thoseAt   (a1 : Int32) (M : Mem) (hp : PX6_thoseAt a1 M) : CT mtX6_thoseAt 1 [.ref 46, .int a1] M (some (.int (mX6_thoseAt a1 M)), M) := by
  refine CT.of (by decide) rfl (Nat.le_of_ble_eq_true rfl) ?_
  show AWP (GI mtX6_thoseAt 1 M M (mX6_thoseAt a1 M)) mtX6_thoseAt 0 [(0, .ref 46), (1, .int a1)] [] M
  unfold mX6_thoseAt
  unfold PX6_thoseAt at hp
  refine r_iconst MF.bs dX6_thoseAt_0 (v := 0) (by decide) ?_
  refine r_istore_n MF.bs (lv' := [(2, .int 0), (0, .ref 46), (1, .int a1)]) dX6_thoseAt_1 rfl (by decide) rfl ?_
  refine r_iconst MF.bs dX6_thoseAt_2 (v := 0) (by decide) ?_
  refine r_istore_n MF.bs (lv' := [(3, .int 0), (2, .int 0), (0, .ref 46), (1, .int a1)]) dX6_thoseAt_3 rfl (by decide) rfl ?_
  refine r_sub [(0, .ref 46), (1, .int a1), (2, .int 0), (3, .int 0)] [2, 3, 1, 0] rfl ?_
  exact cX6_thoseAt_4 400 a1 0 0 M hp
abbrev mtX6_house : MT := (RX6, yX6_house, cX6_house, 3, (some .int))
theorem miX6_house : MV mtX6_house 2 := ⟨wd_1125, ⟨wd_1123, wd_1124⟩, wd_86, ⟨by decide, by decide, by decide +kernel⟩, by decide⟩
def mX6_house  (a1 : Int32) (a2 : Int32) (M : Mem) : Int32 := (if (mX6_isHouse a1) = true then (if (mX6_isIn ((a2 : Int32).toInt64) 0 1) = true then (if a2 = 0 then (M 47 (8 + a1).toNatClampNeg) else (mX6_thoseAt a1 M)) else (-1)) else (-1))
def PX6_house  (a1 : Int32) (a2 : Int32) (M : Mem) : Prop := ((mX6_isHouse a1) = true → ((mX6_isIn ((a2 : Int32).toInt64) 0 1) = true → ((a2 = 0 → vp_in (8 + a1) 56) ∧ (¬ a2 = 0 → PX6_thoseAt a1 M))))
set_option maxRecDepth 100000 in
theorem ctX6_house   (a1 : Int32) (a2 : Int32) (M : Mem) (hp : PX6_house a1 a2 M) : CT mtX6_house 2 [.ref 46, .int a1, .int a2] M (some (.int (mX6_house a1 a2 M)), M) := by
  refine CT.of (by decide) rfl (Nat.le_of_ble_eq_true rfl) ?_
  show AWP (GI mtX6_house 2 M M (mX6_house a1 a2 M)) mtX6_house 0 [(0, .ref 46), (1, .int a1), (2, .int a2)] [] M
  unfold mX6_house
  unfold PX6_house at hp
  refine r_iload_n MF.bs dX6_house_0 rfl 1 rfl ?_
  refine r_callS_v MF.bs (st := []) dX6_house_1 (ctX6_isHouse a1 M) miX6_isHouse wd_1072 rfl (by decide) rfl (Nat.le_of_ble_eq_true rfl) ?_
  refine r_ite (GI mtX6_house 2 M M) (fun h_1 => ?_) (fun h_1 => ?_)
  · have hp := hp h_1
    refine r_if_eq_f MF.bs (tgt := 17) dX6_house_4 (by decide) (b2i_1 h_1) ?_
    refine r_iload_n MF.bs dX6_house_7 rfl 2 rfl ?_
    refine r_i2l MF.bs dX6_house_8 ?_
    refine r_lconst MF.bs dX6_house_9 (v := 0) (by decide) ?_
    refine r_lconst MF.bs dX6_house_10 (v := 1) (by decide) ?_
    refine r_callS_v MF.bs (st := []) dX6_house_11 (ctX6_isIn ((a2 : Int32).toInt64) 0 1 M) miX6_isIn wd_971 rfl (by decide) rfl (Nat.le_of_ble_eq_true rfl) ?_
    refine r_ite (GI mtX6_house 2 M M) (fun h_2 => ?_) (fun h_2 => ?_)
    · have hp := hp h_2
      refine r_if_ne_t MF.bs (tgt := 19) dX6_house_14 (by decide) (b2i_1 h_2) ?_
      refine r_iload_n MF.bs dX6_house_19 rfl 2 rfl ?_
      refine r_ite (GI mtX6_house 2 M M) (fun h_3 => ?_) (fun h_3 => ?_)
      · have hp := hp.1 h_3
        refine r_if_ne_f MF.bs (tgt := 35) dX6_house_20 (by decide) h_3 ?_
        have hq_4 := hp
        refine r_aload_n MF.bs dX6_house_23 rfl 0 rfl ?_
        refine r_getR MF.bs dX6_house_24 rfl rfl 0 (by decide) wd_875 rfl ?_
        refine r_bipush MF.bs dX6_house_27 (v := 8) (by decide) ?_
        refine r_iload_n MF.bs dX6_house_29 rfl 1 rfl ?_
        refine r_iadd MF.bs dX6_house_30 ?_
        refine r_iaload MF.bs dX6_house_31 rfl hq_4 ?_
        refine r_goto MF.bs dX6_house_32 (tgt := 40) (by decide) ?_
        exact r_iret dX6_house_40 rfl
      · have hp := hp.2 h_3
        refine r_if_ne_t MF.bs (tgt := 35) dX6_house_20 (by decide) h_3 ?_
        have hq_5 := hp
        refine r_aload_n MF.bs dX6_house_35 rfl 0 rfl ?_
        refine r_iload_n MF.bs dX6_house_36 rfl 1 rfl ?_
        refine r_callV_v MF.bs (st := []) dX6_house_37 (ctX6_thoseAt a1 M hq_5) miX6_thoseAt wd_1126 rfl (by decide) rfl (Nat.le_of_ble_eq_true rfl) rfl rfl rfl ?_
        exact r_iret dX6_house_40 rfl
    · refine r_if_ne_f MF.bs (tgt := 19) dX6_house_14 (by decide) (b2i_0 h_2) ?_
      refine r_iconst MF.bs dX6_house_17 (v := -1) (by decide) ?_
      exact r_iret dX6_house_18 rfl
  · refine r_if_eq_t MF.bs (tgt := 17) dX6_house_4 (by decide) (b2i_0 h_1) ?_
    refine r_iconst MF.bs dX6_house_17 (v := -1) (by decide) ?_
    exact r_iret dX6_house_18 rfl
abbrev mtX6_goesOn : MT := (RX6, yX6_goesOn, cX6_goesOn, 3, none)
theorem miX6_goesOn : MV mtX6_goesOn 0 := ⟨wd_1142, ⟨wd_1141, wd_54⟩, wd_86, ⟨by decide, by decide, by decide +kernel⟩, by decide⟩
def mX6_goesOn_95   (kf43 : Int32 → Mem → Mem) (v1 : Int32) (k0 : Int32) (k1 : Int32) (M : Mem) : Mem := (kf43 (v1 + 1) (upm M 47 k1.toNatClampNeg k0))
def PX6_goesOn_95   (kP43 : Int32 → Mem → Prop) (v1 : Int32) (k0 : Int32) (k1 : Int32) (M : Mem) : Prop := vp_in k1 56 ∧ (kP43 (v1 + 1) (upm M 47 k1.toNatClampNeg k0))
set_option maxRecDepth 100000 in
theorem cX6_goesOn_95    (M0 : Mem) (kf43 : Int32 → Mem → Mem) (kP43 : Int32 → Mem → Prop) (hk43 : ∀ (v1 : Int32) (M : Mem), kP43 v1 M → AWP (GV mtX6_goesOn 3 M0 (kf43 v1 M)) mtX6_goesOn 43 [(0, .ref 46), (1, .int v1)] [] M) (v1 : Int32) (k0 : Int32) (k1 : Int32) (M : Mem) (hp : PX6_goesOn_95 kP43 v1 k0 k1 M) : AWP (GV mtX6_goesOn 3 M0 (mX6_goesOn_95 kf43 v1 k0 k1 M)) mtX6_goesOn 95 [(0, .ref 46), (1, .int v1)] [.int k0, .int k1, .ref 47] M := by
  unfold mX6_goesOn_95
  unfold PX6_goesOn_95 at hp
  obtain ⟨hq_14, hp⟩ := hp
  refine r_iastore MF.bs dX6_goesOn_95 rfl hq_14 ?_
  refine r_iinc MF.bs (v := (v1 + 1)) (lv' := [(1, .int (v1 + 1)), (0, .ref 46)]) dX6_goesOn_96 1 rfl rfl (by decide) rfl ?_
  refine r_goto MF.bs dX6_goesOn_99 (tgt := 43) (by decide) ?_
  refine r_sub [(0, .ref 46), (1, .int (v1 + 1))] [1, 0] rfl ?_
  exact hk43 (v1 + 1) (upm M 47 k1.toNatClampNeg k0) hp
def mX6_goesOn_104   : Nat → Int32 → Mem → Mem
  | 0, _, M => M
  | n + 1, v1, M => (if (M 47 0) ≤ v1 then (upm M 47 1 ((M 47 1) + 1)) else (mX6_goesOn_104 n (v1 + 1) (upm M 47 (8 + (mX6_its v1 3 M)).toNatClampNeg (mX6_bounded ((M 47 (8 + (mX6_its v1 3 M)).toNatClampNeg) + (mX6_wets v1 M)) 99))))
def PX6_goesOn_104   : Nat → Int32 → Mem → Prop
  | 0, _, _ => False
  | n + 1, v1, M => (¬ (M 47 0) ≤ v1 → PX6_its v1 3 M ∧ (vp_in (8 + (mX6_its v1 3 M)) 56 ∧ (PX6_wets v1 M ∧ (vp_in (8 + (mX6_its v1 3 M)) 56 ∧ (PX6_goesOn_104 n (v1 + 1) (upm M 47 (8 + (mX6_its v1 3 M)).toNatClampNeg (mX6_bounded ((M 47 (8 + (mX6_its v1 3 M)).toNatClampNeg) + (mX6_wets v1 M)) 99)))))))
set_option maxRecDepth 100000 in
theorem cX6_goesOn_104    (M0 : Mem) : ∀ (n : Nat) (v1 : Int32) (M : Mem), PX6_goesOn_104 n v1 M → AWP (GV mtX6_goesOn 3 M0 (mX6_goesOn_104 n v1 M)) mtX6_goesOn 104 [(0, .ref 46), (1, .int v1)] [] M := by
  intro n
  induction n with
  | zero =>
    intro v1 M hp
    exact hp.elim
  | succ n ih =>
    intro v1 M hp
    rw [mX6_goesOn_104]
    rw [PX6_goesOn_104] at hp
    refine r_iload_n MF.bs dX6_goesOn_104 rfl 1 rfl ?_
    refine r_aload_n MF.bs dX6_goesOn_105 rfl 0 rfl ?_
    refine r_getR MF.bs dX6_goesOn_106 rfl rfl 0 (by decide) wd_875 rfl ?_
    refine r_iconst MF.bs dX6_goesOn_109 (v := 0) (by decide) ?_
    refine r_ialoadL MF.bs dX6_goesOn_110 rfl (vin_l (by decide) (by decide)) (k9 := 0) (by decide) ?_
    refine r_ite (GV mtX6_goesOn 3 M0) (fun h_9 => ?_) (fun h_9 => ?_)
    · refine r_icmp_ge_t MF.bs (tgt := 153) dX6_goesOn_111 (by decide) h_9 ?_
      refine r_aload_n MF.bs dX6_goesOn_153 rfl 0 rfl ?_
      refine r_getR MF.bs dX6_goesOn_154 rfl rfl 0 (by decide) wd_875 rfl ?_
      refine r_iconst MF.bs dX6_goesOn_157 (v := 1) (by decide) ?_
      refine r_dup2 MF.bs dX6_goesOn_158 rfl rfl ?_
      refine r_ialoadL MF.bs dX6_goesOn_159 rfl (vin_l (by decide) (by decide)) (k9 := 1) (by decide) ?_
      refine r_iconst MF.bs dX6_goesOn_160 (v := 1) (by decide) ?_
      refine r_iadd MF.bs dX6_goesOn_161 ?_
      refine r_iastoreL MF.bs dX6_goesOn_162 rfl (vin_l (by decide) (by decide)) (k9 := 1) (by decide) ?_
      exact r_vret dX6_goesOn_163 rfl
    · have hp := hp h_9
      refine r_icmp_ge_f MF.bs (tgt := 153) dX6_goesOn_111 (by decide) h_9 ?_
      obtain ⟨hq_10, hp⟩ := hp
      obtain ⟨hq_11, hp⟩ := hp
      obtain ⟨hq_12, hp⟩ := hp
      obtain ⟨hq_13, hp⟩ := hp
      refine r_bipush MF.bs dX6_goesOn_114 (v := 8) (by decide) ?_
      refine r_aload_n MF.bs dX6_goesOn_116 rfl 0 rfl ?_
      refine r_iload_n MF.bs dX6_goesOn_117 rfl 1 rfl ?_
      refine r_iconst MF.bs dX6_goesOn_118 (v := 3) (by decide) ?_
      refine r_callV_v MF.bs (st := [.int 8]) dX6_goesOn_119 (ctX6_its v1 3 M hq_10) miX6_its wd_1083 rfl (by decide) rfl (Nat.le_of_ble_eq_true rfl) rfl rfl rfl ?_
      refine r_iadd MF.bs dX6_goesOn_122 ?_
      refine r_istore_n MF.bs (lv' := [(2, .int (8 + (mX6_its v1 3 M))), (0, .ref 46), (1, .int v1)]) dX6_goesOn_123 rfl (by decide) rfl ?_
      refine r_aload_n MF.bs dX6_goesOn_124 rfl 1 rfl ?_
      refine r_getR MF.bs dX6_goesOn_125 rfl rfl 0 (by decide) wd_875 rfl ?_
      refine r_iload_n MF.bs dX6_goesOn_128 rfl 0 rfl ?_
      refine r_aload_n MF.bs dX6_goesOn_129 rfl 1 rfl ?_
      refine r_getR MF.bs dX6_goesOn_130 rfl rfl 0 (by decide) wd_875 rfl ?_
      refine r_iload_n MF.bs dX6_goesOn_133 rfl 0 rfl ?_
      refine r_iaload MF.bs dX6_goesOn_134 rfl hq_11 ?_
      refine r_aload_n MF.bs dX6_goesOn_135 rfl 1 rfl ?_
      refine r_iload_n MF.bs dX6_goesOn_136 rfl 2 rfl ?_
      refine r_callV_v MF.bs (st := [.int (M 47 (8 + (mX6_its v1 3 M)).toNatClampNeg), .int (8 + (mX6_its v1 3 M)), .ref 47]) dX6_goesOn_137 (ctX6_wets v1 M hq_12) miX6_wets wd_1098 rfl (by decide) rfl (Nat.le_of_ble_eq_true rfl) rfl rfl rfl ?_
      refine r_iadd MF.bs dX6_goesOn_140 ?_
      refine r_bipush MF.bs dX6_goesOn_141 (v := 99) (by decide) ?_
      refine r_callS_v MF.bs (st := [.int (8 + (mX6_its v1 3 M)), .ref 47]) dX6_goesOn_143 (ctX6_bounded ((M 47 (8 + (mX6_its v1 3 M)).toNatClampNeg) + (mX6_wets v1 M)) 99 M) miX6_bounded wd_1143 rfl (by decide) rfl (Nat.le_of_ble_eq_true rfl) ?_
      refine r_iastore MF.bs dX6_goesOn_146 rfl hq_13 ?_
      refine r_iinc MF.bs (v := (v1 + 1)) (lv' := [(1, .int (v1 + 1)), (2, .int (8 + (mX6_its v1 3 M))), (0, .ref 46)]) dX6_goesOn_147 2 rfl rfl (by decide) rfl ?_
      refine r_goto MF.bs dX6_goesOn_150 (tgt := 104) (by decide) ?_
      refine r_sub [(0, .ref 46), (1, .int (v1 + 1))] [2, 0] rfl ?_
      exact ih (v1 + 1) (upm M 47 (8 + (mX6_its v1 3 M)).toNatClampNeg (mX6_bounded ((M 47 (8 + (mX6_its v1 3 M)).toNatClampNeg) + (mX6_wets v1 M)) 99)) hp
def mX6_goesOn_43   : Nat → Int32 → Mem → Mem
  | 0, _, M => M
  | n + 1, v1, M => (if (M 47 0) ≤ v1 then (mX6_goesOn_104 400 0 M) else (if (mX6_wayOf v1 M) = 4 then (mX6_goesOn_95 (mX6_goesOn_43 n) v1 (mX6_its v1 3 M) ((24 + (4 * v1)) + 3) M) else (mX6_goesOn_95 (mX6_goesOn_43 n) v1 (mX6_nextBy (mX6_its v1 3 M) (mX6_wayOf v1 M)) ((24 + (4 * v1)) + 3) M)))
def PX6_goesOn_43   : Nat → Int32 → Mem → Prop
  | 0, _, _ => False
  | n + 1, v1, M => (((M 47 0) ≤ v1 → PX6_goesOn_104 400 0 M) ∧ (¬ (M 47 0) ≤ v1 → PX6_wayOf v1 M ∧ ((((mX6_wayOf v1 M) = 4 → PX6_its v1 3 M ∧ (PX6_goesOn_95 (PX6_goesOn_43 n) v1 (mX6_its v1 3 M) ((24 + (4 * v1)) + 3) M)) ∧ (¬ (mX6_wayOf v1 M) = 4 → PX6_its v1 3 M ∧ (PX6_goesOn_95 (PX6_goesOn_43 n) v1 (mX6_nextBy (mX6_its v1 3 M) (mX6_wayOf v1 M)) ((24 + (4 * v1)) + 3) M))))))
set_option maxRecDepth 100000 in
theorem cX6_goesOn_43    (M0 : Mem) : ∀ (n : Nat) (v1 : Int32) (M : Mem), PX6_goesOn_43 n v1 M → AWP (GV mtX6_goesOn 3 M0 (mX6_goesOn_43 n v1 M)) mtX6_goesOn 43 [(0, .ref 46), (1, .int v1)] [] M := by
  intro n
  induction n with
  | zero =>
    intro v1 M hp
    exact hp.elim
  | succ n ih =>
    intro v1 M hp
    rw [mX6_goesOn_43]
    rw [PX6_goesOn_43] at hp
    refine r_iload_n MF.bs dX6_goesOn_43 rfl 1 rfl ?_
    refine r_aload_n MF.bs dX6_goesOn_44 rfl 0 rfl ?_
    refine r_getR MF.bs dX6_goesOn_45 rfl rfl 0 (by decide) wd_875 rfl ?_
    refine r_iconst MF.bs dX6_goesOn_48 (v := 0) (by decide) ?_
    refine r_ialoadL MF.bs dX6_goesOn_49 rfl (vin_l (by decide) (by decide)) (k9 := 0) (by decide) ?_
    refine r_ite (GV mtX6_goesOn 3 M0) (fun h_4 => ?_) (fun h_4 => ?_)
    · have hp := hp.1 h_4
      refine r_icmp_ge_t MF.bs (tgt := 102) dX6_goesOn_50 (by decide) h_4 ?_
      refine r_iconst MF.bs dX6_goesOn_102 (v := 0) (by decide) ?_
      refine r_istore_n MF.bs (lv' := [(1, .int 0), (0, .ref 46)]) dX6_goesOn_103 rfl (by decide) rfl ?_
      refine r_sub [(0, .ref 46), (1, .int 0)] [1, 0] rfl ?_
      exact cX6_goesOn_104 M0 400 0 M hp
    · have hp := hp.2 h_4
      refine r_icmp_ge_f MF.bs (tgt := 102) dX6_goesOn_50 (by decide) h_4 ?_
      obtain ⟨hq_5, hp⟩ := hp
      refine r_aload_n MF.bs dX6_goesOn_53 rfl 0 rfl ?_
      refine r_iload_n MF.bs dX6_goesOn_54 rfl 1 rfl ?_
      refine r_callV_v MF.bs (st := []) dX6_goesOn_55 (ctX6_wayOf v1 M hq_5) miX6_wayOf wd_1087 rfl (by decide) rfl (Nat.le_of_ble_eq_true rfl) rfl rfl rfl ?_
      refine r_istore_n MF.bs (lv' := [(2, .int (mX6_wayOf v1 M)), (0, .ref 46), (1, .int v1)]) dX6_goesOn_58 rfl (by decide) rfl ?_
      refine r_aload_n MF.bs dX6_goesOn_59 rfl 1 rfl ?_
      refine r_getR MF.bs dX6_goesOn_60 rfl rfl 0 (by decide) wd_875 rfl ?_
      refine r_bipush MF.bs dX6_goesOn_63 (v := 24) (by decide) ?_
      refine r_iconst MF.bs dX6_goesOn_65 (v := 4) (by decide) ?_
      refine r_iload_n MF.bs dX6_goesOn_66 rfl 2 rfl ?_
      refine r_imul MF.bs dX6_goesOn_67 ?_
      refine r_iadd MF.bs dX6_goesOn_68 ?_
      refine r_iconst MF.bs dX6_goesOn_69 (v := 3) (by decide) ?_
      refine r_iadd MF.bs dX6_goesOn_70 ?_
      refine r_iload_n MF.bs dX6_goesOn_71 rfl 0 rfl ?_
      refine r_iconst MF.bs dX6_goesOn_72 (v := 4) (by decide) ?_
      refine r_ite (GV mtX6_goesOn 3 M0) (fun h_6 => ?_) (fun h_6 => ?_)
      · have hp := hp.1 h_6
        refine r_icmp_ne_f MF.bs (tgt := 85) dX6_goesOn_73 (by decide) h_6 ?_
        obtain ⟨hq_7, hp⟩ := hp
        refine r_aload_n MF.bs dX6_goesOn_76 rfl 1 rfl ?_
        refine r_iload_n MF.bs dX6_goesOn_77 rfl 2 rfl ?_
        refine r_iconst MF.bs dX6_goesOn_78 (v := 3) (by decide) ?_
        refine r_callV_v MF.bs (st := [.int ((24 + (4 * v1)) + 3), .ref 47]) dX6_goesOn_79 (ctX6_its v1 3 M hq_7) miX6_its wd_1083 rfl (by decide) rfl (Nat.le_of_ble_eq_true rfl) rfl rfl rfl ?_
        refine r_goto MF.bs dX6_goesOn_82 (tgt := 95) (by decide) ?_
        refine r_sub [(0, .ref 46), (1, .int v1)] [1, 2] rfl ?_
        exact cX6_goesOn_95 M0 (mX6_goesOn_43 n) (PX6_goesOn_43 n) ih v1 (mX6_its v1 3 M) ((24 + (4 * v1)) + 3) M hp
      · have hp := hp.2 h_6
        refine r_icmp_ne_t MF.bs (tgt := 85) dX6_goesOn_73 (by decide) h_6 ?_
        obtain ⟨hq_8, hp⟩ := hp
        refine r_aload_n MF.bs dX6_goesOn_85 rfl 1 rfl ?_
        refine r_iload_n MF.bs dX6_goesOn_86 rfl 2 rfl ?_
        refine r_iconst MF.bs dX6_goesOn_87 (v := 3) (by decide) ?_
        refine r_callV_v MF.bs (st := [.int ((24 + (4 * v1)) + 3), .ref 47]) dX6_goesOn_88 (ctX6_its v1 3 M hq_8) miX6_its wd_1083 rfl (by decide) rfl (Nat.le_of_ble_eq_true rfl) rfl rfl rfl ?_
        refine r_iload_n MF.bs dX6_goesOn_91 rfl 0 rfl ?_
        refine r_callS_v MF.bs (st := [.int ((24 + (4 * v1)) + 3), .ref 47]) dX6_goesOn_92 (ctX6_nextBy (mX6_its v1 3 M) (mX6_wayOf v1 M) M) miX6_nextBy wd_1095 rfl (by decide) rfl (Nat.le_of_ble_eq_true rfl) ?_
        refine r_sub [(0, .ref 46), (1, .int v1)] [1, 2] rfl ?_
        exact cX6_goesOn_95 M0 (mX6_goesOn_43 n) (PX6_goesOn_43 n) ih v1 (mX6_nextBy (mX6_its v1 3 M) (mX6_wayOf v1 M)) ((24 + (4 * v1)) + 3) M hp
def mX6_goesOn_41   (M : Mem) : Mem := (mX6_goesOn_43 400 0 M)
def PX6_goesOn_41   (M : Mem) : Prop := PX6_goesOn_43 400 0 M
set_option maxRecDepth 100000 in
theorem cX6_goesOn_41    (M0 : Mem) (M : Mem) (hp : PX6_goesOn_41 M) : AWP (GV mtX6_goesOn 3 M0 (mX6_goesOn_41 M)) mtX6_goesOn 41 [(0, .ref 46)] [] M := by
  unfold mX6_goesOn_41
  unfold PX6_goesOn_41 at hp
  refine r_iconst MF.bs dX6_goesOn_41 (v := 0) (by decide) ?_
  refine r_istore_n MF.bs (lv' := [(1, .int 0), (0, .ref 46)]) dX6_goesOn_42 rfl (by decide) rfl ?_
  refine r_sub [(0, .ref 46), (1, .int 0)] [1, 0] rfl ?_
  exact cX6_goesOn_43 M0 400 0 M hp
def mX6_goesOn  (M : Mem) : Mem := (if (M 47 1) ≤ 0 then (mX6_goesOn_41 M) else (if (irem (M 47 1) (M 47 4)) = 0 then (mX6_goesOn_41 (upm M 47 3 (irem ((M 47 3) + 1) 4))) else (mX6_goesOn_41 M)))
def PX6_goesOn  (M : Mem) : Prop := (((M 47 1) ≤ 0 → PX6_goesOn_41 M) ∧ (¬ (M 47 1) ≤ 0 → ¬ (M 47 4) = 0 ∧ ((((irem (M 47 1) (M 47 4)) = 0 → PX6_goesOn_41 (upm M 47 3 (irem ((M 47 3) + 1) 4))) ∧ (¬ (irem (M 47 1) (M 47 4)) = 0 → PX6_goesOn_41 M)))))
set_option maxRecDepth 100000 in
theorem ctX6_goesOn   (M : Mem) (hp : PX6_goesOn M) : CT mtX6_goesOn 3 [.ref 46] M (none, mX6_goesOn M) := by
  refine CT.of (by decide) rfl (Nat.le_of_ble_eq_true rfl) ?_
  show AWP (GV mtX6_goesOn 3 M (mX6_goesOn M)) mtX6_goesOn 0 [(0, .ref 46)] [] M
  unfold mX6_goesOn
  unfold PX6_goesOn at hp
  refine r_aload_n MF.bs dX6_goesOn_0 rfl 0 rfl ?_
  refine r_getR MF.bs dX6_goesOn_1 rfl rfl 0 (by decide) wd_875 rfl ?_
  refine r_iconst MF.bs dX6_goesOn_4 (v := 1) (by decide) ?_
  refine r_ialoadL MF.bs dX6_goesOn_5 rfl (vin_l (by decide) (by decide)) (k9 := 1) (by decide) ?_
  refine r_ite (GV mtX6_goesOn 3 M) (fun h_1 => ?_) (fun h_1 => ?_)
  · have hp := hp.1 h_1
    refine r_if_le_t MF.bs (tgt := 41) dX6_goesOn_6 (by decide) h_1 ?_
    exact cX6_goesOn_41 M M hp
  · have hp := hp.2 h_1
    refine r_if_le_f MF.bs (tgt := 41) dX6_goesOn_6 (by decide) h_1 ?_
    obtain ⟨hq_2, hp⟩ := hp
    refine r_aload_n MF.bs dX6_goesOn_9 rfl 0 rfl ?_
    refine r_getR MF.bs dX6_goesOn_10 rfl rfl 0 (by decide) wd_875 rfl ?_
    refine r_iconst MF.bs dX6_goesOn_13 (v := 1) (by decide) ?_
    refine r_ialoadL MF.bs dX6_goesOn_14 rfl (vin_l (by decide) (by decide)) (k9 := 1) (by decide) ?_
    refine r_aload_n MF.bs dX6_goesOn_15 rfl 0 rfl ?_
    refine r_getR MF.bs dX6_goesOn_16 rfl rfl 0 (by decide) wd_875 rfl ?_
    refine r_iconst MF.bs dX6_goesOn_19 (v := 4) (by decide) ?_
    refine r_ialoadL MF.bs dX6_goesOn_20 rfl (vin_l (by decide) (by decide)) (k9 := 4) (by decide) ?_
    refine r_irem MF.bs dX6_goesOn_21 hq_2 ?_
    refine r_ite (GV mtX6_goesOn 3 M) (fun h_3 => ?_) (fun h_3 => ?_)
    · have hp := hp.1 h_3
      refine r_if_ne_f MF.bs (tgt := 41) dX6_goesOn_22 (by decide) h_3 ?_
      refine r_aload_n MF.bs dX6_goesOn_25 rfl 0 rfl ?_
      refine r_getR MF.bs dX6_goesOn_26 rfl rfl 0 (by decide) wd_875 rfl ?_
      refine r_iconst MF.bs dX6_goesOn_29 (v := 3) (by decide) ?_
      refine r_aload_n MF.bs dX6_goesOn_30 rfl 0 rfl ?_
      refine r_getR MF.bs dX6_goesOn_31 rfl rfl 0 (by decide) wd_875 rfl ?_
      refine r_iconst MF.bs dX6_goesOn_34 (v := 3) (by decide) ?_
      refine r_ialoadL MF.bs dX6_goesOn_35 rfl (vin_l (by decide) (by decide)) (k9 := 3) (by decide) ?_
      refine r_iconst MF.bs dX6_goesOn_36 (v := 1) (by decide) ?_
      refine r_iadd MF.bs dX6_goesOn_37 ?_
      refine r_iconst MF.bs dX6_goesOn_38 (v := 4) (by decide) ?_
      refine r_irem MF.bs dX6_goesOn_39 (by decide) ?_
      refine r_iastoreL MF.bs dX6_goesOn_40 rfl (vin_l (by decide) (by decide)) (k9 := 3) (by decide) ?_
      exact cX6_goesOn_41 M (upm M 47 3 (irem ((M 47 3) + 1) 4)) hp
    · have hp := hp.2 h_3
      refine r_if_ne_t MF.bs (tgt := 41) dX6_goesOn_22 (by decide) h_3 ?_
      exact cX6_goesOn_41 M M hp
abbrev mtX6_goes : MT := (RX6, yX6_goes, cX6_goes, 3, none)
theorem miX6_goes : MV mtX6_goes 1 := ⟨wd_1138, ⟨wd_1137, wd_53⟩, wd_86, ⟨by decide, by decide, by decide +kernel⟩, by decide⟩
def mX6_goes_11   (kf2 : Int32 → Int32 → Mem → Mem) (v1 : Int32) (v2 : Int32) (M : Mem) : Mem := (kf2 v1 (v2 + 1) M)
def PX6_goes_11   (kP2 : Int32 → Int32 → Mem → Prop) (v1 : Int32) (v2 : Int32) (M : Mem) : Prop := kP2 v1 (v2 + 1) M
set_option maxRecDepth 100000 in
theorem cX6_goes_11    (M0 : Mem) (kf2 : Int32 → Int32 → Mem → Mem) (kP2 : Int32 → Int32 → Mem → Prop) (hk2 : ∀ (v1 : Int32) (v2 : Int32) (M : Mem), kP2 v1 v2 M → AWP (GV mtX6_goes 4 M0 (kf2 v1 v2 M)) mtX6_goes 2 [(0, .ref 46), (1, .int v1), (2, .int v2)] [] M) (v1 : Int32) (v2 : Int32) (M : Mem) (hp : PX6_goes_11 kP2 v1 v2 M) : AWP (GV mtX6_goes 4 M0 (mX6_goes_11 kf2 v1 v2 M)) mtX6_goes 11 [(0, .ref 46), (1, .int v1), (2, .int v2)] [] M := by
  unfold mX6_goes_11
  unfold PX6_goes_11 at hp
  refine r_iinc MF.bs (v := (v2 + 1)) (lv' := [(2, .int (v2 + 1)), (0, .ref 46), (1, .int v1)]) dX6_goes_11 2 rfl rfl (by decide) rfl ?_
  refine r_goto MF.bs dX6_goes_14 (tgt := 2) (by decide) ?_
  refine r_sub [(0, .ref 46), (1, .int v1), (2, .int (v2 + 1))] [1, 2, 0] rfl ?_
  exact hk2 v1 (v2 + 1) M hp
def mX6_goes_2   : Nat → Int32 → Int32 → Mem → Mem
  | 0, _, _, M => M
  | n + 1, v1, v2, M => (if v1 ≤ v2 then M else (mX6_goes_11 (mX6_goes_2 n) v1 v2 (mX6_goesOn M)))
def PX6_goes_2   : Nat → Int32 → Int32 → Mem → Prop
  | 0, _, _, _ => False
  | n + 1, v1, v2, M => (¬ v1 ≤ v2 → PX6_goesOn M ∧ (PX6_goes_11 (PX6_goes_2 n) v1 v2 (mX6_goesOn M)))
set_option maxRecDepth 100000 in
theorem cX6_goes_2    (M0 : Mem) : ∀ (n : Nat) (v1 : Int32) (v2 : Int32) (M : Mem), PX6_goes_2 n v1 v2 M → AWP (GV mtX6_goes 4 M0 (mX6_goes_2 n v1 v2 M)) mtX6_goes 2 [(0, .ref 46), (1, .int v1), (2, .int v2)] [] M := by
  intro n
  induction n with
  | zero =>
    intro v1 v2 M hp
    exact hp.elim
  | succ n ih =>
    intro v1 v2 M hp
    rw [mX6_goes_2]
    rw [PX6_goes_2] at hp
    refine r_iload_n MF.bs dX6_goes_2 rfl 2 rfl ?_
    refine r_iload_n MF.bs dX6_goes_3 rfl 1 rfl ?_
    refine r_ite (GV mtX6_goes 4 M0) (fun h_1 => ?_) (fun h_1 => ?_)
    · refine r_icmp_ge_t MF.bs (tgt := 17) dX6_goes_4 (by decide) h_1 ?_
      exact r_vret dX6_goes_17 rfl
    · have hp := hp h_1
      refine r_icmp_ge_f MF.bs (tgt := 17) dX6_goes_4 (by decide) h_1 ?_
      obtain ⟨hq_2, hp⟩ := hp
      refine r_aload_n MF.bs dX6_goes_7 rfl 0 rfl ?_
      refine r_callV_n MF.bs (st := []) dX6_goes_8 (ctX6_goesOn M hq_2) miX6_goesOn wd_1139 rfl (by decide) rfl (Nat.le_of_ble_eq_true rfl) rfl rfl rfl ?_
      exact cX6_goes_11 M0 (mX6_goes_2 n) (PX6_goes_2 n) ih v1 v2 (mX6_goesOn M) hp
def mX6_goes  (a1 : Int32) (M : Mem) : Mem := (mX6_goes_2 400 a1 0 M)
def PX6_goes  (a1 : Int32) (M : Mem) : Prop := PX6_goes_2 400 a1 0 M
set_option maxRecDepth 100000 in
theorem ctX6_goes   (a1 : Int32) (M : Mem) (hp : PX6_goes a1 M) : CT mtX6_goes 4 [.ref 46, .int a1] M (none, mX6_goes a1 M) := by
  refine CT.of (by decide) rfl (Nat.le_of_ble_eq_true rfl) ?_
  show AWP (GV mtX6_goes 4 M (mX6_goes a1 M)) mtX6_goes 0 [(0, .ref 46), (1, .int a1)] [] M
  unfold mX6_goes
  unfold PX6_goes at hp
  refine r_iconst MF.bs dX6_goes_0 (v := 0) (by decide) ?_
  refine r_istore_n MF.bs (lv' := [(2, .int 0), (0, .ref 46), (1, .int a1)]) dX6_goes_1 rfl (by decide) rfl ?_
  refine r_sub [(0, .ref 46), (1, .int a1), (2, .int 0)] [1, 2, 0] rfl ?_
  exact cX6_goes_2 M 400 a1 0 M hp
abbrev mtX6_stopped : MT := (RX6, yX6_stopped, cX6_stopped, 3, (some .int))
theorem miX6_stopped : MV mtX6_stopped 0 := ⟨wd_1149, ⟨wd_1148, wd_55⟩, wd_86, ⟨by decide, by decide, by decide +kernel⟩, by decide⟩
def mX6_stopped_37   (kf4 : Int32 → Int32 → Mem → Int32) (v2 : Int32) (k0 : Int32) (k1 : Int32) (M : Mem) : Int32 := (kf4 (k1 ||| k0) (v2 + 1) M)
def PX6_stopped_37   (kP4 : Int32 → Int32 → Mem → Prop) (v2 : Int32) (k0 : Int32) (k1 : Int32) (M : Mem) : Prop := kP4 (k1 ||| k0) (v2 + 1) M
set_option maxRecDepth 100000 in
theorem cX6_stopped_37    (kf4 : Int32 → Int32 → Mem → Int32) (kP4 : Int32 → Int32 → Mem → Prop) (hk4 : ∀ (v1 : Int32) (v2 : Int32) (M : Mem), kP4 v1 v2 M → AWP (GI mtX6_stopped 1 M M (kf4 v1 v2 M)) mtX6_stopped 4 [(0, .ref 46), (1, .int v1), (2, .int v2)] [] M) (v2 : Int32) (k0 : Int32) (k1 : Int32) (M : Mem) (hp : PX6_stopped_37 kP4 v2 k0 k1 M) : AWP (GI mtX6_stopped 1 M M (mX6_stopped_37 kf4 v2 k0 k1 M)) mtX6_stopped 37 [(0, .ref 46), (2, .int v2)] [.int k0, .int k1] M := by
  unfold mX6_stopped_37
  unfold PX6_stopped_37 at hp
  refine r_ior MF.bs dX6_stopped_37 ?_
  refine r_istore_n MF.bs (lv' := [(1, .int (k1 ||| k0)), (0, .ref 46), (2, .int v2)]) dX6_stopped_38 rfl (by decide) rfl ?_
  refine r_iinc MF.bs (v := (v2 + 1)) (lv' := [(2, .int (v2 + 1)), (1, .int (k1 ||| k0)), (0, .ref 46)]) dX6_stopped_39 2 rfl rfl (by decide) rfl ?_
  refine r_goto MF.bs dX6_stopped_42 (tgt := 4) (by decide) ?_
  refine r_sub [(0, .ref 46), (1, .int (k1 ||| k0)), (2, .int (v2 + 1))] [2, 1, 0] rfl ?_
  exact hk4 (k1 ||| k0) (v2 + 1) M hp
def mX6_stopped_4   : Nat → Int32 → Int32 → Mem → Int32
  | 0, _, _, _ => 0
  | n + 1, v1, v2, M => (if (M 47 0) ≤ v2 then v1 else (if (mX6_its v2 3 M) = (mX6_its v2 2 M) then (mX6_stopped_37 (mX6_stopped_4 n) v2 (1 <<< (v2 &&& 31)) v1 M) else (mX6_stopped_37 (mX6_stopped_4 n) v2 0 v1 M)))
def PX6_stopped_4   : Nat → Int32 → Int32 → Mem → Prop
  | 0, _, _, _ => False
  | n + 1, v1, v2, M => (¬ (M 47 0) ≤ v2 → PX6_its v2 3 M ∧ (PX6_its v2 2 M ∧ ((((mX6_its v2 3 M) = (mX6_its v2 2 M) → PX6_stopped_37 (PX6_stopped_4 n) v2 (1 <<< (v2 &&& 31)) v1 M) ∧ (¬ (mX6_its v2 3 M) = (mX6_its v2 2 M) → PX6_stopped_37 (PX6_stopped_4 n) v2 0 v1 M)))))
set_option maxRecDepth 100000 in
theorem cX6_stopped_4    : ∀ (n : Nat) (v1 : Int32) (v2 : Int32) (M : Mem), PX6_stopped_4 n v1 v2 M → AWP (GI mtX6_stopped 1 M M (mX6_stopped_4 n v1 v2 M)) mtX6_stopped 4 [(0, .ref 46), (1, .int v1), (2, .int v2)] [] M := by
  intro n
  induction n with
  | zero =>
    intro v1 v2 M hp
    exact hp.elim
  | succ n ih =>
    intro v1 v2 M hp
    rw [mX6_stopped_4]
    rw [PX6_stopped_4] at hp
    refine r_iload_n MF.bs dX6_stopped_4 rfl 2 rfl ?_
    refine r_aload_n MF.bs dX6_stopped_5 rfl 0 rfl ?_
    refine r_getR MF.bs dX6_stopped_6 rfl rfl 0 (by decide) wd_875 rfl ?_
    refine r_iconst MF.bs dX6_stopped_9 (v := 0) (by decide) ?_
    refine r_ialoadL MF.bs dX6_stopped_10 rfl (vin_l (by decide) (by decide)) (k9 := 0) (by decide) ?_
    refine r_ite (GI mtX6_stopped 1 M M) (fun h_1 => ?_) (fun h_1 => ?_)
    · refine r_icmp_ge_t MF.bs (tgt := 45) dX6_stopped_11 (by decide) h_1 ?_
      refine r_iload_n MF.bs dX6_stopped_45 rfl 1 rfl ?_
      exact r_iret dX6_stopped_46 rfl
    · have hp := hp h_1
      refine r_icmp_ge_f MF.bs (tgt := 45) dX6_stopped_11 (by decide) h_1 ?_
      obtain ⟨hq_2, hp⟩ := hp
      obtain ⟨hq_3, hp⟩ := hp
      refine r_iload_n MF.bs dX6_stopped_14 rfl 1 rfl ?_
      refine r_aload_n MF.bs dX6_stopped_15 rfl 0 rfl ?_
      refine r_iload_n MF.bs dX6_stopped_16 rfl 2 rfl ?_
      refine r_iconst MF.bs dX6_stopped_17 (v := 3) (by decide) ?_
      refine r_callV_v MF.bs (st := [.int v1]) dX6_stopped_18 (ctX6_its v2 3 M hq_2) miX6_its wd_1083 rfl (by decide) rfl (Nat.le_of_ble_eq_true rfl) rfl rfl rfl ?_
      refine r_aload_n MF.bs dX6_stopped_21 rfl 0 rfl ?_
      refine r_iload_n MF.bs dX6_stopped_22 rfl 2 rfl ?_
      refine r_iconst MF.bs dX6_stopped_23 (v := 2) (by decide) ?_
      refine r_callV_v MF.bs (st := [.int (mX6_its v2 3 M), .int v1]) dX6_stopped_24 (ctX6_its v2 2 M hq_3) miX6_its wd_1083 rfl (by decide) rfl (Nat.le_of_ble_eq_true rfl) rfl rfl rfl ?_
      refine r_ite (GI mtX6_stopped 1 M M) (fun h_4 => ?_) (fun h_4 => ?_)
      · have hp := hp.1 h_4
        refine r_icmp_ne_f MF.bs (tgt := 36) dX6_stopped_27 (by decide) h_4 ?_
        refine r_iconst MF.bs dX6_stopped_30 (v := 1) (by decide) ?_
        refine r_iload_n MF.bs dX6_stopped_31 rfl 2 rfl ?_
        refine r_ishl MF.bs dX6_stopped_32 ?_
        refine r_goto MF.bs dX6_stopped_33 (tgt := 37) (by decide) ?_
        refine r_sub [(0, .ref 46), (2, .int v2)] [0, 2] rfl ?_
        exact cX6_stopped_37 (mX6_stopped_4 n) (PX6_stopped_4 n) ih v2 (1 <<< (v2 &&& 31)) v1 M hp
      · have hp := hp.2 h_4
        refine r_icmp_ne_t MF.bs (tgt := 36) dX6_stopped_27 (by decide) h_4 ?_
        refine r_iconst MF.bs dX6_stopped_36 (v := 0) (by decide) ?_
        refine r_sub [(0, .ref 46), (2, .int v2)] [0, 2] rfl ?_
        exact cX6_stopped_37 (mX6_stopped_4 n) (PX6_stopped_4 n) ih v2 0 v1 M hp
def mX6_stopped  (M : Mem) : Int32 := (mX6_stopped_4 400 0 0 M)
def PX6_stopped  (M : Mem) : Prop := PX6_stopped_4 400 0 0 M
set_option maxRecDepth 100000 in
theorem ctX6_stopped   (M : Mem) (hp : PX6_stopped M) : CT mtX6_stopped 1 [.ref 46] M (some (.int (mX6_stopped M)), M) := by
  refine CT.of (by decide) rfl (Nat.le_of_ble_eq_true rfl) ?_
  show AWP (GI mtX6_stopped 1 M M (mX6_stopped M)) mtX6_stopped 0 [(0, .ref 46)] [] M
  unfold mX6_stopped
  unfold PX6_stopped at hp
  refine r_iconst MF.bs dX6_stopped_0 (v := 0) (by decide) ?_
  refine r_istore_n MF.bs (lv' := [(1, .int 0), (0, .ref 46)]) dX6_stopped_1 rfl (by decide) rfl ?_
  refine r_iconst MF.bs dX6_stopped_2 (v := 0) (by decide) ?_
  refine r_istore_n MF.bs (lv' := [(2, .int 0), (1, .int 0), (0, .ref 46)]) dX6_stopped_3 rfl (by decide) rfl ?_
  refine r_sub [(0, .ref 46), (1, .int 0), (2, .int 0)] [2, 1, 0] rfl ?_
  exact cX6_stopped_4 400 0 0 M hp
abbrev mtX6_steps : MT := (RX6, yX6_steps, cX6_steps, 2, (some .int))
theorem miX6_steps : MV mtX6_steps 1 := ⟨wd_1133, ⟨wd_1131, wd_1132⟩, wd_86, ⟨by decide, by decide, by decide +kernel⟩, by decide⟩
def mX6_steps_19   (M : Mem) : Int32 × Mem := ((mX6_size (mX6_stopped M) M), M)
def PX6_steps_19   (M : Mem) : Prop := PX6_stopped M ∧ (PX6_size (mX6_stopped M) M)
set_option maxRecDepth 100000 in
theorem cX6_steps_19    (M0 : Mem) (M : Mem) (hp : PX6_steps_19 M) : AWP (GIM mtX6_steps 5 M0 (mX6_steps_19 M)) mtX6_steps 19 [(0, .ref 46)] [] M := by
  unfold mX6_steps_19
  unfold PX6_steps_19 at hp
  obtain ⟨hq_3, hp⟩ := hp
  have hq_4 := hp
  refine r_aload_n MF.bs dX6_steps_19 rfl 0 rfl ?_
  refine r_callV_v MF.bs (st := []) dX6_steps_20 (ctX6_stopped M hq_3) miX6_stopped wd_1146 rfl (by decide) rfl (Nat.le_of_ble_eq_true rfl) rfl rfl rfl ?_
  refine r_callS_v MF.bs (st := []) dX6_steps_23 (ctX6_size (mX6_stopped M) M hq_4) miX6_size wd_1150 rfl (by decide) rfl (Nat.le_of_ble_eq_true rfl) ?_
  exact r_iret dX6_steps_26 rfl
def mX6_steps  (a1 : Int32) (M : Mem) : Int32 × Mem := (if (mX6_isIn ((a1 : Int32).toInt64) 1 60) = true then (mX6_steps_19 (mX6_goes a1 M)) else ((-1), M))
def PX6_steps  (a1 : Int32) (M : Mem) : Prop := ((mX6_isIn ((a1 : Int32).toInt64) 1 60) = true → PX6_goes a1 M ∧ (PX6_steps_19 (mX6_goes a1 M)))
set_option maxRecDepth 100000 in
theorem ctX6_steps   (a1 : Int32) (M : Mem) (hp : PX6_steps a1 M) : CT mtX6_steps 5 [.ref 46, .int a1] M (some (.int ((mX6_steps a1 M).1)), (mX6_steps a1 M).2) := by
  refine CT.of (by decide) rfl (Nat.le_of_ble_eq_true rfl) ?_
  show AWP (GIM mtX6_steps 5 M (mX6_steps a1 M)) mtX6_steps 0 [(0, .ref 46), (1, .int a1)] [] M
  unfold mX6_steps
  unfold PX6_steps at hp
  refine r_iload_n MF.bs dX6_steps_0 rfl 1 rfl ?_
  refine r_i2l MF.bs dX6_steps_1 ?_
  refine r_lconst MF.bs dX6_steps_2 (v := 1) (by decide) ?_
  refine r_ldc2 MF.bs (v := 60) dX6_steps_3 wd_1134 ?_
  refine r_callS_v MF.bs (st := []) dX6_steps_6 (ctX6_isIn ((a1 : Int32).toInt64) 1 60 M) miX6_isIn wd_971 rfl (by decide) rfl (Nat.le_of_ble_eq_true rfl) ?_
  refine r_ite (GIM mtX6_steps 5 M) (fun h_1 => ?_) (fun h_1 => ?_)
  · have hp := hp h_1
    refine r_if_ne_t MF.bs (tgt := 14) dX6_steps_9 (by decide) (b2i_1 h_1) ?_
    obtain ⟨hq_2, hp⟩ := hp
    refine r_aload_n MF.bs dX6_steps_14 rfl 0 rfl ?_
    refine r_iload_n MF.bs dX6_steps_15 rfl 1 rfl ?_
    refine r_callV_n MF.bs (st := []) dX6_steps_16 (ctX6_goes a1 M hq_2) miX6_goes wd_1135 rfl (by decide) rfl (Nat.le_of_ble_eq_true rfl) rfl rfl rfl ?_
    refine r_sub [(0, .ref 46)] [0] rfl ?_
    exact cX6_steps_19 M (mX6_goes a1 M) hp
  · refine r_if_ne_f MF.bs (tgt := 14) dX6_steps_9 (by decide) (b2i_0 h_1) ?_
    refine r_iconst MF.bs dX6_steps_12 (v := -1) (by decide) ?_
    exact r_iret dX6_steps_13 rfl
abbrev mtX6_seed : MT := (RX6, yX6_seed, cX6_seed, 2, (some .int))
theorem miX6_seed : MV mtX6_seed 1 := ⟨wd_1156, ⟨wd_1154, wd_1155⟩, wd_86, ⟨by decide, by decide, by decide +kernel⟩, by decide⟩
def mX6_seed  (a1 : Int32) (M : Mem) : Int32 × Mem := ((mX6_becomes 2 a1 M).1, (mX6_becomes 2 a1 M).2)
def PX6_seed  (a1 : Int32) (M : Mem) : Prop := PX6_becomes 2 a1 M
set_option maxRecDepth 100000 in
theorem ctX6_seed   (a1 : Int32) (M : Mem) (hp : PX6_seed a1 M) : CT mtX6_seed 1 [.ref 46, .int a1] M (some (.int ((mX6_seed a1 M).1)), (mX6_seed a1 M).2) := by
  refine CT.of (by decide) rfl (Nat.le_of_ble_eq_true rfl) ?_
  show AWP (GIM mtX6_seed 1 M (mX6_seed a1 M)) mtX6_seed 0 [(0, .ref 46), (1, .int a1)] [] M
  unfold mX6_seed
  unfold PX6_seed at hp
  have hq_1 := hp
  refine r_aload_n MF.bs dX6_seed_0 rfl 0 rfl ?_
  refine r_iconst MF.bs dX6_seed_1 (v := 2) (by decide) ?_
  refine r_iload_n MF.bs dX6_seed_2 rfl 1 rfl ?_
  refine r_callV_v MF.bs (st := []) dX6_seed_3 (ctX6_becomes 2 a1 M hq_1) miX6_becomes wd_1059 rfl (by decide) rfl (Nat.le_of_ble_eq_true rfl) rfl rfl rfl ?_
  exact r_iret dX6_seed_6 rfl
abbrev mtX6_drawn : MT := (RX6, yX6_drawn, cX6_drawn, 1, (some .int))
theorem miX6_drawn : MV mtX6_drawn 0 := ⟨wd_1164, ⟨wd_1163, wd_56⟩, wd_86, ⟨by decide, by decide, by decide +kernel⟩, by decide⟩
def mX6_drawn  (M : Mem) : Int32 × Mem := ((((((upm M 47 2 (((M 47 2) * 1103515245) + 12345)) 47 2) : Int32).toUInt32 >>> ((16 : Int32).toUInt32 &&& Int32.toUInt32 31)).toInt32), (upm M 47 2 (((M 47 2) * 1103515245) + 12345)))
set_option maxRecDepth 100000 in
theorem ctX6_drawn   (M : Mem) : CT mtX6_drawn 0 [.ref 46] M (some (.int ((mX6_drawn M).1)), (mX6_drawn M).2) := by
  refine CT.of (by decide) rfl (Nat.le_of_ble_eq_true rfl) ?_
  show AWP (GIM mtX6_drawn 0 M (mX6_drawn M)) mtX6_drawn 0 [(0, .ref 46)] [] M
  unfold mX6_drawn
  refine r_aload_n MF.bs dX6_drawn_0 rfl 0 rfl ?_
  refine r_getR MF.bs dX6_drawn_1 rfl rfl 0 (by decide) wd_875 rfl ?_
  refine r_iconst MF.bs dX6_drawn_4 (v := 2) (by decide) ?_
  refine r_aload_n MF.bs dX6_drawn_5 rfl 0 rfl ?_
  refine r_getR MF.bs dX6_drawn_6 rfl rfl 0 (by decide) wd_875 rfl ?_
  refine r_iconst MF.bs dX6_drawn_9 (v := 2) (by decide) ?_
  refine r_ialoadL MF.bs dX6_drawn_10 rfl (vin_l (by decide) (by decide)) (k9 := 2) (by decide) ?_
  refine r_ldc MF.bs (v := 1103515245) dX6_drawn_11 wd_1165 ?_
  refine r_imul MF.bs dX6_drawn_13 ?_
  refine r_sipush MF.bs dX6_drawn_14 (v := 12345) (by decide) ?_
  refine r_iadd MF.bs dX6_drawn_17 ?_
  refine r_iastoreL MF.bs dX6_drawn_18 rfl (vin_l (by decide) (by decide)) (k9 := 2) (by decide) ?_
  refine r_aload_n MF.bs dX6_drawn_19 rfl 0 rfl ?_
  refine r_getR MF.bs dX6_drawn_20 rfl rfl 0 (by decide) wd_875 rfl ?_
  refine r_iconst MF.bs dX6_drawn_23 (v := 2) (by decide) ?_
  refine r_ialoadL MF.bs dX6_drawn_24 rfl (vin_l (by decide) (by decide)) (k9 := 2) (by decide) ?_
  refine r_bipush MF.bs dX6_drawn_25 (v := 16) (by decide) ?_
  refine r_iushr MF.bs dX6_drawn_27 ?_
  exact r_iret dX6_drawn_28 rfl
abbrev mtX6_step : MT := (RX6, yX6_step, cX6_step, 1, (some .int))
theorem miX6_step : MV mtX6_step 0 := ⟨wd_1160, ⟨wd_1158, wd_1159⟩, wd_86, ⟨by decide, by decide, by decide +kernel⟩, by decide⟩
def mX6_step_33   (M : Mem) : Int32 × Mem := ((mX6_size (mX6_stopped M) M), M)
def PX6_step_33   (M : Mem) : Prop := PX6_stopped M ∧ (PX6_size (mX6_stopped M) M)
set_option maxRecDepth 100000 in
theorem cX6_step_33    (M0 : Mem) (M : Mem) (hp : PX6_step_33 M) : AWP (GIM mtX6_step 4 M0 (mX6_step_33 M)) mtX6_step 33 [(0, .ref 46)] [] M := by
  unfold mX6_step_33
  unfold PX6_step_33 at hp
  obtain ⟨hq_4, hp⟩ := hp
  have hq_5 := hp
  refine r_aload_n MF.bs dX6_step_33 rfl 0 rfl ?_
  refine r_callV_v MF.bs (st := []) dX6_step_34 (ctX6_stopped M hq_4) miX6_stopped wd_1146 rfl (by decide) rfl (Nat.le_of_ble_eq_true rfl) rfl rfl rfl ?_
  refine r_callS_v MF.bs (st := []) dX6_step_37 (ctX6_size (mX6_stopped M) M hq_5) miX6_size wd_1150 rfl (by decide) rfl (Nat.le_of_ble_eq_true rfl) ?_
  exact r_iret dX6_step_40 rfl
def mX6_step_29   (M : Mem) : Int32 × Mem := (mX6_step_33 (mX6_goesOn M))
def PX6_step_29   (M : Mem) : Prop := PX6_goesOn M ∧ (PX6_step_33 (mX6_goesOn M))
set_option maxRecDepth 100000 in
theorem cX6_step_29    (M0 : Mem) (M : Mem) (hp : PX6_step_29 M) : AWP (GIM mtX6_step 4 M0 (mX6_step_29 M)) mtX6_step 29 [(0, .ref 46)] [] M := by
  unfold mX6_step_29
  unfold PX6_step_29 at hp
  obtain ⟨hq_2, hp⟩ := hp
  refine r_aload_n MF.bs dX6_step_29 rfl 0 rfl ?_
  refine r_callV_n MF.bs (st := []) dX6_step_30 (ctX6_goesOn M hq_2) miX6_goesOn wd_1139 rfl (by decide) rfl (Nat.le_of_ble_eq_true rfl) rfl rfl rfl ?_
  exact cX6_step_33 M0 (mX6_goesOn M) hp
def mX6_step_26   (k0 : Int32) (k1 : Int32) (M : Mem) : Int32 × Mem := (mX6_step_29 (upm M 47 k1.toNatClampNeg (irem k0 4)))
def PX6_step_26   (k0 : Int32) (k1 : Int32) (M : Mem) : Prop := vp_in k1 56 ∧ (PX6_step_29 (upm M 47 k1.toNatClampNeg (irem k0 4)))
set_option maxRecDepth 100000 in
theorem cX6_step_26    (M0 : Mem) (k0 : Int32) (k1 : Int32) (M : Mem) (hp : PX6_step_26 k0 k1 M) : AWP (GIM mtX6_step 4 M0 (mX6_step_26 k0 k1 M)) mtX6_step 26 [(0, .ref 46)] [.int k0, .int k1, .ref 47] M := by
  unfold mX6_step_26
  unfold PX6_step_26 at hp
  obtain ⟨hq_3, hp⟩ := hp
  refine r_iconst MF.bs dX6_step_26 (v := 4) (by decide) ?_
  refine r_irem MF.bs dX6_step_27 (by decide) ?_
  refine r_iastore MF.bs dX6_step_28 rfl hq_3 ?_
  exact cX6_step_29 M0 (upm M 47 k1.toNatClampNeg (irem k0 4)) hp
def mX6_step_4   (k0 : Int32) (M : Mem) : Int32 × Mem := (if (M 47 7) ≤ (irem k0 100) then (mX6_step_29 M) else (mX6_step_26 ((mX6_drawn M).1) 3 ((mX6_drawn M).2)))
def PX6_step_4   (k0 : Int32) (M : Mem) : Prop := (((M 47 7) ≤ (irem k0 100) → PX6_step_29 M) ∧ (¬ (M 47 7) ≤ (irem k0 100) → PX6_step_26 ((mX6_drawn M).1) 3 ((mX6_drawn M).2)))
set_option maxRecDepth 100000 in
theorem cX6_step_4    (M0 : Mem) (k0 : Int32) (M : Mem) (hp : PX6_step_4 k0 M) : AWP (GIM mtX6_step 4 M0 (mX6_step_4 k0 M)) mtX6_step 4 [(0, .ref 46)] [.int k0] M := by
  unfold mX6_step_4
  unfold PX6_step_4 at hp
  refine r_bipush MF.bs dX6_step_4 (v := 100) (by decide) ?_
  refine r_irem MF.bs dX6_step_6 (by decide) ?_
  refine r_aload_n MF.bs dX6_step_7 rfl 0 rfl ?_
  refine r_getR MF.bs dX6_step_8 rfl rfl 0 (by decide) wd_875 rfl ?_
  refine r_bipush MF.bs dX6_step_11 (v := 7) (by decide) ?_
  refine r_ialoadL MF.bs dX6_step_13 rfl (vin_l (by decide) (by decide)) (k9 := 7) (by decide) ?_
  refine r_ite (GIM mtX6_step 4 M0) (fun h_1 => ?_) (fun h_1 => ?_)
  · have hp := hp.1 h_1
    refine r_icmp_ge_t MF.bs (tgt := 29) dX6_step_14 (by decide) h_1 ?_
    exact cX6_step_29 M0 M hp
  · have hp := hp.2 h_1
    refine r_icmp_ge_f MF.bs (tgt := 29) dX6_step_14 (by decide) h_1 ?_
    refine r_aload_n MF.bs dX6_step_17 rfl 0 rfl ?_
    refine r_getR MF.bs dX6_step_18 rfl rfl 0 (by decide) wd_875 rfl ?_
    refine r_iconst MF.bs dX6_step_21 (v := 3) (by decide) ?_
    refine r_aload_n MF.bs dX6_step_22 rfl 0 rfl ?_
    refine r_callV_v MF.bs (st := [.int 3, .ref 47]) dX6_step_23 (ctX6_drawn M) miX6_drawn wd_1161 rfl (by decide) rfl (Nat.le_of_ble_eq_true rfl) rfl rfl rfl ?_
    exact cX6_step_26 M0 ((mX6_drawn M).1) 3 ((mX6_drawn M).2) hp
def mX6_step  (M : Mem) : Int32 × Mem := (mX6_step_4 ((mX6_drawn M).1) ((mX6_drawn M).2))
def PX6_step  (M : Mem) : Prop := PX6_step_4 ((mX6_drawn M).1) ((mX6_drawn M).2)
set_option maxRecDepth 100000 in
theorem ctX6_step   (M : Mem) (hp : PX6_step M) : CT mtX6_step 4 [.ref 46] M (some (.int ((mX6_step M).1)), (mX6_step M).2) := by
  refine CT.of (by decide) rfl (Nat.le_of_ble_eq_true rfl) ?_
  show AWP (GIM mtX6_step 4 M (mX6_step M)) mtX6_step 0 [(0, .ref 46)] [] M
  unfold mX6_step
  unfold PX6_step at hp
  refine r_aload_n MF.bs dX6_step_0 rfl 0 rfl ?_
  refine r_callV_v MF.bs (st := []) dX6_step_1 (ctX6_drawn M) miX6_drawn wd_1161 rfl (by decide) rfl (Nat.le_of_ble_eq_true rfl) rfl rfl rfl ?_
  exact cX6_step_4 M ((mX6_drawn M).1) ((mX6_drawn M).2) hp
abbrev mtX6_blown : MT := (RX6, yX6_blown, cX6_blown, 8, (some .int))
theorem miX6_blown : MV mtX6_blown 1 := ⟨wd_1169, ⟨wd_1167, wd_1168⟩, wd_86, ⟨by decide, by decide, by decide +kernel⟩, by decide⟩
def mX6_blown_142   (kf71 : Int32 → Int32 → Int32 → Int32 → Mem → Int32 × Mem) (kf107 : Int32 → Int32 → Int32 → Int32 → Int32 → Mem → Int32 × Mem) (v1 : Int32) (v3 : Int32) (v4 : Int32) (v7 : Int32) (k0 : Int32) (k1 : Int32) (M : Mem) : Int32 × Mem := (kf107 v1 v3 v4 (k1 ||| k0) (v7 + 1) M)
def PX6_blown_142   (kP71 : Int32 → Int32 → Int32 → Int32 → Mem → Prop) (kP107 : Int32 → Int32 → Int32 → Int32 → Int32 → Mem → Prop) (v1 : Int32) (v3 : Int32) (v4 : Int32) (v7 : Int32) (k0 : Int32) (k1 : Int32) (M : Mem) : Prop := kP107 v1 v3 v4 (k1 ||| k0) (v7 + 1) M
set_option maxRecDepth 100000 in
theorem cX6_blown_142    (M0 : Mem) (kf71 : Int32 → Int32 → Int32 → Int32 → Mem → Int32 × Mem) (kP71 : Int32 → Int32 → Int32 → Int32 → Mem → Prop) (hk71 : ∀ (v1 : Int32) (v2 : Int32) (v3 : Int32) (v4 : Int32) (M : Mem), kP71 v1 v2 v3 v4 M → AWP (GIM mtX6_blown 5 M0 (kf71 v1 v2 v3 v4 M)) mtX6_blown 71 [(0, .ref 46), (1, .int v1), (2, .int v2), (3, .int v3), (4, .int v4)] [] M) (kf107 : Int32 → Int32 → Int32 → Int32 → Int32 → Mem → Int32 × Mem) (kP107 : Int32 → Int32 → Int32 → Int32 → Int32 → Mem → Prop) (hk107 : ∀ (v1 : Int32) (v3 : Int32) (v4 : Int32) (v6 : Int32) (v7 : Int32) (M : Mem), kP107 v1 v3 v4 v6 v7 M → AWP (GIM mtX6_blown 5 M0 (kf107 v1 v3 v4 v6 v7 M)) mtX6_blown 107 [(0, .ref 46), (1, .int v1), (3, .int v3), (4, .int v4), (6, .int v6), (7, .int v7)] [] M) (v1 : Int32) (v3 : Int32) (v4 : Int32) (v7 : Int32) (k0 : Int32) (k1 : Int32) (M : Mem) (hp : PX6_blown_142 kP71 kP107 v1 v3 v4 v7 k0 k1 M) : AWP (GIM mtX6_blown 5 M0 (mX6_blown_142 kf71 kf107 v1 v3 v4 v7 k0 k1 M)) mtX6_blown 142 [(0, .ref 46), (1, .int v1), (3, .int v3), (4, .int v4), (7, .int v7)] [.int k0, .int k1] M := by
  unfold mX6_blown_142
  unfold PX6_blown_142 at hp
  refine r_ior MF.bs dX6_blown_142 ?_
  refine r_istore MF.bs (lv' := [(6, .int (k1 ||| k0)), (0, .ref 46), (1, .int v1), (3, .int v3), (4, .int v4), (7, .int v7)]) dX6_blown_143 (by decide) rfl ?_
  refine r_iinc MF.bs (v := (v7 + 1)) (lv' := [(7, .int (v7 + 1)), (6, .int (k1 ||| k0)), (0, .ref 46), (1, .int v1), (3, .int v3), (4, .int v4)]) dX6_blown_145 5 rfl rfl (by decide) rfl ?_
  refine r_goto MF.bs dX6_blown_148 (tgt := 107) (by decide) ?_
  refine r_sub [(0, .ref 46), (1, .int v1), (3, .int v3), (4, .int v4), (6, .int (k1 ||| k0)), (7, .int (v7 + 1))] [2, 3, 4, 5, 1, 0] rfl ?_
  exact hk107 v1 v3 v4 (k1 ||| k0) (v7 + 1) M hp
def mX6_blown_162   (kf71 : Int32 → Int32 → Int32 → Int32 → Mem → Int32 × Mem) (v1 : Int32) (v4 : Int32) (k0 : Int32) (k1 : Int32) (M : Mem) : Int32 × Mem := (kf71 v1 (M 47 2) (k1 + k0) (v4 + 1) M)
def PX6_blown_162   (kP71 : Int32 → Int32 → Int32 → Int32 → Mem → Prop) (v1 : Int32) (v4 : Int32) (k0 : Int32) (k1 : Int32) (M : Mem) : Prop := kP71 v1 (M 47 2) (k1 + k0) (v4 + 1) M
set_option maxRecDepth 100000 in
theorem cX6_blown_162    (M0 : Mem) (kf71 : Int32 → Int32 → Int32 → Int32 → Mem → Int32 × Mem) (kP71 : Int32 → Int32 → Int32 → Int32 → Mem → Prop) (hk71 : ∀ (v1 : Int32) (v2 : Int32) (v3 : Int32) (v4 : Int32) (M : Mem), kP71 v1 v2 v3 v4 M → AWP (GIM mtX6_blown 5 M0 (kf71 v1 v2 v3 v4 M)) mtX6_blown 71 [(0, .ref 46), (1, .int v1), (2, .int v2), (3, .int v3), (4, .int v4)] [] M) (v1 : Int32) (v4 : Int32) (k0 : Int32) (k1 : Int32) (M : Mem) (hp : PX6_blown_162 kP71 v1 v4 k0 k1 M) : AWP (GIM mtX6_blown 5 M0 (mX6_blown_162 kf71 v1 v4 k0 k1 M)) mtX6_blown 162 [(0, .ref 46), (1, .int v1), (4, .int v4)] [.int k0, .int k1] M := by
  unfold mX6_blown_162
  unfold PX6_blown_162 at hp
  refine r_iadd MF.bs dX6_blown_162 ?_
  refine r_istore_n MF.bs (lv' := [(3, .int (k1 + k0)), (0, .ref 46), (1, .int v1), (4, .int v4)]) dX6_blown_163 rfl (by decide) rfl ?_
  refine r_aload_n MF.bs dX6_blown_164 rfl 1 rfl ?_
  refine r_getR MF.bs dX6_blown_165 rfl rfl 0 (by decide) wd_875 rfl ?_
  refine r_iconst MF.bs dX6_blown_168 (v := 2) (by decide) ?_
  refine r_ialoadL MF.bs dX6_blown_169 rfl (vin_l (by decide) (by decide)) (k9 := 2) (by decide) ?_
  refine r_istore_n MF.bs (lv' := [(2, .int (M 47 2)), (3, .int (k1 + k0)), (0, .ref 46), (1, .int v1), (4, .int v4)]) dX6_blown_170 rfl (by decide) rfl ?_
  refine r_iinc MF.bs (v := (v4 + 1)) (lv' := [(4, .int (v4 + 1)), (2, .int (M 47 2)), (3, .int (k1 + k0)), (0, .ref 46), (1, .int v1)]) dX6_blown_171 4 rfl rfl (by decide) rfl ?_
  refine r_goto MF.bs dX6_blown_174 (tgt := 71) (by decide) ?_
  refine r_sub [(0, .ref 46), (1, .int v1), (2, .int (M 47 2)), (3, .int (k1 + k0)), (4, .int (v4 + 1))] [3, 4, 1, 2, 0] rfl ?_
  exact hk71 v1 (M 47 2) (k1 + k0) (v4 + 1) M hp
def mX6_blown_107   (kf71 : Int32 → Int32 → Int32 → Int32 → Mem → Int32 × Mem) : Nat → Int32 → Int32 → Int32 → Int32 → Int32 → Mem → Int32 × Mem
  | 0, _, _, _, _, _, M => (0, M)
  | n + 1, v1, v3, v4, v6, v7, M => (if (M 47 0) ≤ v7 then (if v6 = 0 then (mX6_blown_162 kf71 v1 v4 0 v3 M) else (mX6_blown_162 kf71 v1 v4 1 v3 M)) else (if (mX6_its v7 3 M) = (M 52 v7.toNatClampNeg) then (mX6_blown_142 kf71 (mX6_blown_107 kf71 n) v1 v3 v4 v7 0 v6 M) else (mX6_blown_142 kf71 (mX6_blown_107 kf71 n) v1 v3 v4 v7 1 v6 M)))
def PX6_blown_107   (kP71 : Int32 → Int32 → Int32 → Int32 → Mem → Prop) : Nat → Int32 → Int32 → Int32 → Int32 → Int32 → Mem → Prop
  | 0, _, _, _, _, _, _ => False
  | n + 1, v1, v3, v4, v6, v7, M => (((M 47 0) ≤ v7 → ((v6 = 0 → PX6_blown_162 kP71 v1 v4 0 v3 M) ∧ (¬ v6 = 0 → PX6_blown_162 kP71 v1 v4 1 v3 M))) ∧ (¬ (M 47 0) ≤ v7 → PX6_its v7 3 M ∧ (vp_in v7 8 ∧ ((((mX6_its v7 3 M) = (M 52 v7.toNatClampNeg) → PX6_blown_142 kP71 (PX6_blown_107 kP71 n) v1 v3 v4 v7 0 v6 M) ∧ (¬ (mX6_its v7 3 M) = (M 52 v7.toNatClampNeg) → PX6_blown_142 kP71 (PX6_blown_107 kP71 n) v1 v3 v4 v7 1 v6 M))))))
set_option maxRecDepth 100000 in
theorem cX6_blown_107    (M0 : Mem) (kf71 : Int32 → Int32 → Int32 → Int32 → Mem → Int32 × Mem) (kP71 : Int32 → Int32 → Int32 → Int32 → Mem → Prop) (hk71 : ∀ (v1 : Int32) (v2 : Int32) (v3 : Int32) (v4 : Int32) (M : Mem), kP71 v1 v2 v3 v4 M → AWP (GIM mtX6_blown 5 M0 (kf71 v1 v2 v3 v4 M)) mtX6_blown 71 [(0, .ref 46), (1, .int v1), (2, .int v2), (3, .int v3), (4, .int v4)] [] M) : ∀ (n : Nat) (v1 : Int32) (v3 : Int32) (v4 : Int32) (v6 : Int32) (v7 : Int32) (M : Mem), PX6_blown_107 kP71 n v1 v3 v4 v6 v7 M → AWP (GIM mtX6_blown 5 M0 (mX6_blown_107 kf71 n v1 v3 v4 v6 v7 M)) mtX6_blown 107 [(0, .ref 46), (1, .int v1), (3, .int v3), (4, .int v4), (6, .int v6), (7, .int v7)] [] M := by
  intro n
  induction n with
  | zero =>
    intro v1 v3 v4 v6 v7 M hp
    exact hp.elim
  | succ n ih =>
    intro v1 v3 v4 v6 v7 M hp
    rw [mX6_blown_107]
    rw [PX6_blown_107] at hp
    refine r_iload MF.bs dX6_blown_107 5 rfl ?_
    refine r_aload_n MF.bs dX6_blown_109 rfl 0 rfl ?_
    refine r_getR MF.bs dX6_blown_110 rfl rfl 0 (by decide) wd_875 rfl ?_
    refine r_iconst MF.bs dX6_blown_113 (v := 0) (by decide) ?_
    refine r_ialoadL MF.bs dX6_blown_114 rfl (vin_l (by decide) (by decide)) (k9 := 0) (by decide) ?_
    refine r_ite (GIM mtX6_blown 5 M0) (fun h_11 => ?_) (fun h_11 => ?_)
    · have hp := hp.1 h_11
      refine r_icmp_ge_t MF.bs (tgt := 151) dX6_blown_115 (by decide) h_11 ?_
      refine r_iload_n MF.bs dX6_blown_151 rfl 2 rfl ?_
      refine r_iload MF.bs dX6_blown_152 4 rfl ?_
      refine r_ite (GIM mtX6_blown 5 M0) (fun h_12 => ?_) (fun h_12 => ?_)
      · have hp := hp.1 h_12
        refine r_if_eq_t MF.bs (tgt := 161) dX6_blown_154 (by decide) h_12 ?_
        refine r_iconst MF.bs dX6_blown_161 (v := 0) (by decide) ?_
        refine r_sub [(0, .ref 46), (1, .int v1), (4, .int v4)] [0, 1, 3] rfl ?_
        exact cX6_blown_162 M0 kf71 kP71 hk71 v1 v4 0 v3 M hp
      · have hp := hp.2 h_12
        refine r_if_eq_f MF.bs (tgt := 161) dX6_blown_154 (by decide) h_12 ?_
        refine r_iconst MF.bs dX6_blown_157 (v := 1) (by decide) ?_
        refine r_goto MF.bs dX6_blown_158 (tgt := 162) (by decide) ?_
        refine r_sub [(0, .ref 46), (1, .int v1), (4, .int v4)] [0, 1, 3] rfl ?_
        exact cX6_blown_162 M0 kf71 kP71 hk71 v1 v4 1 v3 M hp
    · have hp := hp.2 h_11
      refine r_icmp_ge_f MF.bs (tgt := 151) dX6_blown_115 (by decide) h_11 ?_
      obtain ⟨hq_13, hp⟩ := hp
      obtain ⟨hq_14, hp⟩ := hp
      refine r_iload MF.bs dX6_blown_118 4 rfl ?_
      refine r_aload_n MF.bs dX6_blown_120 rfl 0 rfl ?_
      refine r_iload MF.bs dX6_blown_121 5 rfl ?_
      refine r_iconst MF.bs dX6_blown_123 (v := 3) (by decide) ?_
      refine r_callV_v MF.bs (st := [.int v6]) dX6_blown_124 (ctX6_its v7 3 M hq_13) miX6_its wd_1083 rfl (by decide) rfl (Nat.le_of_ble_eq_true rfl) rfl rfl rfl ?_
      refine r_aload_n MF.bs dX6_blown_127 rfl 0 rfl ?_
      refine r_getR MF.bs dX6_blown_128 rfl rfl 12 (by decide) wd_887 rfl ?_
      refine r_iload MF.bs dX6_blown_131 5 rfl ?_
      refine r_iaload MF.bs dX6_blown_133 rfl hq_14 ?_
      refine r_ite (GIM mtX6_blown 5 M0) (fun h_15 => ?_) (fun h_15 => ?_)
      · have hp := hp.1 h_15
        refine r_icmp_eq_t MF.bs (tgt := 141) dX6_blown_134 (by decide) h_15 ?_
        refine r_iconst MF.bs dX6_blown_141 (v := 0) (by decide) ?_
        refine r_sub [(0, .ref 46), (1, .int v1), (3, .int v3), (4, .int v4), (7, .int v7)] [0, 1, 2, 3, 5] rfl ?_
        exact cX6_blown_142 M0 kf71 kP71 hk71 (mX6_blown_107 kf71 n) (PX6_blown_107 kP71 n) ih v1 v3 v4 v7 0 v6 M hp
      · have hp := hp.2 h_15
        refine r_icmp_eq_f MF.bs (tgt := 141) dX6_blown_134 (by decide) h_15 ?_
        refine r_iconst MF.bs dX6_blown_137 (v := 1) (by decide) ?_
        refine r_goto MF.bs dX6_blown_138 (tgt := 142) (by decide) ?_
        refine r_sub [(0, .ref 46), (1, .int v1), (3, .int v3), (4, .int v4), (7, .int v7)] [0, 1, 2, 3, 5] rfl ?_
        exact cX6_blown_142 M0 kf71 kP71 hk71 (mX6_blown_107 kf71 n) (PX6_blown_107 kP71 n) ih v1 v3 v4 v7 1 v6 M hp
def mX6_blown_99   (kf71 : Int32 → Int32 → Int32 → Int32 → Mem → Int32 × Mem) (v1 : Int32) (v3 : Int32) (v4 : Int32) (k0 : Int32) (M : Mem) : Int32 × Mem := (mX6_blown_107 kf71 400 v1 v3 v4 0 0 M)
def PX6_blown_99   (kP71 : Int32 → Int32 → Int32 → Int32 → Mem → Prop) (v1 : Int32) (v3 : Int32) (v4 : Int32) (k0 : Int32) (M : Mem) : Prop := PX6_blown_107 kP71 400 v1 v3 v4 0 0 M
set_option maxRecDepth 100000 in
theorem cX6_blown_99    (M0 : Mem) (kf71 : Int32 → Int32 → Int32 → Int32 → Mem → Int32 × Mem) (kP71 : Int32 → Int32 → Int32 → Int32 → Mem → Prop) (hk71 : ∀ (v1 : Int32) (v2 : Int32) (v3 : Int32) (v4 : Int32) (M : Mem), kP71 v1 v2 v3 v4 M → AWP (GIM mtX6_blown 5 M0 (kf71 v1 v2 v3 v4 M)) mtX6_blown 71 [(0, .ref 46), (1, .int v1), (2, .int v2), (3, .int v3), (4, .int v4)] [] M) (v1 : Int32) (v3 : Int32) (v4 : Int32) (k0 : Int32) (M : Mem) (hp : PX6_blown_99 kP71 v1 v3 v4 k0 M) : AWP (GIM mtX6_blown 5 M0 (mX6_blown_99 kf71 v1 v3 v4 k0 M)) mtX6_blown 99 [(0, .ref 46), (1, .int v1), (3, .int v3), (4, .int v4)] [.int k0] M := by
  unfold mX6_blown_99
  unfold PX6_blown_99 at hp
  refine r_istore MF.bs (lv' := [(5, .int k0), (0, .ref 46), (1, .int v1), (3, .int v3), (4, .int v4)]) dX6_blown_99 (by decide) rfl ?_
  refine r_iconst MF.bs dX6_blown_101 (v := 0) (by decide) ?_
  refine r_istore MF.bs (lv' := [(6, .int 0), (5, .int k0), (0, .ref 46), (1, .int v1), (3, .int v3), (4, .int v4)]) dX6_blown_102 (by decide) rfl ?_
  refine r_iconst MF.bs dX6_blown_104 (v := 0) (by decide) ?_
  refine r_istore MF.bs (lv' := [(7, .int 0), (6, .int 0), (5, .int k0), (0, .ref 46), (1, .int v1), (3, .int v3), (4, .int v4)]) dX6_blown_105 (by decide) rfl ?_
  refine r_sub [(0, .ref 46), (1, .int v1), (3, .int v3), (4, .int v4), (6, .int 0), (7, .int 0)] [3, 4, 5, 6, 1, 0] rfl ?_
  exact cX6_blown_107 M0 kf71 kP71 hk71 400 v1 v3 v4 0 0 M hp
def mX6_blown_88   (kf71 : Int32 → Int32 → Int32 → Int32 → Mem → Int32 × Mem) (v1 : Int32) (v2 : Int32) (v3 : Int32) (v4 : Int32) (M : Mem) : Int32 × Mem := (mX6_blown_99 kf71 v1 v3 v4 ((mX6_step (upm M 47 2 v2)).1) ((mX6_step (upm M 47 2 v2)).2))
def PX6_blown_88   (kP71 : Int32 → Int32 → Int32 → Int32 → Mem → Prop) (v1 : Int32) (v2 : Int32) (v3 : Int32) (v4 : Int32) (M : Mem) : Prop := PX6_step (upm M 47 2 v2) ∧ (PX6_blown_99 kP71 v1 v3 v4 ((mX6_step (upm M 47 2 v2)).1) ((mX6_step (upm M 47 2 v2)).2))
set_option maxRecDepth 100000 in
theorem cX6_blown_88    (M0 : Mem) (kf71 : Int32 → Int32 → Int32 → Int32 → Mem → Int32 × Mem) (kP71 : Int32 → Int32 → Int32 → Int32 → Mem → Prop) (hk71 : ∀ (v1 : Int32) (v2 : Int32) (v3 : Int32) (v4 : Int32) (M : Mem), kP71 v1 v2 v3 v4 M → AWP (GIM mtX6_blown 5 M0 (kf71 v1 v2 v3 v4 M)) mtX6_blown 71 [(0, .ref 46), (1, .int v1), (2, .int v2), (3, .int v3), (4, .int v4)] [] M) (v1 : Int32) (v2 : Int32) (v3 : Int32) (v4 : Int32) (M : Mem) (hp : PX6_blown_88 kP71 v1 v2 v3 v4 M) : AWP (GIM mtX6_blown 5 M0 (mX6_blown_88 kf71 v1 v2 v3 v4 M)) mtX6_blown 88 [(0, .ref 46), (1, .int v1), (2, .int v2), (3, .int v3), (4, .int v4)] [] M := by
  unfold mX6_blown_88
  unfold PX6_blown_88 at hp
  obtain ⟨hq_10, hp⟩ := hp
  refine r_aload_n MF.bs dX6_blown_88 rfl 0 rfl ?_
  refine r_getR MF.bs dX6_blown_89 rfl rfl 0 (by decide) wd_875 rfl ?_
  refine r_iconst MF.bs dX6_blown_92 (v := 2) (by decide) ?_
  refine r_iload_n MF.bs dX6_blown_93 rfl 2 rfl ?_
  refine r_iastoreL MF.bs dX6_blown_94 rfl (vin_l (by decide) (by decide)) (k9 := 2) (by decide) ?_
  refine r_aload_n MF.bs dX6_blown_95 rfl 0 rfl ?_
  refine r_callV_v MF.bs (st := []) dX6_blown_96 (ctX6_step (upm M 47 2 v2) hq_10) miX6_step wd_1171 rfl (by decide) rfl (Nat.le_of_ble_eq_true rfl) rfl rfl rfl ?_
  refine r_sub [(0, .ref 46), (1, .int v1), (3, .int v3), (4, .int v4)] [0, 1, 3, 4] rfl ?_
  exact cX6_blown_99 M0 kf71 kP71 hk71 v1 v3 v4 ((mX6_step (upm M 47 2 v2)).1) ((mX6_step (upm M 47 2 v2)).2) hp
def mX6_blown_71   : Nat → Int32 → Int32 → Int32 → Int32 → Mem → Int32 × Mem
  | 0, _, _, _, _, M => (0, M)
  | n + 1, v1, v2, v3, v4, M => (if v1 ≤ v4 then (v3, (mX6_copyRow 49 56 47 56 M)) else (mX6_blown_88 (mX6_blown_71 n) v1 v2 v3 v4 (mX6_copyRow 49 56 47 56 M)))
def PX6_blown_71   : Nat → Int32 → Int32 → Int32 → Int32 → Mem → Prop
  | 0, _, _, _, _, _ => False
  | n + 1, v1, v2, v3, v4, M => ((v1 ≤ v4 → PX6_copyRow 49 56 47 56 M) ∧ (¬ v1 ≤ v4 → PX6_copyRow 49 56 47 56 M ∧ (PX6_blown_88 (PX6_blown_71 n) v1 v2 v3 v4 (mX6_copyRow 49 56 47 56 M))))
set_option maxRecDepth 100000 in
theorem cX6_blown_71    (M0 : Mem) : ∀ (n : Nat) (v1 : Int32) (v2 : Int32) (v3 : Int32) (v4 : Int32) (M : Mem), PX6_blown_71 n v1 v2 v3 v4 M → AWP (GIM mtX6_blown 5 M0 (mX6_blown_71 n v1 v2 v3 v4 M)) mtX6_blown 71 [(0, .ref 46), (1, .int v1), (2, .int v2), (3, .int v3), (4, .int v4)] [] M := by
  intro n
  induction n with
  | zero =>
    intro v1 v2 v3 v4 M hp
    exact hp.elim
  | succ n ih =>
    intro v1 v2 v3 v4 M hp
    rw [mX6_blown_71]
    rw [PX6_blown_71] at hp
    refine r_iload MF.bs dX6_blown_71 4 rfl ?_
    refine r_iload_n MF.bs dX6_blown_73 rfl 1 rfl ?_
    refine r_ite (GIM mtX6_blown 5 M0) (fun h_7 => ?_) (fun h_7 => ?_)
    · have hp := hp.1 h_7
      refine r_icmp_ge_t MF.bs (tgt := 177) dX6_blown_74 (by decide) h_7 ?_
      have hq_8 := hp
      refine r_aload_n MF.bs dX6_blown_177 rfl 0 rfl ?_
      refine r_getR MF.bs dX6_blown_178 rfl rfl 2 (by decide) wd_877 rfl ?_
      refine r_aload_n MF.bs dX6_blown_181 rfl 0 rfl ?_
      refine r_getR MF.bs dX6_blown_182 rfl rfl 0 (by decide) wd_875 rfl ?_
      refine r_callS_n MF.bs (st := []) dX6_blown_185 (ctX6_copyRow 49 56 47 56 rfl rfl M hq_8) miX6_copyRow wd_979 rfl (by decide) rfl (Nat.le_of_ble_eq_true rfl) ?_
      refine r_iload_n MF.bs dX6_blown_188 rfl 3 rfl ?_
      exact r_iret dX6_blown_189 rfl
    · have hp := hp.2 h_7
      refine r_icmp_ge_f MF.bs (tgt := 177) dX6_blown_74 (by decide) h_7 ?_
      obtain ⟨hq_9, hp⟩ := hp
      refine r_aload_n MF.bs dX6_blown_77 rfl 0 rfl ?_
      refine r_getR MF.bs dX6_blown_78 rfl rfl 2 (by decide) wd_877 rfl ?_
      refine r_aload_n MF.bs dX6_blown_81 rfl 0 rfl ?_
      refine r_getR MF.bs dX6_blown_82 rfl rfl 0 (by decide) wd_875 rfl ?_
      refine r_callS_n MF.bs (st := []) dX6_blown_85 (ctX6_copyRow 49 56 47 56 rfl rfl M hq_9) miX6_copyRow wd_979 rfl (by decide) rfl (Nat.le_of_ble_eq_true rfl) ?_
      exact cX6_blown_88 M0 (mX6_blown_71 n) (PX6_blown_71 n) ih v1 v2 v3 v4 (mX6_copyRow 49 56 47 56 M) hp
def mX6_blown_31   : Nat → Int32 → Int32 → Mem → Int32 × Mem
  | 0, _, _, M => (0, M)
  | n + 1, v1, v2, M => (if (M 47 0) ≤ v2 then (mX6_blown_71 400 v1 (M 49 2) 0 0 M) else (mX6_blown_31 n v1 (v2 + 1) (upm M 52 v2.toNatClampNeg (mX6_its v2 3 M))))
def PX6_blown_31   : Nat → Int32 → Int32 → Mem → Prop
  | 0, _, _, _ => False
  | n + 1, v1, v2, M => (((M 47 0) ≤ v2 → PX6_blown_71 400 v1 (M 49 2) 0 0 M) ∧ (¬ (M 47 0) ≤ v2 → PX6_its v2 3 M ∧ (vp_in v2 8 ∧ (PX6_blown_31 n v1 (v2 + 1) (upm M 52 v2.toNatClampNeg (mX6_its v2 3 M))))))
set_option maxRecDepth 100000 in
theorem cX6_blown_31    (M0 : Mem) : ∀ (n : Nat) (v1 : Int32) (v2 : Int32) (M : Mem), PX6_blown_31 n v1 v2 M → AWP (GIM mtX6_blown 5 M0 (mX6_blown_31 n v1 v2 M)) mtX6_blown 31 [(0, .ref 46), (1, .int v1), (2, .int v2)] [] M := by
  intro n
  induction n with
  | zero =>
    intro v1 v2 M hp
    exact hp.elim
  | succ n ih =>
    intro v1 v2 M hp
    rw [mX6_blown_31]
    rw [PX6_blown_31] at hp
    refine r_iload_n MF.bs dX6_blown_31 rfl 2 rfl ?_
    refine r_aload_n MF.bs dX6_blown_32 rfl 0 rfl ?_
    refine r_getR MF.bs dX6_blown_33 rfl rfl 0 (by decide) wd_875 rfl ?_
    refine r_iconst MF.bs dX6_blown_36 (v := 0) (by decide) ?_
    refine r_ialoadL MF.bs dX6_blown_37 rfl (vin_l (by decide) (by decide)) (k9 := 0) (by decide) ?_
    refine r_ite (GIM mtX6_blown 5 M0) (fun h_4 => ?_) (fun h_4 => ?_)
    · have hp := hp.1 h_4
      refine r_icmp_ge_t MF.bs (tgt := 59) dX6_blown_38 (by decide) h_4 ?_
      refine r_aload_n MF.bs dX6_blown_59 rfl 0 rfl ?_
      refine r_getR MF.bs dX6_blown_60 rfl rfl 2 (by decide) wd_877 rfl ?_
      refine r_iconst MF.bs dX6_blown_63 (v := 2) (by decide) ?_
      refine r_ialoadL MF.bs dX6_blown_64 rfl (vin_l (by decide) (by decide)) (k9 := 2) (by decide) ?_
      refine r_istore_n MF.bs (lv' := [(2, .int (M 49 2)), (0, .ref 46), (1, .int v1)]) dX6_blown_65 rfl (by decide) rfl ?_
      refine r_iconst MF.bs dX6_blown_66 (v := 0) (by decide) ?_
      refine r_istore_n MF.bs (lv' := [(3, .int 0), (2, .int (M 49 2)), (0, .ref 46), (1, .int v1)]) dX6_blown_67 rfl (by decide) rfl ?_
      refine r_iconst MF.bs dX6_blown_68 (v := 0) (by decide) ?_
      refine r_istore MF.bs (lv' := [(4, .int 0), (3, .int 0), (2, .int (M 49 2)), (0, .ref 46), (1, .int v1)]) dX6_blown_69 (by decide) rfl ?_
      refine r_sub [(0, .ref 46), (1, .int v1), (2, .int (M 49 2)), (3, .int 0), (4, .int 0)] [3, 4, 2, 1, 0] rfl ?_
      exact cX6_blown_71 M0 400 v1 (M 49 2) 0 0 M hp
    · have hp := hp.2 h_4
      refine r_icmp_ge_f MF.bs (tgt := 59) dX6_blown_38 (by decide) h_4 ?_
      obtain ⟨hq_5, hp⟩ := hp
      obtain ⟨hq_6, hp⟩ := hp
      refine r_aload_n MF.bs dX6_blown_41 rfl 0 rfl ?_
      refine r_getR MF.bs dX6_blown_42 rfl rfl 12 (by decide) wd_887 rfl ?_
      refine r_iload_n MF.bs dX6_blown_45 rfl 2 rfl ?_
      refine r_aload_n MF.bs dX6_blown_46 rfl 0 rfl ?_
      refine r_iload_n MF.bs dX6_blown_47 rfl 2 rfl ?_
      refine r_iconst MF.bs dX6_blown_48 (v := 3) (by decide) ?_
      refine r_callV_v MF.bs (st := [.int v2, .ref 52]) dX6_blown_49 (ctX6_its v2 3 M hq_5) miX6_its wd_1083 rfl (by decide) rfl (Nat.le_of_ble_eq_true rfl) rfl rfl rfl ?_
      refine r_iastore MF.bs dX6_blown_52 rfl hq_6 ?_
      refine r_iinc MF.bs (v := (v2 + 1)) (lv' := [(2, .int (v2 + 1)), (0, .ref 46), (1, .int v1)]) dX6_blown_53 2 rfl rfl (by decide) rfl ?_
      refine r_goto MF.bs dX6_blown_56 (tgt := 31) (by decide) ?_
      refine r_sub [(0, .ref 46), (1, .int v1), (2, .int (v2 + 1))] [1, 2, 0] rfl ?_
      exact ih v1 (v2 + 1) (upm M 52 v2.toNatClampNeg (mX6_its v2 3 M)) hp
def mX6_blown_29   (v1 : Int32) (M : Mem) : Int32 × Mem := (mX6_blown_31 400 v1 0 M)
def PX6_blown_29   (v1 : Int32) (M : Mem) : Prop := PX6_blown_31 400 v1 0 M
set_option maxRecDepth 100000 in
theorem cX6_blown_29    (M0 : Mem) (v1 : Int32) (M : Mem) (hp : PX6_blown_29 v1 M) : AWP (GIM mtX6_blown 5 M0 (mX6_blown_29 v1 M)) mtX6_blown 29 [(0, .ref 46), (1, .int v1)] [] M := by
  unfold mX6_blown_29
  unfold PX6_blown_29 at hp
  refine r_iconst MF.bs dX6_blown_29 (v := 0) (by decide) ?_
  refine r_istore_n MF.bs (lv' := [(2, .int 0), (0, .ref 46), (1, .int v1)]) dX6_blown_30 rfl (by decide) rfl ?_
  refine r_sub [(0, .ref 46), (1, .int v1), (2, .int 0)] [1, 2, 0] rfl ?_
  exact cX6_blown_31 M0 400 v1 0 M hp
def mX6_blown_25   (v1 : Int32) (M : Mem) : Int32 × Mem := (mX6_blown_29 v1 (mX6_goesOn M))
def PX6_blown_25   (v1 : Int32) (M : Mem) : Prop := PX6_goesOn M ∧ (PX6_blown_29 v1 (mX6_goesOn M))
set_option maxRecDepth 100000 in
theorem cX6_blown_25    (M0 : Mem) (v1 : Int32) (M : Mem) (hp : PX6_blown_25 v1 M) : AWP (GIM mtX6_blown 5 M0 (mX6_blown_25 v1 M)) mtX6_blown 25 [(0, .ref 46), (1, .int v1)] [] M := by
  unfold mX6_blown_25
  unfold PX6_blown_25 at hp
  obtain ⟨hq_3, hp⟩ := hp
  refine r_aload_n MF.bs dX6_blown_25 rfl 0 rfl ?_
  refine r_callV_n MF.bs (st := []) dX6_blown_26 (ctX6_goesOn M hq_3) miX6_goesOn wd_1139 rfl (by decide) rfl (Nat.le_of_ble_eq_true rfl) rfl rfl rfl ?_
  exact cX6_blown_29 M0 v1 (mX6_goesOn M) hp
def mX6_blown  (a1 : Int32) (M : Mem) : Int32 × Mem := (if (mX6_isIn ((a1 : Int32).toInt64) 1 30) = true then (mX6_blown_25 a1 (mX6_copyRow 47 56 49 56 M)) else ((-1), M))
def PX6_blown  (a1 : Int32) (M : Mem) : Prop := ((mX6_isIn ((a1 : Int32).toInt64) 1 30) = true → PX6_copyRow 47 56 49 56 M ∧ (PX6_blown_25 a1 (mX6_copyRow 47 56 49 56 M)))
set_option maxRecDepth 100000 in
theorem ctX6_blown   (a1 : Int32) (M : Mem) (hp : PX6_blown a1 M) : CT mtX6_blown 5 [.ref 46, .int a1] M (some (.int ((mX6_blown a1 M).1)), (mX6_blown a1 M).2) := by
  refine CT.of (by decide) rfl (Nat.le_of_ble_eq_true rfl) ?_
  show AWP (GIM mtX6_blown 5 M (mX6_blown a1 M)) mtX6_blown 0 [(0, .ref 46), (1, .int a1)] [] M
  unfold mX6_blown
  unfold PX6_blown at hp
  refine r_iload_n MF.bs dX6_blown_0 rfl 1 rfl ?_
  refine r_i2l MF.bs dX6_blown_1 ?_
  refine r_lconst MF.bs dX6_blown_2 (v := 1) (by decide) ?_
  refine r_ldc2 MF.bs (v := 30) dX6_blown_3 wd_1170 ?_
  refine r_callS_v MF.bs (st := []) dX6_blown_6 (ctX6_isIn ((a1 : Int32).toInt64) 1 30 M) miX6_isIn wd_971 rfl (by decide) rfl (Nat.le_of_ble_eq_true rfl) ?_
  refine r_ite (GIM mtX6_blown 5 M) (fun h_1 => ?_) (fun h_1 => ?_)
  · have hp := hp h_1
    refine r_if_ne_t MF.bs (tgt := 14) dX6_blown_9 (by decide) (b2i_1 h_1) ?_
    obtain ⟨hq_2, hp⟩ := hp
    refine r_aload_n MF.bs dX6_blown_14 rfl 0 rfl ?_
    refine r_getR MF.bs dX6_blown_15 rfl rfl 0 (by decide) wd_875 rfl ?_
    refine r_aload_n MF.bs dX6_blown_18 rfl 0 rfl ?_
    refine r_getR MF.bs dX6_blown_19 rfl rfl 2 (by decide) wd_877 rfl ?_
    refine r_callS_n MF.bs (st := []) dX6_blown_22 (ctX6_copyRow 47 56 49 56 rfl rfl M hq_2) miX6_copyRow wd_979 rfl (by decide) rfl (Nat.le_of_ble_eq_true rfl) ?_
    exact cX6_blown_25 M a1 (mX6_copyRow 47 56 49 56 M) hp
  · refine r_if_ne_f MF.bs (tgt := 14) dX6_blown_9 (by decide) (b2i_0 h_1) ?_
    refine r_iconst MF.bs dX6_blown_12 (v := -1) (by decide) ?_
    exact r_iret dX6_blown_13 rfl
abbrev mtX6_housesInUse : MT := (RX6, yX6_housesInUse, cX6_housesInUse, 3, (some .int))
theorem miX6_housesInUse : MV mtX6_housesInUse 0 := ⟨wd_1183, ⟨wd_1182, wd_58⟩, wd_86, ⟨by decide, by decide, by decide +kernel⟩, by decide⟩
def mX6_housesInUse_4   : Nat → Int32 → Int32 → Mem → Int32
  | 0, _, _, _ => 0
  | n + 1, v1, v2, M => (if (M 47 0) ≤ v2 then v1 else (mX6_housesInUse_4 n (v1 ||| (1 <<< ((mX6_its v2 3 M) &&& 31))) (v2 + 1) M))
def PX6_housesInUse_4   : Nat → Int32 → Int32 → Mem → Prop
  | 0, _, _, _ => False
  | n + 1, v1, v2, M => (¬ (M 47 0) ≤ v2 → PX6_its v2 3 M ∧ (PX6_housesInUse_4 n (v1 ||| (1 <<< ((mX6_its v2 3 M) &&& 31))) (v2 + 1) M))
set_option maxRecDepth 100000 in
theorem cX6_housesInUse_4    : ∀ (n : Nat) (v1 : Int32) (v2 : Int32) (M : Mem), PX6_housesInUse_4 n v1 v2 M → AWP (GI mtX6_housesInUse 1 M M (mX6_housesInUse_4 n v1 v2 M)) mtX6_housesInUse 4 [(0, .ref 46), (1, .int v1), (2, .int v2)] [] M := by
  intro n
  induction n with
  | zero =>
    intro v1 v2 M hp
    exact hp.elim
  | succ n ih =>
    intro v1 v2 M hp
    rw [mX6_housesInUse_4]
    rw [PX6_housesInUse_4] at hp
    refine r_iload_n MF.bs dX6_housesInUse_4 rfl 2 rfl ?_
    refine r_aload_n MF.bs dX6_housesInUse_5 rfl 0 rfl ?_
    refine r_getR MF.bs dX6_housesInUse_6 rfl rfl 0 (by decide) wd_875 rfl ?_
    refine r_iconst MF.bs dX6_housesInUse_9 (v := 0) (by decide) ?_
    refine r_ialoadL MF.bs dX6_housesInUse_10 rfl (vin_l (by decide) (by decide)) (k9 := 0) (by decide) ?_
    refine r_ite (GI mtX6_housesInUse 1 M M) (fun h_1 => ?_) (fun h_1 => ?_)
    · refine r_icmp_ge_t MF.bs (tgt := 31) dX6_housesInUse_11 (by decide) h_1 ?_
      refine r_iload_n MF.bs dX6_housesInUse_31 rfl 1 rfl ?_
      exact r_iret dX6_housesInUse_32 rfl
    · have hp := hp h_1
      refine r_icmp_ge_f MF.bs (tgt := 31) dX6_housesInUse_11 (by decide) h_1 ?_
      obtain ⟨hq_2, hp⟩ := hp
      refine r_iload_n MF.bs dX6_housesInUse_14 rfl 1 rfl ?_
      refine r_iconst MF.bs dX6_housesInUse_15 (v := 1) (by decide) ?_
      refine r_aload_n MF.bs dX6_housesInUse_16 rfl 0 rfl ?_
      refine r_iload_n MF.bs dX6_housesInUse_17 rfl 2 rfl ?_
      refine r_iconst MF.bs dX6_housesInUse_18 (v := 3) (by decide) ?_
      refine r_callV_v MF.bs (st := [.int 1, .int v1]) dX6_housesInUse_19 (ctX6_its v2 3 M hq_2) miX6_its wd_1083 rfl (by decide) rfl (Nat.le_of_ble_eq_true rfl) rfl rfl rfl ?_
      refine r_ishl MF.bs dX6_housesInUse_22 ?_
      refine r_ior MF.bs dX6_housesInUse_23 ?_
      refine r_istore_n MF.bs (lv' := [(1, .int (v1 ||| (1 <<< ((mX6_its v2 3 M) &&& 31)))), (0, .ref 46), (2, .int v2)]) dX6_housesInUse_24 rfl (by decide) rfl ?_
      refine r_iinc MF.bs (v := (v2 + 1)) (lv' := [(2, .int (v2 + 1)), (1, .int (v1 ||| (1 <<< ((mX6_its v2 3 M) &&& 31)))), (0, .ref 46)]) dX6_housesInUse_25 2 rfl rfl (by decide) rfl ?_
      refine r_goto MF.bs dX6_housesInUse_28 (tgt := 4) (by decide) ?_
      refine r_sub [(0, .ref 46), (1, .int (v1 ||| (1 <<< ((mX6_its v2 3 M) &&& 31)))), (2, .int (v2 + 1))] [2, 1, 0] rfl ?_
      exact ih (v1 ||| (1 <<< ((mX6_its v2 3 M) &&& 31))) (v2 + 1) M hp
def mX6_housesInUse  (M : Mem) : Int32 := (mX6_housesInUse_4 400 0 0 M)
def PX6_housesInUse  (M : Mem) : Prop := PX6_housesInUse_4 400 0 0 M
set_option maxRecDepth 100000 in
theorem ctX6_housesInUse   (M : Mem) (hp : PX6_housesInUse M) : CT mtX6_housesInUse 1 [.ref 46] M (some (.int (mX6_housesInUse M)), M) := by
  refine CT.of (by decide) rfl (Nat.le_of_ble_eq_true rfl) ?_
  show AWP (GI mtX6_housesInUse 1 M M (mX6_housesInUse M)) mtX6_housesInUse 0 [(0, .ref 46)] [] M
  unfold mX6_housesInUse
  unfold PX6_housesInUse at hp
  refine r_iconst MF.bs dX6_housesInUse_0 (v := 0) (by decide) ?_
  refine r_istore_n MF.bs (lv' := [(1, .int 0), (0, .ref 46)]) dX6_housesInUse_1 rfl (by decide) rfl ?_
  refine r_iconst MF.bs dX6_housesInUse_2 (v := 0) (by decide) ?_
  refine r_istore_n MF.bs (lv' := [(2, .int 0), (1, .int 0), (0, .ref 46)]) dX6_housesInUse_3 rfl (by decide) rfl ?_
  refine r_sub [(0, .ref 46), (1, .int 0), (2, .int 0)] [2, 1, 0] rfl ?_
  exact cX6_housesInUse_4 400 0 0 M hp
abbrev mtX6_wetBy : MT := (RX6, yX6_wetBy, cX6_wetBy, 4, (some .int))
theorem miX6_wetBy : MV mtX6_wetBy 1 := ⟨wd_1187, ⟨wd_1186, wd_59⟩, wd_86, ⟨by decide, by decide, by decide +kernel⟩, by decide⟩
def mX6_wetBy_31   (kf4 : Int32 → Int32 → Int32 → Mem → Int32) (v1 : Int32) (v3 : Int32) (k0 : Int32) (k1 : Int32) (M : Mem) : Int32 := (kf4 v1 (k1 ||| k0) (v3 + 1) M)
def PX6_wetBy_31   (kP4 : Int32 → Int32 → Int32 → Mem → Prop) (v1 : Int32) (v3 : Int32) (k0 : Int32) (k1 : Int32) (M : Mem) : Prop := kP4 v1 (k1 ||| k0) (v3 + 1) M
set_option maxRecDepth 100000 in
theorem cX6_wetBy_31    (kf4 : Int32 → Int32 → Int32 → Mem → Int32) (kP4 : Int32 → Int32 → Int32 → Mem → Prop) (hk4 : ∀ (v1 : Int32) (v2 : Int32) (v3 : Int32) (M : Mem), kP4 v1 v2 v3 M → AWP (GI mtX6_wetBy 0 M M (kf4 v1 v2 v3 M)) mtX6_wetBy 4 [(0, .ref 46), (1, .int v1), (2, .int v2), (3, .int v3)] [] M) (v1 : Int32) (v3 : Int32) (k0 : Int32) (k1 : Int32) (M : Mem) (hp : PX6_wetBy_31 kP4 v1 v3 k0 k1 M) : AWP (GI mtX6_wetBy 0 M M (mX6_wetBy_31 kf4 v1 v3 k0 k1 M)) mtX6_wetBy 31 [(0, .ref 46), (1, .int v1), (3, .int v3)] [.int k0, .int k1] M := by
  unfold mX6_wetBy_31
  unfold PX6_wetBy_31 at hp
  refine r_ior MF.bs dX6_wetBy_31 ?_
  refine r_istore_n MF.bs (lv' := [(2, .int (k1 ||| k0)), (0, .ref 46), (1, .int v1), (3, .int v3)]) dX6_wetBy_32 rfl (by decide) rfl ?_
  refine r_iinc MF.bs (v := (v3 + 1)) (lv' := [(3, .int (v3 + 1)), (2, .int (k1 ||| k0)), (0, .ref 46), (1, .int v1)]) dX6_wetBy_33 3 rfl rfl (by decide) rfl ?_
  refine r_goto MF.bs dX6_wetBy_36 (tgt := 4) (by decide) ?_
  refine r_sub [(0, .ref 46), (1, .int v1), (2, .int (k1 ||| k0)), (3, .int (v3 + 1))] [2, 3, 1, 0] rfl ?_
  exact hk4 v1 (k1 ||| k0) (v3 + 1) M hp
def mX6_wetBy_4   : Nat → Int32 → Int32 → Int32 → Mem → Int32
  | 0, _, _, _, _ => 0
  | n + 1, v1, v2, v3, M => (if 16 ≤ v3 then v2 else (if (M 47 (8 + v3).toNatClampNeg) < v1 then (mX6_wetBy_31 (mX6_wetBy_4 n) v1 v3 0 v2 M) else (mX6_wetBy_31 (mX6_wetBy_4 n) v1 v3 (1 <<< (v3 &&& 31)) v2 M)))
def PX6_wetBy_4   : Nat → Int32 → Int32 → Int32 → Mem → Prop
  | 0, _, _, _, _ => False
  | n + 1, v1, v2, v3, M => (¬ 16 ≤ v3 → vp_in (8 + v3) 56 ∧ ((((M 47 (8 + v3).toNatClampNeg) < v1 → PX6_wetBy_31 (PX6_wetBy_4 n) v1 v3 0 v2 M) ∧ (¬ (M 47 (8 + v3).toNatClampNeg) < v1 → PX6_wetBy_31 (PX6_wetBy_4 n) v1 v3 (1 <<< (v3 &&& 31)) v2 M))))
set_option maxRecDepth 100000 in
theorem cX6_wetBy_4    : ∀ (n : Nat) (v1 : Int32) (v2 : Int32) (v3 : Int32) (M : Mem), PX6_wetBy_4 n v1 v2 v3 M → AWP (GI mtX6_wetBy 0 M M (mX6_wetBy_4 n v1 v2 v3 M)) mtX6_wetBy 4 [(0, .ref 46), (1, .int v1), (2, .int v2), (3, .int v3)] [] M := by
  intro n
  induction n with
  | zero =>
    intro v1 v2 v3 M hp
    exact hp.elim
  | succ n ih =>
    intro v1 v2 v3 M hp
    rw [mX6_wetBy_4]
    rw [PX6_wetBy_4] at hp
    refine r_iload_n MF.bs dX6_wetBy_4 rfl 3 rfl ?_
    refine r_bipush MF.bs dX6_wetBy_5 (v := 16) (by decide) ?_
    refine r_ite (GI mtX6_wetBy 0 M M) (fun h_1 => ?_) (fun h_1 => ?_)
    · refine r_icmp_ge_t MF.bs (tgt := 39) dX6_wetBy_7 (by decide) h_1 ?_
      refine r_iload_n MF.bs dX6_wetBy_39 rfl 2 rfl ?_
      exact r_iret dX6_wetBy_40 rfl
    · have hp := hp h_1
      refine r_icmp_ge_f MF.bs (tgt := 39) dX6_wetBy_7 (by decide) h_1 ?_
      obtain ⟨hq_2, hp⟩ := hp
      refine r_iload_n MF.bs dX6_wetBy_10 rfl 2 rfl ?_
      refine r_aload_n MF.bs dX6_wetBy_11 rfl 0 rfl ?_
      refine r_getR MF.bs dX6_wetBy_12 rfl rfl 0 (by decide) wd_875 rfl ?_
      refine r_bipush MF.bs dX6_wetBy_15 (v := 8) (by decide) ?_
      refine r_iload_n MF.bs dX6_wetBy_17 rfl 3 rfl ?_
      refine r_iadd MF.bs dX6_wetBy_18 ?_
      refine r_iaload MF.bs dX6_wetBy_19 rfl hq_2 ?_
      refine r_iload_n MF.bs dX6_wetBy_20 rfl 1 rfl ?_
      refine r_ite (GI mtX6_wetBy 0 M M) (fun h_3 => ?_) (fun h_3 => ?_)
      · have hp := hp.1 h_3
        refine r_icmp_lt_t MF.bs (tgt := 30) dX6_wetBy_21 (by decide) h_3 ?_
        refine r_iconst MF.bs dX6_wetBy_30 (v := 0) (by decide) ?_
        refine r_sub [(0, .ref 46), (1, .int v1), (3, .int v3)] [0, 1, 3] rfl ?_
        exact cX6_wetBy_31 (mX6_wetBy_4 n) (PX6_wetBy_4 n) ih v1 v3 0 v2 M hp
      · have hp := hp.2 h_3
        refine r_icmp_lt_f MF.bs (tgt := 30) dX6_wetBy_21 (by decide) h_3 ?_
        refine r_iconst MF.bs dX6_wetBy_24 (v := 1) (by decide) ?_
        refine r_iload_n MF.bs dX6_wetBy_25 rfl 3 rfl ?_
        refine r_ishl MF.bs dX6_wetBy_26 ?_
        refine r_goto MF.bs dX6_wetBy_27 (tgt := 31) (by decide) ?_
        refine r_sub [(0, .ref 46), (1, .int v1), (3, .int v3)] [0, 1, 3] rfl ?_
        exact cX6_wetBy_31 (mX6_wetBy_4 n) (PX6_wetBy_4 n) ih v1 v3 (1 <<< (v3 &&& 31)) v2 M hp
def mX6_wetBy  (a1 : Int32) (M : Mem) : Int32 := (mX6_wetBy_4 400 a1 0 0 M)
def PX6_wetBy  (a1 : Int32) (M : Mem) : Prop := PX6_wetBy_4 400 a1 0 0 M
set_option maxRecDepth 100000 in
theorem ctX6_wetBy   (a1 : Int32) (M : Mem) (hp : PX6_wetBy a1 M) : CT mtX6_wetBy 0 [.ref 46, .int a1] M (some (.int (mX6_wetBy a1 M)), M) := by
  refine CT.of (by decide) rfl (Nat.le_of_ble_eq_true rfl) ?_
  show AWP (GI mtX6_wetBy 0 M M (mX6_wetBy a1 M)) mtX6_wetBy 0 [(0, .ref 46), (1, .int a1)] [] M
  unfold mX6_wetBy
  unfold PX6_wetBy at hp
  refine r_iconst MF.bs dX6_wetBy_0 (v := 0) (by decide) ?_
  refine r_istore_n MF.bs (lv' := [(2, .int 0), (0, .ref 46), (1, .int a1)]) dX6_wetBy_1 rfl (by decide) rfl ?_
  refine r_iconst MF.bs dX6_wetBy_2 (v := 0) (by decide) ?_
  refine r_istore_n MF.bs (lv' := [(3, .int 0), (2, .int 0), (0, .ref 46), (1, .int a1)]) dX6_wetBy_3 rfl (by decide) rfl ?_
  refine r_sub [(0, .ref 46), (1, .int a1), (2, .int 0), (3, .int 0)] [2, 3, 1, 0] rfl ?_
  exact cX6_wetBy_4 400 a1 0 0 M hp
abbrev mtX6_wetOfAll : MT := (RX6, yX6_wetOfAll, cX6_wetOfAll, 3, (some .int))
theorem miX6_wetOfAll : MV mtX6_wetOfAll 0 := ⟨wd_1179, ⟨wd_1178, wd_57⟩, wd_86, ⟨by decide, by decide, by decide +kernel⟩, by decide⟩
def mX6_wetOfAll_4   : Nat → Int32 → Int32 → Mem → Int32
  | 0, _, _, _ => 0
  | n + 1, v1, v2, M => (if 16 ≤ v2 then v1 else (mX6_wetOfAll_4 n (v1 + (M 47 (8 + v2).toNatClampNeg)) (v2 + 1) M))
def PX6_wetOfAll_4   : Nat → Int32 → Int32 → Mem → Prop
  | 0, _, _, _ => False
  | n + 1, v1, v2, M => (¬ 16 ≤ v2 → vp_in (8 + v2) 56 ∧ (PX6_wetOfAll_4 n (v1 + (M 47 (8 + v2).toNatClampNeg)) (v2 + 1) M))
set_option maxRecDepth 100000 in
theorem cX6_wetOfAll_4    : ∀ (n : Nat) (v1 : Int32) (v2 : Int32) (M : Mem), PX6_wetOfAll_4 n v1 v2 M → AWP (GI mtX6_wetOfAll 0 M M (mX6_wetOfAll_4 n v1 v2 M)) mtX6_wetOfAll 4 [(0, .ref 46), (1, .int v1), (2, .int v2)] [] M := by
  intro n
  induction n with
  | zero =>
    intro v1 v2 M hp
    exact hp.elim
  | succ n ih =>
    intro v1 v2 M hp
    rw [mX6_wetOfAll_4]
    rw [PX6_wetOfAll_4] at hp
    refine r_iload_n MF.bs dX6_wetOfAll_4 rfl 2 rfl ?_
    refine r_bipush MF.bs dX6_wetOfAll_5 (v := 16) (by decide) ?_
    refine r_ite (GI mtX6_wetOfAll 0 M M) (fun h_1 => ?_) (fun h_1 => ?_)
    · refine r_icmp_ge_t MF.bs (tgt := 28) dX6_wetOfAll_7 (by decide) h_1 ?_
      refine r_iload_n MF.bs dX6_wetOfAll_28 rfl 1 rfl ?_
      exact r_iret dX6_wetOfAll_29 rfl
    · have hp := hp h_1
      refine r_icmp_ge_f MF.bs (tgt := 28) dX6_wetOfAll_7 (by decide) h_1 ?_
      obtain ⟨hq_2, hp⟩ := hp
      refine r_iload_n MF.bs dX6_wetOfAll_10 rfl 1 rfl ?_
      refine r_aload_n MF.bs dX6_wetOfAll_11 rfl 0 rfl ?_
      refine r_getR MF.bs dX6_wetOfAll_12 rfl rfl 0 (by decide) wd_875 rfl ?_
      refine r_bipush MF.bs dX6_wetOfAll_15 (v := 8) (by decide) ?_
      refine r_iload_n MF.bs dX6_wetOfAll_17 rfl 2 rfl ?_
      refine r_iadd MF.bs dX6_wetOfAll_18 ?_
      refine r_iaload MF.bs dX6_wetOfAll_19 rfl hq_2 ?_
      refine r_iadd MF.bs dX6_wetOfAll_20 ?_
      refine r_istore_n MF.bs (lv' := [(1, .int (v1 + (M 47 (8 + v2).toNatClampNeg))), (0, .ref 46), (2, .int v2)]) dX6_wetOfAll_21 rfl (by decide) rfl ?_
      refine r_iinc MF.bs (v := (v2 + 1)) (lv' := [(2, .int (v2 + 1)), (1, .int (v1 + (M 47 (8 + v2).toNatClampNeg))), (0, .ref 46)]) dX6_wetOfAll_22 2 rfl rfl (by decide) rfl ?_
      refine r_goto MF.bs dX6_wetOfAll_25 (tgt := 4) (by decide) ?_
      refine r_sub [(0, .ref 46), (1, .int (v1 + (M 47 (8 + v2).toNatClampNeg))), (2, .int (v2 + 1))] [2, 1, 0] rfl ?_
      exact ih (v1 + (M 47 (8 + v2).toNatClampNeg)) (v2 + 1) M hp
def mX6_wetOfAll  (M : Mem) : Int32 := (mX6_wetOfAll_4 400 0 0 M)
def PX6_wetOfAll  (M : Mem) : Prop := PX6_wetOfAll_4 400 0 0 M
set_option maxRecDepth 100000 in
theorem ctX6_wetOfAll   (M : Mem) (hp : PX6_wetOfAll M) : CT mtX6_wetOfAll 0 [.ref 46] M (some (.int (mX6_wetOfAll M)), M) := by
  refine CT.of (by decide) rfl (Nat.le_of_ble_eq_true rfl) ?_
  show AWP (GI mtX6_wetOfAll 0 M M (mX6_wetOfAll M)) mtX6_wetOfAll 0 [(0, .ref 46)] [] M
  unfold mX6_wetOfAll
  unfold PX6_wetOfAll at hp
  refine r_iconst MF.bs dX6_wetOfAll_0 (v := 0) (by decide) ?_
  refine r_istore_n MF.bs (lv' := [(1, .int 0), (0, .ref 46)]) dX6_wetOfAll_1 rfl (by decide) rfl ?_
  refine r_iconst MF.bs dX6_wetOfAll_2 (v := 0) (by decide) ?_
  refine r_istore_n MF.bs (lv' := [(2, .int 0), (1, .int 0), (0, .ref 46)]) dX6_wetOfAll_3 rfl (by decide) rfl ?_
  refine r_sub [(0, .ref 46), (1, .int 0), (2, .int 0)] [2, 1, 0] rfl ?_
  exact cX6_wetOfAll_4 400 0 0 M hp
abbrev mtX6_state : MT := (RX6, yX6_state, cX6_state, 2, (some .int))
theorem miX6_state : MV mtX6_state 1 := ⟨wd_1175, ⟨wd_1173, wd_1174⟩, wd_86, ⟨by decide, by decide, by decide +kernel⟩, by decide⟩
def mX6_state  (a1 : Int32) (M : Mem) : Int32 := (if a1 = 0 then (M 47 1) else (if a1 = 1 then (M 47 3) else (if a1 = 2 then (mX6_wetOfAll M) else (if a1 = 3 then (mX6_housesInUse M) else (if a1 = 4 then (mX6_stopped M) else (if a1 = 5 then (mX6_wetBy (M 47 5) M) else (-1)))))))
def PX6_state  (a1 : Int32) (M : Mem) : Prop := (¬ a1 = 0 → (¬ a1 = 1 → ((a1 = 2 → PX6_wetOfAll M) ∧ (¬ a1 = 2 → ((a1 = 3 → PX6_housesInUse M) ∧ (¬ a1 = 3 → ((a1 = 4 → PX6_stopped M) ∧ (¬ a1 = 4 → (a1 = 5 → PX6_wetBy (M 47 5) M)))))))))
set_option maxRecDepth 100000 in
theorem ctX6_state   (a1 : Int32) (M : Mem) (hp : PX6_state a1 M) : CT mtX6_state 2 [.ref 46, .int a1] M (some (.int (mX6_state a1 M)), M) := by
  refine CT.of (by decide) rfl (Nat.le_of_ble_eq_true rfl) ?_
  show AWP (GI mtX6_state 2 M M (mX6_state a1 M)) mtX6_state 0 [(0, .ref 46), (1, .int a1)] [] M
  unfold mX6_state
  unfold PX6_state at hp
  refine r_iload_n MF.bs dX6_state_0 rfl 1 rfl ?_
  refine r_ite (GI mtX6_state 2 M M) (fun h_1 => ?_) (fun h_1 => ?_)
  · refine r_tsw_in MF.bs (tgt := 40) dX6_state_1 h_1 (by decide) (by decide) rfl (by decide) ?_
    refine r_aload_n MF.bs dX6_state_40 rfl 0 rfl ?_
    refine r_getR MF.bs dX6_state_41 rfl rfl 0 (by decide) wd_875 rfl ?_
    refine r_iconst MF.bs dX6_state_44 (v := 1) (by decide) ?_
    refine r_ialoadL MF.bs dX6_state_45 rfl (vin_l (by decide) (by decide)) (k9 := 1) (by decide) ?_
    exact r_iret dX6_state_46 rfl
  · have hp := hp h_1
    refine r_ite (GI mtX6_state 2 M M) (fun h_2 => ?_) (fun h_2 => ?_)
    · refine r_tsw_in MF.bs (tgt := 47) dX6_state_1 h_2 (by decide) (by decide) rfl (by decide) ?_
      refine r_aload_n MF.bs dX6_state_47 rfl 0 rfl ?_
      refine r_getR MF.bs dX6_state_48 rfl rfl 0 (by decide) wd_875 rfl ?_
      refine r_iconst MF.bs dX6_state_51 (v := 3) (by decide) ?_
      refine r_ialoadL MF.bs dX6_state_52 rfl (vin_l (by decide) (by decide)) (k9 := 3) (by decide) ?_
      exact r_iret dX6_state_53 rfl
    · have hp := hp h_2
      refine r_ite (GI mtX6_state 2 M M) (fun h_3 => ?_) (fun h_3 => ?_)
      · have hp := hp.1 h_3
        refine r_tsw_in MF.bs (tgt := 54) dX6_state_1 h_3 (by decide) (by decide) rfl (by decide) ?_
        have hq_4 := hp
        refine r_aload_n MF.bs dX6_state_54 rfl 0 rfl ?_
        refine r_callV_v MF.bs (st := []) dX6_state_55 (ctX6_wetOfAll M hq_4) miX6_wetOfAll wd_1176 rfl (by decide) rfl (Nat.le_of_ble_eq_true rfl) rfl rfl rfl ?_
        exact r_iret dX6_state_58 rfl
      · have hp := hp.2 h_3
        refine r_ite (GI mtX6_state 2 M M) (fun h_5 => ?_) (fun h_5 => ?_)
        · have hp := hp.1 h_5
          refine r_tsw_in MF.bs (tgt := 59) dX6_state_1 h_5 (by decide) (by decide) rfl (by decide) ?_
          have hq_6 := hp
          refine r_aload_n MF.bs dX6_state_59 rfl 0 rfl ?_
          refine r_callV_v MF.bs (st := []) dX6_state_60 (ctX6_housesInUse M hq_6) miX6_housesInUse wd_1180 rfl (by decide) rfl (Nat.le_of_ble_eq_true rfl) rfl rfl rfl ?_
          exact r_iret dX6_state_63 rfl
        · have hp := hp.2 h_5
          refine r_ite (GI mtX6_state 2 M M) (fun h_7 => ?_) (fun h_7 => ?_)
          · have hp := hp.1 h_7
            refine r_tsw_in MF.bs (tgt := 64) dX6_state_1 h_7 (by decide) (by decide) rfl (by decide) ?_
            have hq_8 := hp
            refine r_aload_n MF.bs dX6_state_64 rfl 0 rfl ?_
            refine r_callV_v MF.bs (st := []) dX6_state_65 (ctX6_stopped M hq_8) miX6_stopped wd_1146 rfl (by decide) rfl (Nat.le_of_ble_eq_true rfl) rfl rfl rfl ?_
            exact r_iret dX6_state_68 rfl
          · have hp := hp.2 h_7
            refine r_ite (GI mtX6_state 2 M M) (fun h_9 => ?_) (fun h_9 => ?_)
            · have hp := hp h_9
              refine r_tsw_in MF.bs (tgt := 69) dX6_state_1 h_9 (by decide) (by decide) rfl (by decide) ?_
              have hq_10 := hp
              refine r_aload_n MF.bs dX6_state_69 rfl 0 rfl ?_
              refine r_aload_n MF.bs dX6_state_70 rfl 0 rfl ?_
              refine r_getR MF.bs dX6_state_71 rfl rfl 0 (by decide) wd_875 rfl ?_
              refine r_iconst MF.bs dX6_state_74 (v := 5) (by decide) ?_
              refine r_ialoadL MF.bs dX6_state_75 rfl (vin_l (by decide) (by decide)) (k9 := 5) (by decide) ?_
              refine r_callV_v MF.bs (st := []) dX6_state_76 (ctX6_wetBy (M 47 5) M hq_10) miX6_wetBy wd_1184 rfl (by decide) rfl (Nat.le_of_ble_eq_true rfl) rfl rfl rfl ?_
              exact r_iret dX6_state_79 rfl
            · refine r_tsw_out MF.bs (tgt := 80) dX6_state_1 (by have e0 := lv_neT (a := 0) h_1 (by decide); have e1 := lv_neT (a := 1) h_2 (by decide); have e2 := lv_neT (a := 2) h_3 (by decide); have e3 := lv_neT (a := 3) h_5 (by decide); have e4 := lv_neT (a := 4) h_7 (by decide); have e5 := lv_neT (a := 5) h_9 (by decide); omega) (by decide) ?_
              refine r_iconst MF.bs dX6_state_80 (v := -1) (by decide) ?_
              exact r_iret dX6_state_81 rfl
abbrev mtX6_whereBehind : MT := (RX6, yX6_whereBehind, cX6_whereBehind, 4, (some .int))
theorem miX6_whereBehind : MV mtX6_whereBehind 2 := ⟨wd_1195, ⟨wd_1194, wd_60⟩, wd_86, ⟨by decide, by decide, by decide +kernel⟩, by decide⟩
def mX6_whereBehind_16   (v1 : Int32) (M : Mem) : Int32 × Mem := ((mX6_its v1 3 M), (mX6_copyRow 49 56 47 56 M))
def PX6_whereBehind_16   (v1 : Int32) (M : Mem) : Prop := PX6_its v1 3 M ∧ (PX6_copyRow 49 56 47 56 M)
set_option maxRecDepth 100000 in
theorem cX6_whereBehind_16    (M0 : Mem) (v1 : Int32) (M : Mem) (hp : PX6_whereBehind_16 v1 M) : AWP (GIM mtX6_whereBehind 5 M0 (mX6_whereBehind_16 v1 M)) mtX6_whereBehind 16 [(0, .ref 46), (1, .int v1)] [] M := by
  unfold mX6_whereBehind_16
  unfold PX6_whereBehind_16 at hp
  obtain ⟨hq_3, hp⟩ := hp
  have hq_4 := hp
  refine r_aload_n MF.bs dX6_whereBehind_16 rfl 0 rfl ?_
  refine r_iload_n MF.bs dX6_whereBehind_17 rfl 1 rfl ?_
  refine r_iconst MF.bs dX6_whereBehind_18 (v := 3) (by decide) ?_
  refine r_callV_v MF.bs (st := []) dX6_whereBehind_19 (ctX6_its v1 3 M hq_3) miX6_its wd_1083 rfl (by decide) rfl (Nat.le_of_ble_eq_true rfl) rfl rfl rfl ?_
  refine r_istore_n MF.bs (lv' := [(3, .int (mX6_its v1 3 M)), (0, .ref 46), (1, .int v1)]) dX6_whereBehind_22 rfl (by decide) rfl ?_
  refine r_aload_n MF.bs dX6_whereBehind_23 rfl 1 rfl ?_
  refine r_getR MF.bs dX6_whereBehind_24 rfl rfl 2 (by decide) wd_877 rfl ?_
  refine r_aload_n MF.bs dX6_whereBehind_27 rfl 1 rfl ?_
  refine r_getR MF.bs dX6_whereBehind_28 rfl rfl 0 (by decide) wd_875 rfl ?_
  refine r_callS_n MF.bs (st := []) dX6_whereBehind_31 (ctX6_copyRow 49 56 47 56 rfl rfl M hq_4) miX6_copyRow wd_979 rfl (by decide) rfl (Nat.le_of_ble_eq_true rfl) ?_
  refine r_iload_n MF.bs dX6_whereBehind_34 rfl 0 rfl ?_
  exact r_iret dX6_whereBehind_35 rfl
def mX6_whereBehind_11   (v1 : Int32) (v2 : Int32) (M : Mem) : Int32 × Mem := (mX6_whereBehind_16 v1 (mX6_goes v2 M))
def PX6_whereBehind_11   (v1 : Int32) (v2 : Int32) (M : Mem) : Prop := PX6_goes v2 M ∧ (PX6_whereBehind_16 v1 (mX6_goes v2 M))
set_option maxRecDepth 100000 in
theorem cX6_whereBehind_11    (M0 : Mem) (v1 : Int32) (v2 : Int32) (M : Mem) (hp : PX6_whereBehind_11 v1 v2 M) : AWP (GIM mtX6_whereBehind 5 M0 (mX6_whereBehind_11 v1 v2 M)) mtX6_whereBehind 11 [(0, .ref 46), (1, .int v1), (2, .int v2)] [] M := by
  unfold mX6_whereBehind_11
  unfold PX6_whereBehind_11 at hp
  obtain ⟨hq_2, hp⟩ := hp
  refine r_aload_n MF.bs dX6_whereBehind_11 rfl 0 rfl ?_
  refine r_iload_n MF.bs dX6_whereBehind_12 rfl 2 rfl ?_
  refine r_callV_n MF.bs (st := []) dX6_whereBehind_13 (ctX6_goes v2 M hq_2) miX6_goes wd_1135 rfl (by decide) rfl (Nat.le_of_ble_eq_true rfl) rfl rfl rfl ?_
  refine r_sub [(0, .ref 46), (1, .int v1)] [0, 1] rfl ?_
  exact cX6_whereBehind_16 M0 v1 (mX6_goes v2 M) hp
def mX6_whereBehind  (a1 : Int32) (a2 : Int32) (M : Mem) : Int32 × Mem := (mX6_whereBehind_11 a1 a2 (mX6_copyRow 47 56 49 56 M))
def PX6_whereBehind  (a1 : Int32) (a2 : Int32) (M : Mem) : Prop := PX6_copyRow 47 56 49 56 M ∧ (PX6_whereBehind_11 a1 a2 (mX6_copyRow 47 56 49 56 M))
set_option maxRecDepth 100000 in
theorem ctX6_whereBehind   (a1 : Int32) (a2 : Int32) (M : Mem) (hp : PX6_whereBehind a1 a2 M) : CT mtX6_whereBehind 5 [.ref 46, .int a1, .int a2] M (some (.int ((mX6_whereBehind a1 a2 M).1)), (mX6_whereBehind a1 a2 M).2) := by
  refine CT.of (by decide) rfl (Nat.le_of_ble_eq_true rfl) ?_
  show AWP (GIM mtX6_whereBehind 5 M (mX6_whereBehind a1 a2 M)) mtX6_whereBehind 0 [(0, .ref 46), (1, .int a1), (2, .int a2)] [] M
  unfold mX6_whereBehind
  unfold PX6_whereBehind at hp
  obtain ⟨hq_1, hp⟩ := hp
  refine r_aload_n MF.bs dX6_whereBehind_0 rfl 0 rfl ?_
  refine r_getR MF.bs dX6_whereBehind_1 rfl rfl 0 (by decide) wd_875 rfl ?_
  refine r_aload_n MF.bs dX6_whereBehind_4 rfl 0 rfl ?_
  refine r_getR MF.bs dX6_whereBehind_5 rfl rfl 2 (by decide) wd_877 rfl ?_
  refine r_callS_n MF.bs (st := []) dX6_whereBehind_8 (ctX6_copyRow 47 56 49 56 rfl rfl M hq_1) miX6_copyRow wd_979 rfl (by decide) rfl (Nat.le_of_ble_eq_true rfl) ?_
  exact cX6_whereBehind_11 M a1 a2 (mX6_copyRow 47 56 49 56 M) hp
abbrev mtX6_where : MT := (RX6, yX6_where, cX6_where, 3, (some .int))
theorem miX6_where : MV mtX6_where 2 := ⟨wd_1191, ⟨wd_1189, wd_1190⟩, wd_86, ⟨by decide, by decide, by decide +kernel⟩, by decide⟩
def mX6_where_26   (k0 : Int32) (M : Mem) : Int32 × Mem := (k0, M)
def PX6_where_26   (k0 : Int32) (M : Mem) : Prop := True
set_option maxRecDepth 100000 in
theorem cX6_where_26    (M0 : Mem) (k0 : Int32) (M : Mem) (hp : PX6_where_26 k0 M) : AWP (GIM mtX6_where 6 M0 (mX6_where_26 k0 M)) mtX6_where 26 [] [.int k0] M := by
  unfold mX6_where_26
  unfold PX6_where_26 at hp
  refine r_goto MF.bs dX6_where_26 (tgt := 30) (by decide) ?_
  exact r_iret dX6_where_30 rfl
def mX6_where  (a1 : Int32) (a2 : Int32) (M : Mem) : Int32 × Mem := (if (mX6_isOne a1 M) = true then (if (mX6_isIn ((a2 : Int32).toInt64) 0 60) = true then (mX6_where_26 ((mX6_whereBehind a1 a2 M).1) ((mX6_whereBehind a1 a2 M).2)) else ((-1), M)) else ((-1), M))
def PX6_where  (a1 : Int32) (a2 : Int32) (M : Mem) : Prop := ((mX6_isOne a1 M) = true → ((mX6_isIn ((a2 : Int32).toInt64) 0 60) = true → PX6_whereBehind a1 a2 M ∧ (PX6_where_26 ((mX6_whereBehind a1 a2 M).1) ((mX6_whereBehind a1 a2 M).2))))
set_option maxRecDepth 100000 in
theorem ctX6_where   (a1 : Int32) (a2 : Int32) (M : Mem) (hp : PX6_where a1 a2 M) : CT mtX6_where 6 [.ref 46, .int a1, .int a2] M (some (.int ((mX6_where a1 a2 M).1)), (mX6_where a1 a2 M).2) := by
  refine CT.of (by decide) rfl (Nat.le_of_ble_eq_true rfl) ?_
  show AWP (GIM mtX6_where 6 M (mX6_where a1 a2 M)) mtX6_where 0 [(0, .ref 46), (1, .int a1), (2, .int a2)] [] M
  unfold mX6_where
  unfold PX6_where at hp
  refine r_aload_n MF.bs dX6_where_0 rfl 0 rfl ?_
  refine r_iload_n MF.bs dX6_where_1 rfl 1 rfl ?_
  refine r_callV_v MF.bs (st := []) dX6_where_2 (ctX6_isOne a1 M) miX6_isOne wd_1079 rfl (by decide) rfl (Nat.le_of_ble_eq_true rfl) rfl rfl rfl ?_
  refine r_ite (GIM mtX6_where 6 M) (fun h_1 => ?_) (fun h_1 => ?_)
  · have hp := hp h_1
    refine r_if_eq_f MF.bs (tgt := 29) dX6_where_5 (by decide) (b2i_1 h_1) ?_
    refine r_iload_n MF.bs dX6_where_8 rfl 2 rfl ?_
    refine r_i2l MF.bs dX6_where_9 ?_
    refine r_lconst MF.bs dX6_where_10 (v := 0) (by decide) ?_
    refine r_ldc2 MF.bs (v := 60) dX6_where_11 wd_1134 ?_
    refine r_callS_v MF.bs (st := []) dX6_where_14 (ctX6_isIn ((a2 : Int32).toInt64) 0 60 M) miX6_isIn wd_971 rfl (by decide) rfl (Nat.le_of_ble_eq_true rfl) ?_
    refine r_ite (GIM mtX6_where 6 M) (fun h_2 => ?_) (fun h_2 => ?_)
    · have hp := hp h_2
      refine r_if_eq_f MF.bs (tgt := 29) dX6_where_17 (by decide) (b2i_1 h_2) ?_
      obtain ⟨hq_3, hp⟩ := hp
      refine r_aload_n MF.bs dX6_where_20 rfl 0 rfl ?_
      refine r_iload_n MF.bs dX6_where_21 rfl 1 rfl ?_
      refine r_iload_n MF.bs dX6_where_22 rfl 2 rfl ?_
      refine r_callV_v MF.bs (st := []) dX6_where_23 (ctX6_whereBehind a1 a2 M hq_3) miX6_whereBehind wd_1192 rfl (by decide) rfl (Nat.le_of_ble_eq_true rfl) rfl rfl rfl ?_
      refine r_sub [] [] rfl ?_
      exact cX6_where_26 M ((mX6_whereBehind a1 a2 M).1) ((mX6_whereBehind a1 a2 M).2) hp
    · refine r_if_eq_t MF.bs (tgt := 29) dX6_where_17 (by decide) (b2i_0 h_2) ?_
      refine r_iconst MF.bs dX6_where_29 (v := -1) (by decide) ?_
      exact r_iret dX6_where_30 rfl
  · refine r_if_eq_t MF.bs (tgt := 29) dX6_where_5 (by decide) (b2i_0 h_1) ?_
    refine r_iconst MF.bs dX6_where_29 (v := -1) (by decide) ?_
    exact r_iret dX6_where_30 rfl
abbrev mtX6_stops : MT := (RX6, yX6_stops, cX6_stops, 3, (some .int))
theorem miX6_stops : MV mtX6_stops 1 := ⟨wd_1199, ⟨wd_1197, wd_1198⟩, wd_86, ⟨by decide, by decide, by decide +kernel⟩, by decide⟩
def mX6_stops_48   (kf23 : Int32 → Int32 → Mem → Int32 × Mem) (v1 : Int32) (v2 : Int32) (M : Mem) : Int32 × Mem := (kf23 v1 (v2 + 1) M)
def PX6_stops_48   (kP23 : Int32 → Int32 → Mem → Prop) (v1 : Int32) (v2 : Int32) (M : Mem) : Prop := kP23 v1 (v2 + 1) M
set_option maxRecDepth 100000 in
theorem cX6_stops_48    (M0 : Mem) (kf23 : Int32 → Int32 → Mem → Int32 × Mem) (kP23 : Int32 → Int32 → Mem → Prop) (hk23 : ∀ (v1 : Int32) (v2 : Int32) (M : Mem), kP23 v1 v2 M → AWP (GIM mtX6_stops 4 M0 (kf23 v1 v2 M)) mtX6_stops 23 [(0, .ref 46), (1, .int v1), (2, .int v2)] [] M) (v1 : Int32) (v2 : Int32) (M : Mem) (hp : PX6_stops_48 kP23 v1 v2 M) : AWP (GIM mtX6_stops 4 M0 (mX6_stops_48 kf23 v1 v2 M)) mtX6_stops 48 [(0, .ref 46), (1, .int v1), (2, .int v2)] [] M := by
  unfold mX6_stops_48
  unfold PX6_stops_48 at hp
  refine r_iinc MF.bs (v := (v2 + 1)) (lv' := [(2, .int (v2 + 1)), (0, .ref 46), (1, .int v1)]) dX6_stops_48 2 rfl rfl (by decide) rfl ?_
  refine r_goto MF.bs dX6_stops_51 (tgt := 23) (by decide) ?_
  refine r_sub [(0, .ref 46), (1, .int v1), (2, .int (v2 + 1))] [1, 2, 0] rfl ?_
  exact hk23 v1 (v2 + 1) M hp
def mX6_stops_65   (v2 : Int32) (M : Mem) : Int32 × Mem := (if 60 < v2 then ((-3), M) else (v2, M))
def PX6_stops_65   (v2 : Int32) (M : Mem) : Prop := True
set_option maxRecDepth 100000 in
theorem cX6_stops_65    (M0 : Mem) (v2 : Int32) (M : Mem) (hp : PX6_stops_65 v2 M) : AWP (GIM mtX6_stops 4 M0 (mX6_stops_65 v2 M)) mtX6_stops 65 [(2, .int v2)] [] M := by
  unfold mX6_stops_65
  unfold PX6_stops_65 at hp
  refine r_iload_n MF.bs dX6_stops_65 rfl 0 rfl ?_
  refine r_bipush MF.bs dX6_stops_66 (v := 60) (by decide) ?_
  refine r_ite (GIM mtX6_stops 4 M0) (fun h_9 => ?_) (fun h_9 => ?_)
  · refine r_icmp_gt_t MF.bs (tgt := 75) dX6_stops_68 (by decide) h_9 ?_
    refine r_bipush MF.bs dX6_stops_75 (v := -3) (by decide) ?_
    exact r_iret dX6_stops_77 rfl
  · refine r_icmp_gt_f MF.bs (tgt := 75) dX6_stops_68 (by decide) h_9 ?_
    refine r_iload_n MF.bs dX6_stops_71 rfl 0 rfl ?_
    refine r_goto MF.bs dX6_stops_72 (tgt := 77) (by decide) ?_
    exact r_iret dX6_stops_77 rfl
def mX6_stops_54   (v2 : Int32) (M : Mem) : Int32 × Mem := (mX6_stops_65 v2 (mX6_copyRow 49 56 47 56 M))
def PX6_stops_54   (v2 : Int32) (M : Mem) : Prop := PX6_copyRow 49 56 47 56 M ∧ (PX6_stops_65 v2 (mX6_copyRow 49 56 47 56 M))
set_option maxRecDepth 100000 in
theorem cX6_stops_54    (M0 : Mem) (v2 : Int32) (M : Mem) (hp : PX6_stops_54 v2 M) : AWP (GIM mtX6_stops 4 M0 (mX6_stops_54 v2 M)) mtX6_stops 54 [(0, .ref 46), (2, .int v2)] [] M := by
  unfold mX6_stops_54
  unfold PX6_stops_54 at hp
  obtain ⟨hq_8, hp⟩ := hp
  refine r_aload_n MF.bs dX6_stops_54 rfl 0 rfl ?_
  refine r_getR MF.bs dX6_stops_55 rfl rfl 2 (by decide) wd_877 rfl ?_
  refine r_aload_n MF.bs dX6_stops_58 rfl 0 rfl ?_
  refine r_getR MF.bs dX6_stops_59 rfl rfl 0 (by decide) wd_875 rfl ?_
  refine r_callS_n MF.bs (st := []) dX6_stops_62 (ctX6_copyRow 49 56 47 56 rfl rfl M hq_8) miX6_copyRow wd_979 rfl (by decide) rfl (Nat.le_of_ble_eq_true rfl) ?_
  refine r_sub [(2, .int v2)] [1] rfl ?_
  exact cX6_stops_65 M0 v2 (mX6_copyRow 49 56 47 56 M) hp
def mX6_stops_23   : Nat → Int32 → Int32 → Mem → Int32 × Mem
  | 0, _, _, M => (0, M)
  | n + 1, v1, v2, M => (if 60 < v2 then (mX6_stops_54 v2 M) else (if (mX6_its v1 3 M) = (mX6_its v1 2 M) then (mX6_stops_54 v2 M) else (mX6_stops_48 (mX6_stops_23 n) v1 v2 (mX6_goesOn M))))
def PX6_stops_23   : Nat → Int32 → Int32 → Mem → Prop
  | 0, _, _, _ => False
  | n + 1, v1, v2, M => ((60 < v2 → PX6_stops_54 v2 M) ∧ (¬ 60 < v2 → PX6_its v1 3 M ∧ (PX6_its v1 2 M ∧ ((((mX6_its v1 3 M) = (mX6_its v1 2 M) → PX6_stops_54 v2 M) ∧ (¬ (mX6_its v1 3 M) = (mX6_its v1 2 M) → PX6_goesOn M ∧ (PX6_stops_48 (PX6_stops_23 n) v1 v2 (mX6_goesOn M))))))))
set_option maxRecDepth 100000 in
theorem cX6_stops_23    (M0 : Mem) : ∀ (n : Nat) (v1 : Int32) (v2 : Int32) (M : Mem), PX6_stops_23 n v1 v2 M → AWP (GIM mtX6_stops 4 M0 (mX6_stops_23 n v1 v2 M)) mtX6_stops 23 [(0, .ref 46), (1, .int v1), (2, .int v2)] [] M := by
  intro n
  induction n with
  | zero =>
    intro v1 v2 M hp
    exact hp.elim
  | succ n ih =>
    intro v1 v2 M hp
    rw [mX6_stops_23]
    rw [PX6_stops_23] at hp
    refine r_iload_n MF.bs dX6_stops_23 rfl 2 rfl ?_
    refine r_bipush MF.bs dX6_stops_24 (v := 60) (by decide) ?_
    refine r_ite (GIM mtX6_stops 4 M0) (fun h_3 => ?_) (fun h_3 => ?_)
    · have hp := hp.1 h_3
      refine r_icmp_gt_t MF.bs (tgt := 54) dX6_stops_26 (by decide) h_3 ?_
      refine r_sub [(0, .ref 46), (2, .int v2)] [0, 2] rfl ?_
      exact cX6_stops_54 M0 v2 M hp
    · have hp := hp.2 h_3
      refine r_icmp_gt_f MF.bs (tgt := 54) dX6_stops_26 (by decide) h_3 ?_
      obtain ⟨hq_4, hp⟩ := hp
      obtain ⟨hq_5, hp⟩ := hp
      refine r_aload_n MF.bs dX6_stops_29 rfl 0 rfl ?_
      refine r_iload_n MF.bs dX6_stops_30 rfl 1 rfl ?_
      refine r_iconst MF.bs dX6_stops_31 (v := 3) (by decide) ?_
      refine r_callV_v MF.bs (st := []) dX6_stops_32 (ctX6_its v1 3 M hq_4) miX6_its wd_1083 rfl (by decide) rfl (Nat.le_of_ble_eq_true rfl) rfl rfl rfl ?_
      refine r_aload_n MF.bs dX6_stops_35 rfl 0 rfl ?_
      refine r_iload_n MF.bs dX6_stops_36 rfl 1 rfl ?_
      refine r_iconst MF.bs dX6_stops_37 (v := 2) (by decide) ?_
      refine r_callV_v MF.bs (st := [.int (mX6_its v1 3 M)]) dX6_stops_38 (ctX6_its v1 2 M hq_5) miX6_its wd_1083 rfl (by decide) rfl (Nat.le_of_ble_eq_true rfl) rfl rfl rfl ?_
      refine r_ite (GIM mtX6_stops 4 M0) (fun h_6 => ?_) (fun h_6 => ?_)
      · have hp := hp.1 h_6
        refine r_icmp_eq_t MF.bs (tgt := 54) dX6_stops_41 (by decide) h_6 ?_
        refine r_sub [(0, .ref 46), (2, .int v2)] [0, 2] rfl ?_
        exact cX6_stops_54 M0 v2 M hp
      · have hp := hp.2 h_6
        refine r_icmp_eq_f MF.bs (tgt := 54) dX6_stops_41 (by decide) h_6 ?_
        obtain ⟨hq_7, hp⟩ := hp
        refine r_aload_n MF.bs dX6_stops_44 rfl 0 rfl ?_
        refine r_callV_n MF.bs (st := []) dX6_stops_45 (ctX6_goesOn M hq_7) miX6_goesOn wd_1139 rfl (by decide) rfl (Nat.le_of_ble_eq_true rfl) rfl rfl rfl ?_
        exact cX6_stops_48 M0 (mX6_stops_23 n) (PX6_stops_23 n) ih v1 v2 (mX6_goesOn M) hp
def mX6_stops_21   (v1 : Int32) (M : Mem) : Int32 × Mem := (mX6_stops_23 400 v1 0 M)
def PX6_stops_21   (v1 : Int32) (M : Mem) : Prop := PX6_stops_23 400 v1 0 M
set_option maxRecDepth 100000 in
theorem cX6_stops_21    (M0 : Mem) (v1 : Int32) (M : Mem) (hp : PX6_stops_21 v1 M) : AWP (GIM mtX6_stops 4 M0 (mX6_stops_21 v1 M)) mtX6_stops 21 [(0, .ref 46), (1, .int v1)] [] M := by
  unfold mX6_stops_21
  unfold PX6_stops_21 at hp
  refine r_iconst MF.bs dX6_stops_21 (v := 0) (by decide) ?_
  refine r_istore_n MF.bs (lv' := [(2, .int 0), (0, .ref 46), (1, .int v1)]) dX6_stops_22 rfl (by decide) rfl ?_
  refine r_sub [(0, .ref 46), (1, .int v1), (2, .int 0)] [1, 2, 0] rfl ?_
  exact cX6_stops_23 M0 400 v1 0 M hp
def mX6_stops  (a1 : Int32) (M : Mem) : Int32 × Mem := (if (mX6_isOne a1 M) = true then (mX6_stops_21 a1 (mX6_copyRow 47 56 49 56 M)) else ((-1), M))
def PX6_stops  (a1 : Int32) (M : Mem) : Prop := ((mX6_isOne a1 M) = true → PX6_copyRow 47 56 49 56 M ∧ (PX6_stops_21 a1 (mX6_copyRow 47 56 49 56 M)))
set_option maxRecDepth 100000 in
theorem ctX6_stops   (a1 : Int32) (M : Mem) (hp : PX6_stops a1 M) : CT mtX6_stops 4 [.ref 46, .int a1] M (some (.int ((mX6_stops a1 M).1)), (mX6_stops a1 M).2) := by
  refine CT.of (by decide) rfl (Nat.le_of_ble_eq_true rfl) ?_
  show AWP (GIM mtX6_stops 4 M (mX6_stops a1 M)) mtX6_stops 0 [(0, .ref 46), (1, .int a1)] [] M
  unfold mX6_stops
  unfold PX6_stops at hp
  refine r_aload_n MF.bs dX6_stops_0 rfl 0 rfl ?_
  refine r_iload_n MF.bs dX6_stops_1 rfl 1 rfl ?_
  refine r_callV_v MF.bs (st := []) dX6_stops_2 (ctX6_isOne a1 M) miX6_isOne wd_1079 rfl (by decide) rfl (Nat.le_of_ble_eq_true rfl) rfl rfl rfl ?_
  refine r_ite (GIM mtX6_stops 4 M) (fun h_1 => ?_) (fun h_1 => ?_)
  · have hp := hp h_1
    refine r_if_ne_t MF.bs (tgt := 10) dX6_stops_5 (by decide) (b2i_1 h_1) ?_
    obtain ⟨hq_2, hp⟩ := hp
    refine r_aload_n MF.bs dX6_stops_10 rfl 0 rfl ?_
    refine r_getR MF.bs dX6_stops_11 rfl rfl 0 (by decide) wd_875 rfl ?_
    refine r_aload_n MF.bs dX6_stops_14 rfl 0 rfl ?_
    refine r_getR MF.bs dX6_stops_15 rfl rfl 2 (by decide) wd_877 rfl ?_
    refine r_callS_n MF.bs (st := []) dX6_stops_18 (ctX6_copyRow 47 56 49 56 rfl rfl M hq_2) miX6_copyRow wd_979 rfl (by decide) rfl (Nat.le_of_ble_eq_true rfl) ?_
    exact cX6_stops_21 M a1 (mX6_copyRow 47 56 49 56 M) hp
  · refine r_if_ne_f MF.bs (tgt := 10) dX6_stops_5 (by decide) (b2i_0 h_1) ?_
    refine r_iconst MF.bs dX6_stops_8 (v := -1) (by decide) ?_
    exact r_iret dX6_stops_9 rfl
abbrev mtX6_meets : MT := (RX6, yX6_meets, cX6_meets, 4, (some .int))
theorem miX6_meets : MV mtX6_meets 2 := ⟨wd_1203, ⟨wd_1201, wd_1202⟩, wd_86, ⟨by decide, by decide, by decide +kernel⟩, by decide⟩
def mX6_meets_61   (kf36 : Int32 → Int32 → Int32 → Mem → Int32 × Mem) (v1 : Int32) (v2 : Int32) (v3 : Int32) (M : Mem) : Int32 × Mem := (kf36 v1 v2 (v3 + 1) M)
def PX6_meets_61   (kP36 : Int32 → Int32 → Int32 → Mem → Prop) (v1 : Int32) (v2 : Int32) (v3 : Int32) (M : Mem) : Prop := kP36 v1 v2 (v3 + 1) M
set_option maxRecDepth 100000 in
theorem cX6_meets_61    (M0 : Mem) (kf36 : Int32 → Int32 → Int32 → Mem → Int32 × Mem) (kP36 : Int32 → Int32 → Int32 → Mem → Prop) (hk36 : ∀ (v1 : Int32) (v2 : Int32) (v3 : Int32) (M : Mem), kP36 v1 v2 v3 M → AWP (GIM mtX6_meets 4 M0 (kf36 v1 v2 v3 M)) mtX6_meets 36 [(0, .ref 46), (1, .int v1), (2, .int v2), (3, .int v3)] [] M) (v1 : Int32) (v2 : Int32) (v3 : Int32) (M : Mem) (hp : PX6_meets_61 kP36 v1 v2 v3 M) : AWP (GIM mtX6_meets 4 M0 (mX6_meets_61 kf36 v1 v2 v3 M)) mtX6_meets 61 [(0, .ref 46), (1, .int v1), (2, .int v2), (3, .int v3)] [] M := by
  unfold mX6_meets_61
  unfold PX6_meets_61 at hp
  refine r_iinc MF.bs (v := (v3 + 1)) (lv' := [(3, .int (v3 + 1)), (0, .ref 46), (1, .int v1), (2, .int v2)]) dX6_meets_61 3 rfl rfl (by decide) rfl ?_
  refine r_goto MF.bs dX6_meets_64 (tgt := 36) (by decide) ?_
  refine r_sub [(0, .ref 46), (1, .int v1), (2, .int v2), (3, .int (v3 + 1))] [1, 2, 3, 0] rfl ?_
  exact hk36 v1 v2 (v3 + 1) M hp
def mX6_meets_78   (v3 : Int32) (M : Mem) : Int32 × Mem := (if 60 < v3 then ((-3), M) else (v3, M))
def PX6_meets_78   (v3 : Int32) (M : Mem) : Prop := True
set_option maxRecDepth 100000 in
theorem cX6_meets_78    (M0 : Mem) (v3 : Int32) (M : Mem) (hp : PX6_meets_78 v3 M) : AWP (GIM mtX6_meets 4 M0 (mX6_meets_78 v3 M)) mtX6_meets 78 [(3, .int v3)] [] M := by
  unfold mX6_meets_78
  unfold PX6_meets_78 at hp
  refine r_iload_n MF.bs dX6_meets_78 rfl 0 rfl ?_
  refine r_bipush MF.bs dX6_meets_79 (v := 60) (by decide) ?_
  refine r_ite (GIM mtX6_meets 4 M0) (fun h_11 => ?_) (fun h_11 => ?_)
  · refine r_icmp_gt_t MF.bs (tgt := 88) dX6_meets_81 (by decide) h_11 ?_
    refine r_bipush MF.bs dX6_meets_88 (v := -3) (by decide) ?_
    exact r_iret dX6_meets_90 rfl
  · refine r_icmp_gt_f MF.bs (tgt := 88) dX6_meets_81 (by decide) h_11 ?_
    refine r_iload_n MF.bs dX6_meets_84 rfl 0 rfl ?_
    refine r_goto MF.bs dX6_meets_85 (tgt := 90) (by decide) ?_
    exact r_iret dX6_meets_90 rfl
def mX6_meets_67   (v3 : Int32) (M : Mem) : Int32 × Mem := (mX6_meets_78 v3 (mX6_copyRow 49 56 47 56 M))
def PX6_meets_67   (v3 : Int32) (M : Mem) : Prop := PX6_copyRow 49 56 47 56 M ∧ (PX6_meets_78 v3 (mX6_copyRow 49 56 47 56 M))
set_option maxRecDepth 100000 in
theorem cX6_meets_67    (M0 : Mem) (v3 : Int32) (M : Mem) (hp : PX6_meets_67 v3 M) : AWP (GIM mtX6_meets 4 M0 (mX6_meets_67 v3 M)) mtX6_meets 67 [(0, .ref 46), (3, .int v3)] [] M := by
  unfold mX6_meets_67
  unfold PX6_meets_67 at hp
  obtain ⟨hq_10, hp⟩ := hp
  refine r_aload_n MF.bs dX6_meets_67 rfl 0 rfl ?_
  refine r_getR MF.bs dX6_meets_68 rfl rfl 2 (by decide) wd_877 rfl ?_
  refine r_aload_n MF.bs dX6_meets_71 rfl 0 rfl ?_
  refine r_getR MF.bs dX6_meets_72 rfl rfl 0 (by decide) wd_875 rfl ?_
  refine r_callS_n MF.bs (st := []) dX6_meets_75 (ctX6_copyRow 49 56 47 56 rfl rfl M hq_10) miX6_copyRow wd_979 rfl (by decide) rfl (Nat.le_of_ble_eq_true rfl) ?_
  refine r_sub [(3, .int v3)] [1] rfl ?_
  exact cX6_meets_78 M0 v3 (mX6_copyRow 49 56 47 56 M) hp
def mX6_meets_36   : Nat → Int32 → Int32 → Int32 → Mem → Int32 × Mem
  | 0, _, _, _, M => (0, M)
  | n + 1, v1, v2, v3, M => (if 60 < v3 then (mX6_meets_67 v3 M) else (if (mX6_its v1 3 M) = (mX6_its v2 3 M) then (mX6_meets_67 v3 M) else (mX6_meets_61 (mX6_meets_36 n) v1 v2 v3 (mX6_goesOn M))))
def PX6_meets_36   : Nat → Int32 → Int32 → Int32 → Mem → Prop
  | 0, _, _, _, _ => False
  | n + 1, v1, v2, v3, M => ((60 < v3 → PX6_meets_67 v3 M) ∧ (¬ 60 < v3 → PX6_its v1 3 M ∧ (PX6_its v2 3 M ∧ ((((mX6_its v1 3 M) = (mX6_its v2 3 M) → PX6_meets_67 v3 M) ∧ (¬ (mX6_its v1 3 M) = (mX6_its v2 3 M) → PX6_goesOn M ∧ (PX6_meets_61 (PX6_meets_36 n) v1 v2 v3 (mX6_goesOn M))))))))
set_option maxRecDepth 100000 in
theorem cX6_meets_36    (M0 : Mem) : ∀ (n : Nat) (v1 : Int32) (v2 : Int32) (v3 : Int32) (M : Mem), PX6_meets_36 n v1 v2 v3 M → AWP (GIM mtX6_meets 4 M0 (mX6_meets_36 n v1 v2 v3 M)) mtX6_meets 36 [(0, .ref 46), (1, .int v1), (2, .int v2), (3, .int v3)] [] M := by
  intro n
  induction n with
  | zero =>
    intro v1 v2 v3 M hp
    exact hp.elim
  | succ n ih =>
    intro v1 v2 v3 M hp
    rw [mX6_meets_36]
    rw [PX6_meets_36] at hp
    refine r_iload_n MF.bs dX6_meets_36 rfl 3 rfl ?_
    refine r_bipush MF.bs dX6_meets_37 (v := 60) (by decide) ?_
    refine r_ite (GIM mtX6_meets 4 M0) (fun h_5 => ?_) (fun h_5 => ?_)
    · have hp := hp.1 h_5
      refine r_icmp_gt_t MF.bs (tgt := 67) dX6_meets_39 (by decide) h_5 ?_
      refine r_sub [(0, .ref 46), (3, .int v3)] [0, 3] rfl ?_
      exact cX6_meets_67 M0 v3 M hp
    · have hp := hp.2 h_5
      refine r_icmp_gt_f MF.bs (tgt := 67) dX6_meets_39 (by decide) h_5 ?_
      obtain ⟨hq_6, hp⟩ := hp
      obtain ⟨hq_7, hp⟩ := hp
      refine r_aload_n MF.bs dX6_meets_42 rfl 0 rfl ?_
      refine r_iload_n MF.bs dX6_meets_43 rfl 1 rfl ?_
      refine r_iconst MF.bs dX6_meets_44 (v := 3) (by decide) ?_
      refine r_callV_v MF.bs (st := []) dX6_meets_45 (ctX6_its v1 3 M hq_6) miX6_its wd_1083 rfl (by decide) rfl (Nat.le_of_ble_eq_true rfl) rfl rfl rfl ?_
      refine r_aload_n MF.bs dX6_meets_48 rfl 0 rfl ?_
      refine r_iload_n MF.bs dX6_meets_49 rfl 2 rfl ?_
      refine r_iconst MF.bs dX6_meets_50 (v := 3) (by decide) ?_
      refine r_callV_v MF.bs (st := [.int (mX6_its v1 3 M)]) dX6_meets_51 (ctX6_its v2 3 M hq_7) miX6_its wd_1083 rfl (by decide) rfl (Nat.le_of_ble_eq_true rfl) rfl rfl rfl ?_
      refine r_ite (GIM mtX6_meets 4 M0) (fun h_8 => ?_) (fun h_8 => ?_)
      · have hp := hp.1 h_8
        refine r_icmp_eq_t MF.bs (tgt := 67) dX6_meets_54 (by decide) h_8 ?_
        refine r_sub [(0, .ref 46), (3, .int v3)] [0, 3] rfl ?_
        exact cX6_meets_67 M0 v3 M hp
      · have hp := hp.2 h_8
        refine r_icmp_eq_f MF.bs (tgt := 67) dX6_meets_54 (by decide) h_8 ?_
        obtain ⟨hq_9, hp⟩ := hp
        refine r_aload_n MF.bs dX6_meets_57 rfl 0 rfl ?_
        refine r_callV_n MF.bs (st := []) dX6_meets_58 (ctX6_goesOn M hq_9) miX6_goesOn wd_1139 rfl (by decide) rfl (Nat.le_of_ble_eq_true rfl) rfl rfl rfl ?_
        exact cX6_meets_61 M0 (mX6_meets_36 n) (PX6_meets_36 n) ih v1 v2 v3 (mX6_goesOn M) hp
def mX6_meets_34   (v1 : Int32) (v2 : Int32) (M : Mem) : Int32 × Mem := (mX6_meets_36 400 v1 v2 0 M)
def PX6_meets_34   (v1 : Int32) (v2 : Int32) (M : Mem) : Prop := PX6_meets_36 400 v1 v2 0 M
set_option maxRecDepth 100000 in
theorem cX6_meets_34    (M0 : Mem) (v1 : Int32) (v2 : Int32) (M : Mem) (hp : PX6_meets_34 v1 v2 M) : AWP (GIM mtX6_meets 4 M0 (mX6_meets_34 v1 v2 M)) mtX6_meets 34 [(0, .ref 46), (1, .int v1), (2, .int v2)] [] M := by
  unfold mX6_meets_34
  unfold PX6_meets_34 at hp
  refine r_iconst MF.bs dX6_meets_34 (v := 0) (by decide) ?_
  refine r_istore_n MF.bs (lv' := [(3, .int 0), (0, .ref 46), (1, .int v1), (2, .int v2)]) dX6_meets_35 rfl (by decide) rfl ?_
  refine r_sub [(0, .ref 46), (1, .int v1), (2, .int v2), (3, .int 0)] [1, 2, 3, 0] rfl ?_
  exact cX6_meets_36 M0 400 v1 v2 0 M hp
def mX6_meets  (a1 : Int32) (a2 : Int32) (M : Mem) : Int32 × Mem := (if (mX6_isOne a1 M) = true then (if (mX6_isOne a2 M) = true then (if a1 = a2 then ((-1), M) else (mX6_meets_34 a1 a2 (mX6_copyRow 47 56 49 56 M))) else ((-1), M)) else ((-1), M))
def PX6_meets  (a1 : Int32) (a2 : Int32) (M : Mem) : Prop := ((mX6_isOne a1 M) = true → ((mX6_isOne a2 M) = true → (¬ a1 = a2 → PX6_copyRow 47 56 49 56 M ∧ (PX6_meets_34 a1 a2 (mX6_copyRow 47 56 49 56 M)))))
set_option maxRecDepth 100000 in
theorem ctX6_meets   (a1 : Int32) (a2 : Int32) (M : Mem) (hp : PX6_meets a1 a2 M) : CT mtX6_meets 4 [.ref 46, .int a1, .int a2] M (some (.int ((mX6_meets a1 a2 M).1)), (mX6_meets a1 a2 M).2) := by
  refine CT.of (by decide) rfl (Nat.le_of_ble_eq_true rfl) ?_
  show AWP (GIM mtX6_meets 4 M (mX6_meets a1 a2 M)) mtX6_meets 0 [(0, .ref 46), (1, .int a1), (2, .int a2)] [] M
  unfold mX6_meets
  unfold PX6_meets at hp
  refine r_aload_n MF.bs dX6_meets_0 rfl 0 rfl ?_
  refine r_iload_n MF.bs dX6_meets_1 rfl 1 rfl ?_
  refine r_callV_v MF.bs (st := []) dX6_meets_2 (ctX6_isOne a1 M) miX6_isOne wd_1079 rfl (by decide) rfl (Nat.le_of_ble_eq_true rfl) rfl rfl rfl ?_
  refine r_ite (GIM mtX6_meets 4 M) (fun h_1 => ?_) (fun h_1 => ?_)
  · have hp := hp h_1
    refine r_if_eq_f MF.bs (tgt := 21) dX6_meets_5 (by decide) (b2i_1 h_1) ?_
    refine r_aload_n MF.bs dX6_meets_8 rfl 0 rfl ?_
    refine r_iload_n MF.bs dX6_meets_9 rfl 2 rfl ?_
    refine r_callV_v MF.bs (st := []) dX6_meets_10 (ctX6_isOne a2 M) miX6_isOne wd_1079 rfl (by decide) rfl (Nat.le_of_ble_eq_true rfl) rfl rfl rfl ?_
    refine r_ite (GIM mtX6_meets 4 M) (fun h_2 => ?_) (fun h_2 => ?_)
    · have hp := hp h_2
      refine r_if_eq_f MF.bs (tgt := 21) dX6_meets_13 (by decide) (b2i_1 h_2) ?_
      refine r_iload_n MF.bs dX6_meets_16 rfl 1 rfl ?_
      refine r_iload_n MF.bs dX6_meets_17 rfl 2 rfl ?_
      refine r_ite (GIM mtX6_meets 4 M) (fun h_3 => ?_) (fun h_3 => ?_)
      · refine r_icmp_ne_f MF.bs (tgt := 23) dX6_meets_18 (by decide) h_3 ?_
        refine r_iconst MF.bs dX6_meets_21 (v := -1) (by decide) ?_
        exact r_iret dX6_meets_22 rfl
      · have hp := hp h_3
        refine r_icmp_ne_t MF.bs (tgt := 23) dX6_meets_18 (by decide) h_3 ?_
        obtain ⟨hq_4, hp⟩ := hp
        refine r_aload_n MF.bs dX6_meets_23 rfl 0 rfl ?_
        refine r_getR MF.bs dX6_meets_24 rfl rfl 0 (by decide) wd_875 rfl ?_
        refine r_aload_n MF.bs dX6_meets_27 rfl 0 rfl ?_
        refine r_getR MF.bs dX6_meets_28 rfl rfl 2 (by decide) wd_877 rfl ?_
        refine r_callS_n MF.bs (st := []) dX6_meets_31 (ctX6_copyRow 47 56 49 56 rfl rfl M hq_4) miX6_copyRow wd_979 rfl (by decide) rfl (Nat.le_of_ble_eq_true rfl) ?_
        exact cX6_meets_34 M a1 a2 (mX6_copyRow 47 56 49 56 M) hp
    · refine r_if_eq_t MF.bs (tgt := 21) dX6_meets_13 (by decide) (b2i_0 h_2) ?_
      refine r_iconst MF.bs dX6_meets_21 (v := -1) (by decide) ?_
      exact r_iret dX6_meets_22 rfl
  · refine r_if_eq_t MF.bs (tgt := 21) dX6_meets_5 (by decide) (b2i_0 h_1) ?_
    refine r_iconst MF.bs dX6_meets_21 (v := -1) (by decide) ?_
    exact r_iret dX6_meets_22 rfl
abbrev mtX6_told : MT := (RX6, yX6_told, cX6_told, 3, (some .int))
theorem miX6_told : MV mtX6_told 1 := ⟨wd_1207, ⟨wd_1205, wd_1206⟩, wd_86, ⟨by decide, by decide, by decide +kernel⟩, by decide⟩
def mX6_told_57   (kf35 : Int32 → Int32 → Mem → Int32 × Mem) (v1 : Int32) (v2 : Int32) (M : Mem) : Int32 × Mem := (kf35 v1 (v2 + 1) M)
def PX6_told_57   (kP35 : Int32 → Int32 → Mem → Prop) (v1 : Int32) (v2 : Int32) (M : Mem) : Prop := kP35 v1 (v2 + 1) M
set_option maxRecDepth 100000 in
theorem cX6_told_57    (M0 : Mem) (kf35 : Int32 → Int32 → Mem → Int32 × Mem) (kP35 : Int32 → Int32 → Mem → Prop) (hk35 : ∀ (v1 : Int32) (v2 : Int32) (M : Mem), kP35 v1 v2 M → AWP (GIM mtX6_told 4 M0 (kf35 v1 v2 M)) mtX6_told 35 [(0, .ref 46), (1, .int v1), (2, .int v2)] [] M) (v1 : Int32) (v2 : Int32) (M : Mem) (hp : PX6_told_57 kP35 v1 v2 M) : AWP (GIM mtX6_told 4 M0 (mX6_told_57 kf35 v1 v2 M)) mtX6_told 57 [(0, .ref 46), (1, .int v1), (2, .int v2)] [] M := by
  unfold mX6_told_57
  unfold PX6_told_57 at hp
  refine r_iinc MF.bs (v := (v2 + 1)) (lv' := [(2, .int (v2 + 1)), (0, .ref 46), (1, .int v1)]) dX6_told_57 2 rfl rfl (by decide) rfl ?_
  refine r_goto MF.bs dX6_told_60 (tgt := 35) (by decide) ?_
  refine r_sub [(0, .ref 46), (1, .int v1), (2, .int (v2 + 1))] [1, 2, 0] rfl ?_
  exact hk35 v1 (v2 + 1) M hp
def mX6_told_101   (kf76 : Int32 → Int32 → Mem → Int32 × Mem) (v1 : Int32) (v2 : Int32) (M : Mem) : Int32 × Mem := (kf76 v1 (v2 + 1) M)
def PX6_told_101   (kP76 : Int32 → Int32 → Mem → Prop) (v1 : Int32) (v2 : Int32) (M : Mem) : Prop := kP76 v1 (v2 + 1) M
set_option maxRecDepth 100000 in
theorem cX6_told_101    (M0 : Mem) (kf76 : Int32 → Int32 → Mem → Int32 × Mem) (kP76 : Int32 → Int32 → Mem → Prop) (hk76 : ∀ (v1 : Int32) (v2 : Int32) (M : Mem), kP76 v1 v2 M → AWP (GIM mtX6_told 4 M0 (kf76 v1 v2 M)) mtX6_told 76 [(0, .ref 46), (1, .int v1), (2, .int v2)] [] M) (v1 : Int32) (v2 : Int32) (M : Mem) (hp : PX6_told_101 kP76 v1 v2 M) : AWP (GIM mtX6_told 4 M0 (mX6_told_101 kf76 v1 v2 M)) mtX6_told 101 [(0, .ref 46), (1, .int v1), (2, .int v2)] [] M := by
  unfold mX6_told_101
  unfold PX6_told_101 at hp
  refine r_iinc MF.bs (v := (v2 + 1)) (lv' := [(2, .int (v2 + 1)), (0, .ref 46), (1, .int v1)]) dX6_told_101 2 rfl rfl (by decide) rfl ?_
  refine r_goto MF.bs dX6_told_104 (tgt := 76) (by decide) ?_
  refine r_sub [(0, .ref 46), (1, .int v1), (2, .int (v2 + 1))] [1, 2, 0] rfl ?_
  exact hk76 v1 (v2 + 1) M hp
def mX6_told_118   (v2 : Int32) (M : Mem) : Int32 × Mem := (if 60 < v2 then ((-3), M) else (v2, M))
def PX6_told_118   (v2 : Int32) (M : Mem) : Prop := True
set_option maxRecDepth 100000 in
theorem cX6_told_118    (M0 : Mem) (v2 : Int32) (M : Mem) (hp : PX6_told_118 v2 M) : AWP (GIM mtX6_told 4 M0 (mX6_told_118 v2 M)) mtX6_told 118 [(2, .int v2)] [] M := by
  unfold mX6_told_118
  unfold PX6_told_118 at hp
  refine r_iload_n MF.bs dX6_told_118 rfl 0 rfl ?_
  refine r_bipush MF.bs dX6_told_119 (v := 60) (by decide) ?_
  refine r_ite (GIM mtX6_told 4 M0) (fun h_15 => ?_) (fun h_15 => ?_)
  · refine r_icmp_gt_t MF.bs (tgt := 128) dX6_told_121 (by decide) h_15 ?_
    refine r_bipush MF.bs dX6_told_128 (v := -3) (by decide) ?_
    exact r_iret dX6_told_130 rfl
  · refine r_icmp_gt_f MF.bs (tgt := 128) dX6_told_121 (by decide) h_15 ?_
    refine r_iload_n MF.bs dX6_told_124 rfl 0 rfl ?_
    refine r_goto MF.bs dX6_told_125 (tgt := 130) (by decide) ?_
    exact r_iret dX6_told_130 rfl
def mX6_told_107   (v2 : Int32) (M : Mem) : Int32 × Mem := (mX6_told_118 v2 (mX6_copyRow 49 56 47 56 M))
def PX6_told_107   (v2 : Int32) (M : Mem) : Prop := PX6_copyRow 49 56 47 56 M ∧ (PX6_told_118 v2 (mX6_copyRow 49 56 47 56 M))
set_option maxRecDepth 100000 in
theorem cX6_told_107    (M0 : Mem) (v2 : Int32) (M : Mem) (hp : PX6_told_107 v2 M) : AWP (GIM mtX6_told 4 M0 (mX6_told_107 v2 M)) mtX6_told 107 [(0, .ref 46), (2, .int v2)] [] M := by
  unfold mX6_told_107
  unfold PX6_told_107 at hp
  obtain ⟨hq_14, hp⟩ := hp
  refine r_aload_n MF.bs dX6_told_107 rfl 0 rfl ?_
  refine r_getR MF.bs dX6_told_108 rfl rfl 2 (by decide) wd_877 rfl ?_
  refine r_aload_n MF.bs dX6_told_111 rfl 0 rfl ?_
  refine r_getR MF.bs dX6_told_112 rfl rfl 0 (by decide) wd_875 rfl ?_
  refine r_callS_n MF.bs (st := []) dX6_told_115 (ctX6_copyRow 49 56 47 56 rfl rfl M hq_14) miX6_copyRow wd_979 rfl (by decide) rfl (Nat.le_of_ble_eq_true rfl) ?_
  refine r_sub [(2, .int v2)] [1] rfl ?_
  exact cX6_told_118 M0 v2 (mX6_copyRow 49 56 47 56 M) hp
def mX6_told_76   : Nat → Int32 → Int32 → Mem → Int32 × Mem
  | 0, _, _, M => (0, M)
  | n + 1, v1, v2, M => (if 60 < v2 then (mX6_told_107 v2 M) else (if (mX6_its v1 3 M) = (M 53 v2.toNatClampNeg) then (mX6_told_101 (mX6_told_76 n) v1 v2 (mX6_goesOn M)) else (mX6_told_107 v2 M)))
def PX6_told_76   : Nat → Int32 → Int32 → Mem → Prop
  | 0, _, _, _ => False
  | n + 1, v1, v2, M => ((60 < v2 → PX6_told_107 v2 M) ∧ (¬ 60 < v2 → PX6_its v1 3 M ∧ (vp_in v2 61 ∧ ((((mX6_its v1 3 M) = (M 53 v2.toNatClampNeg) → PX6_goesOn M ∧ (PX6_told_101 (PX6_told_76 n) v1 v2 (mX6_goesOn M))) ∧ (¬ (mX6_its v1 3 M) = (M 53 v2.toNatClampNeg) → PX6_told_107 v2 M))))))
set_option maxRecDepth 100000 in
theorem cX6_told_76    (M0 : Mem) : ∀ (n : Nat) (v1 : Int32) (v2 : Int32) (M : Mem), PX6_told_76 n v1 v2 M → AWP (GIM mtX6_told 4 M0 (mX6_told_76 n v1 v2 M)) mtX6_told 76 [(0, .ref 46), (1, .int v1), (2, .int v2)] [] M := by
  intro n
  induction n with
  | zero =>
    intro v1 v2 M hp
    exact hp.elim
  | succ n ih =>
    intro v1 v2 M hp
    rw [mX6_told_76]
    rw [PX6_told_76] at hp
    refine r_iload_n MF.bs dX6_told_76 rfl 2 rfl ?_
    refine r_bipush MF.bs dX6_told_77 (v := 60) (by decide) ?_
    refine r_ite (GIM mtX6_told 4 M0) (fun h_9 => ?_) (fun h_9 => ?_)
    · have hp := hp.1 h_9
      refine r_icmp_gt_t MF.bs (tgt := 107) dX6_told_79 (by decide) h_9 ?_
      refine r_sub [(0, .ref 46), (2, .int v2)] [0, 2] rfl ?_
      exact cX6_told_107 M0 v2 M hp
    · have hp := hp.2 h_9
      refine r_icmp_gt_f MF.bs (tgt := 107) dX6_told_79 (by decide) h_9 ?_
      obtain ⟨hq_10, hp⟩ := hp
      obtain ⟨hq_11, hp⟩ := hp
      refine r_aload_n MF.bs dX6_told_82 rfl 0 rfl ?_
      refine r_iload_n MF.bs dX6_told_83 rfl 1 rfl ?_
      refine r_iconst MF.bs dX6_told_84 (v := 3) (by decide) ?_
      refine r_callV_v MF.bs (st := []) dX6_told_85 (ctX6_its v1 3 M hq_10) miX6_its wd_1083 rfl (by decide) rfl (Nat.le_of_ble_eq_true rfl) rfl rfl rfl ?_
      refine r_aload_n MF.bs dX6_told_88 rfl 0 rfl ?_
      refine r_getR MF.bs dX6_told_89 rfl rfl 13 (by decide) wd_888 rfl ?_
      refine r_iload_n MF.bs dX6_told_92 rfl 2 rfl ?_
      refine r_iaload MF.bs dX6_told_93 rfl hq_11 ?_
      refine r_ite (GIM mtX6_told 4 M0) (fun h_12 => ?_) (fun h_12 => ?_)
      · have hp := hp.1 h_12
        refine r_icmp_ne_f MF.bs (tgt := 107) dX6_told_94 (by decide) h_12 ?_
        obtain ⟨hq_13, hp⟩ := hp
        refine r_aload_n MF.bs dX6_told_97 rfl 0 rfl ?_
        refine r_callV_n MF.bs (st := []) dX6_told_98 (ctX6_goesOn M hq_13) miX6_goesOn wd_1139 rfl (by decide) rfl (Nat.le_of_ble_eq_true rfl) rfl rfl rfl ?_
        exact cX6_told_101 M0 (mX6_told_76 n) (PX6_told_76 n) ih v1 v2 (mX6_goesOn M) hp
      · have hp := hp.2 h_12
        refine r_icmp_ne_t MF.bs (tgt := 107) dX6_told_94 (by decide) h_12 ?_
        refine r_sub [(0, .ref 46), (2, .int v2)] [0, 2] rfl ?_
        exact cX6_told_107 M0 v2 M hp
def mX6_told_74   (v1 : Int32) (M : Mem) : Int32 × Mem := (mX6_told_76 400 v1 0 M)
def PX6_told_74   (v1 : Int32) (M : Mem) : Prop := PX6_told_76 400 v1 0 M
set_option maxRecDepth 100000 in
theorem cX6_told_74    (M0 : Mem) (v1 : Int32) (M : Mem) (hp : PX6_told_74 v1 M) : AWP (GIM mtX6_told 4 M0 (mX6_told_74 v1 M)) mtX6_told 74 [(0, .ref 46), (1, .int v1)] [] M := by
  unfold mX6_told_74
  unfold PX6_told_74 at hp
  refine r_iconst MF.bs dX6_told_74 (v := 0) (by decide) ?_
  refine r_istore_n MF.bs (lv' := [(2, .int 0), (0, .ref 46), (1, .int v1)]) dX6_told_75 rfl (by decide) rfl ?_
  refine r_sub [(0, .ref 46), (1, .int v1), (2, .int 0)] [1, 2, 0] rfl ?_
  exact cX6_told_76 M0 400 v1 0 M hp
def mX6_told_35   : Nat → Int32 → Int32 → Mem → Int32 × Mem
  | 0, _, _, M => (0, M)
  | n + 1, v1, v2, M => (if 60 < v2 then (mX6_told_74 v1 (mX6_copyRow 49 56 47 56 M)) else (mX6_told_57 (mX6_told_35 n) v1 v2 (mX6_goesOn (upm M 53 v2.toNatClampNeg (mX6_its v1 3 M)))))
def PX6_told_35   : Nat → Int32 → Int32 → Mem → Prop
  | 0, _, _, _ => False
  | n + 1, v1, v2, M => ((60 < v2 → PX6_copyRow 49 56 47 56 M ∧ (PX6_told_74 v1 (mX6_copyRow 49 56 47 56 M))) ∧ (¬ 60 < v2 → PX6_its v1 3 M ∧ (vp_in v2 61 ∧ (PX6_goesOn (upm M 53 v2.toNatClampNeg (mX6_its v1 3 M)) ∧ (PX6_told_57 (PX6_told_35 n) v1 v2 (mX6_goesOn (upm M 53 v2.toNatClampNeg (mX6_its v1 3 M))))))))
set_option maxRecDepth 100000 in
theorem cX6_told_35    (M0 : Mem) : ∀ (n : Nat) (v1 : Int32) (v2 : Int32) (M : Mem), PX6_told_35 n v1 v2 M → AWP (GIM mtX6_told 4 M0 (mX6_told_35 n v1 v2 M)) mtX6_told 35 [(0, .ref 46), (1, .int v1), (2, .int v2)] [] M := by
  intro n
  induction n with
  | zero =>
    intro v1 v2 M hp
    exact hp.elim
  | succ n ih =>
    intro v1 v2 M hp
    rw [mX6_told_35]
    rw [PX6_told_35] at hp
    refine r_iload_n MF.bs dX6_told_35 rfl 2 rfl ?_
    refine r_bipush MF.bs dX6_told_36 (v := 60) (by decide) ?_
    refine r_ite (GIM mtX6_told 4 M0) (fun h_4 => ?_) (fun h_4 => ?_)
    · have hp := hp.1 h_4
      refine r_icmp_gt_t MF.bs (tgt := 63) dX6_told_38 (by decide) h_4 ?_
      obtain ⟨hq_5, hp⟩ := hp
      refine r_aload_n MF.bs dX6_told_63 rfl 0 rfl ?_
      refine r_getR MF.bs dX6_told_64 rfl rfl 2 (by decide) wd_877 rfl ?_
      refine r_aload_n MF.bs dX6_told_67 rfl 0 rfl ?_
      refine r_getR MF.bs dX6_told_68 rfl rfl 0 (by decide) wd_875 rfl ?_
      refine r_callS_n MF.bs (st := []) dX6_told_71 (ctX6_copyRow 49 56 47 56 rfl rfl M hq_5) miX6_copyRow wd_979 rfl (by decide) rfl (Nat.le_of_ble_eq_true rfl) ?_
      refine r_sub [(0, .ref 46), (1, .int v1)] [0, 1] rfl ?_
      exact cX6_told_74 M0 v1 (mX6_copyRow 49 56 47 56 M) hp
    · have hp := hp.2 h_4
      refine r_icmp_gt_f MF.bs (tgt := 63) dX6_told_38 (by decide) h_4 ?_
      obtain ⟨hq_6, hp⟩ := hp
      obtain ⟨hq_7, hp⟩ := hp
      obtain ⟨hq_8, hp⟩ := hp
      refine r_aload_n MF.bs dX6_told_41 rfl 0 rfl ?_
      refine r_getR MF.bs dX6_told_42 rfl rfl 13 (by decide) wd_888 rfl ?_
      refine r_iload_n MF.bs dX6_told_45 rfl 2 rfl ?_
      refine r_aload_n MF.bs dX6_told_46 rfl 0 rfl ?_
      refine r_iload_n MF.bs dX6_told_47 rfl 1 rfl ?_
      refine r_iconst MF.bs dX6_told_48 (v := 3) (by decide) ?_
      refine r_callV_v MF.bs (st := [.int v2, .ref 53]) dX6_told_49 (ctX6_its v1 3 M hq_6) miX6_its wd_1083 rfl (by decide) rfl (Nat.le_of_ble_eq_true rfl) rfl rfl rfl ?_
      refine r_iastore MF.bs dX6_told_52 rfl hq_7 ?_
      refine r_aload_n MF.bs dX6_told_53 rfl 0 rfl ?_
      refine r_callV_n MF.bs (st := []) dX6_told_54 (ctX6_goesOn (upm M 53 v2.toNatClampNeg (mX6_its v1 3 M)) hq_8) miX6_goesOn wd_1139 rfl (by decide) rfl (Nat.le_of_ble_eq_true rfl) rfl rfl rfl ?_
      exact cX6_told_57 M0 (mX6_told_35 n) (PX6_told_35 n) ih v1 v2 (mX6_goesOn (upm M 53 v2.toNatClampNeg (mX6_its v1 3 M))) hp
def mX6_told_21   (v1 : Int32) (M : Mem) : Int32 × Mem := (mX6_told_35 400 v1 0 (upm M 47 (24 + (4 * v1)).toNatClampNeg 0))
def PX6_told_21   (v1 : Int32) (M : Mem) : Prop := vp_in (24 + (4 * v1)) 56 ∧ (PX6_told_35 400 v1 0 (upm M 47 (24 + (4 * v1)).toNatClampNeg 0))
set_option maxRecDepth 100000 in
theorem cX6_told_21    (M0 : Mem) (v1 : Int32) (M : Mem) (hp : PX6_told_21 v1 M) : AWP (GIM mtX6_told 4 M0 (mX6_told_21 v1 M)) mtX6_told 21 [(0, .ref 46), (1, .int v1)] [] M := by
  unfold mX6_told_21
  unfold PX6_told_21 at hp
  obtain ⟨hq_3, hp⟩ := hp
  refine r_aload_n MF.bs dX6_told_21 rfl 0 rfl ?_
  refine r_getR MF.bs dX6_told_22 rfl rfl 0 (by decide) wd_875 rfl ?_
  refine r_bipush MF.bs dX6_told_25 (v := 24) (by decide) ?_
  refine r_iconst MF.bs dX6_told_27 (v := 4) (by decide) ?_
  refine r_iload_n MF.bs dX6_told_28 rfl 1 rfl ?_
  refine r_imul MF.bs dX6_told_29 ?_
  refine r_iadd MF.bs dX6_told_30 ?_
  refine r_iconst MF.bs dX6_told_31 (v := 0) (by decide) ?_
  refine r_iastore MF.bs dX6_told_32 rfl hq_3 ?_
  refine r_iconst MF.bs dX6_told_33 (v := 0) (by decide) ?_
  refine r_istore_n MF.bs (lv' := [(2, .int 0), (0, .ref 46), (1, .int v1)]) dX6_told_34 rfl (by decide) rfl ?_
  refine r_sub [(0, .ref 46), (1, .int v1), (2, .int 0)] [1, 2, 0] rfl ?_
  exact cX6_told_35 M0 400 v1 0 (upm M 47 (24 + (4 * v1)).toNatClampNeg 0) hp
def mX6_told  (a1 : Int32) (M : Mem) : Int32 × Mem := (if (mX6_isOne a1 M) = true then (mX6_told_21 a1 (mX6_copyRow 47 56 49 56 M)) else ((-1), M))
def PX6_told  (a1 : Int32) (M : Mem) : Prop := ((mX6_isOne a1 M) = true → PX6_copyRow 47 56 49 56 M ∧ (PX6_told_21 a1 (mX6_copyRow 47 56 49 56 M)))
set_option maxRecDepth 100000 in
theorem ctX6_told   (a1 : Int32) (M : Mem) (hp : PX6_told a1 M) : CT mtX6_told 4 [.ref 46, .int a1] M (some (.int ((mX6_told a1 M).1)), (mX6_told a1 M).2) := by
  refine CT.of (by decide) rfl (Nat.le_of_ble_eq_true rfl) ?_
  show AWP (GIM mtX6_told 4 M (mX6_told a1 M)) mtX6_told 0 [(0, .ref 46), (1, .int a1)] [] M
  unfold mX6_told
  unfold PX6_told at hp
  refine r_aload_n MF.bs dX6_told_0 rfl 0 rfl ?_
  refine r_iload_n MF.bs dX6_told_1 rfl 1 rfl ?_
  refine r_callV_v MF.bs (st := []) dX6_told_2 (ctX6_isOne a1 M) miX6_isOne wd_1079 rfl (by decide) rfl (Nat.le_of_ble_eq_true rfl) rfl rfl rfl ?_
  refine r_ite (GIM mtX6_told 4 M) (fun h_1 => ?_) (fun h_1 => ?_)
  · have hp := hp h_1
    refine r_if_ne_t MF.bs (tgt := 10) dX6_told_5 (by decide) (b2i_1 h_1) ?_
    obtain ⟨hq_2, hp⟩ := hp
    refine r_aload_n MF.bs dX6_told_10 rfl 0 rfl ?_
    refine r_getR MF.bs dX6_told_11 rfl rfl 0 (by decide) wd_875 rfl ?_
    refine r_aload_n MF.bs dX6_told_14 rfl 0 rfl ?_
    refine r_getR MF.bs dX6_told_15 rfl rfl 2 (by decide) wd_877 rfl ?_
    refine r_callS_n MF.bs (st := []) dX6_told_18 (ctX6_copyRow 47 56 49 56 rfl rfl M hq_2) miX6_copyRow wd_979 rfl (by decide) rfl (Nat.le_of_ble_eq_true rfl) ?_
    exact cX6_told_21 M a1 (mX6_copyRow 47 56 49 56 M) hp
  · refine r_if_ne_f MF.bs (tgt := 10) dX6_told_5 (by decide) (b2i_0 h_1) ?_
    refine r_iconst MF.bs dX6_told_8 (v := -1) (by decide) ?_
    exact r_iret dX6_told_9 rfl
abbrev mtX6_offNow : MT := (RX6, yX6_offNow, cX6_offNow, 4, (some .int))
theorem miX6_offNow : MV mtX6_offNow 1 := ⟨wd_1219, ⟨wd_1218, wd_62⟩, wd_86, ⟨by decide, by decide, by decide +kernel⟩, by decide⟩
def mX6_offNow  (a1 : Int32) (M : Mem) : Int32 := ((mX6_apart (irem (mX6_its a1 3 M) 4) (irem (mX6_its a1 2 M) 4)) + (mX6_apart ((mX6_its a1 3 M) / 4) ((mX6_its a1 2 M) / 4)))
def PX6_offNow  (a1 : Int32) (M : Mem) : Prop := PX6_its a1 3 M ∧ (PX6_its a1 2 M)
set_option maxRecDepth 100000 in
theorem ctX6_offNow   (a1 : Int32) (M : Mem) (hp : PX6_offNow a1 M) : CT mtX6_offNow 1 [.ref 46, .int a1] M (some (.int (mX6_offNow a1 M)), M) := by
  refine CT.of (by decide) rfl (Nat.le_of_ble_eq_true rfl) ?_
  show AWP (GI mtX6_offNow 1 M M (mX6_offNow a1 M)) mtX6_offNow 0 [(0, .ref 46), (1, .int a1)] [] M
  unfold mX6_offNow
  unfold PX6_offNow at hp
  obtain ⟨hq_1, hp⟩ := hp
  have hq_2 := hp
  refine r_aload_n MF.bs dX6_offNow_0 rfl 0 rfl ?_
  refine r_iload_n MF.bs dX6_offNow_1 rfl 1 rfl ?_
  refine r_iconst MF.bs dX6_offNow_2 (v := 3) (by decide) ?_
  refine r_callV_v MF.bs (st := []) dX6_offNow_3 (ctX6_its a1 3 M hq_1) miX6_its wd_1083 rfl (by decide) rfl (Nat.le_of_ble_eq_true rfl) rfl rfl rfl ?_
  refine r_istore_n MF.bs (lv' := [(2, .int (mX6_its a1 3 M)), (0, .ref 46), (1, .int a1)]) dX6_offNow_6 rfl (by decide) rfl ?_
  refine r_aload_n MF.bs dX6_offNow_7 rfl 1 rfl ?_
  refine r_iload_n MF.bs dX6_offNow_8 rfl 2 rfl ?_
  refine r_iconst MF.bs dX6_offNow_9 (v := 2) (by decide) ?_
  refine r_callV_v MF.bs (st := []) dX6_offNow_10 (ctX6_its a1 2 M hq_2) miX6_its wd_1083 rfl (by decide) rfl (Nat.le_of_ble_eq_true rfl) rfl rfl rfl ?_
  refine r_istore_n MF.bs (lv' := [(3, .int (mX6_its a1 2 M)), (2, .int (mX6_its a1 3 M)), (0, .ref 46), (1, .int a1)]) dX6_offNow_13 rfl (by decide) rfl ?_
  refine r_iload_n MF.bs dX6_offNow_14 rfl 1 rfl ?_
  refine r_iconst MF.bs dX6_offNow_15 (v := 4) (by decide) ?_
  refine r_irem MF.bs dX6_offNow_16 (by decide) ?_
  refine r_iload_n MF.bs dX6_offNow_17 rfl 0 rfl ?_
  refine r_iconst MF.bs dX6_offNow_18 (v := 4) (by decide) ?_
  refine r_irem MF.bs dX6_offNow_19 (by decide) ?_
  refine r_callS_v MF.bs (st := []) dX6_offNow_20 (ctX6_apart (irem (mX6_its a1 3 M) 4) (irem (mX6_its a1 2 M) 4) M) miX6_apart wd_1220 rfl (by decide) rfl (Nat.le_of_ble_eq_true rfl) ?_
  refine r_iload_n MF.bs dX6_offNow_23 rfl 1 rfl ?_
  refine r_iconst MF.bs dX6_offNow_24 (v := 4) (by decide) ?_
  refine r_idiv MF.bs dX6_offNow_25 (by decide) ?_
  refine r_iload_n MF.bs dX6_offNow_26 rfl 0 rfl ?_
  refine r_iconst MF.bs dX6_offNow_27 (v := 4) (by decide) ?_
  refine r_idiv MF.bs dX6_offNow_28 (by decide) ?_
  refine r_callS_v MF.bs (st := [.int (mX6_apart (irem (mX6_its a1 3 M) 4) (irem (mX6_its a1 2 M) 4))]) dX6_offNow_29 (ctX6_apart ((mX6_its a1 3 M) / 4) ((mX6_its a1 2 M) / 4) M) miX6_apart wd_1220 rfl (by decide) rfl (Nat.le_of_ble_eq_true rfl) ?_
  refine r_iadd MF.bs dX6_offNow_32 ?_
  exact r_iret dX6_offNow_33 rfl
abbrev mtX6_offBehind : MT := (RX6, yX6_offBehind, cX6_offBehind, 4, (some .int))
theorem miX6_offBehind : MV mtX6_offBehind 2 := ⟨wd_1215, ⟨wd_1214, wd_61⟩, wd_86, ⟨by decide, by decide, by decide +kernel⟩, by decide⟩
def mX6_offBehind_16   (v1 : Int32) (M : Mem) : Int32 × Mem := ((mX6_offNow v1 M), (mX6_copyRow 49 56 47 56 M))
def PX6_offBehind_16   (v1 : Int32) (M : Mem) : Prop := PX6_offNow v1 M ∧ (PX6_copyRow 49 56 47 56 M)
set_option maxRecDepth 100000 in
theorem cX6_offBehind_16    (M0 : Mem) (v1 : Int32) (M : Mem) (hp : PX6_offBehind_16 v1 M) : AWP (GIM mtX6_offBehind 5 M0 (mX6_offBehind_16 v1 M)) mtX6_offBehind 16 [(0, .ref 46), (1, .int v1)] [] M := by
  unfold mX6_offBehind_16
  unfold PX6_offBehind_16 at hp
  obtain ⟨hq_3, hp⟩ := hp
  have hq_4 := hp
  refine r_aload_n MF.bs dX6_offBehind_16 rfl 0 rfl ?_
  refine r_iload_n MF.bs dX6_offBehind_17 rfl 1 rfl ?_
  refine r_callV_v MF.bs (st := []) dX6_offBehind_18 (ctX6_offNow v1 M hq_3) miX6_offNow wd_1216 rfl (by decide) rfl (Nat.le_of_ble_eq_true rfl) rfl rfl rfl ?_
  refine r_istore_n MF.bs (lv' := [(3, .int (mX6_offNow v1 M)), (0, .ref 46), (1, .int v1)]) dX6_offBehind_21 rfl (by decide) rfl ?_
  refine r_aload_n MF.bs dX6_offBehind_22 rfl 1 rfl ?_
  refine r_getR MF.bs dX6_offBehind_23 rfl rfl 2 (by decide) wd_877 rfl ?_
  refine r_aload_n MF.bs dX6_offBehind_26 rfl 1 rfl ?_
  refine r_getR MF.bs dX6_offBehind_27 rfl rfl 0 (by decide) wd_875 rfl ?_
  refine r_callS_n MF.bs (st := []) dX6_offBehind_30 (ctX6_copyRow 49 56 47 56 rfl rfl M hq_4) miX6_copyRow wd_979 rfl (by decide) rfl (Nat.le_of_ble_eq_true rfl) ?_
  refine r_iload_n MF.bs dX6_offBehind_33 rfl 0 rfl ?_
  exact r_iret dX6_offBehind_34 rfl
def mX6_offBehind_11   (v1 : Int32) (v2 : Int32) (M : Mem) : Int32 × Mem := (mX6_offBehind_16 v1 (mX6_goes v2 M))
def PX6_offBehind_11   (v1 : Int32) (v2 : Int32) (M : Mem) : Prop := PX6_goes v2 M ∧ (PX6_offBehind_16 v1 (mX6_goes v2 M))
set_option maxRecDepth 100000 in
theorem cX6_offBehind_11    (M0 : Mem) (v1 : Int32) (v2 : Int32) (M : Mem) (hp : PX6_offBehind_11 v1 v2 M) : AWP (GIM mtX6_offBehind 5 M0 (mX6_offBehind_11 v1 v2 M)) mtX6_offBehind 11 [(0, .ref 46), (1, .int v1), (2, .int v2)] [] M := by
  unfold mX6_offBehind_11
  unfold PX6_offBehind_11 at hp
  obtain ⟨hq_2, hp⟩ := hp
  refine r_aload_n MF.bs dX6_offBehind_11 rfl 0 rfl ?_
  refine r_iload_n MF.bs dX6_offBehind_12 rfl 2 rfl ?_
  refine r_callV_n MF.bs (st := []) dX6_offBehind_13 (ctX6_goes v2 M hq_2) miX6_goes wd_1135 rfl (by decide) rfl (Nat.le_of_ble_eq_true rfl) rfl rfl rfl ?_
  refine r_sub [(0, .ref 46), (1, .int v1)] [0, 1] rfl ?_
  exact cX6_offBehind_16 M0 v1 (mX6_goes v2 M) hp
def mX6_offBehind  (a1 : Int32) (a2 : Int32) (M : Mem) : Int32 × Mem := (mX6_offBehind_11 a1 a2 (mX6_copyRow 47 56 49 56 M))
def PX6_offBehind  (a1 : Int32) (a2 : Int32) (M : Mem) : Prop := PX6_copyRow 47 56 49 56 M ∧ (PX6_offBehind_11 a1 a2 (mX6_copyRow 47 56 49 56 M))
set_option maxRecDepth 100000 in
theorem ctX6_offBehind   (a1 : Int32) (a2 : Int32) (M : Mem) (hp : PX6_offBehind a1 a2 M) : CT mtX6_offBehind 5 [.ref 46, .int a1, .int a2] M (some (.int ((mX6_offBehind a1 a2 M).1)), (mX6_offBehind a1 a2 M).2) := by
  refine CT.of (by decide) rfl (Nat.le_of_ble_eq_true rfl) ?_
  show AWP (GIM mtX6_offBehind 5 M (mX6_offBehind a1 a2 M)) mtX6_offBehind 0 [(0, .ref 46), (1, .int a1), (2, .int a2)] [] M
  unfold mX6_offBehind
  unfold PX6_offBehind at hp
  obtain ⟨hq_1, hp⟩ := hp
  refine r_aload_n MF.bs dX6_offBehind_0 rfl 0 rfl ?_
  refine r_getR MF.bs dX6_offBehind_1 rfl rfl 0 (by decide) wd_875 rfl ?_
  refine r_aload_n MF.bs dX6_offBehind_4 rfl 0 rfl ?_
  refine r_getR MF.bs dX6_offBehind_5 rfl rfl 2 (by decide) wd_877 rfl ?_
  refine r_callS_n MF.bs (st := []) dX6_offBehind_8 (ctX6_copyRow 47 56 49 56 rfl rfl M hq_1) miX6_copyRow wd_979 rfl (by decide) rfl (Nat.le_of_ble_eq_true rfl) ?_
  exact cX6_offBehind_11 M a1 a2 (mX6_copyRow 47 56 49 56 M) hp
abbrev mtX6_off : MT := (RX6, yX6_off, cX6_off, 3, (some .int))
theorem miX6_off : MV mtX6_off 2 := ⟨wd_1211, ⟨wd_1209, wd_1210⟩, wd_86, ⟨by decide, by decide, by decide +kernel⟩, by decide⟩
def mX6_off_26   (k0 : Int32) (M : Mem) : Int32 × Mem := (k0, M)
def PX6_off_26   (k0 : Int32) (M : Mem) : Prop := True
set_option maxRecDepth 100000 in
theorem cX6_off_26    (M0 : Mem) (k0 : Int32) (M : Mem) (hp : PX6_off_26 k0 M) : AWP (GIM mtX6_off 6 M0 (mX6_off_26 k0 M)) mtX6_off 26 [] [.int k0] M := by
  unfold mX6_off_26
  unfold PX6_off_26 at hp
  refine r_goto MF.bs dX6_off_26 (tgt := 30) (by decide) ?_
  exact r_iret dX6_off_30 rfl
def mX6_off  (a1 : Int32) (a2 : Int32) (M : Mem) : Int32 × Mem := (if (mX6_isOne a1 M) = true then (if (mX6_isIn ((a2 : Int32).toInt64) 0 60) = true then (mX6_off_26 ((mX6_offBehind a1 a2 M).1) ((mX6_offBehind a1 a2 M).2)) else ((-1), M)) else ((-1), M))
def PX6_off  (a1 : Int32) (a2 : Int32) (M : Mem) : Prop := ((mX6_isOne a1 M) = true → ((mX6_isIn ((a2 : Int32).toInt64) 0 60) = true → PX6_offBehind a1 a2 M ∧ (PX6_off_26 ((mX6_offBehind a1 a2 M).1) ((mX6_offBehind a1 a2 M).2))))
set_option maxRecDepth 100000 in
theorem ctX6_off   (a1 : Int32) (a2 : Int32) (M : Mem) (hp : PX6_off a1 a2 M) : CT mtX6_off 6 [.ref 46, .int a1, .int a2] M (some (.int ((mX6_off a1 a2 M).1)), (mX6_off a1 a2 M).2) := by
  refine CT.of (by decide) rfl (Nat.le_of_ble_eq_true rfl) ?_
  show AWP (GIM mtX6_off 6 M (mX6_off a1 a2 M)) mtX6_off 0 [(0, .ref 46), (1, .int a1), (2, .int a2)] [] M
  unfold mX6_off
  unfold PX6_off at hp
  refine r_aload_n MF.bs dX6_off_0 rfl 0 rfl ?_
  refine r_iload_n MF.bs dX6_off_1 rfl 1 rfl ?_
  refine r_callV_v MF.bs (st := []) dX6_off_2 (ctX6_isOne a1 M) miX6_isOne wd_1079 rfl (by decide) rfl (Nat.le_of_ble_eq_true rfl) rfl rfl rfl ?_
  refine r_ite (GIM mtX6_off 6 M) (fun h_1 => ?_) (fun h_1 => ?_)
  · have hp := hp h_1
    refine r_if_eq_f MF.bs (tgt := 29) dX6_off_5 (by decide) (b2i_1 h_1) ?_
    refine r_iload_n MF.bs dX6_off_8 rfl 2 rfl ?_
    refine r_i2l MF.bs dX6_off_9 ?_
    refine r_lconst MF.bs dX6_off_10 (v := 0) (by decide) ?_
    refine r_ldc2 MF.bs (v := 60) dX6_off_11 wd_1134 ?_
    refine r_callS_v MF.bs (st := []) dX6_off_14 (ctX6_isIn ((a2 : Int32).toInt64) 0 60 M) miX6_isIn wd_971 rfl (by decide) rfl (Nat.le_of_ble_eq_true rfl) ?_
    refine r_ite (GIM mtX6_off 6 M) (fun h_2 => ?_) (fun h_2 => ?_)
    · have hp := hp h_2
      refine r_if_eq_f MF.bs (tgt := 29) dX6_off_17 (by decide) (b2i_1 h_2) ?_
      obtain ⟨hq_3, hp⟩ := hp
      refine r_aload_n MF.bs dX6_off_20 rfl 0 rfl ?_
      refine r_iload_n MF.bs dX6_off_21 rfl 1 rfl ?_
      refine r_iload_n MF.bs dX6_off_22 rfl 2 rfl ?_
      refine r_callV_v MF.bs (st := []) dX6_off_23 (ctX6_offBehind a1 a2 M hq_3) miX6_offBehind wd_1212 rfl (by decide) rfl (Nat.le_of_ble_eq_true rfl) rfl rfl rfl ?_
      refine r_sub [] [] rfl ?_
      exact cX6_off_26 M ((mX6_offBehind a1 a2 M).1) ((mX6_offBehind a1 a2 M).2) hp
    · refine r_if_eq_t MF.bs (tgt := 29) dX6_off_17 (by decide) (b2i_0 h_2) ?_
      refine r_iconst MF.bs dX6_off_29 (v := -1) (by decide) ?_
      exact r_iret dX6_off_30 rfl
  · refine r_if_eq_t MF.bs (tgt := 29) dX6_off_5 (by decide) (b2i_0 h_1) ?_
    refine r_iconst MF.bs dX6_off_29 (v := -1) (by decide) ?_
    exact r_iret dX6_off_30 rfl
abbrev mtX6_isShort : MT := (RX6, yX6_isShort, cX6_isShort, 1, (some .boolean))
theorem miX6_isShort : MS mtX6_isShort 1 := ⟨wd_1229, wd_1228, wd_86, ⟨by decide, by decide, by decide +kernel⟩, by decide⟩
def mX6_isShort  (a0 : Int32) : Bool := (mX6_isIn ((a0 : Int32).toInt64) 1 30)
set_option maxRecDepth 100000 in
theorem ctX6_isShort   (a0 : Int32) (M : Mem) : CT mtX6_isShort 1 [.int a0] M (some (.int (b2i (mX6_isShort a0))), M) := by
  refine CT.of (by decide) rfl (Nat.le_of_ble_eq_true rfl) ?_
  show AWP (GB mtX6_isShort 1 M M (mX6_isShort a0)) mtX6_isShort 0 [(0, .int a0)] [] M
  unfold mX6_isShort
  refine r_iload_n MF.bs dX6_isShort_0 rfl 0 rfl ?_
  refine r_i2l MF.bs dX6_isShort_1 ?_
  refine r_lconst MF.bs dX6_isShort_2 (v := 1) (by decide) ?_
  refine r_ldc2 MF.bs (v := 30) dX6_isShort_3 wd_1170 ?_
  refine r_callS_v MF.bs (st := []) dX6_isShort_6 (ctX6_isIn ((a0 : Int32).toInt64) 1 30 M) miX6_isIn wd_971 rfl (by decide) rfl (Nat.le_of_ble_eq_true rfl) ?_
  exact r_zret dX6_isShort_9 rfl (b2i_nar _)
abbrev mtX6_nearestBy : MT := (RX6, yX6_nearestBy, cX6_nearestBy, 10, (some .int))
theorem miX6_nearestBy : MV mtX6_nearestBy 4 := ⟨wd_1233, ⟨wd_1232, wd_63⟩, wd_86, ⟨by decide, by decide, by decide +kernel⟩, by decide⟩
def mX6_nearestBy_56   (kf19 : Int32 → Int32 → Int32 → Int32 → Int32 → Int32 → Int32 → Int32 → Mem → Int32 × Mem) (v1 : Int32) (v2 : Int32) (v3 : Int32) (v4 : Int32) (v5 : Int32) (v7 : Int32) (v8 : Int32) (v9 : Int32) (k0 : Int32) (M : Mem) : Int32 × Mem := (kf19 v1 v2 v3 v4 v5 k0 (mX6_least v7 v9) (v8 + 1) M)
def PX6_nearestBy_56   (kP19 : Int32 → Int32 → Int32 → Int32 → Int32 → Int32 → Int32 → Int32 → Mem → Prop) (v1 : Int32) (v2 : Int32) (v3 : Int32) (v4 : Int32) (v5 : Int32) (v7 : Int32) (v8 : Int32) (v9 : Int32) (k0 : Int32) (M : Mem) : Prop := kP19 v1 v2 v3 v4 v5 k0 (mX6_least v7 v9) (v8 + 1) M
set_option maxRecDepth 100000 in
theorem cX6_nearestBy_56    (M0 : Mem) (kf19 : Int32 → Int32 → Int32 → Int32 → Int32 → Int32 → Int32 → Int32 → Mem → Int32 × Mem) (kP19 : Int32 → Int32 → Int32 → Int32 → Int32 → Int32 → Int32 → Int32 → Mem → Prop) (hk19 : ∀ (v1 : Int32) (v2 : Int32) (v3 : Int32) (v4 : Int32) (v5 : Int32) (v6 : Int32) (v7 : Int32) (v8 : Int32) (M : Mem), kP19 v1 v2 v3 v4 v5 v6 v7 v8 M → AWP (GIM mtX6_nearestBy 6 M0 (kf19 v1 v2 v3 v4 v5 v6 v7 v8 M)) mtX6_nearestBy 19 [(0, .ref 46), (1, .int v1), (2, .int v2), (3, .int v3), (4, .int v4), (5, .int v5), (6, .int v6), (7, .int v7), (8, .int v8)] [] M) (v1 : Int32) (v2 : Int32) (v3 : Int32) (v4 : Int32) (v5 : Int32) (v7 : Int32) (v8 : Int32) (v9 : Int32) (k0 : Int32) (M : Mem) (hp : PX6_nearestBy_56 kP19 v1 v2 v3 v4 v5 v7 v8 v9 k0 M) : AWP (GIM mtX6_nearestBy 6 M0 (mX6_nearestBy_56 kf19 v1 v2 v3 v4 v5 v7 v8 v9 k0 M)) mtX6_nearestBy 56 [(0, .ref 46), (1, .int v1), (2, .int v2), (3, .int v3), (4, .int v4), (5, .int v5), (7, .int v7), (8, .int v8), (9, .int v9)] [.int k0] M := by
  unfold mX6_nearestBy_56
  unfold PX6_nearestBy_56 at hp
  refine r_istore MF.bs (lv' := [(6, .int k0), (0, .ref 46), (1, .int v1), (2, .int v2), (3, .int v3), (4, .int v4), (5, .int v5), (7, .int v7), (8, .int v8), (9, .int v9)]) dX6_nearestBy_56 (by decide) rfl ?_
  refine r_iload MF.bs dX6_nearestBy_58 7 rfl ?_
  refine r_iload MF.bs dX6_nearestBy_60 9 rfl ?_
  refine r_callS_v MF.bs (st := []) dX6_nearestBy_62 (ctX6_least v7 v9 M) miX6_least wd_1234 rfl (by decide) rfl (Nat.le_of_ble_eq_true rfl) ?_
  refine r_istore MF.bs (lv' := [(7, .int (mX6_least v7 v9)), (6, .int k0), (0, .ref 46), (1, .int v1), (2, .int v2), (3, .int v3), (4, .int v4), (5, .int v5), (8, .int v8), (9, .int v9)]) dX6_nearestBy_65 (by decide) rfl ?_
  refine r_iinc MF.bs (v := (v8 + 1)) (lv' := [(8, .int (v8 + 1)), (7, .int (mX6_least v7 v9)), (6, .int k0), (0, .ref 46), (1, .int v1), (2, .int v2), (3, .int v3), (4, .int v4), (5, .int v5), (9, .int v9)]) dX6_nearestBy_67 8 rfl rfl (by decide) rfl ?_
  refine r_goto MF.bs dX6_nearestBy_70 (tgt := 19) (by decide) ?_
  refine r_sub [(0, .ref 46), (1, .int v1), (2, .int v2), (3, .int v3), (4, .int v4), (5, .int v5), (6, .int k0), (7, .int (mX6_least v7 v9)), (8, .int (v8 + 1))] [3, 4, 5, 6, 7, 8, 2, 1, 0] rfl ?_
  exact hk19 v1 v2 v3 v4 v5 k0 (mX6_least v7 v9) (v8 + 1) M hp
def mX6_nearestBy_40   (kf19 : Int32 → Int32 → Int32 → Int32 → Int32 → Int32 → Int32 → Int32 → Mem → Int32 × Mem) (v1 : Int32) (v2 : Int32) (v3 : Int32) (v4 : Int32) (v5 : Int32) (v6 : Int32) (v7 : Int32) (v8 : Int32) (k0 : Int32) (M : Mem) : Int32 × Mem := (if v7 ≤ k0 then (mX6_nearestBy_56 kf19 v1 v2 v3 v4 v5 v7 v8 k0 v6 M) else (mX6_nearestBy_56 kf19 v1 v2 v3 v4 v5 v7 v8 k0 v8 M))
def PX6_nearestBy_40   (kP19 : Int32 → Int32 → Int32 → Int32 → Int32 → Int32 → Int32 → Int32 → Mem → Prop) (v1 : Int32) (v2 : Int32) (v3 : Int32) (v4 : Int32) (v5 : Int32) (v6 : Int32) (v7 : Int32) (v8 : Int32) (k0 : Int32) (M : Mem) : Prop := ((v7 ≤ k0 → PX6_nearestBy_56 kP19 v1 v2 v3 v4 v5 v7 v8 k0 v6 M) ∧ (¬ v7 ≤ k0 → PX6_nearestBy_56 kP19 v1 v2 v3 v4 v5 v7 v8 k0 v8 M))
set_option maxRecDepth 100000 in
theorem cX6_nearestBy_40    (M0 : Mem) (kf19 : Int32 → Int32 → Int32 → Int32 → Int32 → Int32 → Int32 → Int32 → Mem → Int32 × Mem) (kP19 : Int32 → Int32 → Int32 → Int32 → Int32 → Int32 → Int32 → Int32 → Mem → Prop) (hk19 : ∀ (v1 : Int32) (v2 : Int32) (v3 : Int32) (v4 : Int32) (v5 : Int32) (v6 : Int32) (v7 : Int32) (v8 : Int32) (M : Mem), kP19 v1 v2 v3 v4 v5 v6 v7 v8 M → AWP (GIM mtX6_nearestBy 6 M0 (kf19 v1 v2 v3 v4 v5 v6 v7 v8 M)) mtX6_nearestBy 19 [(0, .ref 46), (1, .int v1), (2, .int v2), (3, .int v3), (4, .int v4), (5, .int v5), (6, .int v6), (7, .int v7), (8, .int v8)] [] M) (v1 : Int32) (v2 : Int32) (v3 : Int32) (v4 : Int32) (v5 : Int32) (v6 : Int32) (v7 : Int32) (v8 : Int32) (k0 : Int32) (M : Mem) (hp : PX6_nearestBy_40 kP19 v1 v2 v3 v4 v5 v6 v7 v8 k0 M) : AWP (GIM mtX6_nearestBy 6 M0 (mX6_nearestBy_40 kf19 v1 v2 v3 v4 v5 v6 v7 v8 k0 M)) mtX6_nearestBy 40 [(0, .ref 46), (1, .int v1), (2, .int v2), (3, .int v3), (4, .int v4), (5, .int v5), (6, .int v6), (7, .int v7), (8, .int v8)] [.int k0] M := by
  unfold mX6_nearestBy_40
  unfold PX6_nearestBy_40 at hp
  refine r_istore MF.bs (lv' := [(9, .int k0), (0, .ref 46), (1, .int v1), (2, .int v2), (3, .int v3), (4, .int v4), (5, .int v5), (6, .int v6), (7, .int v7), (8, .int v8)]) dX6_nearestBy_40 (by decide) rfl ?_
  refine r_iload MF.bs dX6_nearestBy_42 0 rfl ?_
  refine r_iload MF.bs dX6_nearestBy_44 8 rfl ?_
  refine r_ite (GIM mtX6_nearestBy 6 M0) (fun h_6 => ?_) (fun h_6 => ?_)
  · have hp := hp.1 h_6
    refine r_icmp_ge_t MF.bs (tgt := 54) dX6_nearestBy_46 (by decide) h_6 ?_
    refine r_iload MF.bs dX6_nearestBy_54 7 rfl ?_
    refine r_sub [(0, .ref 46), (1, .int v1), (2, .int v2), (3, .int v3), (4, .int v4), (5, .int v5), (7, .int v7), (8, .int v8), (9, .int k0)] [1, 2, 3, 4, 5, 6, 8, 9, 0] rfl ?_
    exact cX6_nearestBy_56 M0 kf19 kP19 hk19 v1 v2 v3 v4 v5 v7 v8 k0 v6 M hp
  · have hp := hp.2 h_6
    refine r_icmp_ge_f MF.bs (tgt := 54) dX6_nearestBy_46 (by decide) h_6 ?_
    refine r_iload MF.bs dX6_nearestBy_49 9 rfl ?_
    refine r_goto MF.bs dX6_nearestBy_51 (tgt := 56) (by decide) ?_
    refine r_sub [(0, .ref 46), (1, .int v1), (2, .int v2), (3, .int v3), (4, .int v4), (5, .int v5), (7, .int v7), (8, .int v8), (9, .int k0)] [1, 2, 3, 4, 5, 6, 8, 9, 0] rfl ?_
    exact cX6_nearestBy_56 M0 kf19 kP19 hk19 v1 v2 v3 v4 v5 v7 v8 k0 v8 M hp
def mX6_nearestBy_19   : Nat → Int32 → Int32 → Int32 → Int32 → Int32 → Int32 → Int32 → Int32 → Mem → Int32 × Mem
  | 0, _, _, _, _, _, _, _, _, M => (0, M)
  | n + 1, v1, v2, v3, v4, v5, v6, v7, v8, M => (if v3 < v8 then (v6, (upm M 47 v2.toNatClampNeg v5)) else (mX6_nearestBy_40 (mX6_nearestBy_19 n) v1 v2 v3 v4 v5 v6 v7 v8 ((mX6_offBehind v1 v4 (upm M 47 v2.toNatClampNeg v8)).1) ((mX6_offBehind v1 v4 (upm M 47 v2.toNatClampNeg v8)).2)))
def PX6_nearestBy_19   : Nat → Int32 → Int32 → Int32 → Int32 → Int32 → Int32 → Int32 → Int32 → Mem → Prop
  | 0, _, _, _, _, _, _, _, _, _ => False
  | n + 1, v1, v2, v3, v4, v5, v6, v7, v8, M => ((v3 < v8 → vp_in v2 56) ∧ (¬ v3 < v8 → vp_in v2 56 ∧ (PX6_offBehind v1 v4 (upm M 47 v2.toNatClampNeg v8) ∧ (PX6_nearestBy_40 (PX6_nearestBy_19 n) v1 v2 v3 v4 v5 v6 v7 v8 ((mX6_offBehind v1 v4 (upm M 47 v2.toNatClampNeg v8)).1) ((mX6_offBehind v1 v4 (upm M 47 v2.toNatClampNeg v8)).2)))))
set_option maxRecDepth 100000 in
theorem cX6_nearestBy_19    (M0 : Mem) : ∀ (n : Nat) (v1 : Int32) (v2 : Int32) (v3 : Int32) (v4 : Int32) (v5 : Int32) (v6 : Int32) (v7 : Int32) (v8 : Int32) (M : Mem), PX6_nearestBy_19 n v1 v2 v3 v4 v5 v6 v7 v8 M → AWP (GIM mtX6_nearestBy 6 M0 (mX6_nearestBy_19 n v1 v2 v3 v4 v5 v6 v7 v8 M)) mtX6_nearestBy 19 [(0, .ref 46), (1, .int v1), (2, .int v2), (3, .int v3), (4, .int v4), (5, .int v5), (6, .int v6), (7, .int v7), (8, .int v8)] [] M := by
  intro n
  induction n with
  | zero =>
    intro v1 v2 v3 v4 v5 v6 v7 v8 M hp
    exact hp.elim
  | succ n ih =>
    intro v1 v2 v3 v4 v5 v6 v7 v8 M hp
    rw [mX6_nearestBy_19]
    rw [PX6_nearestBy_19] at hp
    refine r_iload MF.bs dX6_nearestBy_19 8 rfl ?_
    refine r_iload_n MF.bs dX6_nearestBy_21 rfl 3 rfl ?_
    refine r_ite (GIM mtX6_nearestBy 6 M0) (fun h_2 => ?_) (fun h_2 => ?_)
    · have hp := hp.1 h_2
      refine r_icmp_gt_t MF.bs (tgt := 73) dX6_nearestBy_22 (by decide) h_2 ?_
      have hq_3 := hp
      refine r_aload_n MF.bs dX6_nearestBy_73 rfl 0 rfl ?_
      refine r_getR MF.bs dX6_nearestBy_74 rfl rfl 0 (by decide) wd_875 rfl ?_
      refine r_iload_n MF.bs dX6_nearestBy_77 rfl 2 rfl ?_
      refine r_iload MF.bs dX6_nearestBy_78 5 rfl ?_
      refine r_iastore MF.bs dX6_nearestBy_80 rfl hq_3 ?_
      refine r_iload MF.bs dX6_nearestBy_81 6 rfl ?_
      exact r_iret dX6_nearestBy_83 rfl
    · have hp := hp.2 h_2
      refine r_icmp_gt_f MF.bs (tgt := 73) dX6_nearestBy_22 (by decide) h_2 ?_
      obtain ⟨hq_4, hp⟩ := hp
      obtain ⟨hq_5, hp⟩ := hp
      refine r_aload_n MF.bs dX6_nearestBy_25 rfl 0 rfl ?_
      refine r_getR MF.bs dX6_nearestBy_26 rfl rfl 0 (by decide) wd_875 rfl ?_
      refine r_iload_n MF.bs dX6_nearestBy_29 rfl 2 rfl ?_
      refine r_iload MF.bs dX6_nearestBy_30 8 rfl ?_
      refine r_iastore MF.bs dX6_nearestBy_32 rfl hq_4 ?_
      refine r_aload_n MF.bs dX6_nearestBy_33 rfl 0 rfl ?_
      refine r_iload_n MF.bs dX6_nearestBy_34 rfl 1 rfl ?_
      refine r_iload MF.bs dX6_nearestBy_35 4 rfl ?_
      refine r_callV_v MF.bs (st := []) dX6_nearestBy_37 (ctX6_offBehind v1 v4 (upm M 47 v2.toNatClampNeg v8) hq_5) miX6_offBehind wd_1212 rfl (by decide) rfl (Nat.le_of_ble_eq_true rfl) rfl rfl rfl ?_
      exact cX6_nearestBy_40 M0 (mX6_nearestBy_19 n) (PX6_nearestBy_19 n) ih v1 v2 v3 v4 v5 v6 v7 v8 ((mX6_offBehind v1 v4 (upm M 47 v2.toNatClampNeg v8)).1) ((mX6_offBehind v1 v4 (upm M 47 v2.toNatClampNeg v8)).2) hp
def mX6_nearestBy  (a1 : Int32) (a2 : Int32) (a3 : Int32) (a4 : Int32) (M : Mem) : Int32 × Mem := (mX6_nearestBy_19 400 a1 a2 a3 a4 (M 47 a2.toNatClampNeg) 0 1000 0 M)
def PX6_nearestBy  (a1 : Int32) (a2 : Int32) (a3 : Int32) (a4 : Int32) (M : Mem) : Prop := vp_in a2 56 ∧ (PX6_nearestBy_19 400 a1 a2 a3 a4 (M 47 a2.toNatClampNeg) 0 1000 0 M)
set_option maxRecDepth 100000 in
theorem ctX6_nearestBy   (a1 : Int32) (a2 : Int32) (a3 : Int32) (a4 : Int32) (M : Mem) (hp : PX6_nearestBy a1 a2 a3 a4 M) : CT mtX6_nearestBy 6 [.ref 46, .int a1, .int a2, .int a3, .int a4] M (some (.int ((mX6_nearestBy a1 a2 a3 a4 M).1)), (mX6_nearestBy a1 a2 a3 a4 M).2) := by
  refine CT.of (by decide) rfl (Nat.le_of_ble_eq_true rfl) ?_
  show AWP (GIM mtX6_nearestBy 6 M (mX6_nearestBy a1 a2 a3 a4 M)) mtX6_nearestBy 0 [(0, .ref 46), (1, .int a1), (2, .int a2), (3, .int a3), (4, .int a4)] [] M
  unfold mX6_nearestBy
  unfold PX6_nearestBy at hp
  obtain ⟨hq_1, hp⟩ := hp
  refine r_aload_n MF.bs dX6_nearestBy_0 rfl 0 rfl ?_
  refine r_getR MF.bs dX6_nearestBy_1 rfl rfl 0 (by decide) wd_875 rfl ?_
  refine r_iload_n MF.bs dX6_nearestBy_4 rfl 2 rfl ?_
  refine r_iaload MF.bs dX6_nearestBy_5 rfl hq_1 ?_
  refine r_istore MF.bs (lv' := [(5, .int (M 47 a2.toNatClampNeg)), (0, .ref 46), (1, .int a1), (2, .int a2), (3, .int a3), (4, .int a4)]) dX6_nearestBy_6 (by decide) rfl ?_
  refine r_iconst MF.bs dX6_nearestBy_8 (v := 0) (by decide) ?_
  refine r_istore MF.bs (lv' := [(6, .int 0), (5, .int (M 47 a2.toNatClampNeg)), (0, .ref 46), (1, .int a1), (2, .int a2), (3, .int a3), (4, .int a4)]) dX6_nearestBy_9 (by decide) rfl ?_
  refine r_sipush MF.bs dX6_nearestBy_11 (v := 1000) (by decide) ?_
  refine r_istore MF.bs (lv' := [(7, .int 1000), (6, .int 0), (5, .int (M 47 a2.toNatClampNeg)), (0, .ref 46), (1, .int a1), (2, .int a2), (3, .int a3), (4, .int a4)]) dX6_nearestBy_14 (by decide) rfl ?_
  refine r_iconst MF.bs dX6_nearestBy_16 (v := 0) (by decide) ?_
  refine r_istore MF.bs (lv' := [(8, .int 0), (7, .int 1000), (6, .int 0), (5, .int (M 47 a2.toNatClampNeg)), (0, .ref 46), (1, .int a1), (2, .int a2), (3, .int a3), (4, .int a4)]) dX6_nearestBy_17 (by decide) rfl ?_
  refine r_sub [(0, .ref 46), (1, .int a1), (2, .int a2), (3, .int a3), (4, .int a4), (5, .int (M 47 a2.toNatClampNeg)), (6, .int 0), (7, .int 1000), (8, .int 0)] [4, 5, 6, 7, 8, 3, 2, 1, 0] rfl ?_
  exact cX6_nearestBy_19 M 400 a1 a2 a3 a4 (M 47 a2.toNatClampNeg) 0 1000 0 M hp
abbrev mtX6_windFor : MT := (RX6, yX6_windFor, cX6_windFor, 3, (some .int))
theorem miX6_windFor : MV mtX6_windFor 2 := ⟨wd_1226, ⟨wd_1224, wd_1225⟩, wd_86, ⟨by decide, by decide, by decide +kernel⟩, by decide⟩
def mX6_windFor_23   (k0 : Int32) (M : Mem) : Int32 × Mem := (k0, M)
def PX6_windFor_23   (k0 : Int32) (M : Mem) : Prop := True
set_option maxRecDepth 100000 in
theorem cX6_windFor_23    (M0 : Mem) (k0 : Int32) (M : Mem) (hp : PX6_windFor_23 k0 M) : AWP (GIM mtX6_windFor 7 M0 (mX6_windFor_23 k0 M)) mtX6_windFor 23 [] [.int k0] M := by
  unfold mX6_windFor_23
  unfold PX6_windFor_23 at hp
  refine r_goto MF.bs dX6_windFor_23 (tgt := 27) (by decide) ?_
  exact r_iret dX6_windFor_27 rfl
def mX6_windFor  (a1 : Int32) (a2 : Int32) (M : Mem) : Int32 × Mem := (if (mX6_isOne a1 M) = true then (if (mX6_isShort a2) = true then (mX6_windFor_23 ((mX6_nearestBy a1 3 3 a2 M).1) ((mX6_nearestBy a1 3 3 a2 M).2)) else ((-1), M)) else ((-1), M))
def PX6_windFor  (a1 : Int32) (a2 : Int32) (M : Mem) : Prop := ((mX6_isOne a1 M) = true → ((mX6_isShort a2) = true → PX6_nearestBy a1 3 3 a2 M ∧ (PX6_windFor_23 ((mX6_nearestBy a1 3 3 a2 M).1) ((mX6_nearestBy a1 3 3 a2 M).2))))
set_option maxRecDepth 100000 in
theorem ctX6_windFor   (a1 : Int32) (a2 : Int32) (M : Mem) (hp : PX6_windFor a1 a2 M) : CT mtX6_windFor 7 [.ref 46, .int a1, .int a2] M (some (.int ((mX6_windFor a1 a2 M).1)), (mX6_windFor a1 a2 M).2) := by
  refine CT.of (by decide) rfl (Nat.le_of_ble_eq_true rfl) ?_
  show AWP (GIM mtX6_windFor 7 M (mX6_windFor a1 a2 M)) mtX6_windFor 0 [(0, .ref 46), (1, .int a1), (2, .int a2)] [] M
  unfold mX6_windFor
  unfold PX6_windFor at hp
  refine r_aload_n MF.bs dX6_windFor_0 rfl 0 rfl ?_
  refine r_iload_n MF.bs dX6_windFor_1 rfl 1 rfl ?_
  refine r_callV_v MF.bs (st := []) dX6_windFor_2 (ctX6_isOne a1 M) miX6_isOne wd_1079 rfl (by decide) rfl (Nat.le_of_ble_eq_true rfl) rfl rfl rfl ?_
  refine r_ite (GIM mtX6_windFor 7 M) (fun h_1 => ?_) (fun h_1 => ?_)
  · have hp := hp h_1
    refine r_if_eq_f MF.bs (tgt := 26) dX6_windFor_5 (by decide) (b2i_1 h_1) ?_
    refine r_iload_n MF.bs dX6_windFor_8 rfl 2 rfl ?_
    refine r_callS_v MF.bs (st := []) dX6_windFor_9 (ctX6_isShort a2 M) miX6_isShort wd_1227 rfl (by decide) rfl (Nat.le_of_ble_eq_true rfl) ?_
    refine r_ite (GIM mtX6_windFor 7 M) (fun h_2 => ?_) (fun h_2 => ?_)
    · have hp := hp h_2
      refine r_if_eq_f MF.bs (tgt := 26) dX6_windFor_12 (by decide) (b2i_1 h_2) ?_
      obtain ⟨hq_3, hp⟩ := hp
      refine r_aload_n MF.bs dX6_windFor_15 rfl 0 rfl ?_
      refine r_iload_n MF.bs dX6_windFor_16 rfl 1 rfl ?_
      refine r_iconst MF.bs dX6_windFor_17 (v := 3) (by decide) ?_
      refine r_iconst MF.bs dX6_windFor_18 (v := 3) (by decide) ?_
      refine r_iload_n MF.bs dX6_windFor_19 rfl 2 rfl ?_
      refine r_callV_v MF.bs (st := []) dX6_windFor_20 (ctX6_nearestBy a1 3 3 a2 M hq_3) miX6_nearestBy wd_1230 rfl (by decide) rfl (Nat.le_of_ble_eq_true rfl) rfl rfl rfl ?_
      refine r_sub [] [] rfl ?_
      exact cX6_windFor_23 M ((mX6_nearestBy a1 3 3 a2 M).1) ((mX6_nearestBy a1 3 3 a2 M).2) hp
    · refine r_if_eq_t MF.bs (tgt := 26) dX6_windFor_12 (by decide) (b2i_0 h_2) ?_
      refine r_iconst MF.bs dX6_windFor_26 (v := -1) (by decide) ?_
      exact r_iret dX6_windFor_27 rfl
  · refine r_if_eq_t MF.bs (tgt := 26) dX6_windFor_5 (by decide) (b2i_0 h_1) ?_
    refine r_iconst MF.bs dX6_windFor_26 (v := -1) (by decide) ?_
    exact r_iret dX6_windFor_27 rfl
abbrev mtX6_kindFor : MT := (RX6, yX6_kindFor, cX6_kindFor, 3, (some .int))
theorem miX6_kindFor : MV mtX6_kindFor 2 := ⟨wd_1240, ⟨wd_1238, wd_1239⟩, wd_86, ⟨by decide, by decide, by decide +kernel⟩, by decide⟩
def mX6_kindFor_28   (k0 : Int32) (M : Mem) : Int32 × Mem := (k0, M)
def PX6_kindFor_28   (k0 : Int32) (M : Mem) : Prop := True
set_option maxRecDepth 100000 in
theorem cX6_kindFor_28    (M0 : Mem) (k0 : Int32) (M : Mem) (hp : PX6_kindFor_28 k0 M) : AWP (GIM mtX6_kindFor 7 M0 (mX6_kindFor_28 k0 M)) mtX6_kindFor 28 [] [.int k0] M := by
  unfold mX6_kindFor_28
  unfold PX6_kindFor_28 at hp
  refine r_goto MF.bs dX6_kindFor_28 (tgt := 32) (by decide) ?_
  exact r_iret dX6_kindFor_32 rfl
def mX6_kindFor  (a1 : Int32) (a2 : Int32) (M : Mem) : Int32 × Mem := (if (mX6_isOne a1 M) = true then (if (mX6_isShort a2) = true then (mX6_kindFor_28 ((mX6_nearestBy a1 (24 + (4 * a1)) 5 a2 M).1) ((mX6_nearestBy a1 (24 + (4 * a1)) 5 a2 M).2)) else ((-1), M)) else ((-1), M))
def PX6_kindFor  (a1 : Int32) (a2 : Int32) (M : Mem) : Prop := ((mX6_isOne a1 M) = true → ((mX6_isShort a2) = true → PX6_nearestBy a1 (24 + (4 * a1)) 5 a2 M ∧ (PX6_kindFor_28 ((mX6_nearestBy a1 (24 + (4 * a1)) 5 a2 M).1) ((mX6_nearestBy a1 (24 + (4 * a1)) 5 a2 M).2))))
set_option maxRecDepth 100000 in
theorem ctX6_kindFor   (a1 : Int32) (a2 : Int32) (M : Mem) (hp : PX6_kindFor a1 a2 M) : CT mtX6_kindFor 7 [.ref 46, .int a1, .int a2] M (some (.int ((mX6_kindFor a1 a2 M).1)), (mX6_kindFor a1 a2 M).2) := by
  refine CT.of (by decide) rfl (Nat.le_of_ble_eq_true rfl) ?_
  show AWP (GIM mtX6_kindFor 7 M (mX6_kindFor a1 a2 M)) mtX6_kindFor 0 [(0, .ref 46), (1, .int a1), (2, .int a2)] [] M
  unfold mX6_kindFor
  unfold PX6_kindFor at hp
  refine r_aload_n MF.bs dX6_kindFor_0 rfl 0 rfl ?_
  refine r_iload_n MF.bs dX6_kindFor_1 rfl 1 rfl ?_
  refine r_callV_v MF.bs (st := []) dX6_kindFor_2 (ctX6_isOne a1 M) miX6_isOne wd_1079 rfl (by decide) rfl (Nat.le_of_ble_eq_true rfl) rfl rfl rfl ?_
  refine r_ite (GIM mtX6_kindFor 7 M) (fun h_1 => ?_) (fun h_1 => ?_)
  · have hp := hp h_1
    refine r_if_eq_f MF.bs (tgt := 31) dX6_kindFor_5 (by decide) (b2i_1 h_1) ?_
    refine r_iload_n MF.bs dX6_kindFor_8 rfl 2 rfl ?_
    refine r_callS_v MF.bs (st := []) dX6_kindFor_9 (ctX6_isShort a2 M) miX6_isShort wd_1227 rfl (by decide) rfl (Nat.le_of_ble_eq_true rfl) ?_
    refine r_ite (GIM mtX6_kindFor 7 M) (fun h_2 => ?_) (fun h_2 => ?_)
    · have hp := hp h_2
      refine r_if_eq_f MF.bs (tgt := 31) dX6_kindFor_12 (by decide) (b2i_1 h_2) ?_
      obtain ⟨hq_3, hp⟩ := hp
      refine r_aload_n MF.bs dX6_kindFor_15 rfl 0 rfl ?_
      refine r_iload_n MF.bs dX6_kindFor_16 rfl 1 rfl ?_
      refine r_bipush MF.bs dX6_kindFor_17 (v := 24) (by decide) ?_
      refine r_iconst MF.bs dX6_kindFor_19 (v := 4) (by decide) ?_
      refine r_iload_n MF.bs dX6_kindFor_20 rfl 1 rfl ?_
      refine r_imul MF.bs dX6_kindFor_21 ?_
      refine r_iadd MF.bs dX6_kindFor_22 ?_
      refine r_iconst MF.bs dX6_kindFor_23 (v := 5) (by decide) ?_
      refine r_iload_n MF.bs dX6_kindFor_24 rfl 2 rfl ?_
      refine r_callV_v MF.bs (st := []) dX6_kindFor_25 (ctX6_nearestBy a1 (24 + (4 * a1)) 5 a2 M hq_3) miX6_nearestBy wd_1230 rfl (by decide) rfl (Nat.le_of_ble_eq_true rfl) rfl rfl rfl ?_
      refine r_sub [] [] rfl ?_
      exact cX6_kindFor_28 M ((mX6_nearestBy a1 (24 + (4 * a1)) 5 a2 M).1) ((mX6_nearestBy a1 (24 + (4 * a1)) 5 a2 M).2) hp
    · refine r_if_eq_t MF.bs (tgt := 31) dX6_kindFor_12 (by decide) (b2i_0 h_2) ?_
      refine r_iconst MF.bs dX6_kindFor_31 (v := -1) (by decide) ?_
      exact r_iret dX6_kindFor_32 rfl
  · refine r_if_eq_t MF.bs (tgt := 31) dX6_kindFor_5 (by decide) (b2i_0 h_1) ?_
    refine r_iconst MF.bs dX6_kindFor_31 (v := -1) (by decide) ?_
    exact r_iret dX6_kindFor_32 rfl
abbrev mtX6_seen : MT := (RX6, yX6_seen, cX6_seen, 4, (some .int))
theorem miX6_seen : MV mtX6_seen 1 := ⟨wd_1244, ⟨wd_1242, wd_1243⟩, wd_86, ⟨by decide, by decide, by decide +kernel⟩, by decide⟩
def mX6_seen_92   (kf48 : Int32 → Int32 → Mem → Int32 × Mem) (v1 : Int32) (v2 : Int32) (M : Mem) : Int32 × Mem := (kf48 v1 (v2 + 1) M)
def PX6_seen_92   (kP48 : Int32 → Int32 → Mem → Prop) (v1 : Int32) (v2 : Int32) (M : Mem) : Prop := kP48 v1 (v2 + 1) M
set_option maxRecDepth 100000 in
theorem cX6_seen_92    (M0 : Mem) (kf48 : Int32 → Int32 → Mem → Int32 × Mem) (kP48 : Int32 → Int32 → Mem → Prop) (hk48 : ∀ (v1 : Int32) (v2 : Int32) (M : Mem), kP48 v1 v2 M → AWP (GIM mtX6_seen 4 M0 (kf48 v1 v2 M)) mtX6_seen 48 [(0, .ref 46), (1, .int v1), (2, .int v2)] [] M) (v1 : Int32) (v2 : Int32) (M : Mem) (hp : PX6_seen_92 kP48 v1 v2 M) : AWP (GIM mtX6_seen 4 M0 (mX6_seen_92 kf48 v1 v2 M)) mtX6_seen 92 [(0, .ref 46), (1, .int v1), (2, .int v2)] [] M := by
  unfold mX6_seen_92
  unfold PX6_seen_92 at hp
  refine r_iinc MF.bs (v := (v2 + 1)) (lv' := [(2, .int (v2 + 1)), (0, .ref 46), (1, .int v1)]) dX6_seen_92 2 rfl rfl (by decide) rfl ?_
  refine r_goto MF.bs dX6_seen_95 (tgt := 48) (by decide) ?_
  refine r_sub [(0, .ref 46), (1, .int v1), (2, .int (v2 + 1))] [1, 2, 0] rfl ?_
  exact hk48 v1 (v2 + 1) M hp
def mX6_seen_55   (kf48 : Int32 → Int32 → Mem → Int32 × Mem) : Nat → Int32 → Int32 → Int32 → Mem → Int32 × Mem
  | 0, _, _, _, M => (0, M)
  | n + 1, v1, v2, v3, M => (if (M 47 0) ≤ v3 then (mX6_seen_92 kf48 v1 v2 (mX6_goesOn M)) else (mX6_seen_55 kf48 n v1 v2 (v3 + 1) (upm M 54 (mX6_its v3 3 M).toNatClampNeg ((M 54 (mX6_its v3 3 M).toNatClampNeg) ||| (1 <<< (v3 &&& 31))))))
def PX6_seen_55   (kP48 : Int32 → Int32 → Mem → Prop) : Nat → Int32 → Int32 → Int32 → Mem → Prop
  | 0, _, _, _, _ => False
  | n + 1, v1, v2, v3, M => (((M 47 0) ≤ v3 → PX6_goesOn M ∧ (PX6_seen_92 kP48 v1 v2 (mX6_goesOn M))) ∧ (¬ (M 47 0) ≤ v3 → PX6_its v3 3 M ∧ (vp_in (mX6_its v3 3 M) 16 ∧ (vp_in (mX6_its v3 3 M) 16 ∧ (PX6_seen_55 kP48 n v1 v2 (v3 + 1) (upm M 54 (mX6_its v3 3 M).toNatClampNeg ((M 54 (mX6_its v3 3 M).toNatClampNeg) ||| (1 <<< (v3 &&& 31)))))))))
set_option maxRecDepth 100000 in
theorem cX6_seen_55    (M0 : Mem) (kf48 : Int32 → Int32 → Mem → Int32 × Mem) (kP48 : Int32 → Int32 → Mem → Prop) (hk48 : ∀ (v1 : Int32) (v2 : Int32) (M : Mem), kP48 v1 v2 M → AWP (GIM mtX6_seen 4 M0 (kf48 v1 v2 M)) mtX6_seen 48 [(0, .ref 46), (1, .int v1), (2, .int v2)] [] M) : ∀ (n : Nat) (v1 : Int32) (v2 : Int32) (v3 : Int32) (M : Mem), PX6_seen_55 kP48 n v1 v2 v3 M → AWP (GIM mtX6_seen 4 M0 (mX6_seen_55 kf48 n v1 v2 v3 M)) mtX6_seen 55 [(0, .ref 46), (1, .int v1), (2, .int v2), (3, .int v3)] [] M := by
  intro n
  induction n with
  | zero =>
    intro v1 v2 v3 M hp
    exact hp.elim
  | succ n ih =>
    intro v1 v2 v3 M hp
    rw [mX6_seen_55]
    rw [PX6_seen_55] at hp
    refine r_iload_n MF.bs dX6_seen_55 rfl 3 rfl ?_
    refine r_aload_n MF.bs dX6_seen_56 rfl 0 rfl ?_
    refine r_getR MF.bs dX6_seen_57 rfl rfl 0 (by decide) wd_875 rfl ?_
    refine r_iconst MF.bs dX6_seen_60 (v := 0) (by decide) ?_
    refine r_ialoadL MF.bs dX6_seen_61 rfl (vin_l (by decide) (by decide)) (k9 := 0) (by decide) ?_
    refine r_ite (GIM mtX6_seen 4 M0) (fun h_7 => ?_) (fun h_7 => ?_)
    · have hp := hp.1 h_7
      refine r_icmp_ge_t MF.bs (tgt := 88) dX6_seen_62 (by decide) h_7 ?_
      obtain ⟨hq_8, hp⟩ := hp
      refine r_aload_n MF.bs dX6_seen_88 rfl 0 rfl ?_
      refine r_callV_n MF.bs (st := []) dX6_seen_89 (ctX6_goesOn M hq_8) miX6_goesOn wd_1139 rfl (by decide) rfl (Nat.le_of_ble_eq_true rfl) rfl rfl rfl ?_
      refine r_sub [(0, .ref 46), (1, .int v1), (2, .int v2)] [0, 1, 2] rfl ?_
      exact cX6_seen_92 M0 kf48 kP48 hk48 v1 v2 (mX6_goesOn M) hp
    · have hp := hp.2 h_7
      refine r_icmp_ge_f MF.bs (tgt := 88) dX6_seen_62 (by decide) h_7 ?_
      obtain ⟨hq_9, hp⟩ := hp
      obtain ⟨hq_10, hp⟩ := hp
      obtain ⟨hq_11, hp⟩ := hp
      refine r_aload_n MF.bs dX6_seen_65 rfl 0 rfl ?_
      refine r_getR MF.bs dX6_seen_66 rfl rfl 14 (by decide) wd_889 rfl ?_
      refine r_aload_n MF.bs dX6_seen_69 rfl 0 rfl ?_
      refine r_iload_n MF.bs dX6_seen_70 rfl 3 rfl ?_
      refine r_iconst MF.bs dX6_seen_71 (v := 3) (by decide) ?_
      refine r_callV_v MF.bs (st := [.ref 54]) dX6_seen_72 (ctX6_its v3 3 M hq_9) miX6_its wd_1083 rfl (by decide) rfl (Nat.le_of_ble_eq_true rfl) rfl rfl rfl ?_
      refine r_dup2 MF.bs dX6_seen_75 rfl rfl ?_
      refine r_iaload MF.bs dX6_seen_76 rfl hq_10 ?_
      refine r_iconst MF.bs dX6_seen_77 (v := 1) (by decide) ?_
      refine r_iload_n MF.bs dX6_seen_78 rfl 3 rfl ?_
      refine r_ishl MF.bs dX6_seen_79 ?_
      refine r_ior MF.bs dX6_seen_80 ?_
      refine r_iastore MF.bs dX6_seen_81 rfl hq_11 ?_
      refine r_iinc MF.bs (v := (v3 + 1)) (lv' := [(3, .int (v3 + 1)), (0, .ref 46), (1, .int v1), (2, .int v2)]) dX6_seen_82 3 rfl rfl (by decide) rfl ?_
      refine r_goto MF.bs dX6_seen_85 (tgt := 55) (by decide) ?_
      refine r_sub [(0, .ref 46), (1, .int v1), (2, .int v2), (3, .int (v3 + 1))] [1, 2, 3, 0] rfl ?_
      exact ih v1 v2 (v3 + 1) (upm M 54 (mX6_its v3 3 M).toNatClampNeg ((M 54 (mX6_its v3 3 M).toNatClampNeg) ||| (1 <<< (v3 &&& 31)))) hp
def mX6_seen_189   (kf118 : Int32 → Mem → Int32 × Mem) (kf140 : Int32 → Int32 → Mem → Int32 × Mem) (v2 : Int32) (v3 : Int32) (M : Mem) : Int32 × Mem := (kf140 v2 (v3 + 1) M)
def PX6_seen_189   (kP118 : Int32 → Mem → Prop) (kP140 : Int32 → Int32 → Mem → Prop) (v2 : Int32) (v3 : Int32) (M : Mem) : Prop := kP140 v2 (v3 + 1) M
set_option maxRecDepth 100000 in
theorem cX6_seen_189    (M0 : Mem) (kf118 : Int32 → Mem → Int32 × Mem) (kP118 : Int32 → Mem → Prop) (hk118 : ∀ (v2 : Int32) (M : Mem), kP118 v2 M → AWP (GIM mtX6_seen 4 M0 (kf118 v2 M)) mtX6_seen 118 [(0, .ref 46), (2, .int v2)] [] M) (kf140 : Int32 → Int32 → Mem → Int32 × Mem) (kP140 : Int32 → Int32 → Mem → Prop) (hk140 : ∀ (v2 : Int32) (v3 : Int32) (M : Mem), kP140 v2 v3 M → AWP (GIM mtX6_seen 4 M0 (kf140 v2 v3 M)) mtX6_seen 140 [(0, .ref 46), (2, .int v2), (3, .int v3)] [] M) (v2 : Int32) (v3 : Int32) (M : Mem) (hp : PX6_seen_189 kP118 kP140 v2 v3 M) : AWP (GIM mtX6_seen 4 M0 (mX6_seen_189 kf118 kf140 v2 v3 M)) mtX6_seen 189 [(0, .ref 46), (2, .int v2), (3, .int v3)] [] M := by
  unfold mX6_seen_189
  unfold PX6_seen_189 at hp
  refine r_iinc MF.bs (v := (v3 + 1)) (lv' := [(3, .int (v3 + 1)), (0, .ref 46), (2, .int v2)]) dX6_seen_189 2 rfl rfl (by decide) rfl ?_
  refine r_goto MF.bs dX6_seen_192 (tgt := 140) (by decide) ?_
  refine r_sub [(0, .ref 46), (2, .int v2), (3, .int (v3 + 1))] [1, 2, 0] rfl ?_
  exact hk140 v2 (v3 + 1) M hp
def mX6_seen_140   (kf118 : Int32 → Mem → Int32 × Mem) : Nat → Int32 → Int32 → Mem → Int32 × Mem
  | 0, _, _, M => (0, M)
  | n + 1, v2, v3, M => (if 16 ≤ v3 then (kf118 (v2 + 1) M) else (if (v2 &&& (M 54 v3.toNatClampNeg)) = 0 then (mX6_seen_189 kf118 (mX6_seen_140 kf118 n) v2 v3 M) else (mX6_seen_189 kf118 (mX6_seen_140 kf118 n) v2 v3 (upm M 55 v2.toNatClampNeg (mX6_least (M 55 v2.toNatClampNeg) (1 + (M 55 (v2 &&& ((M 54 v3.toNatClampNeg) ^^^ (-1))).toNatClampNeg)))))))
def PX6_seen_140   (kP118 : Int32 → Mem → Prop) : Nat → Int32 → Int32 → Mem → Prop
  | 0, _, _, _ => False
  | n + 1, v2, v3, M => ((16 ≤ v3 → kP118 (v2 + 1) M) ∧ (¬ 16 ≤ v3 → vp_in v3 16 ∧ ((((v2 &&& (M 54 v3.toNatClampNeg)) = 0 → PX6_seen_189 kP118 (PX6_seen_140 kP118 n) v2 v3 M) ∧ (¬ (v2 &&& (M 54 v3.toNatClampNeg)) = 0 → vp_in v2 256 ∧ (vp_in v3 16 ∧ (vp_in (v2 &&& ((M 54 v3.toNatClampNeg) ^^^ (-1))) 256 ∧ (vp_in v2 256 ∧ (PX6_seen_189 kP118 (PX6_seen_140 kP118 n) v2 v3 (upm M 55 v2.toNatClampNeg (mX6_least (M 55 v2.toNatClampNeg) (1 + (M 55 (v2 &&& ((M 54 v3.toNatClampNeg) ^^^ (-1))).toNatClampNeg)))))))))))))
set_option maxRecDepth 100000 in
theorem cX6_seen_140    (M0 : Mem) (kf118 : Int32 → Mem → Int32 × Mem) (kP118 : Int32 → Mem → Prop) (hk118 : ∀ (v2 : Int32) (M : Mem), kP118 v2 M → AWP (GIM mtX6_seen 4 M0 (kf118 v2 M)) mtX6_seen 118 [(0, .ref 46), (2, .int v2)] [] M) : ∀ (n : Nat) (v2 : Int32) (v3 : Int32) (M : Mem), PX6_seen_140 kP118 n v2 v3 M → AWP (GIM mtX6_seen 4 M0 (mX6_seen_140 kf118 n v2 v3 M)) mtX6_seen 140 [(0, .ref 46), (2, .int v2), (3, .int v3)] [] M := by
  intro n
  induction n with
  | zero =>
    intro v2 v3 M hp
    exact hp.elim
  | succ n ih =>
    intro v2 v3 M hp
    rw [mX6_seen_140]
    rw [PX6_seen_140] at hp
    refine r_iload_n MF.bs dX6_seen_140 rfl 2 rfl ?_
    refine r_bipush MF.bs dX6_seen_141 (v := 16) (by decide) ?_
    refine r_ite (GIM mtX6_seen 4 M0) (fun h_15 => ?_) (fun h_15 => ?_)
    · have hp := hp.1 h_15
      refine r_icmp_ge_t MF.bs (tgt := 195) dX6_seen_143 (by decide) h_15 ?_
      refine r_iinc MF.bs (v := (v2 + 1)) (lv' := [(2, .int (v2 + 1)), (0, .ref 46), (3, .int v3)]) dX6_seen_195 1 rfl rfl (by decide) rfl ?_
      refine r_goto MF.bs dX6_seen_198 (tgt := 118) (by decide) ?_
      refine r_sub [(0, .ref 46), (2, .int (v2 + 1))] [1, 0] rfl ?_
      exact hk118 (v2 + 1) M hp
    · have hp := hp.2 h_15
      refine r_icmp_ge_f MF.bs (tgt := 195) dX6_seen_143 (by decide) h_15 ?_
      obtain ⟨hq_16, hp⟩ := hp
      refine r_iload_n MF.bs dX6_seen_146 rfl 1 rfl ?_
      refine r_aload_n MF.bs dX6_seen_147 rfl 0 rfl ?_
      refine r_getR MF.bs dX6_seen_148 rfl rfl 14 (by decide) wd_889 rfl ?_
      refine r_iload_n MF.bs dX6_seen_151 rfl 2 rfl ?_
      refine r_iaload MF.bs dX6_seen_152 rfl hq_16 ?_
      refine r_iand MF.bs dX6_seen_153 ?_
      refine r_ite (GIM mtX6_seen 4 M0) (fun h_17 => ?_) (fun h_17 => ?_)
      · have hp := hp.1 h_17
        refine r_if_eq_t MF.bs (tgt := 189) dX6_seen_154 (by decide) h_17 ?_
        exact cX6_seen_189 M0 kf118 kP118 hk118 (mX6_seen_140 kf118 n) (PX6_seen_140 kP118 n) ih v2 v3 M hp
      · have hp := hp.2 h_17
        refine r_if_eq_f MF.bs (tgt := 189) dX6_seen_154 (by decide) h_17 ?_
        obtain ⟨hq_18, hp⟩ := hp
        obtain ⟨hq_19, hp⟩ := hp
        obtain ⟨hq_20, hp⟩ := hp
        obtain ⟨hq_21, hp⟩ := hp
        refine r_aload_n MF.bs dX6_seen_157 rfl 0 rfl ?_
        refine r_getR MF.bs dX6_seen_158 rfl rfl 15 (by decide) wd_890 rfl ?_
        refine r_iload_n MF.bs dX6_seen_161 rfl 1 rfl ?_
        refine r_aload_n MF.bs dX6_seen_162 rfl 0 rfl ?_
        refine r_getR MF.bs dX6_seen_163 rfl rfl 15 (by decide) wd_890 rfl ?_
        refine r_iload_n MF.bs dX6_seen_166 rfl 1 rfl ?_
        refine r_iaload MF.bs dX6_seen_167 rfl hq_18 ?_
        refine r_iconst MF.bs dX6_seen_168 (v := 1) (by decide) ?_
        refine r_aload_n MF.bs dX6_seen_169 rfl 0 rfl ?_
        refine r_getR MF.bs dX6_seen_170 rfl rfl 15 (by decide) wd_890 rfl ?_
        refine r_iload_n MF.bs dX6_seen_173 rfl 1 rfl ?_
        refine r_aload_n MF.bs dX6_seen_174 rfl 0 rfl ?_
        refine r_getR MF.bs dX6_seen_175 rfl rfl 14 (by decide) wd_889 rfl ?_
        refine r_iload_n MF.bs dX6_seen_178 rfl 2 rfl ?_
        refine r_iaload MF.bs dX6_seen_179 rfl hq_19 ?_
        refine r_iconst MF.bs dX6_seen_180 (v := -1) (by decide) ?_
        refine r_ixor MF.bs dX6_seen_181 ?_
        refine r_iand MF.bs dX6_seen_182 ?_
        refine r_iaload MF.bs dX6_seen_183 rfl hq_20 ?_
        refine r_iadd MF.bs dX6_seen_184 ?_
        refine r_callS_v MF.bs (st := [.int v2, .ref 55]) dX6_seen_185 (ctX6_least (M 55 v2.toNatClampNeg) (1 + (M 55 (v2 &&& ((M 54 v3.toNatClampNeg) ^^^ (-1))).toNatClampNeg)) M) miX6_least wd_1234 rfl (by decide) rfl (Nat.le_of_ble_eq_true rfl) ?_
        refine r_iastore MF.bs dX6_seen_188 rfl hq_21 ?_
        exact cX6_seen_189 M0 kf118 kP118 hk118 (mX6_seen_140 kf118 n) (PX6_seen_140 kP118 n) ih v2 v3 (upm M 55 v2.toNatClampNeg (mX6_least (M 55 v2.toNatClampNeg) (1 + (M 55 (v2 &&& ((M 54 v3.toNatClampNeg) ^^^ (-1))).toNatClampNeg)))) hp
def mX6_seen_118   : Nat → Int32 → Mem → Int32 × Mem
  | 0, _, M => (0, M)
  | n + 1, v2, M => (if (1 <<< ((M 47 0) &&& 31)) ≤ v2 then ((M 55 ((1 <<< ((M 47 0) &&& 31)) - 1).toNatClampNeg), M) else (mX6_seen_140 (mX6_seen_118 n) 400 v2 0 (upm M 55 v2.toNatClampNeg 100)))
def PX6_seen_118   : Nat → Int32 → Mem → Prop
  | 0, _, _ => False
  | n + 1, v2, M => (((1 <<< ((M 47 0) &&& 31)) ≤ v2 → vp_in ((1 <<< ((M 47 0) &&& 31)) - 1) 256) ∧ (¬ (1 <<< ((M 47 0) &&& 31)) ≤ v2 → vp_in v2 256 ∧ (PX6_seen_140 (PX6_seen_118 n) 400 v2 0 (upm M 55 v2.toNatClampNeg 100))))
set_option maxRecDepth 100000 in
theorem cX6_seen_118    (M0 : Mem) : ∀ (n : Nat) (v2 : Int32) (M : Mem), PX6_seen_118 n v2 M → AWP (GIM mtX6_seen 4 M0 (mX6_seen_118 n v2 M)) mtX6_seen 118 [(0, .ref 46), (2, .int v2)] [] M := by
  intro n
  induction n with
  | zero =>
    intro v2 M hp
    exact hp.elim
  | succ n ih =>
    intro v2 M hp
    rw [mX6_seen_118]
    rw [PX6_seen_118] at hp
    refine r_iload_n MF.bs dX6_seen_118 rfl 1 rfl ?_
    refine r_iconst MF.bs dX6_seen_119 (v := 1) (by decide) ?_
    refine r_aload_n MF.bs dX6_seen_120 rfl 0 rfl ?_
    refine r_getR MF.bs dX6_seen_121 rfl rfl 0 (by decide) wd_875 rfl ?_
    refine r_iconst MF.bs dX6_seen_124 (v := 0) (by decide) ?_
    refine r_ialoadL MF.bs dX6_seen_125 rfl (vin_l (by decide) (by decide)) (k9 := 0) (by decide) ?_
    refine r_ishl MF.bs dX6_seen_126 ?_
    refine r_ite (GIM mtX6_seen 4 M0) (fun h_12 => ?_) (fun h_12 => ?_)
    · have hp := hp.1 h_12
      refine r_icmp_ge_t MF.bs (tgt := 201) dX6_seen_127 (by decide) h_12 ?_
      have hq_13 := hp
      refine r_aload_n MF.bs dX6_seen_201 rfl 0 rfl ?_
      refine r_getR MF.bs dX6_seen_202 rfl rfl 15 (by decide) wd_890 rfl ?_
      refine r_iconst MF.bs dX6_seen_205 (v := 1) (by decide) ?_
      refine r_aload_n MF.bs dX6_seen_206 rfl 0 rfl ?_
      refine r_getR MF.bs dX6_seen_207 rfl rfl 0 (by decide) wd_875 rfl ?_
      refine r_iconst MF.bs dX6_seen_210 (v := 0) (by decide) ?_
      refine r_ialoadL MF.bs dX6_seen_211 rfl (vin_l (by decide) (by decide)) (k9 := 0) (by decide) ?_
      refine r_ishl MF.bs dX6_seen_212 ?_
      refine r_iconst MF.bs dX6_seen_213 (v := 1) (by decide) ?_
      refine r_isub MF.bs dX6_seen_214 ?_
      refine r_iaload MF.bs dX6_seen_215 rfl hq_13 ?_
      exact r_iret dX6_seen_216 rfl
    · have hp := hp.2 h_12
      refine r_icmp_ge_f MF.bs (tgt := 201) dX6_seen_127 (by decide) h_12 ?_
      obtain ⟨hq_14, hp⟩ := hp
      refine r_aload_n MF.bs dX6_seen_130 rfl 0 rfl ?_
      refine r_getR MF.bs dX6_seen_131 rfl rfl 15 (by decide) wd_890 rfl ?_
      refine r_iload_n MF.bs dX6_seen_134 rfl 1 rfl ?_
      refine r_bipush MF.bs dX6_seen_135 (v := 100) (by decide) ?_
      refine r_iastore MF.bs dX6_seen_137 rfl hq_14 ?_
      refine r_iconst MF.bs dX6_seen_138 (v := 0) (by decide) ?_
      refine r_istore_n MF.bs (lv' := [(3, .int 0), (0, .ref 46), (2, .int v2)]) dX6_seen_139 rfl (by decide) rfl ?_
      refine r_sub [(0, .ref 46), (2, .int v2), (3, .int 0)] [1, 2, 0] rfl ?_
      exact cX6_seen_140 M0 (mX6_seen_118 n) (PX6_seen_118 n) ih 400 v2 0 (upm M 55 v2.toNatClampNeg 100) hp
def mX6_seen_109   (M : Mem) : Int32 × Mem := (mX6_seen_118 400 1 (upm M 55 0 0))
def PX6_seen_109   (M : Mem) : Prop := PX6_seen_118 400 1 (upm M 55 0 0)
set_option maxRecDepth 100000 in
theorem cX6_seen_109    (M0 : Mem) (M : Mem) (hp : PX6_seen_109 M) : AWP (GIM mtX6_seen 4 M0 (mX6_seen_109 M)) mtX6_seen 109 [(0, .ref 46)] [] M := by
  unfold mX6_seen_109
  unfold PX6_seen_109 at hp
  refine r_aload_n MF.bs dX6_seen_109 rfl 0 rfl ?_
  refine r_getR MF.bs dX6_seen_110 rfl rfl 15 (by decide) wd_890 rfl ?_
  refine r_iconst MF.bs dX6_seen_113 (v := 0) (by decide) ?_
  refine r_iconst MF.bs dX6_seen_114 (v := 0) (by decide) ?_
  refine r_iastoreL MF.bs dX6_seen_115 rfl (vin_l (by decide) (by decide)) (k9 := 0) (by decide) ?_
  refine r_iconst MF.bs dX6_seen_116 (v := 1) (by decide) ?_
  refine r_istore_n MF.bs (lv' := [(2, .int 1), (0, .ref 46)]) dX6_seen_117 rfl (by decide) rfl ?_
  refine r_sub [(0, .ref 46), (2, .int 1)] [1, 0] rfl ?_
  exact cX6_seen_118 M0 400 1 (upm M 55 0 0) hp
def mX6_seen_48   : Nat → Int32 → Int32 → Mem → Int32 × Mem
  | 0, _, _, M => (0, M)
  | n + 1, v1, v2, M => (if v1 < v2 then (mX6_seen_109 (mX6_copyRow 49 56 47 56 M)) else (mX6_seen_55 (mX6_seen_48 n) 400 v1 v2 0 M))
def PX6_seen_48   : Nat → Int32 → Int32 → Mem → Prop
  | 0, _, _, _ => False
  | n + 1, v1, v2, M => ((v1 < v2 → PX6_copyRow 49 56 47 56 M ∧ (PX6_seen_109 (mX6_copyRow 49 56 47 56 M))) ∧ (¬ v1 < v2 → PX6_seen_55 (PX6_seen_48 n) 400 v1 v2 0 M))
set_option maxRecDepth 100000 in
theorem cX6_seen_48    (M0 : Mem) : ∀ (n : Nat) (v1 : Int32) (v2 : Int32) (M : Mem), PX6_seen_48 n v1 v2 M → AWP (GIM mtX6_seen 4 M0 (mX6_seen_48 n v1 v2 M)) mtX6_seen 48 [(0, .ref 46), (1, .int v1), (2, .int v2)] [] M := by
  intro n
  induction n with
  | zero =>
    intro v1 v2 M hp
    exact hp.elim
  | succ n ih =>
    intro v1 v2 M hp
    rw [mX6_seen_48]
    rw [PX6_seen_48] at hp
    refine r_iload_n MF.bs dX6_seen_48 rfl 2 rfl ?_
    refine r_iload_n MF.bs dX6_seen_49 rfl 1 rfl ?_
    refine r_ite (GIM mtX6_seen 4 M0) (fun h_5 => ?_) (fun h_5 => ?_)
    · have hp := hp.1 h_5
      refine r_icmp_gt_t MF.bs (tgt := 98) dX6_seen_50 (by decide) h_5 ?_
      obtain ⟨hq_6, hp⟩ := hp
      refine r_aload_n MF.bs dX6_seen_98 rfl 0 rfl ?_
      refine r_getR MF.bs dX6_seen_99 rfl rfl 2 (by decide) wd_877 rfl ?_
      refine r_aload_n MF.bs dX6_seen_102 rfl 0 rfl ?_
      refine r_getR MF.bs dX6_seen_103 rfl rfl 0 (by decide) wd_875 rfl ?_
      refine r_callS_n MF.bs (st := []) dX6_seen_106 (ctX6_copyRow 49 56 47 56 rfl rfl M hq_6) miX6_copyRow wd_979 rfl (by decide) rfl (Nat.le_of_ble_eq_true rfl) ?_
      refine r_sub [(0, .ref 46)] [0] rfl ?_
      exact cX6_seen_109 M0 (mX6_copyRow 49 56 47 56 M) hp
    · have hp := hp.2 h_5
      refine r_icmp_gt_f MF.bs (tgt := 98) dX6_seen_50 (by decide) h_5 ?_
      refine r_iconst MF.bs dX6_seen_53 (v := 0) (by decide) ?_
      refine r_istore_n MF.bs (lv' := [(3, .int 0), (0, .ref 46), (1, .int v1), (2, .int v2)]) dX6_seen_54 rfl (by decide) rfl ?_
      refine r_sub [(0, .ref 46), (1, .int v1), (2, .int v2), (3, .int 0)] [1, 2, 3, 0] rfl ?_
      exact cX6_seen_55 M0 (mX6_seen_48 n) (PX6_seen_48 n) ih 400 v1 v2 0 M hp
def mX6_seen_46   (v1 : Int32) (M : Mem) : Int32 × Mem := (mX6_seen_48 400 v1 0 M)
def PX6_seen_46   (v1 : Int32) (M : Mem) : Prop := PX6_seen_48 400 v1 0 M
set_option maxRecDepth 100000 in
theorem cX6_seen_46    (M0 : Mem) (v1 : Int32) (M : Mem) (hp : PX6_seen_46 v1 M) : AWP (GIM mtX6_seen 4 M0 (mX6_seen_46 v1 M)) mtX6_seen 46 [(0, .ref 46), (1, .int v1)] [] M := by
  unfold mX6_seen_46
  unfold PX6_seen_46 at hp
  refine r_iconst MF.bs dX6_seen_46 (v := 0) (by decide) ?_
  refine r_istore_n MF.bs (lv' := [(2, .int 0), (0, .ref 46), (1, .int v1)]) dX6_seen_47 rfl (by decide) rfl ?_
  refine r_sub [(0, .ref 46), (1, .int v1), (2, .int 0)] [1, 2, 0] rfl ?_
  exact cX6_seen_48 M0 400 v1 0 M hp
def mX6_seen_16   : Nat → Int32 → Int32 → Mem → Int32 × Mem
  | 0, _, _, M => (0, M)
  | n + 1, v1, v2, M => (if 16 ≤ v2 then (mX6_seen_46 v1 (mX6_copyRow 47 56 49 56 M)) else (mX6_seen_16 n v1 (v2 + 1) (upm M 54 v2.toNatClampNeg 0)))
def PX6_seen_16   : Nat → Int32 → Int32 → Mem → Prop
  | 0, _, _, _ => False
  | n + 1, v1, v2, M => ((16 ≤ v2 → PX6_copyRow 47 56 49 56 M ∧ (PX6_seen_46 v1 (mX6_copyRow 47 56 49 56 M))) ∧ (¬ 16 ≤ v2 → vp_in v2 16 ∧ (PX6_seen_16 n v1 (v2 + 1) (upm M 54 v2.toNatClampNeg 0))))
set_option maxRecDepth 100000 in
theorem cX6_seen_16    (M0 : Mem) : ∀ (n : Nat) (v1 : Int32) (v2 : Int32) (M : Mem), PX6_seen_16 n v1 v2 M → AWP (GIM mtX6_seen 4 M0 (mX6_seen_16 n v1 v2 M)) mtX6_seen 16 [(0, .ref 46), (1, .int v1), (2, .int v2)] [] M := by
  intro n
  induction n with
  | zero =>
    intro v1 v2 M hp
    exact hp.elim
  | succ n ih =>
    intro v1 v2 M hp
    rw [mX6_seen_16]
    rw [PX6_seen_16] at hp
    refine r_iload_n MF.bs dX6_seen_16 rfl 2 rfl ?_
    refine r_bipush MF.bs dX6_seen_17 (v := 16) (by decide) ?_
    refine r_ite (GIM mtX6_seen 4 M0) (fun h_2 => ?_) (fun h_2 => ?_)
    · have hp := hp.1 h_2
      refine r_icmp_ge_t MF.bs (tgt := 35) dX6_seen_19 (by decide) h_2 ?_
      obtain ⟨hq_3, hp⟩ := hp
      refine r_aload_n MF.bs dX6_seen_35 rfl 0 rfl ?_
      refine r_getR MF.bs dX6_seen_36 rfl rfl 0 (by decide) wd_875 rfl ?_
      refine r_aload_n MF.bs dX6_seen_39 rfl 0 rfl ?_
      refine r_getR MF.bs dX6_seen_40 rfl rfl 2 (by decide) wd_877 rfl ?_
      refine r_callS_n MF.bs (st := []) dX6_seen_43 (ctX6_copyRow 47 56 49 56 rfl rfl M hq_3) miX6_copyRow wd_979 rfl (by decide) rfl (Nat.le_of_ble_eq_true rfl) ?_
      refine r_sub [(0, .ref 46), (1, .int v1)] [0, 1] rfl ?_
      exact cX6_seen_46 M0 v1 (mX6_copyRow 47 56 49 56 M) hp
    · have hp := hp.2 h_2
      refine r_icmp_ge_f MF.bs (tgt := 35) dX6_seen_19 (by decide) h_2 ?_
      obtain ⟨hq_4, hp⟩ := hp
      refine r_aload_n MF.bs dX6_seen_22 rfl 0 rfl ?_
      refine r_getR MF.bs dX6_seen_23 rfl rfl 14 (by decide) wd_889 rfl ?_
      refine r_iload_n MF.bs dX6_seen_26 rfl 2 rfl ?_
      refine r_iconst MF.bs dX6_seen_27 (v := 0) (by decide) ?_
      refine r_iastore MF.bs dX6_seen_28 rfl hq_4 ?_
      refine r_iinc MF.bs (v := (v2 + 1)) (lv' := [(2, .int (v2 + 1)), (0, .ref 46), (1, .int v1)]) dX6_seen_29 2 rfl rfl (by decide) rfl ?_
      refine r_goto MF.bs dX6_seen_32 (tgt := 16) (by decide) ?_
      refine r_sub [(0, .ref 46), (1, .int v1), (2, .int (v2 + 1))] [1, 2, 0] rfl ?_
      exact ih v1 (v2 + 1) (upm M 54 v2.toNatClampNeg 0) hp
def mX6_seen  (a1 : Int32) (M : Mem) : Int32 × Mem := (if (mX6_isIn ((a1 : Int32).toInt64) 0 30) = true then (mX6_seen_16 400 a1 0 M) else ((-1), M))
def PX6_seen  (a1 : Int32) (M : Mem) : Prop := ((mX6_isIn ((a1 : Int32).toInt64) 0 30) = true → PX6_seen_16 400 a1 0 M)
set_option maxRecDepth 100000 in
theorem ctX6_seen   (a1 : Int32) (M : Mem) (hp : PX6_seen a1 M) : CT mtX6_seen 4 [.ref 46, .int a1] M (some (.int ((mX6_seen a1 M).1)), (mX6_seen a1 M).2) := by
  refine CT.of (by decide) rfl (Nat.le_of_ble_eq_true rfl) ?_
  show AWP (GIM mtX6_seen 4 M (mX6_seen a1 M)) mtX6_seen 0 [(0, .ref 46), (1, .int a1)] [] M
  unfold mX6_seen
  unfold PX6_seen at hp
  refine r_iload_n MF.bs dX6_seen_0 rfl 1 rfl ?_
  refine r_i2l MF.bs dX6_seen_1 ?_
  refine r_lconst MF.bs dX6_seen_2 (v := 0) (by decide) ?_
  refine r_ldc2 MF.bs (v := 30) dX6_seen_3 wd_1170 ?_
  refine r_callS_v MF.bs (st := []) dX6_seen_6 (ctX6_isIn ((a1 : Int32).toInt64) 0 30 M) miX6_isIn wd_971 rfl (by decide) rfl (Nat.le_of_ble_eq_true rfl) ?_
  refine r_ite (GIM mtX6_seen 4 M) (fun h_1 => ?_) (fun h_1 => ?_)
  · have hp := hp h_1
    refine r_if_ne_t MF.bs (tgt := 14) dX6_seen_9 (by decide) (b2i_1 h_1) ?_
    refine r_iconst MF.bs dX6_seen_14 (v := 0) (by decide) ?_
    refine r_istore_n MF.bs (lv' := [(2, .int 0), (0, .ref 46), (1, .int a1)]) dX6_seen_15 rfl (by decide) rfl ?_
    refine r_sub [(0, .ref 46), (1, .int a1), (2, .int 0)] [1, 2, 0] rfl ?_
    exact cX6_seen_16 M 400 a1 0 M hp
  · refine r_if_ne_f MF.bs (tgt := 14) dX6_seen_9 (by decide) (b2i_0 h_1) ?_
    refine r_iconst MF.bs dX6_seen_12 (v := -1) (by decide) ?_
    exact r_iret dX6_seen_13 rfl
abbrev mtX6_dryWay : MT := (RX6, yX6_dryWay, cX6_dryWay, 10, (some .int))
theorem miX6_dryWay : MV mtX6_dryWay 2 := ⟨wd_1248, ⟨wd_1246, wd_1247⟩, wd_86, ⟨by decide, by decide, by decide +kernel⟩, by decide⟩
def mX6_dryWay_126   (kf39 : Int32 → Int32 → Int32 → Int32 → Mem → Int32) (kf66 : Int32 → Int32 → Int32 → Int32 → Int32 → Int32 → Mem → Int32) (kf76 : Int32 → Int32 → Int32 → Int32 → Int32 → Int32 → Int32 → Mem → Int32) (v2 : Int32) (v3 : Int32) (v4 : Int32) (v5 : Int32) (v7 : Int32) (v8 : Int32) (k0 : Int32) (k1 : Int32) (M : Mem) : Int32 := (kf76 v2 v3 v4 v5 (k1 ||| k0) v7 (v8 + 1) M)
def PX6_dryWay_126   (kP39 : Int32 → Int32 → Int32 → Int32 → Mem → Prop) (kP66 : Int32 → Int32 → Int32 → Int32 → Int32 → Int32 → Mem → Prop) (kP76 : Int32 → Int32 → Int32 → Int32 → Int32 → Int32 → Int32 → Mem → Prop) (v2 : Int32) (v3 : Int32) (v4 : Int32) (v5 : Int32) (v7 : Int32) (v8 : Int32) (k0 : Int32) (k1 : Int32) (M : Mem) : Prop := kP76 v2 v3 v4 v5 (k1 ||| k0) v7 (v8 + 1) M
set_option maxRecDepth 100000 in
theorem cX6_dryWay_126    (kf39 : Int32 → Int32 → Int32 → Int32 → Mem → Int32) (kP39 : Int32 → Int32 → Int32 → Int32 → Mem → Prop) (hk39 : ∀ (v2 : Int32) (v3 : Int32) (v4 : Int32) (v5 : Int32) (M : Mem), kP39 v2 v3 v4 v5 M → AWP (GI mtX6_dryWay 1 M M (kf39 v2 v3 v4 v5 M)) mtX6_dryWay 39 [(2, .int v2), (3, .int v3), (4, .int v4), (5, .int v5)] [] M) (kf66 : Int32 → Int32 → Int32 → Int32 → Int32 → Int32 → Mem → Int32) (kP66 : Int32 → Int32 → Int32 → Int32 → Int32 → Int32 → Mem → Prop) (hk66 : ∀ (v2 : Int32) (v3 : Int32) (v4 : Int32) (v5 : Int32) (v6 : Int32) (v7 : Int32) (M : Mem), kP66 v2 v3 v4 v5 v6 v7 M → AWP (GI mtX6_dryWay 1 M M (kf66 v2 v3 v4 v5 v6 v7 M)) mtX6_dryWay 66 [(2, .int v2), (3, .int v3), (4, .int v4), (5, .int v5), (6, .int v6), (7, .int v7)] [] M) (kf76 : Int32 → Int32 → Int32 → Int32 → Int32 → Int32 → Int32 → Mem → Int32) (kP76 : Int32 → Int32 → Int32 → Int32 → Int32 → Int32 → Int32 → Mem → Prop) (hk76 : ∀ (v2 : Int32) (v3 : Int32) (v4 : Int32) (v5 : Int32) (v6 : Int32) (v7 : Int32) (v8 : Int32) (M : Mem), kP76 v2 v3 v4 v5 v6 v7 v8 M → AWP (GI mtX6_dryWay 1 M M (kf76 v2 v3 v4 v5 v6 v7 v8 M)) mtX6_dryWay 76 [(2, .int v2), (3, .int v3), (4, .int v4), (5, .int v5), (6, .int v6), (7, .int v7), (8, .int v8)] [] M) (v2 : Int32) (v3 : Int32) (v4 : Int32) (v5 : Int32) (v7 : Int32) (v8 : Int32) (k0 : Int32) (k1 : Int32) (M : Mem) (hp : PX6_dryWay_126 kP39 kP66 kP76 v2 v3 v4 v5 v7 v8 k0 k1 M) : AWP (GI mtX6_dryWay 1 M M (mX6_dryWay_126 kf39 kf66 kf76 v2 v3 v4 v5 v7 v8 k0 k1 M)) mtX6_dryWay 126 [(2, .int v2), (3, .int v3), (4, .int v4), (5, .int v5), (7, .int v7), (8, .int v8)] [.int k0, .int k1] M := by
  unfold mX6_dryWay_126
  unfold PX6_dryWay_126 at hp
  refine r_ior MF.bs dX6_dryWay_126 ?_
  refine r_istore MF.bs (lv' := [(6, .int (k1 ||| k0)), (2, .int v2), (3, .int v3), (4, .int v4), (5, .int v5), (7, .int v7), (8, .int v8)]) dX6_dryWay_127 (by decide) rfl ?_
  refine r_iinc MF.bs (v := (v8 + 1)) (lv' := [(8, .int (v8 + 1)), (6, .int (k1 ||| k0)), (2, .int v2), (3, .int v3), (4, .int v4), (5, .int v5), (7, .int v7)]) dX6_dryWay_129 6 rfl rfl (by decide) rfl ?_
  refine r_goto MF.bs dX6_dryWay_132 (tgt := 76) (by decide) ?_
  refine r_sub [(2, .int v2), (3, .int v3), (4, .int v4), (5, .int v5), (6, .int (k1 ||| k0)), (7, .int v7), (8, .int (v8 + 1))] [2, 3, 4, 5, 1, 6, 0] rfl ?_
  exact hk76 v2 v3 v4 v5 (k1 ||| k0) v7 (v8 + 1) M hp
def mX6_dryWay_125   (kf39 : Int32 → Int32 → Int32 → Int32 → Mem → Int32) (kf66 : Int32 → Int32 → Int32 → Int32 → Int32 → Int32 → Mem → Int32) (kf76 : Int32 → Int32 → Int32 → Int32 → Int32 → Int32 → Int32 → Mem → Int32) (v2 : Int32) (v3 : Int32) (v4 : Int32) (v5 : Int32) (v7 : Int32) (v8 : Int32) (k0 : Int32) (M : Mem) : Int32 := (mX6_dryWay_126 kf39 kf66 kf76 v2 v3 v4 v5 v7 v8 0 k0 M)
def PX6_dryWay_125   (kP39 : Int32 → Int32 → Int32 → Int32 → Mem → Prop) (kP66 : Int32 → Int32 → Int32 → Int32 → Int32 → Int32 → Mem → Prop) (kP76 : Int32 → Int32 → Int32 → Int32 → Int32 → Int32 → Int32 → Mem → Prop) (v2 : Int32) (v3 : Int32) (v4 : Int32) (v5 : Int32) (v7 : Int32) (v8 : Int32) (k0 : Int32) (M : Mem) : Prop := PX6_dryWay_126 kP39 kP66 kP76 v2 v3 v4 v5 v7 v8 0 k0 M
set_option maxRecDepth 100000 in
theorem cX6_dryWay_125    (kf39 : Int32 → Int32 → Int32 → Int32 → Mem → Int32) (kP39 : Int32 → Int32 → Int32 → Int32 → Mem → Prop) (hk39 : ∀ (v2 : Int32) (v3 : Int32) (v4 : Int32) (v5 : Int32) (M : Mem), kP39 v2 v3 v4 v5 M → AWP (GI mtX6_dryWay 1 M M (kf39 v2 v3 v4 v5 M)) mtX6_dryWay 39 [(2, .int v2), (3, .int v3), (4, .int v4), (5, .int v5)] [] M) (kf66 : Int32 → Int32 → Int32 → Int32 → Int32 → Int32 → Mem → Int32) (kP66 : Int32 → Int32 → Int32 → Int32 → Int32 → Int32 → Mem → Prop) (hk66 : ∀ (v2 : Int32) (v3 : Int32) (v4 : Int32) (v5 : Int32) (v6 : Int32) (v7 : Int32) (M : Mem), kP66 v2 v3 v4 v5 v6 v7 M → AWP (GI mtX6_dryWay 1 M M (kf66 v2 v3 v4 v5 v6 v7 M)) mtX6_dryWay 66 [(2, .int v2), (3, .int v3), (4, .int v4), (5, .int v5), (6, .int v6), (7, .int v7)] [] M) (kf76 : Int32 → Int32 → Int32 → Int32 → Int32 → Int32 → Int32 → Mem → Int32) (kP76 : Int32 → Int32 → Int32 → Int32 → Int32 → Int32 → Int32 → Mem → Prop) (hk76 : ∀ (v2 : Int32) (v3 : Int32) (v4 : Int32) (v5 : Int32) (v6 : Int32) (v7 : Int32) (v8 : Int32) (M : Mem), kP76 v2 v3 v4 v5 v6 v7 v8 M → AWP (GI mtX6_dryWay 1 M M (kf76 v2 v3 v4 v5 v6 v7 v8 M)) mtX6_dryWay 76 [(2, .int v2), (3, .int v3), (4, .int v4), (5, .int v5), (6, .int v6), (7, .int v7), (8, .int v8)] [] M) (v2 : Int32) (v3 : Int32) (v4 : Int32) (v5 : Int32) (v7 : Int32) (v8 : Int32) (k0 : Int32) (M : Mem) (hp : PX6_dryWay_125 kP39 kP66 kP76 v2 v3 v4 v5 v7 v8 k0 M) : AWP (GI mtX6_dryWay 1 M M (mX6_dryWay_125 kf39 kf66 kf76 v2 v3 v4 v5 v7 v8 k0 M)) mtX6_dryWay 125 [(2, .int v2), (3, .int v3), (4, .int v4), (5, .int v5), (7, .int v7), (8, .int v8)] [.int k0] M := by
  unfold mX6_dryWay_125
  unfold PX6_dryWay_125 at hp
  refine r_iconst MF.bs dX6_dryWay_125 (v := 0) (by decide) ?_
  exact cX6_dryWay_126 kf39 kP39 hk39 kf66 kP66 hk66 kf76 kP76 hk76 v2 v3 v4 v5 v7 v8 0 k0 M hp
def mX6_dryWay_135   (kf39 : Int32 → Int32 → Int32 → Int32 → Mem → Int32) (kf66 : Int32 → Int32 → Int32 → Int32 → Int32 → Int32 → Mem → Int32) (v2 : Int32) (v3 : Int32) (v4 : Int32) (v5 : Int32) (v6 : Int32) (v7 : Int32) (M : Mem) : Int32 := (kf66 v2 v3 v4 v5 v6 (v7 + 1) M)
def PX6_dryWay_135   (kP39 : Int32 → Int32 → Int32 → Int32 → Mem → Prop) (kP66 : Int32 → Int32 → Int32 → Int32 → Int32 → Int32 → Mem → Prop) (v2 : Int32) (v3 : Int32) (v4 : Int32) (v5 : Int32) (v6 : Int32) (v7 : Int32) (M : Mem) : Prop := kP66 v2 v3 v4 v5 v6 (v7 + 1) M
set_option maxRecDepth 100000 in
theorem cX6_dryWay_135    (kf39 : Int32 → Int32 → Int32 → Int32 → Mem → Int32) (kP39 : Int32 → Int32 → Int32 → Int32 → Mem → Prop) (hk39 : ∀ (v2 : Int32) (v3 : Int32) (v4 : Int32) (v5 : Int32) (M : Mem), kP39 v2 v3 v4 v5 M → AWP (GI mtX6_dryWay 1 M M (kf39 v2 v3 v4 v5 M)) mtX6_dryWay 39 [(2, .int v2), (3, .int v3), (4, .int v4), (5, .int v5)] [] M) (kf66 : Int32 → Int32 → Int32 → Int32 → Int32 → Int32 → Mem → Int32) (kP66 : Int32 → Int32 → Int32 → Int32 → Int32 → Int32 → Mem → Prop) (hk66 : ∀ (v2 : Int32) (v3 : Int32) (v4 : Int32) (v5 : Int32) (v6 : Int32) (v7 : Int32) (M : Mem), kP66 v2 v3 v4 v5 v6 v7 M → AWP (GI mtX6_dryWay 1 M M (kf66 v2 v3 v4 v5 v6 v7 M)) mtX6_dryWay 66 [(2, .int v2), (3, .int v3), (4, .int v4), (5, .int v5), (6, .int v6), (7, .int v7)] [] M) (v2 : Int32) (v3 : Int32) (v4 : Int32) (v5 : Int32) (v6 : Int32) (v7 : Int32) (M : Mem) (hp : PX6_dryWay_135 kP39 kP66 v2 v3 v4 v5 v6 v7 M) : AWP (GI mtX6_dryWay 1 M M (mX6_dryWay_135 kf39 kf66 v2 v3 v4 v5 v6 v7 M)) mtX6_dryWay 135 [(2, .int v2), (3, .int v3), (4, .int v4), (5, .int v5), (6, .int v6), (7, .int v7)] [] M := by
  unfold mX6_dryWay_135
  unfold PX6_dryWay_135 at hp
  refine r_iinc MF.bs (v := (v7 + 1)) (lv' := [(7, .int (v7 + 1)), (2, .int v2), (3, .int v3), (4, .int v4), (5, .int v5), (6, .int v6)]) dX6_dryWay_135 5 rfl rfl (by decide) rfl ?_
  refine r_goto MF.bs dX6_dryWay_138 (tgt := 66) (by decide) ?_
  refine r_sub [(2, .int v2), (3, .int v3), (4, .int v4), (5, .int v5), (6, .int v6), (7, .int (v7 + 1))] [1, 2, 3, 4, 5, 0] rfl ?_
  exact hk66 v2 v3 v4 v5 v6 (v7 + 1) M hp
def mX6_dryWay_76   (kf39 : Int32 → Int32 → Int32 → Int32 → Mem → Int32) (kf66 : Int32 → Int32 → Int32 → Int32 → Int32 → Int32 → Mem → Int32) : Nat → Int32 → Int32 → Int32 → Int32 → Int32 → Int32 → Int32 → Mem → Int32
  | 0, _, _, _, _, _, _, _, _ => 0
  | n + 1, v2, v3, v4, v5, v6, v7, v8, M => (if 4 ≤ v8 then (mX6_dryWay_135 kf39 kf66 v2 v3 v4 v5 v6 v7 M) else (if ((v4 >>> (v7 &&& 31)) &&& 1) = 1 then (if (mX6_nextBy v7 v8) < 0 then (mX6_dryWay_125 kf39 kf66 (mX6_dryWay_76 kf39 kf66 n) v2 v3 v4 v5 v7 v8 v6 M) else (if ((v3 >>> ((mX6_nextBy v7 v8) &&& 31)) &&& 1) = 0 then (mX6_dryWay_126 kf39 kf66 (mX6_dryWay_76 kf39 kf66 n) v2 v3 v4 v5 v7 v8 (1 <<< ((mX6_nextBy v7 v8) &&& 31)) v6 M) else (mX6_dryWay_125 kf39 kf66 (mX6_dryWay_76 kf39 kf66 n) v2 v3 v4 v5 v7 v8 v6 M))) else (mX6_dryWay_135 kf39 kf66 v2 v3 v4 v5 v6 v7 M)))
def PX6_dryWay_76   (kP39 : Int32 → Int32 → Int32 → Int32 → Mem → Prop) (kP66 : Int32 → Int32 → Int32 → Int32 → Int32 → Int32 → Mem → Prop) : Nat → Int32 → Int32 → Int32 → Int32 → Int32 → Int32 → Int32 → Mem → Prop
  | 0, _, _, _, _, _, _, _, _ => False
  | n + 1, v2, v3, v4, v5, v6, v7, v8, M => ((4 ≤ v8 → PX6_dryWay_135 kP39 kP66 v2 v3 v4 v5 v6 v7 M) ∧ (¬ 4 ≤ v8 → ((((v4 >>> (v7 &&& 31)) &&& 1) = 1 → (((mX6_nextBy v7 v8) < 0 → PX6_dryWay_125 kP39 kP66 (PX6_dryWay_76 kP39 kP66 n) v2 v3 v4 v5 v7 v8 v6 M) ∧ (¬ (mX6_nextBy v7 v8) < 0 → ((((v3 >>> ((mX6_nextBy v7 v8) &&& 31)) &&& 1) = 0 → PX6_dryWay_126 kP39 kP66 (PX6_dryWay_76 kP39 kP66 n) v2 v3 v4 v5 v7 v8 (1 <<< ((mX6_nextBy v7 v8) &&& 31)) v6 M) ∧ (¬ ((v3 >>> ((mX6_nextBy v7 v8) &&& 31)) &&& 1) = 0 → PX6_dryWay_125 kP39 kP66 (PX6_dryWay_76 kP39 kP66 n) v2 v3 v4 v5 v7 v8 v6 M))))) ∧ (¬ ((v4 >>> (v7 &&& 31)) &&& 1) = 1 → PX6_dryWay_135 kP39 kP66 v2 v3 v4 v5 v6 v7 M))))
set_option maxRecDepth 100000 in
theorem cX6_dryWay_76    (kf39 : Int32 → Int32 → Int32 → Int32 → Mem → Int32) (kP39 : Int32 → Int32 → Int32 → Int32 → Mem → Prop) (hk39 : ∀ (v2 : Int32) (v3 : Int32) (v4 : Int32) (v5 : Int32) (M : Mem), kP39 v2 v3 v4 v5 M → AWP (GI mtX6_dryWay 1 M M (kf39 v2 v3 v4 v5 M)) mtX6_dryWay 39 [(2, .int v2), (3, .int v3), (4, .int v4), (5, .int v5)] [] M) (kf66 : Int32 → Int32 → Int32 → Int32 → Int32 → Int32 → Mem → Int32) (kP66 : Int32 → Int32 → Int32 → Int32 → Int32 → Int32 → Mem → Prop) (hk66 : ∀ (v2 : Int32) (v3 : Int32) (v4 : Int32) (v5 : Int32) (v6 : Int32) (v7 : Int32) (M : Mem), kP66 v2 v3 v4 v5 v6 v7 M → AWP (GI mtX6_dryWay 1 M M (kf66 v2 v3 v4 v5 v6 v7 M)) mtX6_dryWay 66 [(2, .int v2), (3, .int v3), (4, .int v4), (5, .int v5), (6, .int v6), (7, .int v7)] [] M) : ∀ (n : Nat) (v2 : Int32) (v3 : Int32) (v4 : Int32) (v5 : Int32) (v6 : Int32) (v7 : Int32) (v8 : Int32) (M : Mem), PX6_dryWay_76 kP39 kP66 n v2 v3 v4 v5 v6 v7 v8 M → AWP (GI mtX6_dryWay 1 M M (mX6_dryWay_76 kf39 kf66 n v2 v3 v4 v5 v6 v7 v8 M)) mtX6_dryWay 76 [(2, .int v2), (3, .int v3), (4, .int v4), (5, .int v5), (6, .int v6), (7, .int v7), (8, .int v8)] [] M := by
  intro n
  induction n with
  | zero =>
    intro v2 v3 v4 v5 v6 v7 v8 M hp
    exact hp.elim
  | succ n ih =>
    intro v2 v3 v4 v5 v6 v7 v8 M hp
    rw [mX6_dryWay_76]
    rw [PX6_dryWay_76] at hp
    refine r_iload MF.bs dX6_dryWay_76 6 rfl ?_
    refine r_iconst MF.bs dX6_dryWay_78 (v := 4) (by decide) ?_
    refine r_ite (GI mtX6_dryWay 1 M M) (fun h_7 => ?_) (fun h_7 => ?_)
    · have hp := hp.1 h_7
      refine r_icmp_ge_t MF.bs (tgt := 135) dX6_dryWay_79 (by decide) h_7 ?_
      refine r_sub [(2, .int v2), (3, .int v3), (4, .int v4), (5, .int v5), (6, .int v6), (7, .int v7)] [0, 1, 2, 3, 4, 5] rfl ?_
      exact cX6_dryWay_135 kf39 kP39 hk39 kf66 kP66 hk66 v2 v3 v4 v5 v6 v7 M hp
    · have hp := hp.2 h_7
      refine r_icmp_ge_f MF.bs (tgt := 135) dX6_dryWay_79 (by decide) h_7 ?_
      refine r_iload MF.bs dX6_dryWay_82 2 rfl ?_
      refine r_iload MF.bs dX6_dryWay_84 5 rfl ?_
      refine r_ishr MF.bs dX6_dryWay_86 ?_
      refine r_iconst MF.bs dX6_dryWay_87 (v := 1) (by decide) ?_
      refine r_iand MF.bs dX6_dryWay_88 ?_
      refine r_iconst MF.bs dX6_dryWay_89 (v := 1) (by decide) ?_
      refine r_ite (GI mtX6_dryWay 1 M M) (fun h_8 => ?_) (fun h_8 => ?_)
      · have hp := hp.1 h_8
        refine r_icmp_ne_f MF.bs (tgt := 135) dX6_dryWay_90 (by decide) h_8 ?_
        refine r_iload MF.bs dX6_dryWay_93 5 rfl ?_
        refine r_iload MF.bs dX6_dryWay_95 6 rfl ?_
        refine r_callS_v MF.bs (st := []) dX6_dryWay_97 (ctX6_nextBy v7 v8 M) miX6_nextBy wd_1095 rfl (by decide) rfl (Nat.le_of_ble_eq_true rfl) ?_
        refine r_istore MF.bs (lv' := [(9, .int (mX6_nextBy v7 v8)), (2, .int v2), (3, .int v3), (4, .int v4), (5, .int v5), (6, .int v6), (7, .int v7), (8, .int v8)]) dX6_dryWay_100 (by decide) rfl ?_
        refine r_iload MF.bs dX6_dryWay_102 5 rfl ?_
        refine r_iload MF.bs dX6_dryWay_104 0 rfl ?_
        refine r_ite (GI mtX6_dryWay 1 M M) (fun h_9 => ?_) (fun h_9 => ?_)
        · have hp := hp.1 h_9
          refine r_if_lt_t MF.bs (tgt := 125) dX6_dryWay_106 (by decide) h_9 ?_
          refine r_sub [(2, .int v2), (3, .int v3), (4, .int v4), (5, .int v5), (7, .int v7), (8, .int v8)] [1, 2, 3, 4, 6, 7] rfl ?_
          exact cX6_dryWay_125 kf39 kP39 hk39 kf66 kP66 hk66 (mX6_dryWay_76 kf39 kf66 n) (PX6_dryWay_76 kP39 kP66 n) ih v2 v3 v4 v5 v7 v8 v6 M hp
        · have hp := hp.2 h_9
          refine r_if_lt_f MF.bs (tgt := 125) dX6_dryWay_106 (by decide) h_9 ?_
          refine r_iload_n MF.bs dX6_dryWay_109 rfl 2 rfl ?_
          refine r_iload MF.bs dX6_dryWay_110 0 rfl ?_
          refine r_ishr MF.bs dX6_dryWay_112 ?_
          refine r_iconst MF.bs dX6_dryWay_113 (v := 1) (by decide) ?_
          refine r_iand MF.bs dX6_dryWay_114 ?_
          refine r_ite (GI mtX6_dryWay 1 M M) (fun h_10 => ?_) (fun h_10 => ?_)
          · have hp := hp.1 h_10
            refine r_if_ne_f MF.bs (tgt := 125) dX6_dryWay_115 (by decide) h_10 ?_
            refine r_iconst MF.bs dX6_dryWay_118 (v := 1) (by decide) ?_
            refine r_iload MF.bs dX6_dryWay_119 0 rfl ?_
            refine r_ishl MF.bs dX6_dryWay_121 ?_
            refine r_goto MF.bs dX6_dryWay_122 (tgt := 126) (by decide) ?_
            refine r_sub [(2, .int v2), (3, .int v3), (4, .int v4), (5, .int v5), (7, .int v7), (8, .int v8)] [1, 2, 3, 4, 6, 7] rfl ?_
            exact cX6_dryWay_126 kf39 kP39 hk39 kf66 kP66 hk66 (mX6_dryWay_76 kf39 kf66 n) (PX6_dryWay_76 kP39 kP66 n) ih v2 v3 v4 v5 v7 v8 (1 <<< ((mX6_nextBy v7 v8) &&& 31)) v6 M hp
          · have hp := hp.2 h_10
            refine r_if_ne_t MF.bs (tgt := 125) dX6_dryWay_115 (by decide) h_10 ?_
            refine r_sub [(2, .int v2), (3, .int v3), (4, .int v4), (5, .int v5), (7, .int v7), (8, .int v8)] [1, 2, 3, 4, 6, 7] rfl ?_
            exact cX6_dryWay_125 kf39 kP39 hk39 kf66 kP66 hk66 (mX6_dryWay_76 kf39 kf66 n) (PX6_dryWay_76 kP39 kP66 n) ih v2 v3 v4 v5 v7 v8 v6 M hp
      · have hp := hp.2 h_8
        refine r_icmp_ne_t MF.bs (tgt := 135) dX6_dryWay_90 (by decide) h_8 ?_
        refine r_sub [(2, .int v2), (3, .int v3), (4, .int v4), (5, .int v5), (6, .int v6), (7, .int v7)] [0, 1, 2, 3, 4, 5] rfl ?_
        exact cX6_dryWay_135 kf39 kP39 hk39 kf66 kP66 hk66 v2 v3 v4 v5 v6 v7 M hp
def mX6_dryWay_66   (kf39 : Int32 → Int32 → Int32 → Int32 → Mem → Int32) : Nat → Int32 → Int32 → Int32 → Int32 → Int32 → Int32 → Mem → Int32
  | 0, _, _, _, _, _, _, _ => 0
  | n + 1, v2, v3, v4, v5, v6, v7, M => (if 16 ≤ v7 then (kf39 v2 v3 v6 (v5 + 1) M) else (mX6_dryWay_76 kf39 (mX6_dryWay_66 kf39 n) 400 v2 v3 v4 v5 v6 v7 0 M))
def PX6_dryWay_66   (kP39 : Int32 → Int32 → Int32 → Int32 → Mem → Prop) : Nat → Int32 → Int32 → Int32 → Int32 → Int32 → Int32 → Mem → Prop
  | 0, _, _, _, _, _, _, _ => False
  | n + 1, v2, v3, v4, v5, v6, v7, M => ((16 ≤ v7 → kP39 v2 v3 v6 (v5 + 1) M) ∧ (¬ 16 ≤ v7 → PX6_dryWay_76 kP39 (PX6_dryWay_66 kP39 n) 400 v2 v3 v4 v5 v6 v7 0 M))
set_option maxRecDepth 100000 in
theorem cX6_dryWay_66    (kf39 : Int32 → Int32 → Int32 → Int32 → Mem → Int32) (kP39 : Int32 → Int32 → Int32 → Int32 → Mem → Prop) (hk39 : ∀ (v2 : Int32) (v3 : Int32) (v4 : Int32) (v5 : Int32) (M : Mem), kP39 v2 v3 v4 v5 M → AWP (GI mtX6_dryWay 1 M M (kf39 v2 v3 v4 v5 M)) mtX6_dryWay 39 [(2, .int v2), (3, .int v3), (4, .int v4), (5, .int v5)] [] M) : ∀ (n : Nat) (v2 : Int32) (v3 : Int32) (v4 : Int32) (v5 : Int32) (v6 : Int32) (v7 : Int32) (M : Mem), PX6_dryWay_66 kP39 n v2 v3 v4 v5 v6 v7 M → AWP (GI mtX6_dryWay 1 M M (mX6_dryWay_66 kf39 n v2 v3 v4 v5 v6 v7 M)) mtX6_dryWay 66 [(2, .int v2), (3, .int v3), (4, .int v4), (5, .int v5), (6, .int v6), (7, .int v7)] [] M := by
  intro n
  induction n with
  | zero =>
    intro v2 v3 v4 v5 v6 v7 M hp
    exact hp.elim
  | succ n ih =>
    intro v2 v3 v4 v5 v6 v7 M hp
    rw [mX6_dryWay_66]
    rw [PX6_dryWay_66] at hp
    refine r_iload MF.bs dX6_dryWay_66 5 rfl ?_
    refine r_bipush MF.bs dX6_dryWay_68 (v := 16) (by decide) ?_
    refine r_ite (GI mtX6_dryWay 1 M M) (fun h_6 => ?_) (fun h_6 => ?_)
    · have hp := hp.1 h_6
      refine r_icmp_ge_t MF.bs (tgt := 141) dX6_dryWay_70 (by decide) h_6 ?_
      refine r_iload MF.bs dX6_dryWay_141 4 rfl ?_
      refine r_istore MF.bs (lv' := [(4, .int v6), (2, .int v2), (3, .int v3), (5, .int v5), (6, .int v6), (7, .int v7)]) dX6_dryWay_143 (by decide) rfl ?_
      refine r_iinc MF.bs (v := (v5 + 1)) (lv' := [(5, .int (v5 + 1)), (4, .int v6), (2, .int v2), (3, .int v3), (6, .int v6), (7, .int v7)]) dX6_dryWay_145 3 rfl rfl (by decide) rfl ?_
      refine r_goto MF.bs dX6_dryWay_148 (tgt := 39) (by decide) ?_
      refine r_sub [(2, .int v2), (3, .int v3), (4, .int v6), (5, .int (v5 + 1))] [2, 3, 1, 0] rfl ?_
      exact hk39 v2 v3 v6 (v5 + 1) M hp
    · have hp := hp.2 h_6
      refine r_icmp_ge_f MF.bs (tgt := 141) dX6_dryWay_70 (by decide) h_6 ?_
      refine r_iconst MF.bs dX6_dryWay_73 (v := 0) (by decide) ?_
      refine r_istore MF.bs (lv' := [(8, .int 0), (2, .int v2), (3, .int v3), (4, .int v4), (5, .int v5), (6, .int v6), (7, .int v7)]) dX6_dryWay_74 (by decide) rfl ?_
      refine r_sub [(2, .int v2), (3, .int v3), (4, .int v4), (5, .int v5), (6, .int v6), (7, .int v7), (8, .int 0)] [1, 2, 3, 4, 5, 6, 0] rfl ?_
      exact cX6_dryWay_76 kf39 kP39 hk39 (mX6_dryWay_66 kf39 n) (PX6_dryWay_66 kP39 n) ih 400 v2 v3 v4 v5 v6 v7 0 M hp
def mX6_dryWay_39   : Nat → Int32 → Int32 → Int32 → Int32 → Mem → Int32
  | 0, _, _, _, _, _ => 0
  | n + 1, v2, v3, v4, v5, M => (if 16 ≤ v5 then (-3) else (if ((v4 >>> (v2 &&& 31)) &&& 1) = 1 then v5 else (mX6_dryWay_66 (mX6_dryWay_39 n) 400 v2 v3 v4 v5 v4 0 M)))
def PX6_dryWay_39   : Nat → Int32 → Int32 → Int32 → Int32 → Mem → Prop
  | 0, _, _, _, _, _ => False
  | n + 1, v2, v3, v4, v5, M => (¬ 16 ≤ v5 → (¬ ((v4 >>> (v2 &&& 31)) &&& 1) = 1 → PX6_dryWay_66 (PX6_dryWay_39 n) 400 v2 v3 v4 v5 v4 0 M))
set_option maxRecDepth 100000 in
theorem cX6_dryWay_39    : ∀ (n : Nat) (v2 : Int32) (v3 : Int32) (v4 : Int32) (v5 : Int32) (M : Mem), PX6_dryWay_39 n v2 v3 v4 v5 M → AWP (GI mtX6_dryWay 1 M M (mX6_dryWay_39 n v2 v3 v4 v5 M)) mtX6_dryWay 39 [(2, .int v2), (3, .int v3), (4, .int v4), (5, .int v5)] [] M := by
  intro n
  induction n with
  | zero =>
    intro v2 v3 v4 v5 M hp
    exact hp.elim
  | succ n ih =>
    intro v2 v3 v4 v5 M hp
    rw [mX6_dryWay_39]
    rw [PX6_dryWay_39] at hp
    refine r_iload MF.bs dX6_dryWay_39 3 rfl ?_
    refine r_bipush MF.bs dX6_dryWay_41 (v := 16) (by decide) ?_
    refine r_ite (GI mtX6_dryWay 1 M M) (fun h_4 => ?_) (fun h_4 => ?_)
    · refine r_icmp_ge_t MF.bs (tgt := 151) dX6_dryWay_43 (by decide) h_4 ?_
      refine r_bipush MF.bs dX6_dryWay_151 (v := -3) (by decide) ?_
      exact r_iret dX6_dryWay_153 rfl
    · have hp := hp h_4
      refine r_icmp_ge_f MF.bs (tgt := 151) dX6_dryWay_43 (by decide) h_4 ?_
      refine r_iload MF.bs dX6_dryWay_46 2 rfl ?_
      refine r_iload_n MF.bs dX6_dryWay_48 rfl 0 rfl ?_
      refine r_ishr MF.bs dX6_dryWay_49 ?_
      refine r_iconst MF.bs dX6_dryWay_50 (v := 1) (by decide) ?_
      refine r_iand MF.bs dX6_dryWay_51 ?_
      refine r_iconst MF.bs dX6_dryWay_52 (v := 1) (by decide) ?_
      refine r_ite (GI mtX6_dryWay 1 M M) (fun h_5 => ?_) (fun h_5 => ?_)
      · refine r_icmp_ne_f MF.bs (tgt := 59) dX6_dryWay_53 (by decide) h_5 ?_
        refine r_iload MF.bs dX6_dryWay_56 3 rfl ?_
        exact r_iret dX6_dryWay_58 rfl
      · have hp := hp h_5
        refine r_icmp_ne_t MF.bs (tgt := 59) dX6_dryWay_53 (by decide) h_5 ?_
        refine r_iload MF.bs dX6_dryWay_59 2 rfl ?_
        refine r_istore MF.bs (lv' := [(6, .int v4), (2, .int v2), (3, .int v3), (4, .int v4), (5, .int v5)]) dX6_dryWay_61 (by decide) rfl ?_
        refine r_iconst MF.bs dX6_dryWay_63 (v := 0) (by decide) ?_
        refine r_istore MF.bs (lv' := [(7, .int 0), (6, .int v4), (2, .int v2), (3, .int v3), (4, .int v4), (5, .int v5)]) dX6_dryWay_64 (by decide) rfl ?_
        refine r_sub [(2, .int v2), (3, .int v3), (4, .int v4), (5, .int v5), (6, .int v4), (7, .int 0)] [2, 3, 4, 5, 1, 0] rfl ?_
        exact cX6_dryWay_66 (mX6_dryWay_39 n) (PX6_dryWay_39 n) ih 400 v2 v3 v4 v5 v4 0 M hp
def mX6_dryWay  (a1 : Int32) (a2 : Int32) (M : Mem) : Int32 := (if (mX6_isHouse a1) = true then (if (mX6_isHouse a2) = true then (mX6_dryWay_39 400 a2 (mX6_wetBy (M 47 5) M) ((1 <<< (a1 &&& 31)) &&& ((mX6_wetBy (M 47 5) M) ^^^ (-1))) 0 M) else (-1)) else (-1))
def PX6_dryWay  (a1 : Int32) (a2 : Int32) (M : Mem) : Prop := ((mX6_isHouse a1) = true → ((mX6_isHouse a2) = true → PX6_wetBy (M 47 5) M ∧ (PX6_dryWay_39 400 a2 (mX6_wetBy (M 47 5) M) ((1 <<< (a1 &&& 31)) &&& ((mX6_wetBy (M 47 5) M) ^^^ (-1))) 0 M)))
set_option maxRecDepth 100000 in
theorem ctX6_dryWay   (a1 : Int32) (a2 : Int32) (M : Mem) (hp : PX6_dryWay a1 a2 M) : CT mtX6_dryWay 1 [.ref 46, .int a1, .int a2] M (some (.int (mX6_dryWay a1 a2 M)), M) := by
  refine CT.of (by decide) rfl (Nat.le_of_ble_eq_true rfl) ?_
  show AWP (GI mtX6_dryWay 1 M M (mX6_dryWay a1 a2 M)) mtX6_dryWay 0 [(0, .ref 46), (1, .int a1), (2, .int a2)] [] M
  unfold mX6_dryWay
  unfold PX6_dryWay at hp
  refine r_iload_n MF.bs dX6_dryWay_0 rfl 1 rfl ?_
  refine r_callS_v MF.bs (st := []) dX6_dryWay_1 (ctX6_isHouse a1 M) miX6_isHouse wd_1072 rfl (by decide) rfl (Nat.le_of_ble_eq_true rfl) ?_
  refine r_ite (GI mtX6_dryWay 1 M M) (fun h_1 => ?_) (fun h_1 => ?_)
  · have hp := hp h_1
    refine r_if_eq_f MF.bs (tgt := 14) dX6_dryWay_4 (by decide) (b2i_1 h_1) ?_
    refine r_iload_n MF.bs dX6_dryWay_7 rfl 2 rfl ?_
    refine r_callS_v MF.bs (st := []) dX6_dryWay_8 (ctX6_isHouse a2 M) miX6_isHouse wd_1072 rfl (by decide) rfl (Nat.le_of_ble_eq_true rfl) ?_
    refine r_ite (GI mtX6_dryWay 1 M M) (fun h_2 => ?_) (fun h_2 => ?_)
    · have hp := hp h_2
      refine r_if_ne_t MF.bs (tgt := 16) dX6_dryWay_11 (by decide) (b2i_1 h_2) ?_
      obtain ⟨hq_3, hp⟩ := hp
      refine r_aload_n MF.bs dX6_dryWay_16 rfl 0 rfl ?_
      refine r_aload_n MF.bs dX6_dryWay_17 rfl 0 rfl ?_
      refine r_getR MF.bs dX6_dryWay_18 rfl rfl 0 (by decide) wd_875 rfl ?_
      refine r_iconst MF.bs dX6_dryWay_21 (v := 5) (by decide) ?_
      refine r_ialoadL MF.bs dX6_dryWay_22 rfl (vin_l (by decide) (by decide)) (k9 := 5) (by decide) ?_
      refine r_callV_v MF.bs (st := []) dX6_dryWay_23 (ctX6_wetBy (M 47 5) M hq_3) miX6_wetBy wd_1184 rfl (by decide) rfl (Nat.le_of_ble_eq_true rfl) rfl rfl rfl ?_
      refine r_istore_n MF.bs (lv' := [(3, .int (mX6_wetBy (M 47 5) M)), (0, .ref 46), (1, .int a1), (2, .int a2)]) dX6_dryWay_26 rfl (by decide) rfl ?_
      refine r_iconst MF.bs dX6_dryWay_27 (v := 1) (by decide) ?_
      refine r_iload_n MF.bs dX6_dryWay_28 rfl 2 rfl ?_
      refine r_ishl MF.bs dX6_dryWay_29 ?_
      refine r_iload_n MF.bs dX6_dryWay_30 rfl 0 rfl ?_
      refine r_iconst MF.bs dX6_dryWay_31 (v := -1) (by decide) ?_
      refine r_ixor MF.bs dX6_dryWay_32 ?_
      refine r_iand MF.bs dX6_dryWay_33 ?_
      refine r_istore MF.bs (lv' := [(4, .int ((1 <<< (a1 &&& 31)) &&& ((mX6_wetBy (M 47 5) M) ^^^ (-1)))), (3, .int (mX6_wetBy (M 47 5) M)), (0, .ref 46), (1, .int a1), (2, .int a2)]) dX6_dryWay_34 (by decide) rfl ?_
      refine r_iconst MF.bs dX6_dryWay_36 (v := 0) (by decide) ?_
      refine r_istore MF.bs (lv' := [(5, .int 0), (4, .int ((1 <<< (a1 &&& 31)) &&& ((mX6_wetBy (M 47 5) M) ^^^ (-1)))), (3, .int (mX6_wetBy (M 47 5) M)), (0, .ref 46), (1, .int a1), (2, .int a2)]) dX6_dryWay_37 (by decide) rfl ?_
      refine r_sub [(2, .int a2), (3, .int (mX6_wetBy (M 47 5) M)), (4, .int ((1 <<< (a1 &&& 31)) &&& ((mX6_wetBy (M 47 5) M) ^^^ (-1)))), (5, .int 0)] [5, 2, 1, 0] rfl ?_
      exact cX6_dryWay_39 400 a2 (mX6_wetBy (M 47 5) M) ((1 <<< (a1 &&& 31)) &&& ((mX6_wetBy (M 47 5) M) ^^^ (-1))) 0 M hp
    · refine r_if_ne_f MF.bs (tgt := 16) dX6_dryWay_11 (by decide) (b2i_0 h_2) ?_
      refine r_iconst MF.bs dX6_dryWay_14 (v := -1) (by decide) ?_
      exact r_iret dX6_dryWay_15 rfl
  · refine r_if_eq_t MF.bs (tgt := 14) dX6_dryWay_4 (by decide) (b2i_0 h_1) ?_
    refine r_iconst MF.bs dX6_dryWay_14 (v := -1) (by decide) ?_
    exact r_iret dX6_dryWay_15 rfl
abbrev mtX6_product : MT := (RX6, yX6_product, cX6_product, 4, (some .long))
theorem miX6_product : MS mtX6_product 1 := ⟨wd_1267, wd_1266, wd_86, ⟨by decide, by decide, by decide +kernel⟩, by decide⟩
def mX6_product_4   : Nat → Int32 → Int64 → Int32 → Mem → Int64
  | 0, _, _, _, _ => 0
  | n + 1, v0, v1, v3, M => (if v0 < v3 then v1 else (mX6_product_4 n v0 (v1 * (v3 : Int32).toInt64) (v3 + 1) M))
def PX6_product_4   : Nat → Int32 → Int64 → Int32 → Mem → Prop
  | 0, _, _, _, _ => False
  | n + 1, v0, v1, v3, M => (¬ v0 < v3 → PX6_product_4 n v0 (v1 * (v3 : Int32).toInt64) (v3 + 1) M)
set_option maxRecDepth 100000 in
theorem cX6_product_4    : ∀ (n : Nat) (v0 : Int32) (v1 : Int64) (v3 : Int32) (M : Mem), PX6_product_4 n v0 v1 v3 M → AWP (GL mtX6_product 0 M M (mX6_product_4 n v0 v1 v3 M)) mtX6_product 4 [(0, .int v0), (1, .long v1), (3, .int v3)] [] M := by
  intro n
  induction n with
  | zero =>
    intro v0 v1 v3 M hp
    exact hp.elim
  | succ n ih =>
    intro v0 v1 v3 M hp
    rw [mX6_product_4]
    rw [PX6_product_4] at hp
    refine r_iload_n MF.bs dX6_product_4 rfl 2 rfl ?_
    refine r_iload_n MF.bs dX6_product_5 rfl 0 rfl ?_
    refine r_ite (GL mtX6_product 0 M M) (fun h_1 => ?_) (fun h_1 => ?_)
    · refine r_icmp_gt_t MF.bs (tgt := 20) dX6_product_6 (by decide) h_1 ?_
      refine r_lload_n MF.bs dX6_product_20 rfl 1 rfl ?_
      exact r_lret dX6_product_21 rfl
    · have hp := hp h_1
      refine r_icmp_gt_f MF.bs (tgt := 20) dX6_product_6 (by decide) h_1 ?_
      refine r_lload_n MF.bs dX6_product_9 rfl 1 rfl ?_
      refine r_iload_n MF.bs dX6_product_10 rfl 2 rfl ?_
      refine r_i2l MF.bs dX6_product_11 ?_
      refine r_lmul MF.bs dX6_product_12 ?_
      refine r_lstore_n MF.bs (lv' := [(1, .long (v1 * (v3 : Int32).toInt64)), (0, .int v0), (3, .int v3)]) dX6_product_13 rfl (by decide) rfl ?_
      refine r_iinc MF.bs (v := (v3 + 1)) (lv' := [(3, .int (v3 + 1)), (1, .long (v1 * (v3 : Int32).toInt64)), (0, .int v0)]) dX6_product_14 2 rfl rfl (by decide) rfl ?_
      refine r_goto MF.bs dX6_product_17 (tgt := 4) (by decide) ?_
      refine r_sub [(0, .int v0), (1, .long (v1 * (v3 : Int32).toInt64)), (3, .int (v3 + 1))] [2, 1, 0] rfl ?_
      exact ih v0 (v1 * (v3 : Int32).toInt64) (v3 + 1) M hp
def mX6_product  (a0 : Int32) (M : Mem) : Int64 := (mX6_product_4 400 a0 1 2 M)
def PX6_product  (a0 : Int32) (M : Mem) : Prop := PX6_product_4 400 a0 1 2 M
set_option maxRecDepth 100000 in
theorem ctX6_product   (a0 : Int32) (M : Mem) (hp : PX6_product a0 M) : CT mtX6_product 0 [.int a0] M (some (.long (mX6_product a0 M)), M) := by
  refine CT.of (by decide) rfl (Nat.le_of_ble_eq_true rfl) ?_
  show AWP (GL mtX6_product 0 M M (mX6_product a0 M)) mtX6_product 0 [(0, .int a0)] [] M
  unfold mX6_product
  unfold PX6_product at hp
  refine r_lconst MF.bs dX6_product_0 (v := 1) (by decide) ?_
  refine r_lstore_n MF.bs (lv' := [(1, .long 1), (0, .int a0)]) dX6_product_1 rfl (by decide) rfl ?_
  refine r_iconst MF.bs dX6_product_2 (v := 2) (by decide) ?_
  refine r_istore_n MF.bs (lv' := [(3, .int 2), (1, .long 1), (0, .int a0)]) dX6_product_3 rfl (by decide) rfl ?_
  refine r_sub [(0, .int a0), (1, .long 1), (3, .int 2)] [2, 1, 0] rfl ?_
  exact cX6_product_4 400 a0 1 2 M hp
abbrev mtX6_partOf : MT := (RX6, yX6_partOf, cX6_partOf, 11, (some .long))
theorem miX6_partOf : MS mtX6_partOf 3 := ⟨wd_1271, wd_1270, wd_86, ⟨by decide, by decide, by decide +kernel⟩, by decide⟩
def mX6_partOf_6   : Nat → Int64 → Int64 → Int32 → Int64 → Int64 → Mem → Int64
  | 0, _, _, _, _, _, _ => 0
  | n + 1, v0, v2, v4, v5, v7, M => (if (lg_cmp v7 0) = 0 then (if v4 = 0 then (v0 / v5) else (v2 / v5)) else (mX6_partOf_6 n v0 v2 v4 v7 (lrem v5 v7) M))
def PX6_partOf_6   : Nat → Int64 → Int64 → Int32 → Int64 → Int64 → Mem → Prop
  | 0, _, _, _, _, _, _ => False
  | n + 1, v0, v2, v4, v5, v7, M => (((lg_cmp v7 0) = 0 → ((v4 = 0 → ¬ v5 = 0) ∧ (¬ v4 = 0 → ¬ v5 = 0))) ∧ (¬ (lg_cmp v7 0) = 0 → ¬ v7 = 0 ∧ (PX6_partOf_6 n v0 v2 v4 v7 (lrem v5 v7) M)))
set_option maxRecDepth 100000 in
theorem cX6_partOf_6    : ∀ (n : Nat) (v0 : Int64) (v2 : Int64) (v4 : Int32) (v5 : Int64) (v7 : Int64) (M : Mem), PX6_partOf_6 n v0 v2 v4 v5 v7 M → AWP (GL mtX6_partOf 0 M M (mX6_partOf_6 n v0 v2 v4 v5 v7 M)) mtX6_partOf 6 [(0, .long v0), (2, .long v2), (4, .int v4), (5, .long v5), (7, .long v7)] [] M := by
  intro n
  induction n with
  | zero =>
    intro v0 v2 v4 v5 v7 M hp
    exact hp.elim
  | succ n ih =>
    intro v0 v2 v4 v5 v7 M hp
    rw [mX6_partOf_6]
    rw [PX6_partOf_6] at hp
    refine r_lload MF.bs dX6_partOf_6 4 rfl ?_
    refine r_lconst MF.bs dX6_partOf_8 (v := 0) (by decide) ?_
    refine r_lcmp MF.bs dX6_partOf_9 ?_
    refine r_ite (GL mtX6_partOf 0 M M) (fun h_1 => ?_) (fun h_1 => ?_)
    · have hp := hp.1 h_1
      refine r_if_eq_t MF.bs (tgt := 31) dX6_partOf_10 (by decide) h_1 ?_
      refine r_iload MF.bs dX6_partOf_31 2 rfl ?_
      refine r_ite (GL mtX6_partOf 0 M M) (fun h_2 => ?_) (fun h_2 => ?_)
      · have hp := hp.1 h_2
        refine r_if_ne_f MF.bs (tgt := 43) dX6_partOf_33 (by decide) h_2 ?_
        have hq_3 := hp
        refine r_lload_n MF.bs dX6_partOf_36 rfl 0 rfl ?_
        refine r_lload MF.bs dX6_partOf_37 3 rfl ?_
        refine r_ldiv MF.bs dX6_partOf_39 hq_3 ?_
        refine r_goto MF.bs dX6_partOf_40 (tgt := 47) (by decide) ?_
        exact r_lret dX6_partOf_47 rfl
      · have hp := hp.2 h_2
        refine r_if_ne_t MF.bs (tgt := 43) dX6_partOf_33 (by decide) h_2 ?_
        have hq_4 := hp
        refine r_lload_n MF.bs dX6_partOf_43 rfl 1 rfl ?_
        refine r_lload MF.bs dX6_partOf_44 3 rfl ?_
        refine r_ldiv MF.bs dX6_partOf_46 hq_4 ?_
        exact r_lret dX6_partOf_47 rfl
    · have hp := hp.2 h_1
      refine r_if_eq_f MF.bs (tgt := 31) dX6_partOf_10 (by decide) h_1 ?_
      obtain ⟨hq_5, hp⟩ := hp
      refine r_lload MF.bs dX6_partOf_13 3 rfl ?_
      refine r_lload MF.bs dX6_partOf_15 4 rfl ?_
      refine r_lrem MF.bs dX6_partOf_17 hq_5 ?_
      refine r_lstore MF.bs (lv' := [(9, .long (lrem v5 v7)), (0, .long v0), (2, .long v2), (4, .int v4), (5, .long v5), (7, .long v7)]) dX6_partOf_18 (by decide) rfl ?_
      refine r_lload MF.bs dX6_partOf_20 5 rfl ?_
      refine r_lstore MF.bs (lv' := [(5, .long v7), (9, .long (lrem v5 v7)), (0, .long v0), (2, .long v2), (4, .int v4), (7, .long v7)]) dX6_partOf_22 (by decide) rfl ?_
      refine r_lload MF.bs dX6_partOf_24 1 rfl ?_
      refine r_lstore MF.bs (lv' := [(7, .long (lrem v5 v7)), (5, .long v7), (9, .long (lrem v5 v7)), (0, .long v0), (2, .long v2), (4, .int v4)]) dX6_partOf_26 (by decide) rfl ?_
      refine r_goto MF.bs dX6_partOf_28 (tgt := 6) (by decide) ?_
      refine r_sub [(0, .long v0), (2, .long v2), (4, .int v4), (5, .long v7), (7, .long (lrem v5 v7))] [3, 4, 5, 1, 0] rfl ?_
      exact ih v0 v2 v4 v7 (lrem v5 v7) M hp
def mX6_partOf  (a0 : Int64) (a2 : Int64) (a4 : Int32) (M : Mem) : Int64 := (mX6_partOf_6 400 a0 a2 a4 a2 a0 M)
def PX6_partOf  (a0 : Int64) (a2 : Int64) (a4 : Int32) (M : Mem) : Prop := PX6_partOf_6 400 a0 a2 a4 a2 a0 M
set_option maxRecDepth 100000 in
theorem ctX6_partOf   (a0 : Int64) (a2 : Int64) (a4 : Int32) (M : Mem) (hp : PX6_partOf a0 a2 a4 M) : CT mtX6_partOf 0 [.long a0, .long a2, .int a4] M (some (.long (mX6_partOf a0 a2 a4 M)), M) := by
  refine CT.of (by decide) rfl (Nat.le_of_ble_eq_true rfl) ?_
  show AWP (GL mtX6_partOf 0 M M (mX6_partOf a0 a2 a4 M)) mtX6_partOf 0 [(0, .long a0), (2, .long a2), (4, .int a4)] [] M
  unfold mX6_partOf
  unfold PX6_partOf at hp
  refine r_lload_n MF.bs dX6_partOf_0 rfl 1 rfl ?_
  refine r_lstore MF.bs (lv' := [(5, .long a2), (0, .long a0), (2, .long a2), (4, .int a4)]) dX6_partOf_1 (by decide) rfl ?_
  refine r_lload_n MF.bs dX6_partOf_3 rfl 1 rfl ?_
  refine r_lstore MF.bs (lv' := [(7, .long a0), (5, .long a2), (0, .long a0), (2, .long a2), (4, .int a4)]) dX6_partOf_4 (by decide) rfl ?_
  refine r_sub [(0, .long a0), (2, .long a2), (4, .int a4), (5, .long a2), (7, .long a0)] [2, 3, 4, 1, 0] rfl ?_
  exact cX6_partOf_6 400 a0 a2 a4 a2 a0 M hp
abbrev mtX6_isTold : MT := (RX6, yX6_isTold, cX6_isTold, 5, (some .boolean))
theorem miX6_isTold : MV mtX6_isTold 2 := ⟨wd_1259, ⟨wd_1258, wd_64⟩, wd_86, ⟨by decide, by decide, by decide +kernel⟩, by decide⟩
def mX6_isTold_77   (kf16 : Int32 → Int32 → Int32 → Int32 → Mem → Int32 × Mem) (v1 : Int32) (v2 : Int32) (v4 : Int32) (k0 : Int32) (M : Mem) : Int32 × Mem := (kf16 v1 v2 k0 (v4 + 1) M)
def PX6_isTold_77   (kP16 : Int32 → Int32 → Int32 → Int32 → Mem → Prop) (v1 : Int32) (v2 : Int32) (v4 : Int32) (k0 : Int32) (M : Mem) : Prop := kP16 v1 v2 k0 (v4 + 1) M
set_option maxRecDepth 100000 in
theorem cX6_isTold_77    (M0 : Mem) (kf16 : Int32 → Int32 → Int32 → Int32 → Mem → Int32 × Mem) (kP16 : Int32 → Int32 → Int32 → Int32 → Mem → Prop) (hk16 : ∀ (v1 : Int32) (v2 : Int32) (v3 : Int32) (v4 : Int32) (M : Mem), kP16 v1 v2 v3 v4 M → AWP (GIM mtX6_isTold 4 M0 (kf16 v1 v2 v3 v4 M)) mtX6_isTold 16 [(0, .ref 46), (1, .int v1), (2, .int v2), (3, .int v3), (4, .int v4)] [] M) (v1 : Int32) (v2 : Int32) (v4 : Int32) (k0 : Int32) (M : Mem) (hp : PX6_isTold_77 kP16 v1 v2 v4 k0 M) : AWP (GIM mtX6_isTold 4 M0 (mX6_isTold_77 kf16 v1 v2 v4 k0 M)) mtX6_isTold 77 [(0, .ref 46), (1, .int v1), (2, .int v2), (4, .int v4)] [.int k0] M := by
  unfold mX6_isTold_77
  unfold PX6_isTold_77 at hp
  refine r_istore_n MF.bs (lv' := [(3, .int k0), (0, .ref 46), (1, .int v1), (2, .int v2), (4, .int v4)]) dX6_isTold_77 rfl (by decide) rfl ?_
  refine r_iinc MF.bs (v := (v4 + 1)) (lv' := [(4, .int (v4 + 1)), (3, .int k0), (0, .ref 46), (1, .int v1), (2, .int v2)]) dX6_isTold_78 4 rfl rfl (by decide) rfl ?_
  refine r_goto MF.bs dX6_isTold_81 (tgt := 16) (by decide) ?_
  refine r_sub [(0, .ref 46), (1, .int v1), (2, .int v2), (3, .int k0), (4, .int (v4 + 1))] [2, 3, 4, 1, 0] rfl ?_
  exact hk16 v1 v2 k0 (v4 + 1) M hp
def mX6_isTold_72   (kf16 : Int32 → Int32 → Int32 → Int32 → Mem → Int32 × Mem) (v1 : Int32) (v2 : Int32) (v4 : Int32) (M : Mem) : Int32 × Mem := (mX6_isTold_77 kf16 v1 v2 v4 1 M)
def PX6_isTold_72   (kP16 : Int32 → Int32 → Int32 → Int32 → Mem → Prop) (v1 : Int32) (v2 : Int32) (v4 : Int32) (M : Mem) : Prop := PX6_isTold_77 kP16 v1 v2 v4 1 M
set_option maxRecDepth 100000 in
theorem cX6_isTold_72    (M0 : Mem) (kf16 : Int32 → Int32 → Int32 → Int32 → Mem → Int32 × Mem) (kP16 : Int32 → Int32 → Int32 → Int32 → Mem → Prop) (hk16 : ∀ (v1 : Int32) (v2 : Int32) (v3 : Int32) (v4 : Int32) (M : Mem), kP16 v1 v2 v3 v4 M → AWP (GIM mtX6_isTold 4 M0 (kf16 v1 v2 v3 v4 M)) mtX6_isTold 16 [(0, .ref 46), (1, .int v1), (2, .int v2), (3, .int v3), (4, .int v4)] [] M) (v1 : Int32) (v2 : Int32) (v4 : Int32) (M : Mem) (hp : PX6_isTold_72 kP16 v1 v2 v4 M) : AWP (GIM mtX6_isTold 4 M0 (mX6_isTold_72 kf16 v1 v2 v4 M)) mtX6_isTold 72 [(0, .ref 46), (1, .int v1), (2, .int v2), (4, .int v4)] [] M := by
  unfold mX6_isTold_72
  unfold PX6_isTold_72 at hp
  refine r_iconst MF.bs dX6_isTold_72 (v := 1) (by decide) ?_
  refine r_goto MF.bs dX6_isTold_73 (tgt := 77) (by decide) ?_
  exact cX6_isTold_77 M0 kf16 kP16 hk16 v1 v2 v4 1 M hp
def mX6_isTold_35   (kf16 : Int32 → Int32 → Int32 → Int32 → Mem → Int32 × Mem) (v1 : Int32) (v2 : Int32) (v4 : Int32) (M : Mem) : Int32 × Mem := (if (M 59 ((40 * v1) + v4).toNatClampNeg) = (-1) then (mX6_isTold_72 kf16 v1 v2 v4 M) else (if (M 59 ((40 * v1) + v4).toNatClampNeg) = (mX6_its v2 3 M) then (mX6_isTold_72 kf16 v1 v2 v4 M) else (mX6_isTold_77 kf16 v1 v2 v4 0 M)))
def PX6_isTold_35   (kP16 : Int32 → Int32 → Int32 → Int32 → Mem → Prop) (v1 : Int32) (v2 : Int32) (v4 : Int32) (M : Mem) : Prop := vp_in ((40 * v1) + v4) 160 ∧ ((((M 59 ((40 * v1) + v4).toNatClampNeg) = (-1) → PX6_isTold_72 kP16 v1 v2 v4 M) ∧ (¬ (M 59 ((40 * v1) + v4).toNatClampNeg) = (-1) → vp_in ((40 * v1) + v4) 160 ∧ (PX6_its v2 3 M ∧ ((((M 59 ((40 * v1) + v4).toNatClampNeg) = (mX6_its v2 3 M) → PX6_isTold_72 kP16 v1 v2 v4 M) ∧ (¬ (M 59 ((40 * v1) + v4).toNatClampNeg) = (mX6_its v2 3 M) → PX6_isTold_77 kP16 v1 v2 v4 0 M)))))))
set_option maxRecDepth 100000 in
theorem cX6_isTold_35    (M0 : Mem) (kf16 : Int32 → Int32 → Int32 → Int32 → Mem → Int32 × Mem) (kP16 : Int32 → Int32 → Int32 → Int32 → Mem → Prop) (hk16 : ∀ (v1 : Int32) (v2 : Int32) (v3 : Int32) (v4 : Int32) (M : Mem), kP16 v1 v2 v3 v4 M → AWP (GIM mtX6_isTold 4 M0 (kf16 v1 v2 v3 v4 M)) mtX6_isTold 16 [(0, .ref 46), (1, .int v1), (2, .int v2), (3, .int v3), (4, .int v4)] [] M) (v1 : Int32) (v2 : Int32) (v4 : Int32) (M : Mem) (hp : PX6_isTold_35 kP16 v1 v2 v4 M) : AWP (GIM mtX6_isTold 4 M0 (mX6_isTold_35 kf16 v1 v2 v4 M)) mtX6_isTold 35 [(0, .ref 46), (1, .int v1), (2, .int v2), (4, .int v4)] [] M := by
  unfold mX6_isTold_35
  unfold PX6_isTold_35 at hp
  obtain ⟨hq_8, hp⟩ := hp
  refine r_aload_n MF.bs dX6_isTold_35 rfl 0 rfl ?_
  refine r_getR MF.bs dX6_isTold_36 rfl rfl 20 (by decide) wd_895 rfl ?_
  refine r_bipush MF.bs dX6_isTold_39 (v := 40) (by decide) ?_
  refine r_iload_n MF.bs dX6_isTold_41 rfl 1 rfl ?_
  refine r_imul MF.bs dX6_isTold_42 ?_
  refine r_iload MF.bs dX6_isTold_43 3 rfl ?_
  refine r_iadd MF.bs dX6_isTold_45 ?_
  refine r_iaload MF.bs dX6_isTold_46 rfl hq_8 ?_
  refine r_iconst MF.bs dX6_isTold_47 (v := -1) (by decide) ?_
  refine r_ite (GIM mtX6_isTold 4 M0) (fun h_9 => ?_) (fun h_9 => ?_)
  · have hp := hp.1 h_9
    refine r_icmp_eq_t MF.bs (tgt := 72) dX6_isTold_48 (by decide) h_9 ?_
    exact cX6_isTold_72 M0 kf16 kP16 hk16 v1 v2 v4 M hp
  · have hp := hp.2 h_9
    refine r_icmp_eq_f MF.bs (tgt := 72) dX6_isTold_48 (by decide) h_9 ?_
    obtain ⟨hq_10, hp⟩ := hp
    obtain ⟨hq_11, hp⟩ := hp
    refine r_aload_n MF.bs dX6_isTold_51 rfl 0 rfl ?_
    refine r_getR MF.bs dX6_isTold_52 rfl rfl 20 (by decide) wd_895 rfl ?_
    refine r_bipush MF.bs dX6_isTold_55 (v := 40) (by decide) ?_
    refine r_iload_n MF.bs dX6_isTold_57 rfl 1 rfl ?_
    refine r_imul MF.bs dX6_isTold_58 ?_
    refine r_iload MF.bs dX6_isTold_59 3 rfl ?_
    refine r_iadd MF.bs dX6_isTold_61 ?_
    refine r_iaload MF.bs dX6_isTold_62 rfl hq_10 ?_
    refine r_aload_n MF.bs dX6_isTold_63 rfl 0 rfl ?_
    refine r_iload_n MF.bs dX6_isTold_64 rfl 2 rfl ?_
    refine r_iconst MF.bs dX6_isTold_65 (v := 3) (by decide) ?_
    refine r_callV_v MF.bs (st := [.int (M 59 ((40 * v1) + v4).toNatClampNeg)]) dX6_isTold_66 (ctX6_its v2 3 M hq_11) miX6_its wd_1083 rfl (by decide) rfl (Nat.le_of_ble_eq_true rfl) rfl rfl rfl ?_
    refine r_ite (GIM mtX6_isTold 4 M0) (fun h_12 => ?_) (fun h_12 => ?_)
    · have hp := hp.1 h_12
      refine r_icmp_ne_f MF.bs (tgt := 76) dX6_isTold_69 (by decide) h_12 ?_
      exact cX6_isTold_72 M0 kf16 kP16 hk16 v1 v2 v4 M hp
    · have hp := hp.2 h_12
      refine r_icmp_ne_t MF.bs (tgt := 76) dX6_isTold_69 (by decide) h_12 ?_
      refine r_iconst MF.bs dX6_isTold_76 (v := 0) (by decide) ?_
      exact cX6_isTold_77 M0 kf16 kP16 hk16 v1 v2 v4 0 M hp
def mX6_isTold_84   (v3 : Int32) (M : Mem) : Int32 × Mem := (v3, (mX6_copyRow 49 56 47 56 M))
def PX6_isTold_84   (v3 : Int32) (M : Mem) : Prop := PX6_copyRow 49 56 47 56 M ∧ ((v3 = 0 ∨ v3 = 1))
set_option maxRecDepth 100000 in
theorem cX6_isTold_84    (M0 : Mem) (v3 : Int32) (M : Mem) (hp : PX6_isTold_84 v3 M) : AWP (GIM mtX6_isTold 4 M0 (mX6_isTold_84 v3 M)) mtX6_isTold 84 [(0, .ref 46), (3, .int v3)] [] M := by
  unfold mX6_isTold_84
  unfold PX6_isTold_84 at hp
  obtain ⟨hq_6, hp⟩ := hp
  refine r_aload_n MF.bs dX6_isTold_84 rfl 0 rfl ?_
  refine r_getR MF.bs dX6_isTold_85 rfl rfl 2 (by decide) wd_877 rfl ?_
  refine r_aload_n MF.bs dX6_isTold_88 rfl 0 rfl ?_
  refine r_getR MF.bs dX6_isTold_89 rfl rfl 0 (by decide) wd_875 rfl ?_
  refine r_callS_n MF.bs (st := []) dX6_isTold_92 (ctX6_copyRow 49 56 47 56 rfl rfl M hq_6) miX6_copyRow wd_979 rfl (by decide) rfl (Nat.le_of_ble_eq_true rfl) ?_
  refine r_iload_n MF.bs dX6_isTold_95 rfl 1 rfl ?_
  exact r_zret dX6_isTold_96 rfl (z_nar hp)
def mX6_isTold_16   : Nat → Int32 → Int32 → Int32 → Int32 → Mem → Int32 × Mem
  | 0, _, _, _, _, M => (0, M)
  | n + 1, v1, v2, v3, v4, M => (if (M 58 v1.toNatClampNeg) ≤ v4 then (mX6_isTold_84 v3 M) else (if v3 = 0 then (mX6_isTold_84 v3 M) else (mX6_isTold_35 (mX6_isTold_16 n) v1 v2 v4 (mX6_goesOn M))))
def PX6_isTold_16   : Nat → Int32 → Int32 → Int32 → Int32 → Mem → Prop
  | 0, _, _, _, _, _ => False
  | n + 1, v1, v2, v3, v4, M => vp_in v1 4 ∧ ((((M 58 v1.toNatClampNeg) ≤ v4 → PX6_isTold_84 v3 M) ∧ (¬ (M 58 v1.toNatClampNeg) ≤ v4 → ((v3 = 0 → PX6_isTold_84 v3 M) ∧ (¬ v3 = 0 → PX6_goesOn M ∧ (PX6_isTold_35 (PX6_isTold_16 n) v1 v2 v4 (mX6_goesOn M)))))))
set_option maxRecDepth 100000 in
theorem cX6_isTold_16    (M0 : Mem) : ∀ (n : Nat) (v1 : Int32) (v2 : Int32) (v3 : Int32) (v4 : Int32) (M : Mem), PX6_isTold_16 n v1 v2 v3 v4 M → AWP (GIM mtX6_isTold 4 M0 (mX6_isTold_16 n v1 v2 v3 v4 M)) mtX6_isTold 16 [(0, .ref 46), (1, .int v1), (2, .int v2), (3, .int v3), (4, .int v4)] [] M := by
  intro n
  induction n with
  | zero =>
    intro v1 v2 v3 v4 M hp
    exact hp.elim
  | succ n ih =>
    intro v1 v2 v3 v4 M hp
    rw [mX6_isTold_16]
    rw [PX6_isTold_16] at hp
    obtain ⟨hq_2, hp⟩ := hp
    refine r_iload MF.bs dX6_isTold_16 4 rfl ?_
    refine r_aload_n MF.bs dX6_isTold_18 rfl 0 rfl ?_
    refine r_getR MF.bs dX6_isTold_19 rfl rfl 19 (by decide) wd_894 rfl ?_
    refine r_iload_n MF.bs dX6_isTold_22 rfl 1 rfl ?_
    refine r_iaload MF.bs dX6_isTold_23 rfl hq_2 ?_
    refine r_ite (GIM mtX6_isTold 4 M0) (fun h_3 => ?_) (fun h_3 => ?_)
    · have hp := hp.1 h_3
      refine r_icmp_ge_t MF.bs (tgt := 84) dX6_isTold_24 (by decide) h_3 ?_
      refine r_sub [(0, .ref 46), (3, .int v3)] [0, 3] rfl ?_
      exact cX6_isTold_84 M0 v3 M hp
    · have hp := hp.2 h_3
      refine r_icmp_ge_f MF.bs (tgt := 84) dX6_isTold_24 (by decide) h_3 ?_
      refine r_iload_n MF.bs dX6_isTold_27 rfl 3 rfl ?_
      refine r_ite (GIM mtX6_isTold 4 M0) (fun h_4 => ?_) (fun h_4 => ?_)
      · have hp := hp.1 h_4
        refine r_if_eq_t MF.bs (tgt := 84) dX6_isTold_28 (by decide) h_4 ?_
        refine r_sub [(0, .ref 46), (3, .int v3)] [0, 3] rfl ?_
        exact cX6_isTold_84 M0 v3 M hp
      · have hp := hp.2 h_4
        refine r_if_eq_f MF.bs (tgt := 84) dX6_isTold_28 (by decide) h_4 ?_
        obtain ⟨hq_5, hp⟩ := hp
        refine r_aload_n MF.bs dX6_isTold_31 rfl 0 rfl ?_
        refine r_callV_n MF.bs (st := []) dX6_isTold_32 (ctX6_goesOn M hq_5) miX6_goesOn wd_1139 rfl (by decide) rfl (Nat.le_of_ble_eq_true rfl) rfl rfl rfl ?_
        refine r_sub [(0, .ref 46), (1, .int v1), (2, .int v2), (4, .int v4)] [0, 1, 2, 4] rfl ?_
        exact cX6_isTold_35 M0 (mX6_isTold_16 n) (PX6_isTold_16 n) ih v1 v2 v4 (mX6_goesOn M) hp
def mX6_isTold_11   (v1 : Int32) (v2 : Int32) (M : Mem) : Int32 × Mem := (mX6_isTold_16 400 v1 v2 1 0 M)
def PX6_isTold_11   (v1 : Int32) (v2 : Int32) (M : Mem) : Prop := PX6_isTold_16 400 v1 v2 1 0 M
set_option maxRecDepth 100000 in
theorem cX6_isTold_11    (M0 : Mem) (v1 : Int32) (v2 : Int32) (M : Mem) (hp : PX6_isTold_11 v1 v2 M) : AWP (GIM mtX6_isTold 4 M0 (mX6_isTold_11 v1 v2 M)) mtX6_isTold 11 [(0, .ref 46), (1, .int v1), (2, .int v2)] [] M := by
  unfold mX6_isTold_11
  unfold PX6_isTold_11 at hp
  refine r_iconst MF.bs dX6_isTold_11 (v := 1) (by decide) ?_
  refine r_istore_n MF.bs (lv' := [(3, .int 1), (0, .ref 46), (1, .int v1), (2, .int v2)]) dX6_isTold_12 rfl (by decide) rfl ?_
  refine r_iconst MF.bs dX6_isTold_13 (v := 0) (by decide) ?_
  refine r_istore MF.bs (lv' := [(4, .int 0), (3, .int 1), (0, .ref 46), (1, .int v1), (2, .int v2)]) dX6_isTold_14 (by decide) rfl ?_
  refine r_sub [(0, .ref 46), (1, .int v1), (2, .int v2), (3, .int 1), (4, .int 0)] [2, 3, 4, 1, 0] rfl ?_
  exact cX6_isTold_16 M0 400 v1 v2 1 0 M hp
def mX6_isTold  (a1 : Int32) (a2 : Int32) (M : Mem) : Int32 × Mem := (mX6_isTold_11 a1 a2 (mX6_copyRow 47 56 49 56 M))
def PX6_isTold  (a1 : Int32) (a2 : Int32) (M : Mem) : Prop := PX6_copyRow 47 56 49 56 M ∧ (PX6_isTold_11 a1 a2 (mX6_copyRow 47 56 49 56 M))
set_option maxRecDepth 100000 in
theorem ctX6_isTold   (a1 : Int32) (a2 : Int32) (M : Mem) (hp : PX6_isTold a1 a2 M) : CT mtX6_isTold 4 [.ref 46, .int a1, .int a2] M (some (.int ((mX6_isTold a1 a2 M).1)), (mX6_isTold a1 a2 M).2) := by
  refine CT.of (by decide) rfl (Nat.le_of_ble_eq_true rfl) ?_
  show AWP (GIM mtX6_isTold 4 M (mX6_isTold a1 a2 M)) mtX6_isTold 0 [(0, .ref 46), (1, .int a1), (2, .int a2)] [] M
  unfold mX6_isTold
  unfold PX6_isTold at hp
  obtain ⟨hq_1, hp⟩ := hp
  refine r_aload_n MF.bs dX6_isTold_0 rfl 0 rfl ?_
  refine r_getR MF.bs dX6_isTold_1 rfl rfl 0 (by decide) wd_875 rfl ?_
  refine r_aload_n MF.bs dX6_isTold_4 rfl 0 rfl ?_
  refine r_getR MF.bs dX6_isTold_5 rfl rfl 2 (by decide) wd_877 rfl ?_
  refine r_callS_n MF.bs (st := []) dX6_isTold_8 (ctX6_copyRow 47 56 49 56 rfl rfl M hq_1) miX6_copyRow wd_979 rfl (by decide) rfl (Nat.le_of_ble_eq_true rfl) ?_
  exact cX6_isTold_11 M a1 a2 (mX6_copyRow 47 56 49 56 M) hp
abbrev mtX6_isSheet : MT := (RX6, yX6_isSheet, cX6_isSheet, 1, (some .boolean))
theorem miX6_isSheet : MS mtX6_isSheet 1 := ⟨wd_1255, wd_1254, wd_86, ⟨by decide, by decide, by decide +kernel⟩, by decide⟩
def mX6_isSheet  (a0 : Int32) : Bool := (mX6_isIn ((a0 : Int32).toInt64) 0 3)
set_option maxRecDepth 100000 in
theorem ctX6_isSheet   (a0 : Int32) (M : Mem) : CT mtX6_isSheet 1 [.int a0] M (some (.int (b2i (mX6_isSheet a0))), M) := by
  refine CT.of (by decide) rfl (Nat.le_of_ble_eq_true rfl) ?_
  show AWP (GB mtX6_isSheet 1 M M (mX6_isSheet a0)) mtX6_isSheet 0 [(0, .int a0)] [] M
  unfold mX6_isSheet
  refine r_iload_n MF.bs dX6_isSheet_0 rfl 0 rfl ?_
  refine r_i2l MF.bs dX6_isSheet_1 ?_
  refine r_lconst MF.bs dX6_isSheet_2 (v := 0) (by decide) ?_
  refine r_ldc2 MF.bs (v := 3) dX6_isSheet_3 wd_1056 ?_
  refine r_callS_v MF.bs (st := []) dX6_isSheet_6 (ctX6_isIn ((a0 : Int32).toInt64) 0 3 M) miX6_isIn wd_971 rfl (by decide) rfl (Nat.le_of_ble_eq_true rfl) ?_
  exact r_zret dX6_isSheet_9 rfl (b2i_nar _)
abbrev mtX6_fits : MT := (RX6, yX6_fits, cX6_fits, 10, (some .int))
theorem miX6_fits : MV mtX6_fits 3 := ⟨wd_1252, ⟨wd_1250, wd_1251⟩, wd_86, ⟨by decide, by decide, by decide +kernel⟩, by decide⟩
def mX6_fits_118   (kf69 : Int32 → Int32 → Int32 → Int32 → Int32 → Int32 → Int32 → Int32 → Mem → Int32 × Mem) (v1 : Int32) (v2 : Int32) (v3 : Int32) (v4 : Int32) (v5 : Int32) (v6 : Int32) (v8 : Int32) (k0 : Int32) (M : Mem) : Int32 × Mem := (kf69 v1 v2 v3 v4 v5 v6 k0 (v8 + (-1)) M)
def PX6_fits_118   (kP69 : Int32 → Int32 → Int32 → Int32 → Int32 → Int32 → Int32 → Int32 → Mem → Prop) (v1 : Int32) (v2 : Int32) (v3 : Int32) (v4 : Int32) (v5 : Int32) (v6 : Int32) (v8 : Int32) (k0 : Int32) (M : Mem) : Prop := kP69 v1 v2 v3 v4 v5 v6 k0 (v8 + (-1)) M
set_option maxRecDepth 100000 in
theorem cX6_fits_118    (M0 : Mem) (kf69 : Int32 → Int32 → Int32 → Int32 → Int32 → Int32 → Int32 → Int32 → Mem → Int32 × Mem) (kP69 : Int32 → Int32 → Int32 → Int32 → Int32 → Int32 → Int32 → Int32 → Mem → Prop) (hk69 : ∀ (v1 : Int32) (v2 : Int32) (v3 : Int32) (v4 : Int32) (v5 : Int32) (v6 : Int32) (v7 : Int32) (v8 : Int32) (M : Mem), kP69 v1 v2 v3 v4 v5 v6 v7 v8 M → AWP (GIM mtX6_fits 5 M0 (kf69 v1 v2 v3 v4 v5 v6 v7 v8 M)) mtX6_fits 69 [(0, .ref 46), (1, .int v1), (2, .int v2), (3, .int v3), (4, .int v4), (5, .int v5), (6, .int v6), (7, .int v7), (8, .int v8)] [] M) (v1 : Int32) (v2 : Int32) (v3 : Int32) (v4 : Int32) (v5 : Int32) (v6 : Int32) (v8 : Int32) (k0 : Int32) (M : Mem) (hp : PX6_fits_118 kP69 v1 v2 v3 v4 v5 v6 v8 k0 M) : AWP (GIM mtX6_fits 5 M0 (mX6_fits_118 kf69 v1 v2 v3 v4 v5 v6 v8 k0 M)) mtX6_fits 118 [(0, .ref 46), (1, .int v1), (2, .int v2), (3, .int v3), (4, .int v4), (5, .int v5), (6, .int v6), (8, .int v8)] [.int k0] M := by
  unfold mX6_fits_118
  unfold PX6_fits_118 at hp
  refine r_istore MF.bs (lv' := [(7, .int k0), (0, .ref 46), (1, .int v1), (2, .int v2), (3, .int v3), (4, .int v4), (5, .int v5), (6, .int v6), (8, .int v8)]) dX6_fits_118 (by decide) rfl ?_
  refine r_iinc MF.bs (v := (v8 + (-1))) (lv' := [(8, .int (v8 + (-1))), (7, .int k0), (0, .ref 46), (1, .int v1), (2, .int v2), (3, .int v3), (4, .int v4), (5, .int v5), (6, .int v6)]) dX6_fits_120 8 rfl rfl (by decide) rfl ?_
  refine r_goto MF.bs dX6_fits_123 (tgt := 69) (by decide) ?_
  refine r_sub [(0, .ref 46), (1, .int v1), (2, .int v2), (3, .int v3), (4, .int v4), (5, .int v5), (6, .int v6), (7, .int k0), (8, .int (v8 + (-1)))] [2, 3, 4, 5, 6, 7, 8, 1, 0] rfl ?_
  exact hk69 v1 v2 v3 v4 v5 v6 k0 (v8 + (-1)) M hp
def mX6_fits_103   (kf69 : Int32 → Int32 → Int32 → Int32 → Int32 → Int32 → Int32 → Int32 → Mem → Int32 × Mem) (v1 : Int32) (v2 : Int32) (v3 : Int32) (v4 : Int32) (v5 : Int32) (v7 : Int32) (v8 : Int32) (v9 : Int32) (k0 : Int32) (k1 : Int32) (M : Mem) : Int32 × Mem := (if v9 = 0 then (mX6_fits_118 kf69 v1 v2 v3 v4 v5 (k1 + k0) v8 v7 M) else (mX6_fits_118 kf69 v1 v2 v3 v4 v5 (k1 + k0) v8 v8 M))
def PX6_fits_103   (kP69 : Int32 → Int32 → Int32 → Int32 → Int32 → Int32 → Int32 → Int32 → Mem → Prop) (v1 : Int32) (v2 : Int32) (v3 : Int32) (v4 : Int32) (v5 : Int32) (v7 : Int32) (v8 : Int32) (v9 : Int32) (k0 : Int32) (k1 : Int32) (M : Mem) : Prop := ((v9 = 0 → PX6_fits_118 kP69 v1 v2 v3 v4 v5 (k1 + k0) v8 v7 M) ∧ (¬ v9 = 0 → PX6_fits_118 kP69 v1 v2 v3 v4 v5 (k1 + k0) v8 v8 M))
set_option maxRecDepth 100000 in
theorem cX6_fits_103    (M0 : Mem) (kf69 : Int32 → Int32 → Int32 → Int32 → Int32 → Int32 → Int32 → Int32 → Mem → Int32 × Mem) (kP69 : Int32 → Int32 → Int32 → Int32 → Int32 → Int32 → Int32 → Int32 → Mem → Prop) (hk69 : ∀ (v1 : Int32) (v2 : Int32) (v3 : Int32) (v4 : Int32) (v5 : Int32) (v6 : Int32) (v7 : Int32) (v8 : Int32) (M : Mem), kP69 v1 v2 v3 v4 v5 v6 v7 v8 M → AWP (GIM mtX6_fits 5 M0 (kf69 v1 v2 v3 v4 v5 v6 v7 v8 M)) mtX6_fits 69 [(0, .ref 46), (1, .int v1), (2, .int v2), (3, .int v3), (4, .int v4), (5, .int v5), (6, .int v6), (7, .int v7), (8, .int v8)] [] M) (v1 : Int32) (v2 : Int32) (v3 : Int32) (v4 : Int32) (v5 : Int32) (v7 : Int32) (v8 : Int32) (v9 : Int32) (k0 : Int32) (k1 : Int32) (M : Mem) (hp : PX6_fits_103 kP69 v1 v2 v3 v4 v5 v7 v8 v9 k0 k1 M) : AWP (GIM mtX6_fits 5 M0 (mX6_fits_103 kf69 v1 v2 v3 v4 v5 v7 v8 v9 k0 k1 M)) mtX6_fits 103 [(0, .ref 46), (1, .int v1), (2, .int v2), (3, .int v3), (4, .int v4), (5, .int v5), (7, .int v7), (8, .int v8), (9, .int v9)] [.int k0, .int k1] M := by
  unfold mX6_fits_103
  unfold PX6_fits_103 at hp
  refine r_iadd MF.bs dX6_fits_103 ?_
  refine r_istore MF.bs (lv' := [(6, .int (k1 + k0)), (0, .ref 46), (1, .int v1), (2, .int v2), (3, .int v3), (4, .int v4), (5, .int v5), (7, .int v7), (8, .int v8), (9, .int v9)]) dX6_fits_104 (by decide) rfl ?_
  refine r_iload MF.bs dX6_fits_106 9 rfl ?_
  refine r_ite (GIM mtX6_fits 5 M0) (fun h_13 => ?_) (fun h_13 => ?_)
  · have hp := hp.1 h_13
    refine r_if_eq_t MF.bs (tgt := 116) dX6_fits_108 (by decide) h_13 ?_
    refine r_iload MF.bs dX6_fits_116 7 rfl ?_
    refine r_sub [(0, .ref 46), (1, .int v1), (2, .int v2), (3, .int v3), (4, .int v4), (5, .int v5), (6, .int (k1 + k0)), (8, .int v8)] [1, 2, 3, 4, 5, 6, 0, 8] rfl ?_
    exact cX6_fits_118 M0 kf69 kP69 hk69 v1 v2 v3 v4 v5 (k1 + k0) v8 v7 M hp
  · have hp := hp.2 h_13
    refine r_if_eq_f MF.bs (tgt := 116) dX6_fits_108 (by decide) h_13 ?_
    refine r_iload MF.bs dX6_fits_111 8 rfl ?_
    refine r_goto MF.bs dX6_fits_113 (tgt := 118) (by decide) ?_
    refine r_sub [(0, .ref 46), (1, .int v1), (2, .int v2), (3, .int v3), (4, .int v4), (5, .int v5), (6, .int (k1 + k0)), (8, .int v8)] [1, 2, 3, 4, 5, 6, 0, 8] rfl ?_
    exact cX6_fits_118 M0 kf69 kP69 hk69 v1 v2 v3 v4 v5 (k1 + k0) v8 v8 M hp
def mX6_fits_89   (kf69 : Int32 → Int32 → Int32 → Int32 → Int32 → Int32 → Int32 → Int32 → Mem → Int32 × Mem) (v1 : Int32) (v2 : Int32) (v3 : Int32) (v4 : Int32) (v5 : Int32) (v6 : Int32) (v7 : Int32) (v8 : Int32) (k0 : Int32) (M : Mem) : Int32 × Mem := (if k0 = 0 then (mX6_fits_103 kf69 v1 v2 v3 v4 v5 v7 v8 k0 0 v6 M) else (mX6_fits_103 kf69 v1 v2 v3 v4 v5 v7 v8 k0 1 v6 M))
def PX6_fits_89   (kP69 : Int32 → Int32 → Int32 → Int32 → Int32 → Int32 → Int32 → Int32 → Mem → Prop) (v1 : Int32) (v2 : Int32) (v3 : Int32) (v4 : Int32) (v5 : Int32) (v6 : Int32) (v7 : Int32) (v8 : Int32) (k0 : Int32) (M : Mem) : Prop := ((k0 = 0 → PX6_fits_103 kP69 v1 v2 v3 v4 v5 v7 v8 k0 0 v6 M) ∧ (¬ k0 = 0 → PX6_fits_103 kP69 v1 v2 v3 v4 v5 v7 v8 k0 1 v6 M))
set_option maxRecDepth 100000 in
theorem cX6_fits_89    (M0 : Mem) (kf69 : Int32 → Int32 → Int32 → Int32 → Int32 → Int32 → Int32 → Int32 → Mem → Int32 × Mem) (kP69 : Int32 → Int32 → Int32 → Int32 → Int32 → Int32 → Int32 → Int32 → Mem → Prop) (hk69 : ∀ (v1 : Int32) (v2 : Int32) (v3 : Int32) (v4 : Int32) (v5 : Int32) (v6 : Int32) (v7 : Int32) (v8 : Int32) (M : Mem), kP69 v1 v2 v3 v4 v5 v6 v7 v8 M → AWP (GIM mtX6_fits 5 M0 (kf69 v1 v2 v3 v4 v5 v6 v7 v8 M)) mtX6_fits 69 [(0, .ref 46), (1, .int v1), (2, .int v2), (3, .int v3), (4, .int v4), (5, .int v5), (6, .int v6), (7, .int v7), (8, .int v8)] [] M) (v1 : Int32) (v2 : Int32) (v3 : Int32) (v4 : Int32) (v5 : Int32) (v6 : Int32) (v7 : Int32) (v8 : Int32) (k0 : Int32) (M : Mem) (hp : PX6_fits_89 kP69 v1 v2 v3 v4 v5 v6 v7 v8 k0 M) : AWP (GIM mtX6_fits 5 M0 (mX6_fits_89 kf69 v1 v2 v3 v4 v5 v6 v7 v8 k0 M)) mtX6_fits 89 [(0, .ref 46), (1, .int v1), (2, .int v2), (3, .int v3), (4, .int v4), (5, .int v5), (6, .int v6), (7, .int v7), (8, .int v8)] [.int k0] M := by
  unfold mX6_fits_89
  unfold PX6_fits_89 at hp
  refine r_istore MF.bs (lv' := [(9, .int k0), (0, .ref 46), (1, .int v1), (2, .int v2), (3, .int v3), (4, .int v4), (5, .int v5), (6, .int v6), (7, .int v7), (8, .int v8)]) dX6_fits_89 (by decide) rfl ?_
  refine r_iload MF.bs dX6_fits_91 7 rfl ?_
  refine r_iload MF.bs dX6_fits_93 0 rfl ?_
  refine r_ite (GIM mtX6_fits 5 M0) (fun h_12 => ?_) (fun h_12 => ?_)
  · have hp := hp.1 h_12
    refine r_if_eq_t MF.bs (tgt := 102) dX6_fits_95 (by decide) h_12 ?_
    refine r_iconst MF.bs dX6_fits_102 (v := 0) (by decide) ?_
    refine r_sub [(0, .ref 46), (1, .int v1), (2, .int v2), (3, .int v3), (4, .int v4), (5, .int v5), (7, .int v7), (8, .int v8), (9, .int k0)] [1, 2, 3, 4, 5, 6, 8, 9, 0] rfl ?_
    exact cX6_fits_103 M0 kf69 kP69 hk69 v1 v2 v3 v4 v5 v7 v8 k0 0 v6 M hp
  · have hp := hp.2 h_12
    refine r_if_eq_f MF.bs (tgt := 102) dX6_fits_95 (by decide) h_12 ?_
    refine r_iconst MF.bs dX6_fits_98 (v := 1) (by decide) ?_
    refine r_goto MF.bs dX6_fits_99 (tgt := 103) (by decide) ?_
    refine r_sub [(0, .ref 46), (1, .int v1), (2, .int v2), (3, .int v3), (4, .int v4), (5, .int v5), (7, .int v7), (8, .int v8), (9, .int k0)] [1, 2, 3, 4, 5, 6, 8, 9, 0] rfl ?_
    exact cX6_fits_103 M0 kf69 kP69 hk69 v1 v2 v3 v4 v5 v7 v8 k0 1 v6 M hp
def mX6_fits_69   : Nat → Int32 → Int32 → Int32 → Int32 → Int32 → Int32 → Int32 → Int32 → Mem → Int32 × Mem
  | 0, _, _, _, _, _, _, _, _, M => (0, M)
  | n + 1, v1, v2, v3, v4, v5, v6, v7, v8, M => (if v8 < 0 then (if v3 = 0 then (v6, (upm M 47 v4.toNatClampNeg v5)) else (v7, (upm M 47 v4.toNatClampNeg v5))) else (mX6_fits_89 (mX6_fits_69 n) v1 v2 v3 v4 v5 v6 v7 v8 ((mX6_isTold v1 v2 (upm M 47 v4.toNatClampNeg v8)).1) ((mX6_isTold v1 v2 (upm M 47 v4.toNatClampNeg v8)).2)))
def PX6_fits_69   : Nat → Int32 → Int32 → Int32 → Int32 → Int32 → Int32 → Int32 → Int32 → Mem → Prop
  | 0, _, _, _, _, _, _, _, _, _ => False
  | n + 1, v1, v2, v3, v4, v5, v6, v7, v8, M => ((v8 < 0 → vp_in v4 56) ∧ (¬ v8 < 0 → vp_in v4 56 ∧ (PX6_isTold v1 v2 (upm M 47 v4.toNatClampNeg v8) ∧ (PX6_fits_89 (PX6_fits_69 n) v1 v2 v3 v4 v5 v6 v7 v8 ((mX6_isTold v1 v2 (upm M 47 v4.toNatClampNeg v8)).1) ((mX6_isTold v1 v2 (upm M 47 v4.toNatClampNeg v8)).2)))))
set_option maxRecDepth 100000 in
theorem cX6_fits_69    (M0 : Mem) : ∀ (n : Nat) (v1 : Int32) (v2 : Int32) (v3 : Int32) (v4 : Int32) (v5 : Int32) (v6 : Int32) (v7 : Int32) (v8 : Int32) (M : Mem), PX6_fits_69 n v1 v2 v3 v4 v5 v6 v7 v8 M → AWP (GIM mtX6_fits 5 M0 (mX6_fits_69 n v1 v2 v3 v4 v5 v6 v7 v8 M)) mtX6_fits 69 [(0, .ref 46), (1, .int v1), (2, .int v2), (3, .int v3), (4, .int v4), (5, .int v5), (6, .int v6), (7, .int v7), (8, .int v8)] [] M := by
  intro n
  induction n with
  | zero =>
    intro v1 v2 v3 v4 v5 v6 v7 v8 M hp
    exact hp.elim
  | succ n ih =>
    intro v1 v2 v3 v4 v5 v6 v7 v8 M hp
    rw [mX6_fits_69]
    rw [PX6_fits_69] at hp
    refine r_iload MF.bs dX6_fits_69 8 rfl ?_
    refine r_ite (GIM mtX6_fits 5 M0) (fun h_7 => ?_) (fun h_7 => ?_)
    · have hp := hp.1 h_7
      refine r_if_lt_t MF.bs (tgt := 126) dX6_fits_71 (by decide) h_7 ?_
      have hq_8 := hp
      refine r_aload_n MF.bs dX6_fits_126 rfl 0 rfl ?_
      refine r_getR MF.bs dX6_fits_127 rfl rfl 0 (by decide) wd_875 rfl ?_
      refine r_iload MF.bs dX6_fits_130 4 rfl ?_
      refine r_iload MF.bs dX6_fits_132 5 rfl ?_
      refine r_iastore MF.bs dX6_fits_134 rfl hq_8 ?_
      refine r_iload_n MF.bs dX6_fits_135 rfl 3 rfl ?_
      refine r_ite (GIM mtX6_fits 5 M0) (fun h_9 => ?_) (fun h_9 => ?_)
      · refine r_if_ne_f MF.bs (tgt := 144) dX6_fits_136 (by decide) h_9 ?_
        refine r_iload MF.bs dX6_fits_139 6 rfl ?_
        refine r_goto MF.bs dX6_fits_141 (tgt := 146) (by decide) ?_
        exact r_iret dX6_fits_146 rfl
      · refine r_if_ne_t MF.bs (tgt := 144) dX6_fits_136 (by decide) h_9 ?_
        refine r_iload MF.bs dX6_fits_144 7 rfl ?_
        exact r_iret dX6_fits_146 rfl
    · have hp := hp.2 h_7
      refine r_if_lt_f MF.bs (tgt := 126) dX6_fits_71 (by decide) h_7 ?_
      obtain ⟨hq_10, hp⟩ := hp
      obtain ⟨hq_11, hp⟩ := hp
      refine r_aload_n MF.bs dX6_fits_74 rfl 0 rfl ?_
      refine r_getR MF.bs dX6_fits_75 rfl rfl 0 (by decide) wd_875 rfl ?_
      refine r_iload MF.bs dX6_fits_78 4 rfl ?_
      refine r_iload MF.bs dX6_fits_80 8 rfl ?_
      refine r_iastore MF.bs dX6_fits_82 rfl hq_10 ?_
      refine r_aload_n MF.bs dX6_fits_83 rfl 0 rfl ?_
      refine r_iload_n MF.bs dX6_fits_84 rfl 1 rfl ?_
      refine r_iload_n MF.bs dX6_fits_85 rfl 2 rfl ?_
      refine r_callV_v MF.bs (st := []) dX6_fits_86 (ctX6_isTold v1 v2 (upm M 47 v4.toNatClampNeg v8) hq_11) miX6_isTold wd_1256 rfl (by decide) rfl (Nat.le_of_ble_eq_true rfl) rfl rfl rfl ?_
      exact cX6_fits_89 M0 (mX6_fits_69 n) (PX6_fits_69 n) ih v1 v2 v3 v4 v5 v6 v7 v8 ((mX6_isTold v1 v2 (upm M 47 v4.toNatClampNeg v8)).1) ((mX6_isTold v1 v2 (upm M 47 v4.toNatClampNeg v8)).2) hp
def mX6_fits  (a1 : Int32) (a2 : Int32) (a3 : Int32) (M : Mem) : Int32 × Mem := (if (mX6_isSheet a1) = true then (if (mX6_isOne a2 M) = true then (if (mX6_isIn ((a3 : Int32).toInt64) 0 1) = true then (if 0 ≤ (M 57 a1.toNatClampNeg) then (mX6_fits_69 400 a1 a2 a3 ((24 + (4 * a2)) + 3) (M 47 ((24 + (4 * a2)) + 3).toNatClampNeg) 0 (-3) 15 M) else ((-11), M)) else ((-1), M)) else ((-1), M)) else ((-1), M))
def PX6_fits  (a1 : Int32) (a2 : Int32) (a3 : Int32) (M : Mem) : Prop := ((mX6_isSheet a1) = true → ((mX6_isOne a2 M) = true → ((mX6_isIn ((a3 : Int32).toInt64) 0 1) = true → vp_in a1 4 ∧ ((0 ≤ (M 57 a1.toNatClampNeg) → vp_in ((24 + (4 * a2)) + 3) 56 ∧ (PX6_fits_69 400 a1 a2 a3 ((24 + (4 * a2)) + 3) (M 47 ((24 + (4 * a2)) + 3).toNatClampNeg) 0 (-3) 15 M))))))
set_option maxRecDepth 100000 in
theorem ctX6_fits   (a1 : Int32) (a2 : Int32) (a3 : Int32) (M : Mem) (hp : PX6_fits a1 a2 a3 M) : CT mtX6_fits 5 [.ref 46, .int a1, .int a2, .int a3] M (some (.int ((mX6_fits a1 a2 a3 M).1)), (mX6_fits a1 a2 a3 M).2) := by
  refine CT.of (by decide) rfl (Nat.le_of_ble_eq_true rfl) ?_
  show AWP (GIM mtX6_fits 5 M (mX6_fits a1 a2 a3 M)) mtX6_fits 0 [(0, .ref 46), (1, .int a1), (2, .int a2), (3, .int a3)] [] M
  unfold mX6_fits
  unfold PX6_fits at hp
  refine r_iload_n MF.bs dX6_fits_0 rfl 1 rfl ?_
  refine r_callS_v MF.bs (st := []) dX6_fits_1 (ctX6_isSheet a1 M) miX6_isSheet wd_1253 rfl (by decide) rfl (Nat.le_of_ble_eq_true rfl) ?_
  refine r_ite (GIM mtX6_fits 5 M) (fun h_1 => ?_) (fun h_1 => ?_)
  · have hp := hp h_1
    refine r_if_eq_f MF.bs (tgt := 25) dX6_fits_4 (by decide) (b2i_1 h_1) ?_
    refine r_aload_n MF.bs dX6_fits_7 rfl 0 rfl ?_
    refine r_iload_n MF.bs dX6_fits_8 rfl 2 rfl ?_
    refine r_callV_v MF.bs (st := []) dX6_fits_9 (ctX6_isOne a2 M) miX6_isOne wd_1079 rfl (by decide) rfl (Nat.le_of_ble_eq_true rfl) rfl rfl rfl ?_
    refine r_ite (GIM mtX6_fits 5 M) (fun h_2 => ?_) (fun h_2 => ?_)
    · have hp := hp h_2
      refine r_if_eq_f MF.bs (tgt := 25) dX6_fits_12 (by decide) (b2i_1 h_2) ?_
      refine r_iload_n MF.bs dX6_fits_15 rfl 3 rfl ?_
      refine r_i2l MF.bs dX6_fits_16 ?_
      refine r_lconst MF.bs dX6_fits_17 (v := 0) (by decide) ?_
      refine r_lconst MF.bs dX6_fits_18 (v := 1) (by decide) ?_
      refine r_callS_v MF.bs (st := []) dX6_fits_19 (ctX6_isIn ((a3 : Int32).toInt64) 0 1 M) miX6_isIn wd_971 rfl (by decide) rfl (Nat.le_of_ble_eq_true rfl) ?_
      refine r_ite (GIM mtX6_fits 5 M) (fun h_3 => ?_) (fun h_3 => ?_)
      · have hp := hp h_3
        refine r_if_ne_t MF.bs (tgt := 27) dX6_fits_22 (by decide) (b2i_1 h_3) ?_
        obtain ⟨hq_4, hp⟩ := hp
        refine r_aload_n MF.bs dX6_fits_27 rfl 0 rfl ?_
        refine r_getR MF.bs dX6_fits_28 rfl rfl 18 (by decide) wd_893 rfl ?_
        refine r_iload_n MF.bs dX6_fits_31 rfl 1 rfl ?_
        refine r_iaload MF.bs dX6_fits_32 rfl hq_4 ?_
        refine r_ite (GIM mtX6_fits 5 M) (fun h_5 => ?_) (fun h_5 => ?_)
        · have hp := hp h_5
          refine r_if_ge_t MF.bs (tgt := 39) dX6_fits_33 (by decide) h_5 ?_
          obtain ⟨hq_6, hp⟩ := hp
          refine r_bipush MF.bs dX6_fits_39 (v := 24) (by decide) ?_
          refine r_iconst MF.bs dX6_fits_41 (v := 4) (by decide) ?_
          refine r_iload_n MF.bs dX6_fits_42 rfl 2 rfl ?_
          refine r_imul MF.bs dX6_fits_43 ?_
          refine r_iadd MF.bs dX6_fits_44 ?_
          refine r_iconst MF.bs dX6_fits_45 (v := 3) (by decide) ?_
          refine r_iadd MF.bs dX6_fits_46 ?_
          refine r_istore MF.bs (lv' := [(4, .int ((24 + (4 * a2)) + 3)), (0, .ref 46), (1, .int a1), (2, .int a2), (3, .int a3)]) dX6_fits_47 (by decide) rfl ?_
          refine r_aload_n MF.bs dX6_fits_49 rfl 1 rfl ?_
          refine r_getR MF.bs dX6_fits_50 rfl rfl 0 (by decide) wd_875 rfl ?_
          refine r_iload MF.bs dX6_fits_53 0 rfl ?_
          refine r_iaload MF.bs dX6_fits_55 rfl hq_6 ?_
          refine r_istore MF.bs (lv' := [(5, .int (M 47 ((24 + (4 * a2)) + 3).toNatClampNeg)), (4, .int ((24 + (4 * a2)) + 3)), (0, .ref 46), (1, .int a1), (2, .int a2), (3, .int a3)]) dX6_fits_56 (by decide) rfl ?_
          refine r_iconst MF.bs dX6_fits_58 (v := 0) (by decide) ?_
          refine r_istore MF.bs (lv' := [(6, .int 0), (5, .int (M 47 ((24 + (4 * a2)) + 3).toNatClampNeg)), (4, .int ((24 + (4 * a2)) + 3)), (0, .ref 46), (1, .int a1), (2, .int a2), (3, .int a3)]) dX6_fits_59 (by decide) rfl ?_
          refine r_bipush MF.bs dX6_fits_61 (v := -3) (by decide) ?_
          refine r_istore MF.bs (lv' := [(7, .int (-3)), (6, .int 0), (5, .int (M 47 ((24 + (4 * a2)) + 3).toNatClampNeg)), (4, .int ((24 + (4 * a2)) + 3)), (0, .ref 46), (1, .int a1), (2, .int a2), (3, .int a3)]) dX6_fits_63 (by decide) rfl ?_
          refine r_bipush MF.bs dX6_fits_65 (v := 15) (by decide) ?_
          refine r_istore MF.bs (lv' := [(8, .int 15), (7, .int (-3)), (6, .int 0), (5, .int (M 47 ((24 + (4 * a2)) + 3).toNatClampNeg)), (4, .int ((24 + (4 * a2)) + 3)), (0, .ref 46), (1, .int a1), (2, .int a2), (3, .int a3)]) dX6_fits_67 (by decide) rfl ?_
          refine r_sub [(0, .ref 46), (1, .int a1), (2, .int a2), (3, .int a3), (4, .int ((24 + (4 * a2)) + 3)), (5, .int (M 47 ((24 + (4 * a2)) + 3).toNatClampNeg)), (6, .int 0), (7, .int (-3)), (8, .int 15)] [5, 6, 7, 8, 4, 3, 2, 1, 0] rfl ?_
          exact cX6_fits_69 M 400 a1 a2 a3 ((24 + (4 * a2)) + 3) (M 47 ((24 + (4 * a2)) + 3).toNatClampNeg) 0 (-3) 15 M hp
        · refine r_if_ge_f MF.bs (tgt := 39) dX6_fits_33 (by decide) h_5 ?_
          refine r_bipush MF.bs dX6_fits_36 (v := -11) (by decide) ?_
          exact r_iret dX6_fits_38 rfl
      · refine r_if_ne_f MF.bs (tgt := 27) dX6_fits_22 (by decide) (b2i_0 h_3) ?_
        refine r_iconst MF.bs dX6_fits_25 (v := -1) (by decide) ?_
        exact r_iret dX6_fits_26 rfl
    · refine r_if_eq_t MF.bs (tgt := 25) dX6_fits_12 (by decide) (b2i_0 h_2) ?_
      refine r_iconst MF.bs dX6_fits_25 (v := -1) (by decide) ?_
      exact r_iret dX6_fits_26 rfl
  · refine r_if_eq_t MF.bs (tgt := 25) dX6_fits_4 (by decide) (b2i_0 h_1) ?_
    refine r_iconst MF.bs dX6_fits_25 (v := -1) (by decide) ?_
    exact r_iret dX6_fits_26 rfl
abbrev mtX6_odds : MT := (RX6, yX6_odds, cX6_odds, 9, (some .long))
theorem miX6_odds : MV mtX6_odds 3 := ⟨wd_1263, ⟨wd_1261, wd_1262⟩, wd_86, ⟨by decide, by decide, by decide +kernel⟩, by decide⟩
def mX6_odds_33   (M : Mem) : Int64 := (-1)
def PX6_odds_33   (M : Mem) : Prop := True
set_option maxRecDepth 100000 in
theorem cX6_odds_33    (M : Mem) (hp : PX6_odds_33 M) : AWP (GL mtX6_odds 1 M M (mX6_odds_33 M)) mtX6_odds 33 [] [] M := by
  unfold mX6_odds_33
  unfold PX6_odds_33 at hp
  refine r_ldc2 MF.bs (v := -1) dX6_odds_33 wd_1264 ?_
  exact r_lret dX6_odds_36 rfl
def mX6_odds_97   (kf61 : Int32 → Int32 → Int32 → Int64 → Int64 → Int32 → Mem → Int64) (v1 : Int32) (v2 : Int32) (v3 : Int32) (v6 : Int64) (v8 : Int32) (k0 : Int64) (k1 : Int64) (M : Mem) : Int64 := (kf61 v1 v2 v3 (k1 * k0) (v6 * 100) (v8 + 1) M)
def PX6_odds_97   (kP61 : Int32 → Int32 → Int32 → Int64 → Int64 → Int32 → Mem → Prop) (v1 : Int32) (v2 : Int32) (v3 : Int32) (v6 : Int64) (v8 : Int32) (k0 : Int64) (k1 : Int64) (M : Mem) : Prop := kP61 v1 v2 v3 (k1 * k0) (v6 * 100) (v8 + 1) M
set_option maxRecDepth 100000 in
theorem cX6_odds_97    (kf61 : Int32 → Int32 → Int32 → Int64 → Int64 → Int32 → Mem → Int64) (kP61 : Int32 → Int32 → Int32 → Int64 → Int64 → Int32 → Mem → Prop) (hk61 : ∀ (v1 : Int32) (v2 : Int32) (v3 : Int32) (v4 : Int64) (v6 : Int64) (v8 : Int32) (M : Mem), kP61 v1 v2 v3 v4 v6 v8 M → AWP (GL mtX6_odds 1 M M (kf61 v1 v2 v3 v4 v6 v8 M)) mtX6_odds 61 [(0, .ref 46), (1, .int v1), (2, .int v2), (3, .int v3), (4, .long v4), (6, .long v6), (8, .int v8)] [] M) (v1 : Int32) (v2 : Int32) (v3 : Int32) (v6 : Int64) (v8 : Int32) (k0 : Int64) (k1 : Int64) (M : Mem) (hp : PX6_odds_97 kP61 v1 v2 v3 v6 v8 k0 k1 M) : AWP (GL mtX6_odds 1 M M (mX6_odds_97 kf61 v1 v2 v3 v6 v8 k0 k1 M)) mtX6_odds 97 [(0, .ref 46), (1, .int v1), (2, .int v2), (3, .int v3), (6, .long v6), (8, .int v8)] [.long k0, .long k1] M := by
  unfold mX6_odds_97
  unfold PX6_odds_97 at hp
  refine r_lmul MF.bs dX6_odds_97 ?_
  refine r_lstore MF.bs (lv' := [(4, .long (k1 * k0)), (0, .ref 46), (1, .int v1), (2, .int v2), (3, .int v3), (6, .long v6), (8, .int v8)]) dX6_odds_98 (by decide) rfl ?_
  refine r_lload MF.bs dX6_odds_100 5 rfl ?_
  refine r_ldc2 MF.bs (v := 100) dX6_odds_102 wd_1268 ?_
  refine r_lmul MF.bs dX6_odds_105 ?_
  refine r_lstore MF.bs (lv' := [(6, .long (v6 * 100)), (4, .long (k1 * k0)), (0, .ref 46), (1, .int v1), (2, .int v2), (3, .int v3), (8, .int v8)]) dX6_odds_106 (by decide) rfl ?_
  refine r_iinc MF.bs (v := (v8 + 1)) (lv' := [(8, .int (v8 + 1)), (6, .long (v6 * 100)), (4, .long (k1 * k0)), (0, .ref 46), (1, .int v1), (2, .int v2), (3, .int v3)]) dX6_odds_108 6 rfl rfl (by decide) rfl ?_
  refine r_goto MF.bs dX6_odds_111 (tgt := 61) (by decide) ?_
  refine r_sub [(0, .ref 46), (1, .int v1), (2, .int v2), (3, .int v3), (4, .long (k1 * k0)), (6, .long (v6 * 100)), (8, .int (v8 + 1))] [3, 4, 5, 6, 2, 1, 0] rfl ?_
  exact hk61 v1 v2 v3 (k1 * k0) (v6 * 100) (v8 + 1) M hp
def mX6_odds_61   : Nat → Int32 → Int32 → Int32 → Int64 → Int64 → Int32 → Mem → Int64
  | 0, _, _, _, _, _, _, _ => 0
  | n + 1, v1, v2, v3, v4, v6, v8, M => (if v1 ≤ v8 then (mX6_partOf v4 v6 v3 M) else (if v2 ≤ v8 then (mX6_odds_97 (mX6_odds_61 n) v1 v2 v3 v6 v8 (((100 - (M 47 7)) : Int32).toInt64) v4 M) else (mX6_odds_97 (mX6_odds_61 n) v1 v2 v3 v6 v8 (((M 47 7) : Int32).toInt64) v4 M)))
def PX6_odds_61   : Nat → Int32 → Int32 → Int32 → Int64 → Int64 → Int32 → Mem → Prop
  | 0, _, _, _, _, _, _, _ => False
  | n + 1, v1, v2, v3, v4, v6, v8, M => ((v1 ≤ v8 → PX6_partOf v4 v6 v3 M) ∧ (¬ v1 ≤ v8 → ((v2 ≤ v8 → PX6_odds_97 (PX6_odds_61 n) v1 v2 v3 v6 v8 (((100 - (M 47 7)) : Int32).toInt64) v4 M) ∧ (¬ v2 ≤ v8 → PX6_odds_97 (PX6_odds_61 n) v1 v2 v3 v6 v8 (((M 47 7) : Int32).toInt64) v4 M))))
set_option maxRecDepth 100000 in
theorem cX6_odds_61    : ∀ (n : Nat) (v1 : Int32) (v2 : Int32) (v3 : Int32) (v4 : Int64) (v6 : Int64) (v8 : Int32) (M : Mem), PX6_odds_61 n v1 v2 v3 v4 v6 v8 M → AWP (GL mtX6_odds 1 M M (mX6_odds_61 n v1 v2 v3 v4 v6 v8 M)) mtX6_odds 61 [(0, .ref 46), (1, .int v1), (2, .int v2), (3, .int v3), (4, .long v4), (6, .long v6), (8, .int v8)] [] M := by
  intro n
  induction n with
  | zero =>
    intro v1 v2 v3 v4 v6 v8 M hp
    exact hp.elim
  | succ n ih =>
    intro v1 v2 v3 v4 v6 v8 M hp
    rw [mX6_odds_61]
    rw [PX6_odds_61] at hp
    refine r_iload MF.bs dX6_odds_61 6 rfl ?_
    refine r_iload_n MF.bs dX6_odds_63 rfl 1 rfl ?_
    refine r_ite (GL mtX6_odds 1 M M) (fun h_9 => ?_) (fun h_9 => ?_)
    · have hp := hp.1 h_9
      refine r_icmp_ge_t MF.bs (tgt := 114) dX6_odds_64 (by decide) h_9 ?_
      have hq_10 := hp
      refine r_lload MF.bs dX6_odds_114 4 rfl ?_
      refine r_lload MF.bs dX6_odds_116 5 rfl ?_
      refine r_iload_n MF.bs dX6_odds_118 rfl 3 rfl ?_
      refine r_callS_v MF.bs (st := []) dX6_odds_119 (ctX6_partOf v4 v6 v3 M hq_10) miX6_partOf wd_1269 rfl (by decide) rfl (Nat.le_of_ble_eq_true rfl) ?_
      exact r_lret dX6_odds_122 rfl
    · have hp := hp.2 h_9
      refine r_icmp_ge_f MF.bs (tgt := 114) dX6_odds_64 (by decide) h_9 ?_
      refine r_lload MF.bs dX6_odds_67 4 rfl ?_
      refine r_iload MF.bs dX6_odds_69 6 rfl ?_
      refine r_iload_n MF.bs dX6_odds_71 rfl 2 rfl ?_
      refine r_ite (GL mtX6_odds 1 M M) (fun h_11 => ?_) (fun h_11 => ?_)
      · have hp := hp.1 h_11
        refine r_icmp_ge_t MF.bs (tgt := 86) dX6_odds_72 (by decide) h_11 ?_
        refine r_bipush MF.bs dX6_odds_86 (v := 100) (by decide) ?_
        refine r_aload_n MF.bs dX6_odds_88 rfl 0 rfl ?_
        refine r_getR MF.bs dX6_odds_89 rfl rfl 0 (by decide) wd_875 rfl ?_
        refine r_bipush MF.bs dX6_odds_92 (v := 7) (by decide) ?_
        refine r_ialoadL MF.bs dX6_odds_94 rfl (vin_l (by decide) (by decide)) (k9 := 7) (by decide) ?_
        refine r_isub MF.bs dX6_odds_95 ?_
        refine r_i2l MF.bs dX6_odds_96 ?_
        refine r_sub [(0, .ref 46), (1, .int v1), (2, .int v2), (3, .int v3), (6, .long v6), (8, .int v8)] [0, 1, 2, 3, 5, 6] rfl ?_
        exact cX6_odds_97 (mX6_odds_61 n) (PX6_odds_61 n) ih v1 v2 v3 v6 v8 (((100 - (M 47 7)) : Int32).toInt64) v4 M hp
      · have hp := hp.2 h_11
        refine r_icmp_ge_f MF.bs (tgt := 86) dX6_odds_72 (by decide) h_11 ?_
        refine r_aload_n MF.bs dX6_odds_75 rfl 0 rfl ?_
        refine r_getR MF.bs dX6_odds_76 rfl rfl 0 (by decide) wd_875 rfl ?_
        refine r_bipush MF.bs dX6_odds_79 (v := 7) (by decide) ?_
        refine r_ialoadL MF.bs dX6_odds_81 rfl (vin_l (by decide) (by decide)) (k9 := 7) (by decide) ?_
        refine r_i2l MF.bs dX6_odds_82 ?_
        refine r_goto MF.bs dX6_odds_83 (tgt := 97) (by decide) ?_
        refine r_sub [(0, .ref 46), (1, .int v1), (2, .int v2), (3, .int v3), (6, .long v6), (8, .int v8)] [0, 1, 2, 3, 5, 6] rfl ?_
        exact cX6_odds_97 (mX6_odds_61 n) (PX6_odds_61 n) ih v1 v2 v3 v6 v8 (((M 47 7) : Int32).toInt64) v4 M hp
def mX6_odds  (a1 : Int32) (a2 : Int32) (a3 : Int32) (M : Mem) : Int64 := (if (mX6_isIn ((a1 : Int32).toInt64) 0 8) = true then (if (mX6_isIn ((a2 : Int32).toInt64) 0 ((a1 : Int32).toInt64)) = true then (if (mX6_isIn ((a3 : Int32).toInt64) 0 1) = true then (mX6_odds_61 400 a1 a2 a3 (((mX6_product a1 M) / (mX6_product a2 M)) / (mX6_product (a1 - a2) M)) 1 0 M) else (mX6_odds_33 M)) else (mX6_odds_33 M)) else (mX6_odds_33 M))
def PX6_odds  (a1 : Int32) (a2 : Int32) (a3 : Int32) (M : Mem) : Prop := (((mX6_isIn ((a1 : Int32).toInt64) 0 8) = true → (((mX6_isIn ((a2 : Int32).toInt64) 0 ((a1 : Int32).toInt64)) = true → (((mX6_isIn ((a3 : Int32).toInt64) 0 1) = true → PX6_product a1 M ∧ (PX6_product a2 M ∧ (¬ (mX6_product a2 M) = 0 ∧ (PX6_product (a1 - a2) M ∧ (¬ (mX6_product (a1 - a2) M) = 0 ∧ (PX6_odds_61 400 a1 a2 a3 (((mX6_product a1 M) / (mX6_product a2 M)) / (mX6_product (a1 - a2) M)) 1 0 M)))))) ∧ (¬ (mX6_isIn ((a3 : Int32).toInt64) 0 1) = true → PX6_odds_33 M))) ∧ (¬ (mX6_isIn ((a2 : Int32).toInt64) 0 ((a1 : Int32).toInt64)) = true → PX6_odds_33 M))) ∧ (¬ (mX6_isIn ((a1 : Int32).toInt64) 0 8) = true → PX6_odds_33 M))
set_option maxRecDepth 100000 in
theorem ctX6_odds   (a1 : Int32) (a2 : Int32) (a3 : Int32) (M : Mem) (hp : PX6_odds a1 a2 a3 M) : CT mtX6_odds 1 [.ref 46, .int a1, .int a2, .int a3] M (some (.long (mX6_odds a1 a2 a3 M)), M) := by
  refine CT.of (by decide) rfl (Nat.le_of_ble_eq_true rfl) ?_
  show AWP (GL mtX6_odds 1 M M (mX6_odds a1 a2 a3 M)) mtX6_odds 0 [(0, .ref 46), (1, .int a1), (2, .int a2), (3, .int a3)] [] M
  unfold mX6_odds
  unfold PX6_odds at hp
  refine r_iload_n MF.bs dX6_odds_0 rfl 1 rfl ?_
  refine r_i2l MF.bs dX6_odds_1 ?_
  refine r_lconst MF.bs dX6_odds_2 (v := 0) (by decide) ?_
  refine r_ldc2 MF.bs (v := 8) dX6_odds_3 wd_970 ?_
  refine r_callS_v MF.bs (st := []) dX6_odds_6 (ctX6_isIn ((a1 : Int32).toInt64) 0 8 M) miX6_isIn wd_971 rfl (by decide) rfl (Nat.le_of_ble_eq_true rfl) ?_
  refine r_ite (GL mtX6_odds 1 M M) (fun h_1 => ?_) (fun h_1 => ?_)
  · have hp := hp.1 h_1
    refine r_if_eq_f MF.bs (tgt := 33) dX6_odds_9 (by decide) (b2i_1 h_1) ?_
    refine r_iload_n MF.bs dX6_odds_12 rfl 2 rfl ?_
    refine r_i2l MF.bs dX6_odds_13 ?_
    refine r_lconst MF.bs dX6_odds_14 (v := 0) (by decide) ?_
    refine r_iload_n MF.bs dX6_odds_15 rfl 1 rfl ?_
    refine r_i2l MF.bs dX6_odds_16 ?_
    refine r_callS_v MF.bs (st := []) dX6_odds_17 (ctX6_isIn ((a2 : Int32).toInt64) 0 ((a1 : Int32).toInt64) M) miX6_isIn wd_971 rfl (by decide) rfl (Nat.le_of_ble_eq_true rfl) ?_
    refine r_ite (GL mtX6_odds 1 M M) (fun h_2 => ?_) (fun h_2 => ?_)
    · have hp := hp.1 h_2
      refine r_if_eq_f MF.bs (tgt := 33) dX6_odds_20 (by decide) (b2i_1 h_2) ?_
      refine r_iload_n MF.bs dX6_odds_23 rfl 3 rfl ?_
      refine r_i2l MF.bs dX6_odds_24 ?_
      refine r_lconst MF.bs dX6_odds_25 (v := 0) (by decide) ?_
      refine r_lconst MF.bs dX6_odds_26 (v := 1) (by decide) ?_
      refine r_callS_v MF.bs (st := []) dX6_odds_27 (ctX6_isIn ((a3 : Int32).toInt64) 0 1 M) miX6_isIn wd_971 rfl (by decide) rfl (Nat.le_of_ble_eq_true rfl) ?_
      refine r_ite (GL mtX6_odds 1 M M) (fun h_3 => ?_) (fun h_3 => ?_)
      · have hp := hp.1 h_3
        refine r_if_ne_t MF.bs (tgt := 37) dX6_odds_30 (by decide) (b2i_1 h_3) ?_
        obtain ⟨hq_4, hp⟩ := hp
        obtain ⟨hq_5, hp⟩ := hp
        obtain ⟨hq_6, hp⟩ := hp
        obtain ⟨hq_7, hp⟩ := hp
        obtain ⟨hq_8, hp⟩ := hp
        refine r_iload_n MF.bs dX6_odds_37 rfl 1 rfl ?_
        refine r_callS_v MF.bs (st := []) dX6_odds_38 (ctX6_product a1 M hq_4) miX6_product wd_1265 rfl (by decide) rfl (Nat.le_of_ble_eq_true rfl) ?_
        refine r_iload_n MF.bs dX6_odds_41 rfl 2 rfl ?_
        refine r_callS_v MF.bs (st := [.long (mX6_product a1 M)]) dX6_odds_42 (ctX6_product a2 M hq_5) miX6_product wd_1265 rfl (by decide) rfl (Nat.le_of_ble_eq_true rfl) ?_
        refine r_ldiv MF.bs dX6_odds_45 hq_6 ?_
        refine r_iload_n MF.bs dX6_odds_46 rfl 1 rfl ?_
        refine r_iload_n MF.bs dX6_odds_47 rfl 2 rfl ?_
        refine r_isub MF.bs dX6_odds_48 ?_
        refine r_callS_v MF.bs (st := [.long ((mX6_product a1 M) / (mX6_product a2 M))]) dX6_odds_49 (ctX6_product (a1 - a2) M hq_7) miX6_product wd_1265 rfl (by decide) rfl (Nat.le_of_ble_eq_true rfl) ?_
        refine r_ldiv MF.bs dX6_odds_52 hq_8 ?_
        refine r_lstore MF.bs (lv' := [(4, .long (((mX6_product a1 M) / (mX6_product a2 M)) / (mX6_product (a1 - a2) M))), (0, .ref 46), (1, .int a1), (2, .int a2), (3, .int a3)]) dX6_odds_53 (by decide) rfl ?_
        refine r_lconst MF.bs dX6_odds_55 (v := 1) (by decide) ?_
        refine r_lstore MF.bs (lv' := [(6, .long 1), (4, .long (((mX6_product a1 M) / (mX6_product a2 M)) / (mX6_product (a1 - a2) M))), (0, .ref 46), (1, .int a1), (2, .int a2), (3, .int a3)]) dX6_odds_56 (by decide) rfl ?_
        refine r_iconst MF.bs dX6_odds_58 (v := 0) (by decide) ?_
        refine r_istore MF.bs (lv' := [(8, .int 0), (6, .long 1), (4, .long (((mX6_product a1 M) / (mX6_product a2 M)) / (mX6_product (a1 - a2) M))), (0, .ref 46), (1, .int a1), (2, .int a2), (3, .int a3)]) dX6_odds_59 (by decide) rfl ?_
        refine r_sub [(0, .ref 46), (1, .int a1), (2, .int a2), (3, .int a3), (4, .long (((mX6_product a1 M) / (mX6_product a2 M)) / (mX6_product (a1 - a2) M))), (6, .long 1), (8, .int 0)] [3, 4, 5, 6, 2, 1, 0] rfl ?_
        exact cX6_odds_61 400 a1 a2 a3 (((mX6_product a1 M) / (mX6_product a2 M)) / (mX6_product (a1 - a2) M)) 1 0 M hp
      · have hp := hp.2 h_3
        refine r_if_ne_f MF.bs (tgt := 37) dX6_odds_30 (by decide) (b2i_0 h_3) ?_
        refine r_sub [] [] rfl ?_
        exact cX6_odds_33 M hp
    · have hp := hp.2 h_2
      refine r_if_eq_t MF.bs (tgt := 33) dX6_odds_20 (by decide) (b2i_0 h_2) ?_
      refine r_sub [] [] rfl ?_
      exact cX6_odds_33 M hp
  · have hp := hp.2 h_1
    refine r_if_eq_t MF.bs (tgt := 33) dX6_odds_9 (by decide) (b2i_0 h_1) ?_
    refine r_sub [] [] rfl ?_
    exact cX6_odds_33 M hp
abbrev mtX6_hope : MT := (RX6, yX6_hope, cX6_hope, 3, (some .long))
theorem miX6_hope : MV mtX6_hope 2 := ⟨wd_1275, ⟨wd_1273, wd_1274⟩, wd_86, ⟨by decide, by decide, by decide +kernel⟩, by decide⟩
def mX6_hope_43   (M : Mem) : Int64 := (-1)
def PX6_hope_43   (M : Mem) : Prop := True
set_option maxRecDepth 100000 in
theorem cX6_hope_43    (M : Mem) (hp : PX6_hope_43 M) : AWP (GL mtX6_hope 1 M M (mX6_hope_43 M)) mtX6_hope 43 [] [] M := by
  unfold mX6_hope_43
  unfold PX6_hope_43 at hp
  refine r_ldc2 MF.bs (v := -1) dX6_hope_43 wd_1264 ?_
  exact r_lret dX6_hope_46 rfl
def mX6_hope  (a1 : Int32) (a2 : Int32) (M : Mem) : Int64 := (if (mX6_isIn ((a1 : Int32).toInt64) 0 99) = true then (if (mX6_isIn ((a2 : Int32).toInt64) 0 1) = true then (mX6_partOf ((a1 : Int32).toInt64 * ((M 47 7) : Int32).toInt64) 100 a2 M) else (mX6_hope_43 M)) else (mX6_hope_43 M))
def PX6_hope  (a1 : Int32) (a2 : Int32) (M : Mem) : Prop := (((mX6_isIn ((a1 : Int32).toInt64) 0 99) = true → (((mX6_isIn ((a2 : Int32).toInt64) 0 1) = true → PX6_partOf ((a1 : Int32).toInt64 * ((M 47 7) : Int32).toInt64) 100 a2 M) ∧ (¬ (mX6_isIn ((a2 : Int32).toInt64) 0 1) = true → PX6_hope_43 M))) ∧ (¬ (mX6_isIn ((a1 : Int32).toInt64) 0 99) = true → PX6_hope_43 M))
set_option maxRecDepth 100000 in
theorem ctX6_hope   (a1 : Int32) (a2 : Int32) (M : Mem) (hp : PX6_hope a1 a2 M) : CT mtX6_hope 1 [.ref 46, .int a1, .int a2] M (some (.long (mX6_hope a1 a2 M)), M) := by
  refine CT.of (by decide) rfl (Nat.le_of_ble_eq_true rfl) ?_
  show AWP (GL mtX6_hope 1 M M (mX6_hope a1 a2 M)) mtX6_hope 0 [(0, .ref 46), (1, .int a1), (2, .int a2)] [] M
  unfold mX6_hope
  unfold PX6_hope at hp
  refine r_iload_n MF.bs dX6_hope_0 rfl 1 rfl ?_
  refine r_i2l MF.bs dX6_hope_1 ?_
  refine r_lconst MF.bs dX6_hope_2 (v := 0) (by decide) ?_
  refine r_ldc2 MF.bs (v := 99) dX6_hope_3 wd_1057 ?_
  refine r_callS_v MF.bs (st := []) dX6_hope_6 (ctX6_isIn ((a1 : Int32).toInt64) 0 99 M) miX6_isIn wd_971 rfl (by decide) rfl (Nat.le_of_ble_eq_true rfl) ?_
  refine r_ite (GL mtX6_hope 1 M M) (fun h_1 => ?_) (fun h_1 => ?_)
  · have hp := hp.1 h_1
    refine r_if_eq_f MF.bs (tgt := 43) dX6_hope_9 (by decide) (b2i_1 h_1) ?_
    refine r_iload_n MF.bs dX6_hope_12 rfl 2 rfl ?_
    refine r_i2l MF.bs dX6_hope_13 ?_
    refine r_lconst MF.bs dX6_hope_14 (v := 0) (by decide) ?_
    refine r_lconst MF.bs dX6_hope_15 (v := 1) (by decide) ?_
    refine r_callS_v MF.bs (st := []) dX6_hope_16 (ctX6_isIn ((a2 : Int32).toInt64) 0 1 M) miX6_isIn wd_971 rfl (by decide) rfl (Nat.le_of_ble_eq_true rfl) ?_
    refine r_ite (GL mtX6_hope 1 M M) (fun h_2 => ?_) (fun h_2 => ?_)
    · have hp := hp.1 h_2
      refine r_if_eq_f MF.bs (tgt := 43) dX6_hope_19 (by decide) (b2i_1 h_2) ?_
      have hq_3 := hp
      refine r_iload_n MF.bs dX6_hope_22 rfl 1 rfl ?_
      refine r_i2l MF.bs dX6_hope_23 ?_
      refine r_aload_n MF.bs dX6_hope_24 rfl 0 rfl ?_
      refine r_getR MF.bs dX6_hope_25 rfl rfl 0 (by decide) wd_875 rfl ?_
      refine r_bipush MF.bs dX6_hope_28 (v := 7) (by decide) ?_
      refine r_ialoadL MF.bs dX6_hope_30 rfl (vin_l (by decide) (by decide)) (k9 := 7) (by decide) ?_
      refine r_i2l MF.bs dX6_hope_31 ?_
      refine r_lmul MF.bs dX6_hope_32 ?_
      refine r_ldc2 MF.bs (v := 100) dX6_hope_33 wd_1268 ?_
      refine r_iload_n MF.bs dX6_hope_36 rfl 2 rfl ?_
      refine r_callS_v MF.bs (st := []) dX6_hope_37 (ctX6_partOf ((a1 : Int32).toInt64 * ((M 47 7) : Int32).toInt64) 100 a2 M hq_3) miX6_partOf wd_1269 rfl (by decide) rfl (Nat.le_of_ble_eq_true rfl) ?_
      refine r_goto MF.bs dX6_hope_40 (tgt := 46) (by decide) ?_
      exact r_lret dX6_hope_46 rfl
    · have hp := hp.2 h_2
      refine r_if_eq_t MF.bs (tgt := 43) dX6_hope_19 (by decide) (b2i_0 h_2) ?_
      refine r_sub [] [] rfl ?_
      exact cX6_hope_43 M hp
  · have hp := hp.2 h_1
    refine r_if_eq_t MF.bs (tgt := 43) dX6_hope_9 (by decide) (b2i_0 h_1) ?_
    refine r_sub [] [] rfl ?_
    exact cX6_hope_43 M hp
abbrev mtX6_prove : MT := (RX6, yX6_prove, cX6_prove, 4, (some .int))
theorem miX6_prove : MV mtX6_prove 2 := ⟨wd_1279, ⟨wd_1277, wd_1278⟩, wd_86, ⟨by decide, by decide, by decide +kernel⟩, by decide⟩
def mX6_prove_44   (kf35 : Int32 → Int32 → Int32 → Mem → Int32 × Mem) (v1 : Int32) (v2 : Int32) (v3 : Int32) (M : Mem) : Int32 × Mem := (kf35 v1 v2 (v3 + 1) (upm (upm (upm M 56 (3 * v3).toNatClampNeg (mX6_its v1 3 M)) 56 ((3 * v3) + 1).toNatClampNeg ((upm M 56 (3 * v3).toNatClampNeg (mX6_its v1 3 M)) 47 (8 + (mX6_its v1 3 (upm M 56 (3 * v3).toNatClampNeg (mX6_its v1 3 M)))).toNatClampNeg)) 56 ((3 * v3) + 2).toNatClampNeg (mX6_offNow v1 (upm (upm M 56 (3 * v3).toNatClampNeg (mX6_its v1 3 M)) 56 ((3 * v3) + 1).toNatClampNeg ((upm M 56 (3 * v3).toNatClampNeg (mX6_its v1 3 M)) 47 (8 + (mX6_its v1 3 (upm M 56 (3 * v3).toNatClampNeg (mX6_its v1 3 M)))).toNatClampNeg)))))
def PX6_prove_44   (kP35 : Int32 → Int32 → Int32 → Mem → Prop) (v1 : Int32) (v2 : Int32) (v3 : Int32) (M : Mem) : Prop := PX6_its v1 3 M ∧ (vp_in (3 * v3) 30 ∧ (PX6_its v1 3 (upm M 56 (3 * v3).toNatClampNeg (mX6_its v1 3 M)) ∧ (vp_in (8 + (mX6_its v1 3 (upm M 56 (3 * v3).toNatClampNeg (mX6_its v1 3 M)))) 56 ∧ (vp_in ((3 * v3) + 1) 30 ∧ (PX6_offNow v1 (upm (upm M 56 (3 * v3).toNatClampNeg (mX6_its v1 3 M)) 56 ((3 * v3) + 1).toNatClampNeg ((upm M 56 (3 * v3).toNatClampNeg (mX6_its v1 3 M)) 47 (8 + (mX6_its v1 3 (upm M 56 (3 * v3).toNatClampNeg (mX6_its v1 3 M)))).toNatClampNeg)) ∧ (vp_in ((3 * v3) + 2) 30 ∧ (kP35 v1 v2 (v3 + 1) (upm (upm (upm M 56 (3 * v3).toNatClampNeg (mX6_its v1 3 M)) 56 ((3 * v3) + 1).toNatClampNeg ((upm M 56 (3 * v3).toNatClampNeg (mX6_its v1 3 M)) 47 (8 + (mX6_its v1 3 (upm M 56 (3 * v3).toNatClampNeg (mX6_its v1 3 M)))).toNatClampNeg)) 56 ((3 * v3) + 2).toNatClampNeg (mX6_offNow v1 (upm (upm M 56 (3 * v3).toNatClampNeg (mX6_its v1 3 M)) 56 ((3 * v3) + 1).toNatClampNeg ((upm M 56 (3 * v3).toNatClampNeg (mX6_its v1 3 M)) 47 (8 + (mX6_its v1 3 (upm M 56 (3 * v3).toNatClampNeg (mX6_its v1 3 M)))).toNatClampNeg)))))))))))
set_option maxRecDepth 100000 in
theorem cX6_prove_44    (M0 : Mem) (kf35 : Int32 → Int32 → Int32 → Mem → Int32 × Mem) (kP35 : Int32 → Int32 → Int32 → Mem → Prop) (hk35 : ∀ (v1 : Int32) (v2 : Int32) (v3 : Int32) (M : Mem), kP35 v1 v2 v3 M → AWP (GIM mtX6_prove 4 M0 (kf35 v1 v2 v3 M)) mtX6_prove 35 [(0, .ref 46), (1, .int v1), (2, .int v2), (3, .int v3)] [] M) (v1 : Int32) (v2 : Int32) (v3 : Int32) (M : Mem) (hp : PX6_prove_44 kP35 v1 v2 v3 M) : AWP (GIM mtX6_prove 4 M0 (mX6_prove_44 kf35 v1 v2 v3 M)) mtX6_prove 44 [(0, .ref 46), (1, .int v1), (2, .int v2), (3, .int v3)] [] M := by
  unfold mX6_prove_44
  unfold PX6_prove_44 at hp
  obtain ⟨hq_7, hp⟩ := hp
  obtain ⟨hq_8, hp⟩ := hp
  obtain ⟨hq_9, hp⟩ := hp
  obtain ⟨hq_10, hp⟩ := hp
  obtain ⟨hq_11, hp⟩ := hp
  obtain ⟨hq_12, hp⟩ := hp
  obtain ⟨hq_13, hp⟩ := hp
  refine r_aload_n MF.bs dX6_prove_44 rfl 0 rfl ?_
  refine r_getR MF.bs dX6_prove_45 rfl rfl 16 (by decide) wd_891 rfl ?_
  refine r_iconst MF.bs dX6_prove_48 (v := 3) (by decide) ?_
  refine r_iload_n MF.bs dX6_prove_49 rfl 3 rfl ?_
  refine r_imul MF.bs dX6_prove_50 ?_
  refine r_aload_n MF.bs dX6_prove_51 rfl 0 rfl ?_
  refine r_iload_n MF.bs dX6_prove_52 rfl 1 rfl ?_
  refine r_iconst MF.bs dX6_prove_53 (v := 3) (by decide) ?_
  refine r_callV_v MF.bs (st := [.int (3 * v3), .ref 56]) dX6_prove_54 (ctX6_its v1 3 M hq_7) miX6_its wd_1083 rfl (by decide) rfl (Nat.le_of_ble_eq_true rfl) rfl rfl rfl ?_
  refine r_iastore MF.bs dX6_prove_57 rfl hq_8 ?_
  refine r_aload_n MF.bs dX6_prove_58 rfl 0 rfl ?_
  refine r_getR MF.bs dX6_prove_59 rfl rfl 16 (by decide) wd_891 rfl ?_
  refine r_iconst MF.bs dX6_prove_62 (v := 3) (by decide) ?_
  refine r_iload_n MF.bs dX6_prove_63 rfl 3 rfl ?_
  refine r_imul MF.bs dX6_prove_64 ?_
  refine r_iconst MF.bs dX6_prove_65 (v := 1) (by decide) ?_
  refine r_iadd MF.bs dX6_prove_66 ?_
  refine r_aload_n MF.bs dX6_prove_67 rfl 0 rfl ?_
  refine r_getR MF.bs dX6_prove_68 rfl rfl 0 (by decide) wd_875 rfl ?_
  refine r_bipush MF.bs dX6_prove_71 (v := 8) (by decide) ?_
  refine r_aload_n MF.bs dX6_prove_73 rfl 0 rfl ?_
  refine r_iload_n MF.bs dX6_prove_74 rfl 1 rfl ?_
  refine r_iconst MF.bs dX6_prove_75 (v := 3) (by decide) ?_
  refine r_callV_v MF.bs (st := [.int 8, .ref 47, .int ((3 * v3) + 1), .ref 56]) dX6_prove_76 (ctX6_its v1 3 (upm M 56 (3 * v3).toNatClampNeg (mX6_its v1 3 M)) hq_9) miX6_its wd_1083 rfl (by decide) rfl (Nat.le_of_ble_eq_true rfl) rfl rfl rfl ?_
  refine r_iadd MF.bs dX6_prove_79 ?_
  refine r_iaload MF.bs dX6_prove_80 rfl hq_10 ?_
  refine r_iastore MF.bs dX6_prove_81 rfl hq_11 ?_
  refine r_aload_n MF.bs dX6_prove_82 rfl 0 rfl ?_
  refine r_getR MF.bs dX6_prove_83 rfl rfl 16 (by decide) wd_891 rfl ?_
  refine r_iconst MF.bs dX6_prove_86 (v := 3) (by decide) ?_
  refine r_iload_n MF.bs dX6_prove_87 rfl 3 rfl ?_
  refine r_imul MF.bs dX6_prove_88 ?_
  refine r_iconst MF.bs dX6_prove_89 (v := 2) (by decide) ?_
  refine r_iadd MF.bs dX6_prove_90 ?_
  refine r_aload_n MF.bs dX6_prove_91 rfl 0 rfl ?_
  refine r_iload_n MF.bs dX6_prove_92 rfl 1 rfl ?_
  refine r_callV_v MF.bs (st := [.int ((3 * v3) + 2), .ref 56]) dX6_prove_93 (ctX6_offNow v1 (upm (upm M 56 (3 * v3).toNatClampNeg (mX6_its v1 3 M)) 56 ((3 * v3) + 1).toNatClampNeg ((upm M 56 (3 * v3).toNatClampNeg (mX6_its v1 3 M)) 47 (8 + (mX6_its v1 3 (upm M 56 (3 * v3).toNatClampNeg (mX6_its v1 3 M)))).toNatClampNeg)) hq_12) miX6_offNow wd_1216 rfl (by decide) rfl (Nat.le_of_ble_eq_true rfl) rfl rfl rfl ?_
  refine r_iastore MF.bs dX6_prove_96 rfl hq_13 ?_
  refine r_iinc MF.bs (v := (v3 + 1)) (lv' := [(3, .int (v3 + 1)), (0, .ref 46), (1, .int v1), (2, .int v2)]) dX6_prove_97 3 rfl rfl (by decide) rfl ?_
  refine r_goto MF.bs dX6_prove_100 (tgt := 35) (by decide) ?_
  refine r_sub [(0, .ref 46), (1, .int v1), (2, .int v2), (3, .int (v3 + 1))] [1, 2, 3, 0] rfl ?_
  exact hk35 v1 v2 (v3 + 1) (upm (upm (upm M 56 (3 * v3).toNatClampNeg (mX6_its v1 3 M)) 56 ((3 * v3) + 1).toNatClampNeg ((upm M 56 (3 * v3).toNatClampNeg (mX6_its v1 3 M)) 47 (8 + (mX6_its v1 3 (upm M 56 (3 * v3).toNatClampNeg (mX6_its v1 3 M)))).toNatClampNeg)) 56 ((3 * v3) + 2).toNatClampNeg (mX6_offNow v1 (upm (upm M 56 (3 * v3).toNatClampNeg (mX6_its v1 3 M)) 56 ((3 * v3) + 1).toNatClampNeg ((upm M 56 (3 * v3).toNatClampNeg (mX6_its v1 3 M)) 47 (8 + (mX6_its v1 3 (upm M 56 (3 * v3).toNatClampNeg (mX6_its v1 3 M)))).toNatClampNeg)))) hp
def mX6_prove_114   (v2 : Int32) (M : Mem) : Int32 × Mem := (v2, (upm M 46 17 v2))
def PX6_prove_114   (v2 : Int32) (M : Mem) : Prop := True
set_option maxRecDepth 100000 in
theorem cX6_prove_114    (M0 : Mem) (v2 : Int32) (M : Mem) (hp : PX6_prove_114 v2 M) : AWP (GIM mtX6_prove 4 M0 (mX6_prove_114 v2 M)) mtX6_prove 114 [(0, .ref 46), (2, .int v2)] [] M := by
  unfold mX6_prove_114
  unfold PX6_prove_114 at hp
  refine r_aload_n MF.bs dX6_prove_114 rfl 0 rfl ?_
  refine r_iload_n MF.bs dX6_prove_115 rfl 1 rfl ?_
  refine r_putI MF.bs dX6_prove_116 rfl rfl 17 (by decide) wd_892 rfl rfl rfl rfl rfl ?_
  refine r_iload_n MF.bs dX6_prove_119 rfl 1 rfl ?_
  exact r_iret dX6_prove_120 rfl
def mX6_prove_35   : Nat → Int32 → Int32 → Int32 → Mem → Int32 × Mem
  | 0, _, _, _, M => (0, M)
  | n + 1, v1, v2, v3, M => (if v2 ≤ v3 then (mX6_prove_114 v2 (mX6_copyRow 49 56 47 56 M)) else (mX6_prove_44 (mX6_prove_35 n) v1 v2 v3 (mX6_goesOn M)))
def PX6_prove_35   : Nat → Int32 → Int32 → Int32 → Mem → Prop
  | 0, _, _, _, _ => False
  | n + 1, v1, v2, v3, M => ((v2 ≤ v3 → PX6_copyRow 49 56 47 56 M ∧ (PX6_prove_114 v2 (mX6_copyRow 49 56 47 56 M))) ∧ (¬ v2 ≤ v3 → PX6_goesOn M ∧ (PX6_prove_44 (PX6_prove_35 n) v1 v2 v3 (mX6_goesOn M))))
set_option maxRecDepth 100000 in
theorem cX6_prove_35    (M0 : Mem) : ∀ (n : Nat) (v1 : Int32) (v2 : Int32) (v3 : Int32) (M : Mem), PX6_prove_35 n v1 v2 v3 M → AWP (GIM mtX6_prove 4 M0 (mX6_prove_35 n v1 v2 v3 M)) mtX6_prove 35 [(0, .ref 46), (1, .int v1), (2, .int v2), (3, .int v3)] [] M := by
  intro n
  induction n with
  | zero =>
    intro v1 v2 v3 M hp
    exact hp.elim
  | succ n ih =>
    intro v1 v2 v3 M hp
    rw [mX6_prove_35]
    rw [PX6_prove_35] at hp
    refine r_iload_n MF.bs dX6_prove_35 rfl 3 rfl ?_
    refine r_iload_n MF.bs dX6_prove_36 rfl 2 rfl ?_
    refine r_ite (GIM mtX6_prove 4 M0) (fun h_4 => ?_) (fun h_4 => ?_)
    · have hp := hp.1 h_4
      refine r_icmp_ge_t MF.bs (tgt := 103) dX6_prove_37 (by decide) h_4 ?_
      obtain ⟨hq_5, hp⟩ := hp
      refine r_aload_n MF.bs dX6_prove_103 rfl 0 rfl ?_
      refine r_getR MF.bs dX6_prove_104 rfl rfl 2 (by decide) wd_877 rfl ?_
      refine r_aload_n MF.bs dX6_prove_107 rfl 0 rfl ?_
      refine r_getR MF.bs dX6_prove_108 rfl rfl 0 (by decide) wd_875 rfl ?_
      refine r_callS_n MF.bs (st := []) dX6_prove_111 (ctX6_copyRow 49 56 47 56 rfl rfl M hq_5) miX6_copyRow wd_979 rfl (by decide) rfl (Nat.le_of_ble_eq_true rfl) ?_
      refine r_sub [(0, .ref 46), (2, .int v2)] [0, 2] rfl ?_
      exact cX6_prove_114 M0 v2 (mX6_copyRow 49 56 47 56 M) hp
    · have hp := hp.2 h_4
      refine r_icmp_ge_f MF.bs (tgt := 103) dX6_prove_37 (by decide) h_4 ?_
      obtain ⟨hq_6, hp⟩ := hp
      refine r_aload_n MF.bs dX6_prove_40 rfl 0 rfl ?_
      refine r_callV_n MF.bs (st := []) dX6_prove_41 (ctX6_goesOn M hq_6) miX6_goesOn wd_1139 rfl (by decide) rfl (Nat.le_of_ble_eq_true rfl) rfl rfl rfl ?_
      exact cX6_prove_44 M0 (mX6_prove_35 n) (PX6_prove_35 n) ih v1 v2 v3 (mX6_goesOn M) hp
def mX6_prove_33   (v1 : Int32) (v2 : Int32) (M : Mem) : Int32 × Mem := (mX6_prove_35 400 v1 v2 0 M)
def PX6_prove_33   (v1 : Int32) (v2 : Int32) (M : Mem) : Prop := PX6_prove_35 400 v1 v2 0 M
set_option maxRecDepth 100000 in
theorem cX6_prove_33    (M0 : Mem) (v1 : Int32) (v2 : Int32) (M : Mem) (hp : PX6_prove_33 v1 v2 M) : AWP (GIM mtX6_prove 4 M0 (mX6_prove_33 v1 v2 M)) mtX6_prove 33 [(0, .ref 46), (1, .int v1), (2, .int v2)] [] M := by
  unfold mX6_prove_33
  unfold PX6_prove_33 at hp
  refine r_iconst MF.bs dX6_prove_33 (v := 0) (by decide) ?_
  refine r_istore_n MF.bs (lv' := [(3, .int 0), (0, .ref 46), (1, .int v1), (2, .int v2)]) dX6_prove_34 rfl (by decide) rfl ?_
  refine r_sub [(0, .ref 46), (1, .int v1), (2, .int v2), (3, .int 0)] [1, 2, 3, 0] rfl ?_
  exact cX6_prove_35 M0 400 v1 v2 0 M hp
def mX6_prove  (a1 : Int32) (a2 : Int32) (M : Mem) : Int32 × Mem := (if (mX6_isOne a1 M) = true then (if (mX6_isIn ((a2 : Int32).toInt64) 1 10) = true then (mX6_prove_33 a1 a2 (mX6_copyRow 47 56 49 56 M)) else ((-1), M)) else ((-1), M))
def PX6_prove  (a1 : Int32) (a2 : Int32) (M : Mem) : Prop := ((mX6_isOne a1 M) = true → ((mX6_isIn ((a2 : Int32).toInt64) 1 10) = true → PX6_copyRow 47 56 49 56 M ∧ (PX6_prove_33 a1 a2 (mX6_copyRow 47 56 49 56 M))))
set_option maxRecDepth 100000 in
theorem ctX6_prove   (a1 : Int32) (a2 : Int32) (M : Mem) (hp : PX6_prove a1 a2 M) : CT mtX6_prove 4 [.ref 46, .int a1, .int a2] M (some (.int ((mX6_prove a1 a2 M).1)), (mX6_prove a1 a2 M).2) := by
  refine CT.of (by decide) rfl (Nat.le_of_ble_eq_true rfl) ?_
  show AWP (GIM mtX6_prove 4 M (mX6_prove a1 a2 M)) mtX6_prove 0 [(0, .ref 46), (1, .int a1), (2, .int a2)] [] M
  unfold mX6_prove
  unfold PX6_prove at hp
  refine r_aload_n MF.bs dX6_prove_0 rfl 0 rfl ?_
  refine r_iload_n MF.bs dX6_prove_1 rfl 1 rfl ?_
  refine r_callV_v MF.bs (st := []) dX6_prove_2 (ctX6_isOne a1 M) miX6_isOne wd_1079 rfl (by decide) rfl (Nat.le_of_ble_eq_true rfl) rfl rfl rfl ?_
  refine r_ite (GIM mtX6_prove 4 M) (fun h_1 => ?_) (fun h_1 => ?_)
  · have hp := hp h_1
    refine r_if_eq_f MF.bs (tgt := 20) dX6_prove_5 (by decide) (b2i_1 h_1) ?_
    refine r_iload_n MF.bs dX6_prove_8 rfl 2 rfl ?_
    refine r_i2l MF.bs dX6_prove_9 ?_
    refine r_lconst MF.bs dX6_prove_10 (v := 1) (by decide) ?_
    refine r_ldc2 MF.bs (v := 10) dX6_prove_11 wd_1280 ?_
    refine r_callS_v MF.bs (st := []) dX6_prove_14 (ctX6_isIn ((a2 : Int32).toInt64) 1 10 M) miX6_isIn wd_971 rfl (by decide) rfl (Nat.le_of_ble_eq_true rfl) ?_
    refine r_ite (GIM mtX6_prove 4 M) (fun h_2 => ?_) (fun h_2 => ?_)
    · have hp := hp h_2
      refine r_if_ne_t MF.bs (tgt := 22) dX6_prove_17 (by decide) (b2i_1 h_2) ?_
      obtain ⟨hq_3, hp⟩ := hp
      refine r_aload_n MF.bs dX6_prove_22 rfl 0 rfl ?_
      refine r_getR MF.bs dX6_prove_23 rfl rfl 0 (by decide) wd_875 rfl ?_
      refine r_aload_n MF.bs dX6_prove_26 rfl 0 rfl ?_
      refine r_getR MF.bs dX6_prove_27 rfl rfl 2 (by decide) wd_877 rfl ?_
      refine r_callS_n MF.bs (st := []) dX6_prove_30 (ctX6_copyRow 47 56 49 56 rfl rfl M hq_3) miX6_copyRow wd_979 rfl (by decide) rfl (Nat.le_of_ble_eq_true rfl) ?_
      exact cX6_prove_33 M a1 a2 (mX6_copyRow 47 56 49 56 M) hp
    · refine r_if_ne_f MF.bs (tgt := 22) dX6_prove_17 (by decide) (b2i_0 h_2) ?_
      refine r_iconst MF.bs dX6_prove_20 (v := -1) (by decide) ?_
      exact r_iret dX6_prove_21 rfl
  · refine r_if_eq_t MF.bs (tgt := 20) dX6_prove_5 (by decide) (b2i_0 h_1) ?_
    refine r_iconst MF.bs dX6_prove_20 (v := -1) (by decide) ?_
    exact r_iret dX6_prove_21 rfl
abbrev mtX6_isRow : MT := (RX6, yX6_isRow, cX6_isRow, 3, (some .boolean))
theorem miX6_isRow : MV mtX6_isRow 2 := ⟨wd_1288, ⟨wd_1287, wd_65⟩, wd_86, ⟨by decide, by decide, by decide +kernel⟩, by decide⟩
def mX6_isRow  (a1 : Int32) (a2 : Int32) (M : Mem) : Bool := (if (mX6_isIn ((a1 : Int32).toInt64) 0 ((((M 46 17) - 1) : Int32).toInt64)) = true then (if (mX6_isIn ((a2 : Int32).toInt64) 0 2) = true then true else false) else false)
set_option maxRecDepth 100000 in
theorem ctX6_isRow   (a1 : Int32) (a2 : Int32) (M : Mem) : CT mtX6_isRow 1 [.ref 46, .int a1, .int a2] M (some (.int (b2i (mX6_isRow a1 a2 M))), M) := by
  refine CT.of (by decide) rfl (Nat.le_of_ble_eq_true rfl) ?_
  show AWP (GB mtX6_isRow 1 M M (mX6_isRow a1 a2 M)) mtX6_isRow 0 [(0, .ref 46), (1, .int a1), (2, .int a2)] [] M
  unfold mX6_isRow
  refine r_iload_n MF.bs dX6_isRow_0 rfl 1 rfl ?_
  refine r_i2l MF.bs dX6_isRow_1 ?_
  refine r_lconst MF.bs dX6_isRow_2 (v := 0) (by decide) ?_
  refine r_aload_n MF.bs dX6_isRow_3 rfl 0 rfl ?_
  refine r_getI MF.bs dX6_isRow_4 rfl rfl 17 (by decide) wd_892 rfl ?_
  refine r_iconst MF.bs dX6_isRow_7 (v := 1) (by decide) ?_
  refine r_isub MF.bs dX6_isRow_8 ?_
  refine r_i2l MF.bs dX6_isRow_9 ?_
  refine r_callS_v MF.bs (st := []) dX6_isRow_10 (ctX6_isIn ((a1 : Int32).toInt64) 0 ((((M 46 17) - 1) : Int32).toInt64) M) miX6_isIn wd_971 rfl (by decide) rfl (Nat.le_of_ble_eq_true rfl) ?_
  refine r_ite (GB mtX6_isRow 1 M M) (fun h_1 => ?_) (fun h_1 => ?_)
  · refine r_if_eq_f MF.bs (tgt := 32) dX6_isRow_13 (by decide) (b2i_1 h_1) ?_
    refine r_iload_n MF.bs dX6_isRow_16 rfl 2 rfl ?_
    refine r_i2l MF.bs dX6_isRow_17 ?_
    refine r_lconst MF.bs dX6_isRow_18 (v := 0) (by decide) ?_
    refine r_ldc2 MF.bs (v := 2) dX6_isRow_19 wd_1289 ?_
    refine r_callS_v MF.bs (st := []) dX6_isRow_22 (ctX6_isIn ((a2 : Int32).toInt64) 0 2 M) miX6_isIn wd_971 rfl (by decide) rfl (Nat.le_of_ble_eq_true rfl) ?_
    refine r_ite (GB mtX6_isRow 1 M M) (fun h_2 => ?_) (fun h_2 => ?_)
    · refine r_if_eq_f MF.bs (tgt := 32) dX6_isRow_25 (by decide) (b2i_1 h_2) ?_
      refine r_iconst MF.bs dX6_isRow_28 (v := 1) (by decide) ?_
      refine r_goto MF.bs dX6_isRow_29 (tgt := 33) (by decide) ?_
      exact r_zret1 dX6_isRow_33 rfl
    · refine r_if_eq_t MF.bs (tgt := 32) dX6_isRow_25 (by decide) (b2i_0 h_2) ?_
      refine r_iconst MF.bs dX6_isRow_32 (v := 0) (by decide) ?_
      exact r_zret0 dX6_isRow_33 rfl
  · refine r_if_eq_t MF.bs (tgt := 32) dX6_isRow_13 (by decide) (b2i_0 h_1) ?_
    refine r_iconst MF.bs dX6_isRow_32 (v := 0) (by decide) ?_
    exact r_zret0 dX6_isRow_33 rfl
abbrev mtX6_row : MT := (RX6, yX6_row, cX6_row, 3, (some .int))
theorem miX6_row : MV mtX6_row 2 := ⟨wd_1284, ⟨wd_1282, wd_1283⟩, wd_86, ⟨by decide, by decide, by decide +kernel⟩, by decide⟩
def mX6_row  (a1 : Int32) (a2 : Int32) (M : Mem) : Int32 := (if (mX6_isRow a1 a2 M) = true then (M 56 ((3 * a1) + a2).toNatClampNeg) else (-9))
def PX6_row  (a1 : Int32) (a2 : Int32) (M : Mem) : Prop := ((mX6_isRow a1 a2 M) = true → vp_in ((3 * a1) + a2) 30)
set_option maxRecDepth 100000 in
theorem ctX6_row   (a1 : Int32) (a2 : Int32) (M : Mem) (hp : PX6_row a1 a2 M) : CT mtX6_row 2 [.ref 46, .int a1, .int a2] M (some (.int (mX6_row a1 a2 M)), M) := by
  refine CT.of (by decide) rfl (Nat.le_of_ble_eq_true rfl) ?_
  show AWP (GI mtX6_row 2 M M (mX6_row a1 a2 M)) mtX6_row 0 [(0, .ref 46), (1, .int a1), (2, .int a2)] [] M
  unfold mX6_row
  unfold PX6_row at hp
  refine r_aload_n MF.bs dX6_row_0 rfl 0 rfl ?_
  refine r_iload_n MF.bs dX6_row_1 rfl 1 rfl ?_
  refine r_iload_n MF.bs dX6_row_2 rfl 2 rfl ?_
  refine r_callV_v MF.bs (st := []) dX6_row_3 (ctX6_isRow a1 a2 M) miX6_isRow wd_1285 rfl (by decide) rfl (Nat.le_of_ble_eq_true rfl) rfl rfl rfl ?_
  refine r_ite (GI mtX6_row 2 M M) (fun h_1 => ?_) (fun h_1 => ?_)
  · have hp := hp h_1
    refine r_if_eq_f MF.bs (tgt := 22) dX6_row_6 (by decide) (b2i_1 h_1) ?_
    have hq_2 := hp
    refine r_aload_n MF.bs dX6_row_9 rfl 0 rfl ?_
    refine r_getR MF.bs dX6_row_10 rfl rfl 16 (by decide) wd_891 rfl ?_
    refine r_iconst MF.bs dX6_row_13 (v := 3) (by decide) ?_
    refine r_iload_n MF.bs dX6_row_14 rfl 1 rfl ?_
    refine r_imul MF.bs dX6_row_15 ?_
    refine r_iload_n MF.bs dX6_row_16 rfl 2 rfl ?_
    refine r_iadd MF.bs dX6_row_17 ?_
    refine r_iaload MF.bs dX6_row_18 rfl hq_2 ?_
    refine r_goto MF.bs dX6_row_19 (tgt := 24) (by decide) ?_
    exact r_iret dX6_row_24 rfl
  · refine r_if_eq_t MF.bs (tgt := 22) dX6_row_6 (by decide) (b2i_0 h_1) ?_
    refine r_bipush MF.bs dX6_row_22 (v := -9) (by decide) ?_
    exact r_iret dX6_row_24 rfl
abbrev mtX6_alterRow : MT := (RX6, yX6_alterRow, cX6_alterRow, 5, (some .int))
theorem miX6_alterRow : MV mtX6_alterRow 3 := ⟨wd_1293, ⟨wd_1291, wd_1292⟩, wd_86, ⟨by decide, by decide, by decide +kernel⟩, by decide⟩
def mX6_alterRow  (a1 : Int32) (a2 : Int32) (a3 : Int32) (M : Mem) : Int32 × Mem := (if (mX6_isRow a1 a2 M) = true then ((M 56 ((3 * a1) + a2).toNatClampNeg), (upm M 56 ((3 * a1) + a2).toNatClampNeg a3)) else ((-9), M))
def PX6_alterRow  (a1 : Int32) (a2 : Int32) (a3 : Int32) (M : Mem) : Prop := ((mX6_isRow a1 a2 M) = true → vp_in ((3 * a1) + a2) 30 ∧ (vp_in ((3 * a1) + a2) 30))
set_option maxRecDepth 100000 in
theorem ctX6_alterRow   (a1 : Int32) (a2 : Int32) (a3 : Int32) (M : Mem) (hp : PX6_alterRow a1 a2 a3 M) : CT mtX6_alterRow 2 [.ref 46, .int a1, .int a2, .int a3] M (some (.int ((mX6_alterRow a1 a2 a3 M).1)), (mX6_alterRow a1 a2 a3 M).2) := by
  refine CT.of (by decide) rfl (Nat.le_of_ble_eq_true rfl) ?_
  show AWP (GIM mtX6_alterRow 2 M (mX6_alterRow a1 a2 a3 M)) mtX6_alterRow 0 [(0, .ref 46), (1, .int a1), (2, .int a2), (3, .int a3)] [] M
  unfold mX6_alterRow
  unfold PX6_alterRow at hp
  refine r_aload_n MF.bs dX6_alterRow_0 rfl 0 rfl ?_
  refine r_iload_n MF.bs dX6_alterRow_1 rfl 1 rfl ?_
  refine r_iload_n MF.bs dX6_alterRow_2 rfl 2 rfl ?_
  refine r_callV_v MF.bs (st := []) dX6_alterRow_3 (ctX6_isRow a1 a2 M) miX6_isRow wd_1285 rfl (by decide) rfl (Nat.le_of_ble_eq_true rfl) rfl rfl rfl ?_
  refine r_ite (GIM mtX6_alterRow 2 M) (fun h_1 => ?_) (fun h_1 => ?_)
  · have hp := hp h_1
    refine r_if_ne_t MF.bs (tgt := 12) dX6_alterRow_6 (by decide) (b2i_1 h_1) ?_
    obtain ⟨hq_2, hp⟩ := hp
    have hq_3 := hp
    refine r_aload_n MF.bs dX6_alterRow_12 rfl 0 rfl ?_
    refine r_getR MF.bs dX6_alterRow_13 rfl rfl 16 (by decide) wd_891 rfl ?_
    refine r_iconst MF.bs dX6_alterRow_16 (v := 3) (by decide) ?_
    refine r_iload_n MF.bs dX6_alterRow_17 rfl 1 rfl ?_
    refine r_imul MF.bs dX6_alterRow_18 ?_
    refine r_iload_n MF.bs dX6_alterRow_19 rfl 2 rfl ?_
    refine r_iadd MF.bs dX6_alterRow_20 ?_
    refine r_iaload MF.bs dX6_alterRow_21 rfl hq_2 ?_
    refine r_istore MF.bs (lv' := [(4, .int (M 56 ((3 * a1) + a2).toNatClampNeg)), (0, .ref 46), (1, .int a1), (2, .int a2), (3, .int a3)]) dX6_alterRow_22 (by decide) rfl ?_
    refine r_aload_n MF.bs dX6_alterRow_24 rfl 1 rfl ?_
    refine r_getR MF.bs dX6_alterRow_25 rfl rfl 16 (by decide) wd_891 rfl ?_
    refine r_iconst MF.bs dX6_alterRow_28 (v := 3) (by decide) ?_
    refine r_iload_n MF.bs dX6_alterRow_29 rfl 2 rfl ?_
    refine r_imul MF.bs dX6_alterRow_30 ?_
    refine r_iload_n MF.bs dX6_alterRow_31 rfl 3 rfl ?_
    refine r_iadd MF.bs dX6_alterRow_32 ?_
    refine r_iload_n MF.bs dX6_alterRow_33 rfl 4 rfl ?_
    refine r_iastore MF.bs dX6_alterRow_34 rfl hq_3 ?_
    refine r_iload MF.bs dX6_alterRow_35 0 rfl ?_
    exact r_iret dX6_alterRow_37 rfl
  · refine r_if_ne_f MF.bs (tgt := 12) dX6_alterRow_6 (by decide) (b2i_0 h_1) ?_
    refine r_bipush MF.bs dX6_alterRow_9 (v := -9) (by decide) ?_
    exact r_iret dX6_alterRow_11 rfl
abbrev mtX6_judge : MT := (RX6, yX6_judge, cX6_judge, 4, (some .int))
theorem miX6_judge : MV mtX6_judge 1 := ⟨wd_1297, ⟨wd_1295, wd_1296⟩, wd_86, ⟨by decide, by decide, by decide +kernel⟩, by decide⟩
def mX6_judge_108   (kf25 : Int32 → Int32 → Int32 → Mem → Int32 × Mem) (v1 : Int32) (v2 : Int32) (k0 : Int32) (M : Mem) : Int32 × Mem := (kf25 v1 (v2 + 1) k0 M)
def PX6_judge_108   (kP25 : Int32 → Int32 → Int32 → Mem → Prop) (v1 : Int32) (v2 : Int32) (k0 : Int32) (M : Mem) : Prop := kP25 v1 (v2 + 1) k0 M
set_option maxRecDepth 100000 in
theorem cX6_judge_108    (M0 : Mem) (kf25 : Int32 → Int32 → Int32 → Mem → Int32 × Mem) (kP25 : Int32 → Int32 → Int32 → Mem → Prop) (hk25 : ∀ (v1 : Int32) (v2 : Int32) (v3 : Int32) (M : Mem), kP25 v1 v2 v3 M → AWP (GIM mtX6_judge 4 M0 (kf25 v1 v2 v3 M)) mtX6_judge 25 [(0, .ref 46), (1, .int v1), (2, .int v2), (3, .int v3)] [] M) (v1 : Int32) (v2 : Int32) (k0 : Int32) (M : Mem) (hp : PX6_judge_108 kP25 v1 v2 k0 M) : AWP (GIM mtX6_judge 4 M0 (mX6_judge_108 kf25 v1 v2 k0 M)) mtX6_judge 108 [(0, .ref 46), (1, .int v1), (2, .int v2)] [.int k0] M := by
  unfold mX6_judge_108
  unfold PX6_judge_108 at hp
  refine r_istore_n MF.bs (lv' := [(3, .int k0), (0, .ref 46), (1, .int v1), (2, .int v2)]) dX6_judge_108 rfl (by decide) rfl ?_
  refine r_iinc MF.bs (v := (v2 + 1)) (lv' := [(2, .int (v2 + 1)), (3, .int k0), (0, .ref 46), (1, .int v1)]) dX6_judge_109 3 rfl rfl (by decide) rfl ?_
  refine r_goto MF.bs dX6_judge_112 (tgt := 25) (by decide) ?_
  refine r_sub [(0, .ref 46), (1, .int v1), (2, .int (v2 + 1)), (3, .int k0)] [2, 3, 0, 1] rfl ?_
  exact hk25 v1 (v2 + 1) k0 M hp
def mX6_judge_107   (kf25 : Int32 → Int32 → Int32 → Mem → Int32 × Mem) (v1 : Int32) (v2 : Int32) (M : Mem) : Int32 × Mem := (mX6_judge_108 kf25 v1 v2 0 M)
def PX6_judge_107   (kP25 : Int32 → Int32 → Int32 → Mem → Prop) (v1 : Int32) (v2 : Int32) (M : Mem) : Prop := PX6_judge_108 kP25 v1 v2 0 M
set_option maxRecDepth 100000 in
theorem cX6_judge_107    (M0 : Mem) (kf25 : Int32 → Int32 → Int32 → Mem → Int32 × Mem) (kP25 : Int32 → Int32 → Int32 → Mem → Prop) (hk25 : ∀ (v1 : Int32) (v2 : Int32) (v3 : Int32) (M : Mem), kP25 v1 v2 v3 M → AWP (GIM mtX6_judge 4 M0 (kf25 v1 v2 v3 M)) mtX6_judge 25 [(0, .ref 46), (1, .int v1), (2, .int v2), (3, .int v3)] [] M) (v1 : Int32) (v2 : Int32) (M : Mem) (hp : PX6_judge_107 kP25 v1 v2 M) : AWP (GIM mtX6_judge 4 M0 (mX6_judge_107 kf25 v1 v2 M)) mtX6_judge 107 [(0, .ref 46), (1, .int v1), (2, .int v2)] [] M := by
  unfold mX6_judge_107
  unfold PX6_judge_107 at hp
  refine r_iconst MF.bs dX6_judge_107 (v := 0) (by decide) ?_
  exact cX6_judge_108 M0 kf25 kP25 hk25 v1 v2 0 M hp
def mX6_judge_41   (kf25 : Int32 → Int32 → Int32 → Mem → Int32 × Mem) (v1 : Int32) (v2 : Int32) (M : Mem) : Int32 × Mem := (if (M 56 (3 * v2).toNatClampNeg) = (mX6_its v1 3 M) then (if (M 56 ((3 * v2) + 1).toNatClampNeg) = (M 47 (8 + (mX6_its v1 3 M)).toNatClampNeg) then (if (M 56 ((3 * v2) + 2).toNatClampNeg) = (mX6_offNow v1 M) then (mX6_judge_108 kf25 v1 v2 1 M) else (mX6_judge_107 kf25 v1 v2 M)) else (mX6_judge_107 kf25 v1 v2 M)) else (mX6_judge_107 kf25 v1 v2 M))
def PX6_judge_41   (kP25 : Int32 → Int32 → Int32 → Mem → Prop) (v1 : Int32) (v2 : Int32) (M : Mem) : Prop := vp_in (3 * v2) 30 ∧ (PX6_its v1 3 M ∧ ((((M 56 (3 * v2).toNatClampNeg) = (mX6_its v1 3 M) → vp_in ((3 * v2) + 1) 30 ∧ (PX6_its v1 3 M ∧ (vp_in (8 + (mX6_its v1 3 M)) 56 ∧ ((((M 56 ((3 * v2) + 1).toNatClampNeg) = (M 47 (8 + (mX6_its v1 3 M)).toNatClampNeg) → vp_in ((3 * v2) + 2) 30 ∧ (PX6_offNow v1 M ∧ ((((M 56 ((3 * v2) + 2).toNatClampNeg) = (mX6_offNow v1 M) → PX6_judge_108 kP25 v1 v2 1 M) ∧ (¬ (M 56 ((3 * v2) + 2).toNatClampNeg) = (mX6_offNow v1 M) → PX6_judge_107 kP25 v1 v2 M))))) ∧ (¬ (M 56 ((3 * v2) + 1).toNatClampNeg) = (M 47 (8 + (mX6_its v1 3 M)).toNatClampNeg) → PX6_judge_107 kP25 v1 v2 M)))))) ∧ (¬ (M 56 (3 * v2).toNatClampNeg) = (mX6_its v1 3 M) → PX6_judge_107 kP25 v1 v2 M))))
set_option maxRecDepth 100000 in
theorem cX6_judge_41    (M0 : Mem) (kf25 : Int32 → Int32 → Int32 → Mem → Int32 × Mem) (kP25 : Int32 → Int32 → Int32 → Mem → Prop) (hk25 : ∀ (v1 : Int32) (v2 : Int32) (v3 : Int32) (M : Mem), kP25 v1 v2 v3 M → AWP (GIM mtX6_judge 4 M0 (kf25 v1 v2 v3 M)) mtX6_judge 25 [(0, .ref 46), (1, .int v1), (2, .int v2), (3, .int v3)] [] M) (v1 : Int32) (v2 : Int32) (M : Mem) (hp : PX6_judge_41 kP25 v1 v2 M) : AWP (GIM mtX6_judge 4 M0 (mX6_judge_41 kf25 v1 v2 M)) mtX6_judge 41 [(0, .ref 46), (1, .int v1), (2, .int v2)] [] M := by
  unfold mX6_judge_41
  unfold PX6_judge_41 at hp
  obtain ⟨hq_7, hp⟩ := hp
  obtain ⟨hq_8, hp⟩ := hp
  refine r_aload_n MF.bs dX6_judge_41 rfl 0 rfl ?_
  refine r_getR MF.bs dX6_judge_42 rfl rfl 16 (by decide) wd_891 rfl ?_
  refine r_iconst MF.bs dX6_judge_45 (v := 3) (by decide) ?_
  refine r_iload_n MF.bs dX6_judge_46 rfl 2 rfl ?_
  refine r_imul MF.bs dX6_judge_47 ?_
  refine r_iaload MF.bs dX6_judge_48 rfl hq_7 ?_
  refine r_aload_n MF.bs dX6_judge_49 rfl 0 rfl ?_
  refine r_iload_n MF.bs dX6_judge_50 rfl 1 rfl ?_
  refine r_iconst MF.bs dX6_judge_51 (v := 3) (by decide) ?_
  refine r_callV_v MF.bs (st := [.int (M 56 (3 * v2).toNatClampNeg)]) dX6_judge_52 (ctX6_its v1 3 M hq_8) miX6_its wd_1083 rfl (by decide) rfl (Nat.le_of_ble_eq_true rfl) rfl rfl rfl ?_
  refine r_ite (GIM mtX6_judge 4 M0) (fun h_9 => ?_) (fun h_9 => ?_)
  · have hp := hp.1 h_9
    refine r_icmp_ne_f MF.bs (tgt := 107) dX6_judge_55 (by decide) h_9 ?_
    obtain ⟨hq_10, hp⟩ := hp
    obtain ⟨hq_11, hp⟩ := hp
    obtain ⟨hq_12, hp⟩ := hp
    refine r_aload_n MF.bs dX6_judge_58 rfl 0 rfl ?_
    refine r_getR MF.bs dX6_judge_59 rfl rfl 16 (by decide) wd_891 rfl ?_
    refine r_iconst MF.bs dX6_judge_62 (v := 3) (by decide) ?_
    refine r_iload_n MF.bs dX6_judge_63 rfl 2 rfl ?_
    refine r_imul MF.bs dX6_judge_64 ?_
    refine r_iconst MF.bs dX6_judge_65 (v := 1) (by decide) ?_
    refine r_iadd MF.bs dX6_judge_66 ?_
    refine r_iaload MF.bs dX6_judge_67 rfl hq_10 ?_
    refine r_aload_n MF.bs dX6_judge_68 rfl 0 rfl ?_
    refine r_getR MF.bs dX6_judge_69 rfl rfl 0 (by decide) wd_875 rfl ?_
    refine r_bipush MF.bs dX6_judge_72 (v := 8) (by decide) ?_
    refine r_aload_n MF.bs dX6_judge_74 rfl 0 rfl ?_
    refine r_iload_n MF.bs dX6_judge_75 rfl 1 rfl ?_
    refine r_iconst MF.bs dX6_judge_76 (v := 3) (by decide) ?_
    refine r_callV_v MF.bs (st := [.int 8, .ref 47, .int (M 56 ((3 * v2) + 1).toNatClampNeg)]) dX6_judge_77 (ctX6_its v1 3 M hq_11) miX6_its wd_1083 rfl (by decide) rfl (Nat.le_of_ble_eq_true rfl) rfl rfl rfl ?_
    refine r_iadd MF.bs dX6_judge_80 ?_
    refine r_iaload MF.bs dX6_judge_81 rfl hq_12 ?_
    refine r_ite (GIM mtX6_judge 4 M0) (fun h_13 => ?_) (fun h_13 => ?_)
    · have hp := hp.1 h_13
      refine r_icmp_ne_f MF.bs (tgt := 107) dX6_judge_82 (by decide) h_13 ?_
      obtain ⟨hq_14, hp⟩ := hp
      obtain ⟨hq_15, hp⟩ := hp
      refine r_aload_n MF.bs dX6_judge_85 rfl 0 rfl ?_
      refine r_getR MF.bs dX6_judge_86 rfl rfl 16 (by decide) wd_891 rfl ?_
      refine r_iconst MF.bs dX6_judge_89 (v := 3) (by decide) ?_
      refine r_iload_n MF.bs dX6_judge_90 rfl 2 rfl ?_
      refine r_imul MF.bs dX6_judge_91 ?_
      refine r_iconst MF.bs dX6_judge_92 (v := 2) (by decide) ?_
      refine r_iadd MF.bs dX6_judge_93 ?_
      refine r_iaload MF.bs dX6_judge_94 rfl hq_14 ?_
      refine r_aload_n MF.bs dX6_judge_95 rfl 0 rfl ?_
      refine r_iload_n MF.bs dX6_judge_96 rfl 1 rfl ?_
      refine r_callV_v MF.bs (st := [.int (M 56 ((3 * v2) + 2).toNatClampNeg)]) dX6_judge_97 (ctX6_offNow v1 M hq_15) miX6_offNow wd_1216 rfl (by decide) rfl (Nat.le_of_ble_eq_true rfl) rfl rfl rfl ?_
      refine r_ite (GIM mtX6_judge 4 M0) (fun h_16 => ?_) (fun h_16 => ?_)
      · have hp := hp.1 h_16
        refine r_icmp_ne_f MF.bs (tgt := 107) dX6_judge_100 (by decide) h_16 ?_
        refine r_iconst MF.bs dX6_judge_103 (v := 1) (by decide) ?_
        refine r_goto MF.bs dX6_judge_104 (tgt := 108) (by decide) ?_
        exact cX6_judge_108 M0 kf25 kP25 hk25 v1 v2 1 M hp
      · have hp := hp.2 h_16
        refine r_icmp_ne_t MF.bs (tgt := 107) dX6_judge_100 (by decide) h_16 ?_
        exact cX6_judge_107 M0 kf25 kP25 hk25 v1 v2 M hp
    · have hp := hp.2 h_13
      refine r_icmp_ne_t MF.bs (tgt := 107) dX6_judge_82 (by decide) h_13 ?_
      exact cX6_judge_107 M0 kf25 kP25 hk25 v1 v2 M hp
  · have hp := hp.2 h_9
    refine r_icmp_ne_t MF.bs (tgt := 107) dX6_judge_55 (by decide) h_9 ?_
    exact cX6_judge_107 M0 kf25 kP25 hk25 v1 v2 M hp
def mX6_judge_126   (v2 : Int32) (v3 : Int32) (M : Mem) : Int32 × Mem := (if v3 = 0 then (v2, M) else (0, M))
def PX6_judge_126   (v2 : Int32) (v3 : Int32) (M : Mem) : Prop := True
set_option maxRecDepth 100000 in
theorem cX6_judge_126    (M0 : Mem) (v2 : Int32) (v3 : Int32) (M : Mem) (hp : PX6_judge_126 v2 v3 M) : AWP (GIM mtX6_judge 4 M0 (mX6_judge_126 v2 v3 M)) mtX6_judge 126 [(2, .int v2), (3, .int v3)] [] M := by
  unfold mX6_judge_126
  unfold PX6_judge_126 at hp
  refine r_iload_n MF.bs dX6_judge_126 rfl 1 rfl ?_
  refine r_ite (GIM mtX6_judge 4 M0) (fun h_17 => ?_) (fun h_17 => ?_)
  · refine r_if_eq_t MF.bs (tgt := 134) dX6_judge_127 (by decide) h_17 ?_
    refine r_iload_n MF.bs dX6_judge_134 rfl 0 rfl ?_
    exact r_iret dX6_judge_135 rfl
  · refine r_if_eq_f MF.bs (tgt := 134) dX6_judge_127 (by decide) h_17 ?_
    refine r_iconst MF.bs dX6_judge_130 (v := 0) (by decide) ?_
    refine r_goto MF.bs dX6_judge_131 (tgt := 135) (by decide) ?_
    exact r_iret dX6_judge_135 rfl
def mX6_judge_115   (v2 : Int32) (v3 : Int32) (M : Mem) : Int32 × Mem := (mX6_judge_126 v2 v3 (mX6_copyRow 49 56 47 56 M))
def PX6_judge_115   (v2 : Int32) (v3 : Int32) (M : Mem) : Prop := PX6_copyRow 49 56 47 56 M ∧ (PX6_judge_126 v2 v3 (mX6_copyRow 49 56 47 56 M))
set_option maxRecDepth 100000 in
theorem cX6_judge_115    (M0 : Mem) (v2 : Int32) (v3 : Int32) (M : Mem) (hp : PX6_judge_115 v2 v3 M) : AWP (GIM mtX6_judge 4 M0 (mX6_judge_115 v2 v3 M)) mtX6_judge 115 [(0, .ref 46), (2, .int v2), (3, .int v3)] [] M := by
  unfold mX6_judge_115
  unfold PX6_judge_115 at hp
  obtain ⟨hq_6, hp⟩ := hp
  refine r_aload_n MF.bs dX6_judge_115 rfl 0 rfl ?_
  refine r_getR MF.bs dX6_judge_116 rfl rfl 2 (by decide) wd_877 rfl ?_
  refine r_aload_n MF.bs dX6_judge_119 rfl 0 rfl ?_
  refine r_getR MF.bs dX6_judge_120 rfl rfl 0 (by decide) wd_875 rfl ?_
  refine r_callS_n MF.bs (st := []) dX6_judge_123 (ctX6_copyRow 49 56 47 56 rfl rfl M hq_6) miX6_copyRow wd_979 rfl (by decide) rfl (Nat.le_of_ble_eq_true rfl) ?_
  refine r_sub [(2, .int v2), (3, .int v3)] [1, 2] rfl ?_
  exact cX6_judge_126 M0 v2 v3 (mX6_copyRow 49 56 47 56 M) hp
def mX6_judge_25   : Nat → Int32 → Int32 → Int32 → Mem → Int32 × Mem
  | 0, _, _, _, M => (0, M)
  | n + 1, v1, v2, v3, M => (if (M 46 17) ≤ v2 then (mX6_judge_115 v2 v3 M) else (if v3 = 0 then (mX6_judge_115 v2 v3 M) else (mX6_judge_41 (mX6_judge_25 n) v1 v2 (mX6_goesOn M))))
def PX6_judge_25   : Nat → Int32 → Int32 → Int32 → Mem → Prop
  | 0, _, _, _, _ => False
  | n + 1, v1, v2, v3, M => (((M 46 17) ≤ v2 → PX6_judge_115 v2 v3 M) ∧ (¬ (M 46 17) ≤ v2 → ((v3 = 0 → PX6_judge_115 v2 v3 M) ∧ (¬ v3 = 0 → PX6_goesOn M ∧ (PX6_judge_41 (PX6_judge_25 n) v1 v2 (mX6_goesOn M))))))
set_option maxRecDepth 100000 in
theorem cX6_judge_25    (M0 : Mem) : ∀ (n : Nat) (v1 : Int32) (v2 : Int32) (v3 : Int32) (M : Mem), PX6_judge_25 n v1 v2 v3 M → AWP (GIM mtX6_judge 4 M0 (mX6_judge_25 n v1 v2 v3 M)) mtX6_judge 25 [(0, .ref 46), (1, .int v1), (2, .int v2), (3, .int v3)] [] M := by
  intro n
  induction n with
  | zero =>
    intro v1 v2 v3 M hp
    exact hp.elim
  | succ n ih =>
    intro v1 v2 v3 M hp
    rw [mX6_judge_25]
    rw [PX6_judge_25] at hp
    refine r_iload_n MF.bs dX6_judge_25 rfl 2 rfl ?_
    refine r_aload_n MF.bs dX6_judge_26 rfl 0 rfl ?_
    refine r_getI MF.bs dX6_judge_27 rfl rfl 17 (by decide) wd_892 rfl ?_
    refine r_ite (GIM mtX6_judge 4 M0) (fun h_3 => ?_) (fun h_3 => ?_)
    · have hp := hp.1 h_3
      refine r_icmp_ge_t MF.bs (tgt := 115) dX6_judge_30 (by decide) h_3 ?_
      refine r_sub [(0, .ref 46), (2, .int v2), (3, .int v3)] [0, 2, 3] rfl ?_
      exact cX6_judge_115 M0 v2 v3 M hp
    · have hp := hp.2 h_3
      refine r_icmp_ge_f MF.bs (tgt := 115) dX6_judge_30 (by decide) h_3 ?_
      refine r_iload_n MF.bs dX6_judge_33 rfl 3 rfl ?_
      refine r_ite (GIM mtX6_judge 4 M0) (fun h_4 => ?_) (fun h_4 => ?_)
      · have hp := hp.1 h_4
        refine r_if_eq_t MF.bs (tgt := 115) dX6_judge_34 (by decide) h_4 ?_
        refine r_sub [(0, .ref 46), (2, .int v2), (3, .int v3)] [0, 2, 3] rfl ?_
        exact cX6_judge_115 M0 v2 v3 M hp
      · have hp := hp.2 h_4
        refine r_if_eq_f MF.bs (tgt := 115) dX6_judge_34 (by decide) h_4 ?_
        obtain ⟨hq_5, hp⟩ := hp
        refine r_aload_n MF.bs dX6_judge_37 rfl 0 rfl ?_
        refine r_callV_n MF.bs (st := []) dX6_judge_38 (ctX6_goesOn M hq_5) miX6_goesOn wd_1139 rfl (by decide) rfl (Nat.le_of_ble_eq_true rfl) rfl rfl rfl ?_
        refine r_sub [(0, .ref 46), (1, .int v1), (2, .int v2)] [0, 1, 2] rfl ?_
        exact cX6_judge_41 M0 (mX6_judge_25 n) (PX6_judge_25 n) ih v1 v2 (mX6_goesOn M) hp
def mX6_judge_21   (v1 : Int32) (M : Mem) : Int32 × Mem := (mX6_judge_25 400 v1 0 1 M)
def PX6_judge_21   (v1 : Int32) (M : Mem) : Prop := PX6_judge_25 400 v1 0 1 M
set_option maxRecDepth 100000 in
theorem cX6_judge_21    (M0 : Mem) (v1 : Int32) (M : Mem) (hp : PX6_judge_21 v1 M) : AWP (GIM mtX6_judge 4 M0 (mX6_judge_21 v1 M)) mtX6_judge 21 [(0, .ref 46), (1, .int v1)] [] M := by
  unfold mX6_judge_21
  unfold PX6_judge_21 at hp
  refine r_iconst MF.bs dX6_judge_21 (v := 0) (by decide) ?_
  refine r_istore_n MF.bs (lv' := [(2, .int 0), (0, .ref 46), (1, .int v1)]) dX6_judge_22 rfl (by decide) rfl ?_
  refine r_iconst MF.bs dX6_judge_23 (v := 1) (by decide) ?_
  refine r_istore_n MF.bs (lv' := [(3, .int 1), (2, .int 0), (0, .ref 46), (1, .int v1)]) dX6_judge_24 rfl (by decide) rfl ?_
  refine r_sub [(0, .ref 46), (1, .int v1), (2, .int 0), (3, .int 1)] [2, 3, 1, 0] rfl ?_
  exact cX6_judge_25 M0 400 v1 0 1 M hp
def mX6_judge  (a1 : Int32) (M : Mem) : Int32 × Mem := (if (mX6_isOne a1 M) = true then (mX6_judge_21 a1 (mX6_copyRow 47 56 49 56 M)) else ((-1), M))
def PX6_judge  (a1 : Int32) (M : Mem) : Prop := ((mX6_isOne a1 M) = true → PX6_copyRow 47 56 49 56 M ∧ (PX6_judge_21 a1 (mX6_copyRow 47 56 49 56 M)))
set_option maxRecDepth 100000 in
theorem ctX6_judge   (a1 : Int32) (M : Mem) (hp : PX6_judge a1 M) : CT mtX6_judge 4 [.ref 46, .int a1] M (some (.int ((mX6_judge a1 M).1)), (mX6_judge a1 M).2) := by
  refine CT.of (by decide) rfl (Nat.le_of_ble_eq_true rfl) ?_
  show AWP (GIM mtX6_judge 4 M (mX6_judge a1 M)) mtX6_judge 0 [(0, .ref 46), (1, .int a1)] [] M
  unfold mX6_judge
  unfold PX6_judge at hp
  refine r_aload_n MF.bs dX6_judge_0 rfl 0 rfl ?_
  refine r_iload_n MF.bs dX6_judge_1 rfl 1 rfl ?_
  refine r_callV_v MF.bs (st := []) dX6_judge_2 (ctX6_isOne a1 M) miX6_isOne wd_1079 rfl (by decide) rfl (Nat.le_of_ble_eq_true rfl) rfl rfl rfl ?_
  refine r_ite (GIM mtX6_judge 4 M) (fun h_1 => ?_) (fun h_1 => ?_)
  · have hp := hp h_1
    refine r_if_ne_t MF.bs (tgt := 10) dX6_judge_5 (by decide) (b2i_1 h_1) ?_
    obtain ⟨hq_2, hp⟩ := hp
    refine r_aload_n MF.bs dX6_judge_10 rfl 0 rfl ?_
    refine r_getR MF.bs dX6_judge_11 rfl rfl 0 (by decide) wd_875 rfl ?_
    refine r_aload_n MF.bs dX6_judge_14 rfl 0 rfl ?_
    refine r_getR MF.bs dX6_judge_15 rfl rfl 2 (by decide) wd_877 rfl ?_
    refine r_callS_n MF.bs (st := []) dX6_judge_18 (ctX6_copyRow 47 56 49 56 rfl rfl M hq_2) miX6_copyRow wd_979 rfl (by decide) rfl (Nat.le_of_ble_eq_true rfl) ?_
    exact cX6_judge_21 M a1 (mX6_copyRow 47 56 49 56 M) hp
  · refine r_if_ne_f MF.bs (tgt := 10) dX6_judge_5 (by decide) (b2i_0 h_1) ?_
    refine r_iconst MF.bs dX6_judge_8 (v := -1) (by decide) ?_
    exact r_iret dX6_judge_9 rfl
abbrev mtX6_isShelf : MT := (RX6, yX6_isShelf, cX6_isShelf, 1, (some .boolean))
theorem miX6_isShelf : MS mtX6_isShelf 1 := ⟨wd_1327, wd_1326, wd_86, ⟨by decide, by decide, by decide +kernel⟩, by decide⟩
def mX6_isShelf  (a0 : Int32) : Bool := (mX6_isIn ((a0 : Int32).toInt64) 0 3)
set_option maxRecDepth 100000 in
theorem ctX6_isShelf   (a0 : Int32) (M : Mem) : CT mtX6_isShelf 1 [.int a0] M (some (.int (b2i (mX6_isShelf a0))), M) := by
  refine CT.of (by decide) rfl (Nat.le_of_ble_eq_true rfl) ?_
  show AWP (GB mtX6_isShelf 1 M M (mX6_isShelf a0)) mtX6_isShelf 0 [(0, .int a0)] [] M
  unfold mX6_isShelf
  refine r_iload_n MF.bs dX6_isShelf_0 rfl 0 rfl ?_
  refine r_i2l MF.bs dX6_isShelf_1 ?_
  refine r_lconst MF.bs dX6_isShelf_2 (v := 0) (by decide) ?_
  refine r_ldc2 MF.bs (v := 3) dX6_isShelf_3 wd_1056 ?_
  refine r_callS_v MF.bs (st := []) dX6_isShelf_6 (ctX6_isIn ((a0 : Int32).toInt64) 0 3 M) miX6_isIn wd_971 rfl (by decide) rfl (Nat.le_of_ble_eq_true rfl) ?_
  exact r_zret dX6_isShelf_9 rfl (b2i_nar _)
abbrev mtX6_sheet : MT := (RX6, yX6_sheet, cX6_sheet, 5, (some .int))
theorem miX6_sheet : MV mtX6_sheet 3 := ⟨wd_1301, ⟨wd_1299, wd_1300⟩, wd_86, ⟨by decide, by decide, by decide +kernel⟩, by decide⟩
def mX6_sheet_69   : Nat → Int32 → Int32 → Mem → Int32 × Mem
  | 0, _, _, M => (0, M)
  | n + 1, v1, v4, M => (if 40 ≤ v4 then (1, M) else (mX6_sheet_69 n v1 (v4 + 1) (upm M 59 ((40 * v1) + v4).toNatClampNeg 0)))
def PX6_sheet_69   : Nat → Int32 → Int32 → Mem → Prop
  | 0, _, _, _ => False
  | n + 1, v1, v4, M => (¬ 40 ≤ v4 → vp_in ((40 * v1) + v4) 160 ∧ (PX6_sheet_69 n v1 (v4 + 1) (upm M 59 ((40 * v1) + v4).toNatClampNeg 0)))
set_option maxRecDepth 100000 in
theorem cX6_sheet_69    (M0 : Mem) : ∀ (n : Nat) (v1 : Int32) (v4 : Int32) (M : Mem), PX6_sheet_69 n v1 v4 M → AWP (GIM mtX6_sheet 2 M0 (mX6_sheet_69 n v1 v4 M)) mtX6_sheet 69 [(0, .ref 46), (1, .int v1), (4, .int v4)] [] M := by
  intro n
  induction n with
  | zero =>
    intro v1 v4 M hp
    exact hp.elim
  | succ n ih =>
    intro v1 v4 M hp
    rw [mX6_sheet_69]
    rw [PX6_sheet_69] at hp
    refine r_iload MF.bs dX6_sheet_69 2 rfl ?_
    refine r_bipush MF.bs dX6_sheet_71 (v := 40) (by decide) ?_
    refine r_ite (GIM mtX6_sheet 2 M0) (fun h_10 => ?_) (fun h_10 => ?_)
    · refine r_icmp_ge_t MF.bs (tgt := 95) dX6_sheet_73 (by decide) h_10 ?_
      refine r_iconst MF.bs dX6_sheet_95 (v := 1) (by decide) ?_
      exact r_iret dX6_sheet_96 rfl
    · have hp := hp h_10
      refine r_icmp_ge_f MF.bs (tgt := 95) dX6_sheet_73 (by decide) h_10 ?_
      obtain ⟨hq_11, hp⟩ := hp
      refine r_aload_n MF.bs dX6_sheet_76 rfl 0 rfl ?_
      refine r_getR MF.bs dX6_sheet_77 rfl rfl 20 (by decide) wd_895 rfl ?_
      refine r_bipush MF.bs dX6_sheet_80 (v := 40) (by decide) ?_
      refine r_iload_n MF.bs dX6_sheet_82 rfl 1 rfl ?_
      refine r_imul MF.bs dX6_sheet_83 ?_
      refine r_iload MF.bs dX6_sheet_84 2 rfl ?_
      refine r_iadd MF.bs dX6_sheet_86 ?_
      refine r_iconst MF.bs dX6_sheet_87 (v := 0) (by decide) ?_
      refine r_iastore MF.bs dX6_sheet_88 rfl hq_11 ?_
      refine r_iinc MF.bs (v := (v4 + 1)) (lv' := [(4, .int (v4 + 1)), (0, .ref 46), (1, .int v1)]) dX6_sheet_89 2 rfl rfl (by decide) rfl ?_
      refine r_goto MF.bs dX6_sheet_92 (tgt := 69) (by decide) ?_
      refine r_sub [(0, .ref 46), (1, .int v1), (4, .int (v4 + 1))] [1, 2, 0] rfl ?_
      exact ih v1 (v4 + 1) (upm M 59 ((40 * v1) + v4).toNatClampNeg 0) hp
def mX6_sheet_65   (v1 : Int32) (k0 : Int32) (k1 : Int32) (M : Mem) : Int32 × Mem := (mX6_sheet_69 400 v1 0 (upm M 58 k1.toNatClampNeg k0))
def PX6_sheet_65   (v1 : Int32) (k0 : Int32) (k1 : Int32) (M : Mem) : Prop := vp_in k1 4 ∧ (PX6_sheet_69 400 v1 0 (upm M 58 k1.toNatClampNeg k0))
set_option maxRecDepth 100000 in
theorem cX6_sheet_65    (M0 : Mem) (v1 : Int32) (k0 : Int32) (k1 : Int32) (M : Mem) (hp : PX6_sheet_65 v1 k0 k1 M) : AWP (GIM mtX6_sheet 2 M0 (mX6_sheet_65 v1 k0 k1 M)) mtX6_sheet 65 [(0, .ref 46), (1, .int v1)] [.int k0, .int k1, .ref 58] M := by
  unfold mX6_sheet_65
  unfold PX6_sheet_65 at hp
  obtain ⟨hq_9, hp⟩ := hp
  refine r_iastore MF.bs dX6_sheet_65 rfl hq_9 ?_
  refine r_iconst MF.bs dX6_sheet_66 (v := 0) (by decide) ?_
  refine r_istore MF.bs (lv' := [(4, .int 0), (0, .ref 46), (1, .int v1)]) dX6_sheet_67 (by decide) rfl ?_
  refine r_sub [(0, .ref 46), (1, .int v1), (4, .int 0)] [1, 2, 0] rfl ?_
  exact cX6_sheet_69 M0 400 v1 0 (upm M 58 k1.toNatClampNeg k0) hp
def mX6_sheet_44   (v1 : Int32) (v2 : Int32) (v3 : Int32) (M : Mem) : Int32 × Mem := (if 0 ≤ v2 then (mX6_sheet_65 v1 v3 v1 (upm M 57 v1.toNatClampNeg v2)) else (mX6_sheet_65 v1 0 v1 (upm M 57 v1.toNatClampNeg v2)))
def PX6_sheet_44   (v1 : Int32) (v2 : Int32) (v3 : Int32) (M : Mem) : Prop := vp_in v1 4 ∧ (((0 ≤ v2 → PX6_sheet_65 v1 v3 v1 (upm M 57 v1.toNatClampNeg v2)) ∧ (¬ 0 ≤ v2 → PX6_sheet_65 v1 0 v1 (upm M 57 v1.toNatClampNeg v2))))
set_option maxRecDepth 100000 in
theorem cX6_sheet_44    (M0 : Mem) (v1 : Int32) (v2 : Int32) (v3 : Int32) (M : Mem) (hp : PX6_sheet_44 v1 v2 v3 M) : AWP (GIM mtX6_sheet 2 M0 (mX6_sheet_44 v1 v2 v3 M)) mtX6_sheet 44 [(0, .ref 46), (1, .int v1), (2, .int v2), (3, .int v3)] [] M := by
  unfold mX6_sheet_44
  unfold PX6_sheet_44 at hp
  obtain ⟨hq_7, hp⟩ := hp
  refine r_aload_n MF.bs dX6_sheet_44 rfl 0 rfl ?_
  refine r_getR MF.bs dX6_sheet_45 rfl rfl 18 (by decide) wd_893 rfl ?_
  refine r_iload_n MF.bs dX6_sheet_48 rfl 1 rfl ?_
  refine r_iload_n MF.bs dX6_sheet_49 rfl 2 rfl ?_
  refine r_iastore MF.bs dX6_sheet_50 rfl hq_7 ?_
  refine r_aload_n MF.bs dX6_sheet_51 rfl 0 rfl ?_
  refine r_getR MF.bs dX6_sheet_52 rfl rfl 19 (by decide) wd_894 rfl ?_
  refine r_iload_n MF.bs dX6_sheet_55 rfl 1 rfl ?_
  refine r_iload_n MF.bs dX6_sheet_56 rfl 2 rfl ?_
  refine r_ite (GIM mtX6_sheet 2 M0) (fun h_8 => ?_) (fun h_8 => ?_)
  · have hp := hp.1 h_8
    refine r_if_ge_t MF.bs (tgt := 64) dX6_sheet_57 (by decide) h_8 ?_
    refine r_iload_n MF.bs dX6_sheet_64 rfl 3 rfl ?_
    refine r_sub [(0, .ref 46), (1, .int v1)] [0, 1] rfl ?_
    exact cX6_sheet_65 M0 v1 v3 v1 (upm M 57 v1.toNatClampNeg v2) hp
  · have hp := hp.2 h_8
    refine r_if_ge_f MF.bs (tgt := 64) dX6_sheet_57 (by decide) h_8 ?_
    refine r_iconst MF.bs dX6_sheet_60 (v := 0) (by decide) ?_
    refine r_goto MF.bs dX6_sheet_61 (tgt := 65) (by decide) ?_
    refine r_sub [(0, .ref 46), (1, .int v1)] [0, 1] rfl ?_
    exact cX6_sheet_65 M0 v1 0 v1 (upm M 57 v1.toNatClampNeg v2) hp
def mX6_sheet_33   (v1 : Int32) (v2 : Int32) (v3 : Int32) (M : Mem) : Int32 × Mem := (if v2 < 0 then (mX6_sheet_44 v1 v2 v3 M) else (if 0 ≤ v3 then (mX6_sheet_44 v1 v2 v3 M) else ((-14), M)))
def PX6_sheet_33   (v1 : Int32) (v2 : Int32) (v3 : Int32) (M : Mem) : Prop := ((v2 < 0 → PX6_sheet_44 v1 v2 v3 M) ∧ (¬ v2 < 0 → (0 ≤ v3 → PX6_sheet_44 v1 v2 v3 M)))
set_option maxRecDepth 100000 in
theorem cX6_sheet_33    (M0 : Mem) (v1 : Int32) (v2 : Int32) (v3 : Int32) (M : Mem) (hp : PX6_sheet_33 v1 v2 v3 M) : AWP (GIM mtX6_sheet 2 M0 (mX6_sheet_33 v1 v2 v3 M)) mtX6_sheet 33 [(0, .ref 46), (1, .int v1), (2, .int v2), (3, .int v3)] [] M := by
  unfold mX6_sheet_33
  unfold PX6_sheet_33 at hp
  refine r_iload_n MF.bs dX6_sheet_33 rfl 2 rfl ?_
  refine r_ite (GIM mtX6_sheet 2 M0) (fun h_5 => ?_) (fun h_5 => ?_)
  · have hp := hp.1 h_5
    refine r_if_lt_t MF.bs (tgt := 44) dX6_sheet_34 (by decide) h_5 ?_
    exact cX6_sheet_44 M0 v1 v2 v3 M hp
  · have hp := hp.2 h_5
    refine r_if_lt_f MF.bs (tgt := 44) dX6_sheet_34 (by decide) h_5 ?_
    refine r_iload_n MF.bs dX6_sheet_37 rfl 3 rfl ?_
    refine r_ite (GIM mtX6_sheet 2 M0) (fun h_6 => ?_) (fun h_6 => ?_)
    · have hp := hp h_6
      refine r_if_ge_t MF.bs (tgt := 44) dX6_sheet_38 (by decide) h_6 ?_
      exact cX6_sheet_44 M0 v1 v2 v3 M hp
    · refine r_if_ge_f MF.bs (tgt := 44) dX6_sheet_38 (by decide) h_6 ?_
      refine r_bipush MF.bs dX6_sheet_41 (v := -14) (by decide) ?_
      exact r_iret dX6_sheet_43 rfl
def mX6_sheet  (a1 : Int32) (a2 : Int32) (a3 : Int32) (M : Mem) : Int32 × Mem := (if (mX6_isSheet a1) = true then (if (mX6_isIn ((a2 : Int32).toInt64) (-1) 3) = true then (if a2 < 0 then (mX6_sheet_33 a1 a2 a3 M) else (if a3 ≤ 40 then (mX6_sheet_33 a1 a2 a3 M) else ((-1), M))) else ((-1), M)) else ((-1), M))
def PX6_sheet  (a1 : Int32) (a2 : Int32) (a3 : Int32) (M : Mem) : Prop := ((mX6_isSheet a1) = true → ((mX6_isIn ((a2 : Int32).toInt64) (-1) 3) = true → ((a2 < 0 → PX6_sheet_33 a1 a2 a3 M) ∧ (¬ a2 < 0 → (a3 ≤ 40 → PX6_sheet_33 a1 a2 a3 M)))))
set_option maxRecDepth 100000 in
theorem ctX6_sheet   (a1 : Int32) (a2 : Int32) (a3 : Int32) (M : Mem) (hp : PX6_sheet a1 a2 a3 M) : CT mtX6_sheet 2 [.ref 46, .int a1, .int a2, .int a3] M (some (.int ((mX6_sheet a1 a2 a3 M).1)), (mX6_sheet a1 a2 a3 M).2) := by
  refine CT.of (by decide) rfl (Nat.le_of_ble_eq_true rfl) ?_
  show AWP (GIM mtX6_sheet 2 M (mX6_sheet a1 a2 a3 M)) mtX6_sheet 0 [(0, .ref 46), (1, .int a1), (2, .int a2), (3, .int a3)] [] M
  unfold mX6_sheet
  unfold PX6_sheet at hp
  refine r_iload_n MF.bs dX6_sheet_0 rfl 1 rfl ?_
  refine r_callS_v MF.bs (st := []) dX6_sheet_1 (ctX6_isSheet a1 M) miX6_isSheet wd_1253 rfl (by decide) rfl (Nat.le_of_ble_eq_true rfl) ?_
  refine r_ite (GIM mtX6_sheet 2 M) (fun h_1 => ?_) (fun h_1 => ?_)
  · have hp := hp h_1
    refine r_if_eq_f MF.bs (tgt := 31) dX6_sheet_4 (by decide) (b2i_1 h_1) ?_
    refine r_iload_n MF.bs dX6_sheet_7 rfl 2 rfl ?_
    refine r_i2l MF.bs dX6_sheet_8 ?_
    refine r_ldc2 MF.bs (v := -1) dX6_sheet_9 wd_1264 ?_
    refine r_ldc2 MF.bs (v := 3) dX6_sheet_12 wd_1056 ?_
    refine r_callS_v MF.bs (st := []) dX6_sheet_15 (ctX6_isIn ((a2 : Int32).toInt64) (-1) 3 M) miX6_isIn wd_971 rfl (by decide) rfl (Nat.le_of_ble_eq_true rfl) ?_
    refine r_ite (GIM mtX6_sheet 2 M) (fun h_2 => ?_) (fun h_2 => ?_)
    · have hp := hp h_2
      refine r_if_eq_f MF.bs (tgt := 31) dX6_sheet_18 (by decide) (b2i_1 h_2) ?_
      refine r_iload_n MF.bs dX6_sheet_21 rfl 2 rfl ?_
      refine r_ite (GIM mtX6_sheet 2 M) (fun h_3 => ?_) (fun h_3 => ?_)
      · have hp := hp.1 h_3
        refine r_if_lt_t MF.bs (tgt := 33) dX6_sheet_22 (by decide) h_3 ?_
        exact cX6_sheet_33 M a1 a2 a3 M hp
      · have hp := hp.2 h_3
        refine r_if_lt_f MF.bs (tgt := 33) dX6_sheet_22 (by decide) h_3 ?_
        refine r_iload_n MF.bs dX6_sheet_25 rfl 3 rfl ?_
        refine r_bipush MF.bs dX6_sheet_26 (v := 40) (by decide) ?_
        refine r_ite (GIM mtX6_sheet 2 M) (fun h_4 => ?_) (fun h_4 => ?_)
        · have hp := hp h_4
          refine r_icmp_le_t MF.bs (tgt := 33) dX6_sheet_28 (by decide) h_4 ?_
          exact cX6_sheet_33 M a1 a2 a3 M hp
        · refine r_icmp_le_f MF.bs (tgt := 33) dX6_sheet_28 (by decide) h_4 ?_
          refine r_iconst MF.bs dX6_sheet_31 (v := -1) (by decide) ?_
          exact r_iret dX6_sheet_32 rfl
    · refine r_if_eq_t MF.bs (tgt := 31) dX6_sheet_18 (by decide) (b2i_0 h_2) ?_
      refine r_iconst MF.bs dX6_sheet_31 (v := -1) (by decide) ?_
      exact r_iret dX6_sheet_32 rfl
  · refine r_if_eq_t MF.bs (tgt := 31) dX6_sheet_4 (by decide) (b2i_0 h_1) ?_
    refine r_iconst MF.bs dX6_sheet_31 (v := -1) (by decide) ?_
    exact r_iret dX6_sheet_32 rfl
abbrev mtX6_put : MT := (RX6, yX6_put, cX6_put, 4, (some .int))
theorem miX6_put : MV mtX6_put 3 := ⟨wd_1305, ⟨wd_1303, wd_1304⟩, wd_86, ⟨by decide, by decide, by decide +kernel⟩, by decide⟩
def mX6_put_82   (k0 : Int32) (k1 : Int32) (M : Mem) : Int32 × Mem := (1, (upm M 59 k1.toNatClampNeg k0))
def PX6_put_82   (k0 : Int32) (k1 : Int32) (M : Mem) : Prop := vp_in k1 160
set_option maxRecDepth 100000 in
theorem cX6_put_82    (M0 : Mem) (k0 : Int32) (k1 : Int32) (M : Mem) (hp : PX6_put_82 k0 k1 M) : AWP (GIM mtX6_put 2 M0 (mX6_put_82 k0 k1 M)) mtX6_put 82 [] [.int k0, .int k1, .ref 59] M := by
  unfold mX6_put_82
  unfold PX6_put_82 at hp
  have hq_10 := hp
  refine r_iastore MF.bs dX6_put_82 rfl hq_10 ?_
  refine r_iconst MF.bs dX6_put_83 (v := 1) (by decide) ?_
  exact r_iret dX6_put_84 rfl
def mX6_put  (a1 : Int32) (a2 : Int32) (a3 : Int32) (M : Mem) : Int32 × Mem := (if (mX6_isSheet a1) = true then (if 0 ≤ (M 57 a1.toNatClampNeg) then (if (mX6_isIn ((a2 : Int32).toInt64) 0 ((((M 58 a1.toNatClampNeg) - 1) : Int32).toInt64)) = true then (if (M 57 a1.toNatClampNeg) = 0 then (mX6_put_82 ((a3 : Int32).toInt8.toInt32) ((40 * a1) + a2) M) else (if (M 57 a1.toNatClampNeg) = 1 then (mX6_put_82 ((a3 : Int32).toInt16.toInt32) ((40 * a1) + a2) M) else (mX6_put_82 a3 ((40 * a1) + a2) M))) else ((-12), M)) else ((-11), M)) else ((-1), M))
def PX6_put  (a1 : Int32) (a2 : Int32) (a3 : Int32) (M : Mem) : Prop := ((mX6_isSheet a1) = true → vp_in a1 4 ∧ ((0 ≤ (M 57 a1.toNatClampNeg) → vp_in a1 4 ∧ (((mX6_isIn ((a2 : Int32).toInt64) 0 ((((M 58 a1.toNatClampNeg) - 1) : Int32).toInt64)) = true → vp_in a1 4 ∧ ((((M 57 a1.toNatClampNeg) = 0 → PX6_put_82 ((a3 : Int32).toInt8.toInt32) ((40 * a1) + a2) M) ∧ (¬ (M 57 a1.toNatClampNeg) = 0 → vp_in a1 4 ∧ ((((M 57 a1.toNatClampNeg) = 1 → PX6_put_82 ((a3 : Int32).toInt16.toInt32) ((40 * a1) + a2) M) ∧ (¬ (M 57 a1.toNatClampNeg) = 1 → PX6_put_82 a3 ((40 * a1) + a2) M)))))))))))
set_option maxRecDepth 100000 in
theorem ctX6_put   (a1 : Int32) (a2 : Int32) (a3 : Int32) (M : Mem) (hp : PX6_put a1 a2 a3 M) : CT mtX6_put 2 [.ref 46, .int a1, .int a2, .int a3] M (some (.int ((mX6_put a1 a2 a3 M).1)), (mX6_put a1 a2 a3 M).2) := by
  refine CT.of (by decide) rfl (Nat.le_of_ble_eq_true rfl) ?_
  show AWP (GIM mtX6_put 2 M (mX6_put a1 a2 a3 M)) mtX6_put 0 [(0, .ref 46), (1, .int a1), (2, .int a2), (3, .int a3)] [] M
  unfold mX6_put
  unfold PX6_put at hp
  refine r_iload_n MF.bs dX6_put_0 rfl 1 rfl ?_
  refine r_callS_v MF.bs (st := []) dX6_put_1 (ctX6_isSheet a1 M) miX6_isSheet wd_1253 rfl (by decide) rfl (Nat.le_of_ble_eq_true rfl) ?_
  refine r_ite (GIM mtX6_put 2 M) (fun h_1 => ?_) (fun h_1 => ?_)
  · have hp := hp h_1
    refine r_if_ne_t MF.bs (tgt := 9) dX6_put_4 (by decide) (b2i_1 h_1) ?_
    obtain ⟨hq_2, hp⟩ := hp
    refine r_aload_n MF.bs dX6_put_9 rfl 0 rfl ?_
    refine r_getR MF.bs dX6_put_10 rfl rfl 18 (by decide) wd_893 rfl ?_
    refine r_iload_n MF.bs dX6_put_13 rfl 1 rfl ?_
    refine r_iaload MF.bs dX6_put_14 rfl hq_2 ?_
    refine r_ite (GIM mtX6_put 2 M) (fun h_3 => ?_) (fun h_3 => ?_)
    · have hp := hp h_3
      refine r_if_ge_t MF.bs (tgt := 21) dX6_put_15 (by decide) h_3 ?_
      obtain ⟨hq_4, hp⟩ := hp
      refine r_iload_n MF.bs dX6_put_21 rfl 2 rfl ?_
      refine r_i2l MF.bs dX6_put_22 ?_
      refine r_lconst MF.bs dX6_put_23 (v := 0) (by decide) ?_
      refine r_aload_n MF.bs dX6_put_24 rfl 0 rfl ?_
      refine r_getR MF.bs dX6_put_25 rfl rfl 19 (by decide) wd_894 rfl ?_
      refine r_iload_n MF.bs dX6_put_28 rfl 1 rfl ?_
      refine r_iaload MF.bs dX6_put_29 rfl hq_4 ?_
      refine r_iconst MF.bs dX6_put_30 (v := 1) (by decide) ?_
      refine r_isub MF.bs dX6_put_31 ?_
      refine r_i2l MF.bs dX6_put_32 ?_
      refine r_callS_v MF.bs (st := []) dX6_put_33 (ctX6_isIn ((a2 : Int32).toInt64) 0 ((((M 58 a1.toNatClampNeg) - 1) : Int32).toInt64) M) miX6_isIn wd_971 rfl (by decide) rfl (Nat.le_of_ble_eq_true rfl) ?_
      refine r_ite (GIM mtX6_put 2 M) (fun h_5 => ?_) (fun h_5 => ?_)
      · have hp := hp h_5
        refine r_if_ne_t MF.bs (tgt := 42) dX6_put_36 (by decide) (b2i_1 h_5) ?_
        obtain ⟨hq_6, hp⟩ := hp
        refine r_aload_n MF.bs dX6_put_42 rfl 0 rfl ?_
        refine r_getR MF.bs dX6_put_43 rfl rfl 20 (by decide) wd_895 rfl ?_
        refine r_bipush MF.bs dX6_put_46 (v := 40) (by decide) ?_
        refine r_iload_n MF.bs dX6_put_48 rfl 1 rfl ?_
        refine r_imul MF.bs dX6_put_49 ?_
        refine r_iload_n MF.bs dX6_put_50 rfl 2 rfl ?_
        refine r_iadd MF.bs dX6_put_51 ?_
        refine r_aload_n MF.bs dX6_put_52 rfl 0 rfl ?_
        refine r_getR MF.bs dX6_put_53 rfl rfl 18 (by decide) wd_893 rfl ?_
        refine r_iload_n MF.bs dX6_put_56 rfl 1 rfl ?_
        refine r_iaload MF.bs dX6_put_57 rfl hq_6 ?_
        refine r_ite (GIM mtX6_put 2 M) (fun h_7 => ?_) (fun h_7 => ?_)
        · have hp := hp.1 h_7
          refine r_if_ne_f MF.bs (tgt := 66) dX6_put_58 (by decide) h_7 ?_
          refine r_iload_n MF.bs dX6_put_61 rfl 3 rfl ?_
          refine r_i2b MF.bs dX6_put_62 ?_
          refine r_goto MF.bs dX6_put_63 (tgt := 82) (by decide) ?_
          refine r_sub [] [] rfl ?_
          exact cX6_put_82 M ((a3 : Int32).toInt8.toInt32) ((40 * a1) + a2) M hp
        · have hp := hp.2 h_7
          refine r_if_ne_t MF.bs (tgt := 66) dX6_put_58 (by decide) h_7 ?_
          obtain ⟨hq_8, hp⟩ := hp
          refine r_aload_n MF.bs dX6_put_66 rfl 0 rfl ?_
          refine r_getR MF.bs dX6_put_67 rfl rfl 18 (by decide) wd_893 rfl ?_
          refine r_iload_n MF.bs dX6_put_70 rfl 1 rfl ?_
          refine r_iaload MF.bs dX6_put_71 rfl hq_8 ?_
          refine r_iconst MF.bs dX6_put_72 (v := 1) (by decide) ?_
          refine r_ite (GIM mtX6_put 2 M) (fun h_9 => ?_) (fun h_9 => ?_)
          · have hp := hp.1 h_9
            refine r_icmp_ne_f MF.bs (tgt := 81) dX6_put_73 (by decide) h_9 ?_
            refine r_iload_n MF.bs dX6_put_76 rfl 3 rfl ?_
            refine r_i2s MF.bs dX6_put_77 ?_
            refine r_goto MF.bs dX6_put_78 (tgt := 82) (by decide) ?_
            refine r_sub [] [] rfl ?_
            exact cX6_put_82 M ((a3 : Int32).toInt16.toInt32) ((40 * a1) + a2) M hp
          · have hp := hp.2 h_9
            refine r_icmp_ne_t MF.bs (tgt := 81) dX6_put_73 (by decide) h_9 ?_
            refine r_iload_n MF.bs dX6_put_81 rfl 3 rfl ?_
            refine r_sub [] [] rfl ?_
            exact cX6_put_82 M a3 ((40 * a1) + a2) M hp
      · refine r_if_ne_f MF.bs (tgt := 42) dX6_put_36 (by decide) (b2i_0 h_5) ?_
        refine r_bipush MF.bs dX6_put_39 (v := -12) (by decide) ?_
        exact r_iret dX6_put_41 rfl
    · refine r_if_ge_f MF.bs (tgt := 21) dX6_put_15 (by decide) h_3 ?_
      refine r_bipush MF.bs dX6_put_18 (v := -11) (by decide) ?_
      exact r_iret dX6_put_20 rfl
  · refine r_if_ne_f MF.bs (tgt := 9) dX6_put_4 (by decide) (b2i_0 h_1) ?_
    refine r_iconst MF.bs dX6_put_7 (v := -1) (by decide) ?_
    exact r_iret dX6_put_8 rfl
abbrev mtX6_lacks : MT := (RX6, yX6_lacks, cX6_lacks, 3, (some .int))
theorem miX6_lacks : MV mtX6_lacks 2 := ⟨wd_1313, ⟨wd_1312, wd_66⟩, wd_86, ⟨by decide, by decide, by decide +kernel⟩, by decide⟩
def mX6_lacks  (a1 : Int32) (a2 : Int32) (M : Mem) : Int32 := (if 0 ≤ (M 57 a1.toNatClampNeg) then (if (M 57 a1.toNatClampNeg) = a2 then 0 else (-13)) else (-11))
def PX6_lacks  (a1 : Int32) (a2 : Int32) (M : Mem) : Prop := vp_in a1 4 ∧ ((0 ≤ (M 57 a1.toNatClampNeg) → vp_in a1 4))
set_option maxRecDepth 100000 in
theorem ctX6_lacks   (a1 : Int32) (a2 : Int32) (M : Mem) (hp : PX6_lacks a1 a2 M) : CT mtX6_lacks 0 [.ref 46, .int a1, .int a2] M (some (.int (mX6_lacks a1 a2 M)), M) := by
  refine CT.of (by decide) rfl (Nat.le_of_ble_eq_true rfl) ?_
  show AWP (GI mtX6_lacks 0 M M (mX6_lacks a1 a2 M)) mtX6_lacks 0 [(0, .ref 46), (1, .int a1), (2, .int a2)] [] M
  unfold mX6_lacks
  unfold PX6_lacks at hp
  obtain ⟨hq_1, hp⟩ := hp
  refine r_aload_n MF.bs dX6_lacks_0 rfl 0 rfl ?_
  refine r_getR MF.bs dX6_lacks_1 rfl rfl 18 (by decide) wd_893 rfl ?_
  refine r_iload_n MF.bs dX6_lacks_4 rfl 1 rfl ?_
  refine r_iaload MF.bs dX6_lacks_5 rfl hq_1 ?_
  refine r_ite (GI mtX6_lacks 0 M M) (fun h_2 => ?_) (fun h_2 => ?_)
  · have hp := hp h_2
    refine r_if_ge_t MF.bs (tgt := 14) dX6_lacks_6 (by decide) h_2 ?_
    have hq_3 := hp
    refine r_aload_n MF.bs dX6_lacks_14 rfl 0 rfl ?_
    refine r_getR MF.bs dX6_lacks_15 rfl rfl 18 (by decide) wd_893 rfl ?_
    refine r_iload_n MF.bs dX6_lacks_18 rfl 1 rfl ?_
    refine r_iaload MF.bs dX6_lacks_19 rfl hq_3 ?_
    refine r_iload_n MF.bs dX6_lacks_20 rfl 2 rfl ?_
    refine r_ite (GI mtX6_lacks 0 M M) (fun h_4 => ?_) (fun h_4 => ?_)
    · refine r_icmp_eq_t MF.bs (tgt := 29) dX6_lacks_21 (by decide) h_4 ?_
      refine r_iconst MF.bs dX6_lacks_29 (v := 0) (by decide) ?_
      exact r_iret dX6_lacks_30 rfl
    · refine r_icmp_eq_f MF.bs (tgt := 29) dX6_lacks_21 (by decide) h_4 ?_
      refine r_bipush MF.bs dX6_lacks_24 (v := -13) (by decide) ?_
      refine r_goto MF.bs dX6_lacks_26 (tgt := 30) (by decide) ?_
      exact r_iret dX6_lacks_30 rfl
  · refine r_if_ge_f MF.bs (tgt := 14) dX6_lacks_6 (by decide) h_2 ?_
    refine r_bipush MF.bs dX6_lacks_9 (v := -11) (by decide) ?_
    refine r_goto MF.bs dX6_lacks_11 (tgt := 30) (by decide) ?_
    exact r_iret dX6_lacks_30 rfl
abbrev mtX6_item : MT := (RX6, yX6_item, cX6_item, 4, (some .int))
theorem miX6_item : MV mtX6_item 3 := ⟨wd_1309, ⟨wd_1307, wd_1308⟩, wd_86, ⟨by decide, by decide, by decide +kernel⟩, by decide⟩
def mX6_item  (a1 : Int32) (a2 : Int32) (a3 : Int32) (M : Mem) : Int32 := (if (mX6_isSheet a1) = true then (if (mX6_isIn ((a2 : Int32).toInt64) 0 3) = true then (if (mX6_lacks a1 a2 M) = 0 then (if (mX6_isIn ((a3 : Int32).toInt64) 0 ((((M 58 a1.toNatClampNeg) - 1) : Int32).toInt64)) = true then (M 59 ((40 * a1) + a3).toNatClampNeg) else (-12)) else (mX6_lacks a1 a2 M)) else (-1)) else (-1))
def PX6_item  (a1 : Int32) (a2 : Int32) (a3 : Int32) (M : Mem) : Prop := ((mX6_isSheet a1) = true → ((mX6_isIn ((a2 : Int32).toInt64) 0 3) = true → PX6_lacks a1 a2 M ∧ ((((mX6_lacks a1 a2 M) = 0 → vp_in a1 4 ∧ (((mX6_isIn ((a3 : Int32).toInt64) 0 ((((M 58 a1.toNatClampNeg) - 1) : Int32).toInt64)) = true → vp_in ((40 * a1) + a3) 160))) ∧ (¬ (mX6_lacks a1 a2 M) = 0 → PX6_lacks a1 a2 M)))))
set_option maxRecDepth 100000 in
theorem ctX6_item   (a1 : Int32) (a2 : Int32) (a3 : Int32) (M : Mem) (hp : PX6_item a1 a2 a3 M) : CT mtX6_item 2 [.ref 46, .int a1, .int a2, .int a3] M (some (.int (mX6_item a1 a2 a3 M)), M) := by
  refine CT.of (by decide) rfl (Nat.le_of_ble_eq_true rfl) ?_
  show AWP (GI mtX6_item 2 M M (mX6_item a1 a2 a3 M)) mtX6_item 0 [(0, .ref 46), (1, .int a1), (2, .int a2), (3, .int a3)] [] M
  unfold mX6_item
  unfold PX6_item at hp
  refine r_iload_n MF.bs dX6_item_0 rfl 1 rfl ?_
  refine r_callS_v MF.bs (st := []) dX6_item_1 (ctX6_isSheet a1 M) miX6_isSheet wd_1253 rfl (by decide) rfl (Nat.le_of_ble_eq_true rfl) ?_
  refine r_ite (GI mtX6_item 2 M M) (fun h_1 => ?_) (fun h_1 => ?_)
  · have hp := hp h_1
    refine r_if_eq_f MF.bs (tgt := 19) dX6_item_4 (by decide) (b2i_1 h_1) ?_
    refine r_iload_n MF.bs dX6_item_7 rfl 2 rfl ?_
    refine r_i2l MF.bs dX6_item_8 ?_
    refine r_lconst MF.bs dX6_item_9 (v := 0) (by decide) ?_
    refine r_ldc2 MF.bs (v := 3) dX6_item_10 wd_1056 ?_
    refine r_callS_v MF.bs (st := []) dX6_item_13 (ctX6_isIn ((a2 : Int32).toInt64) 0 3 M) miX6_isIn wd_971 rfl (by decide) rfl (Nat.le_of_ble_eq_true rfl) ?_
    refine r_ite (GI mtX6_item 2 M M) (fun h_2 => ?_) (fun h_2 => ?_)
    · have hp := hp h_2
      refine r_if_ne_t MF.bs (tgt := 21) dX6_item_16 (by decide) (b2i_1 h_2) ?_
      obtain ⟨hq_3, hp⟩ := hp
      refine r_aload_n MF.bs dX6_item_21 rfl 0 rfl ?_
      refine r_iload_n MF.bs dX6_item_22 rfl 1 rfl ?_
      refine r_iload_n MF.bs dX6_item_23 rfl 2 rfl ?_
      refine r_callV_v MF.bs (st := []) dX6_item_24 (ctX6_lacks a1 a2 M hq_3) miX6_lacks wd_1310 rfl (by decide) rfl (Nat.le_of_ble_eq_true rfl) rfl rfl rfl ?_
      refine r_ite (GI mtX6_item 2 M M) (fun h_4 => ?_) (fun h_4 => ?_)
      · have hp := hp.1 h_4
        refine r_if_eq_t MF.bs (tgt := 37) dX6_item_27 (by decide) h_4 ?_
        obtain ⟨hq_5, hp⟩ := hp
        refine r_iload_n MF.bs dX6_item_37 rfl 3 rfl ?_
        refine r_i2l MF.bs dX6_item_38 ?_
        refine r_lconst MF.bs dX6_item_39 (v := 0) (by decide) ?_
        refine r_aload_n MF.bs dX6_item_40 rfl 0 rfl ?_
        refine r_getR MF.bs dX6_item_41 rfl rfl 19 (by decide) wd_894 rfl ?_
        refine r_iload_n MF.bs dX6_item_44 rfl 1 rfl ?_
        refine r_iaload MF.bs dX6_item_45 rfl hq_5 ?_
        refine r_iconst MF.bs dX6_item_46 (v := 1) (by decide) ?_
        refine r_isub MF.bs dX6_item_47 ?_
        refine r_i2l MF.bs dX6_item_48 ?_
        refine r_callS_v MF.bs (st := []) dX6_item_49 (ctX6_isIn ((a3 : Int32).toInt64) 0 ((((M 58 a1.toNatClampNeg) - 1) : Int32).toInt64) M) miX6_isIn wd_971 rfl (by decide) rfl (Nat.le_of_ble_eq_true rfl) ?_
        refine r_ite (GI mtX6_item 2 M M) (fun h_6 => ?_) (fun h_6 => ?_)
        · have hp := hp h_6
          refine r_if_eq_f MF.bs (tgt := 69) dX6_item_52 (by decide) (b2i_1 h_6) ?_
          have hq_7 := hp
          refine r_aload_n MF.bs dX6_item_55 rfl 0 rfl ?_
          refine r_getR MF.bs dX6_item_56 rfl rfl 20 (by decide) wd_895 rfl ?_
          refine r_bipush MF.bs dX6_item_59 (v := 40) (by decide) ?_
          refine r_iload_n MF.bs dX6_item_61 rfl 1 rfl ?_
          refine r_imul MF.bs dX6_item_62 ?_
          refine r_iload_n MF.bs dX6_item_63 rfl 3 rfl ?_
          refine r_iadd MF.bs dX6_item_64 ?_
          refine r_iaload MF.bs dX6_item_65 rfl hq_7 ?_
          refine r_goto MF.bs dX6_item_66 (tgt := 71) (by decide) ?_
          exact r_iret dX6_item_71 rfl
        · refine r_if_eq_t MF.bs (tgt := 69) dX6_item_52 (by decide) (b2i_0 h_6) ?_
          refine r_bipush MF.bs dX6_item_69 (v := -12) (by decide) ?_
          exact r_iret dX6_item_71 rfl
      · have hp := hp.2 h_4
        refine r_if_eq_f MF.bs (tgt := 37) dX6_item_27 (by decide) h_4 ?_
        have hq_8 := hp
        refine r_aload_n MF.bs dX6_item_30 rfl 0 rfl ?_
        refine r_iload_n MF.bs dX6_item_31 rfl 1 rfl ?_
        refine r_iload_n MF.bs dX6_item_32 rfl 2 rfl ?_
        refine r_callV_v MF.bs (st := []) dX6_item_33 (ctX6_lacks a1 a2 M hq_8) miX6_lacks wd_1310 rfl (by decide) rfl (Nat.le_of_ble_eq_true rfl) rfl rfl rfl ?_
        exact r_iret dX6_item_36 rfl
    · refine r_if_ne_f MF.bs (tgt := 21) dX6_item_16 (by decide) (b2i_0 h_2) ?_
      refine r_iconst MF.bs dX6_item_19 (v := -1) (by decide) ?_
      exact r_iret dX6_item_20 rfl
  · refine r_if_eq_t MF.bs (tgt := 19) dX6_item_4 (by decide) (b2i_0 h_1) ?_
    refine r_iconst MF.bs dX6_item_19 (v := -1) (by decide) ?_
    exact r_iret dX6_item_20 rfl
abbrev mtX6_minds : MT := (RX6, yX6_minds, cX6_minds, 6, (some .int))
theorem miX6_minds : MV mtX6_minds 4 := ⟨wd_1317, ⟨wd_1315, wd_1316⟩, wd_86, ⟨by decide, by decide, by decide +kernel⟩, by decide⟩
def mX6_minds_98   : Nat → Int32 → Int32 → Int32 → Int32 → Int32 → Mem → Int32 × Mem
  | 0, _, _, _, _, _, M => (0, M)
  | n + 1, v1, v2, v3, v4, v5, M => (if v4 ≤ v5 then (v4, M) else (mX6_minds_98 n v1 v2 v3 v4 (v5 + 1) (upm M 47 ((24 + (4 * (v3 + v5))) + 1).toNatClampNeg (mX6_within (M 59 (((40 * v1) + v2) + v5).toNatClampNeg)))))
def PX6_minds_98   : Nat → Int32 → Int32 → Int32 → Int32 → Int32 → Mem → Prop
  | 0, _, _, _, _, _, _ => False
  | n + 1, v1, v2, v3, v4, v5, M => (¬ v4 ≤ v5 → vp_in (((40 * v1) + v2) + v5) 160 ∧ (vp_in ((24 + (4 * (v3 + v5))) + 1) 56 ∧ (PX6_minds_98 n v1 v2 v3 v4 (v5 + 1) (upm M 47 ((24 + (4 * (v3 + v5))) + 1).toNatClampNeg (mX6_within (M 59 (((40 * v1) + v2) + v5).toNatClampNeg))))))
set_option maxRecDepth 100000 in
theorem cX6_minds_98    (M0 : Mem) : ∀ (n : Nat) (v1 : Int32) (v2 : Int32) (v3 : Int32) (v4 : Int32) (v5 : Int32) (M : Mem), PX6_minds_98 n v1 v2 v3 v4 v5 M → AWP (GIM mtX6_minds 2 M0 (mX6_minds_98 n v1 v2 v3 v4 v5 M)) mtX6_minds 98 [(0, .ref 46), (1, .int v1), (2, .int v2), (3, .int v3), (4, .int v4), (5, .int v5)] [] M := by
  intro n
  induction n with
  | zero =>
    intro v1 v2 v3 v4 v5 M hp
    exact hp.elim
  | succ n ih =>
    intro v1 v2 v3 v4 v5 M hp
    rw [mX6_minds_98]
    rw [PX6_minds_98] at hp
    refine r_iload MF.bs dX6_minds_98 5 rfl ?_
    refine r_iload MF.bs dX6_minds_100 4 rfl ?_
    refine r_ite (GIM mtX6_minds 2 M0) (fun h_12 => ?_) (fun h_12 => ?_)
    · refine r_icmp_ge_t MF.bs (tgt := 144) dX6_minds_102 (by decide) h_12 ?_
      refine r_iload MF.bs dX6_minds_144 4 rfl ?_
      exact r_iret dX6_minds_146 rfl
    · have hp := hp h_12
      refine r_icmp_ge_f MF.bs (tgt := 144) dX6_minds_102 (by decide) h_12 ?_
      obtain ⟨hq_13, hp⟩ := hp
      obtain ⟨hq_14, hp⟩ := hp
      refine r_aload_n MF.bs dX6_minds_105 rfl 0 rfl ?_
      refine r_getR MF.bs dX6_minds_106 rfl rfl 0 (by decide) wd_875 rfl ?_
      refine r_bipush MF.bs dX6_minds_109 (v := 24) (by decide) ?_
      refine r_iconst MF.bs dX6_minds_111 (v := 4) (by decide) ?_
      refine r_iload_n MF.bs dX6_minds_112 rfl 3 rfl ?_
      refine r_iload MF.bs dX6_minds_113 5 rfl ?_
      refine r_iadd MF.bs dX6_minds_115 ?_
      refine r_imul MF.bs dX6_minds_116 ?_
      refine r_iadd MF.bs dX6_minds_117 ?_
      refine r_iconst MF.bs dX6_minds_118 (v := 1) (by decide) ?_
      refine r_iadd MF.bs dX6_minds_119 ?_
      refine r_aload_n MF.bs dX6_minds_120 rfl 0 rfl ?_
      refine r_getR MF.bs dX6_minds_121 rfl rfl 20 (by decide) wd_895 rfl ?_
      refine r_bipush MF.bs dX6_minds_124 (v := 40) (by decide) ?_
      refine r_iload_n MF.bs dX6_minds_126 rfl 1 rfl ?_
      refine r_imul MF.bs dX6_minds_127 ?_
      refine r_iload_n MF.bs dX6_minds_128 rfl 2 rfl ?_
      refine r_iadd MF.bs dX6_minds_129 ?_
      refine r_iload MF.bs dX6_minds_130 5 rfl ?_
      refine r_iadd MF.bs dX6_minds_132 ?_
      refine r_iaload MF.bs dX6_minds_133 rfl hq_13 ?_
      refine r_callS_v MF.bs (st := [.int ((24 + (4 * (v3 + v5))) + 1), .ref 47]) dX6_minds_134 (ctX6_within (M 59 (((40 * v1) + v2) + v5).toNatClampNeg) M) miX6_within wd_1318 rfl (by decide) rfl (Nat.le_of_ble_eq_true rfl) ?_
      refine r_iastore MF.bs dX6_minds_137 rfl hq_14 ?_
      refine r_iinc MF.bs (v := (v5 + 1)) (lv' := [(5, .int (v5 + 1)), (0, .ref 46), (1, .int v1), (2, .int v2), (3, .int v3), (4, .int v4)]) dX6_minds_138 5 rfl rfl (by decide) rfl ?_
      refine r_goto MF.bs dX6_minds_141 (tgt := 98) (by decide) ?_
      refine r_sub [(0, .ref 46), (1, .int v1), (2, .int v2), (3, .int v3), (4, .int v4), (5, .int (v5 + 1))] [1, 2, 3, 4, 5, 0] rfl ?_
      exact ih v1 v2 v3 v4 (v5 + 1) (upm M 47 ((24 + (4 * (v3 + v5))) + 1).toNatClampNeg (mX6_within (M 59 (((40 * v1) + v2) + v5).toNatClampNeg))) hp
def mX6_minds  (a1 : Int32) (a2 : Int32) (a3 : Int32) (a4 : Int32) (M : Mem) : Int32 × Mem := (if (mX6_isSheet a1) = true then (if (mX6_isOne a3 M) = true then (if (mX6_isIn ((a4 : Int32).toInt64) 0 8) = true then (if (a3 + a4) ≤ (M 47 0) then (if (mX6_lacks a1 0 M) = 0 then (if (mX6_isIn ((a2 : Int32).toInt64) 0 (((M 58 a1.toNatClampNeg) : Int32).toInt64)) = true then (if (lg_cmp ((a2 : Int32).toInt64 + (a4 : Int32).toInt64) (((M 58 a1.toNatClampNeg) : Int32).toInt64)) ≤ 0 then (mX6_minds_98 400 a1 a2 a3 a4 0 M) else ((-12), M)) else ((-12), M)) else ((mX6_lacks a1 0 M), M)) else ((-1), M)) else ((-1), M)) else ((-1), M)) else ((-1), M))
def PX6_minds  (a1 : Int32) (a2 : Int32) (a3 : Int32) (a4 : Int32) (M : Mem) : Prop := ((mX6_isSheet a1) = true → ((mX6_isOne a3 M) = true → ((mX6_isIn ((a4 : Int32).toInt64) 0 8) = true → ((a3 + a4) ≤ (M 47 0) → PX6_lacks a1 0 M ∧ ((((mX6_lacks a1 0 M) = 0 → vp_in a1 4 ∧ (((mX6_isIn ((a2 : Int32).toInt64) 0 (((M 58 a1.toNatClampNeg) : Int32).toInt64)) = true → vp_in a1 4 ∧ (((lg_cmp ((a2 : Int32).toInt64 + (a4 : Int32).toInt64) (((M 58 a1.toNatClampNeg) : Int32).toInt64)) ≤ 0 → PX6_minds_98 400 a1 a2 a3 a4 0 M))))) ∧ (¬ (mX6_lacks a1 0 M) = 0 → PX6_lacks a1 0 M)))))))
set_option maxRecDepth 100000 in
theorem ctX6_minds   (a1 : Int32) (a2 : Int32) (a3 : Int32) (a4 : Int32) (M : Mem) (hp : PX6_minds a1 a2 a3 a4 M) : CT mtX6_minds 2 [.ref 46, .int a1, .int a2, .int a3, .int a4] M (some (.int ((mX6_minds a1 a2 a3 a4 M).1)), (mX6_minds a1 a2 a3 a4 M).2) := by
  refine CT.of (by decide) rfl (Nat.le_of_ble_eq_true rfl) ?_
  show AWP (GIM mtX6_minds 2 M (mX6_minds a1 a2 a3 a4 M)) mtX6_minds 0 [(0, .ref 46), (1, .int a1), (2, .int a2), (3, .int a3), (4, .int a4)] [] M
  unfold mX6_minds
  unfold PX6_minds at hp
  refine r_iload_n MF.bs dX6_minds_0 rfl 1 rfl ?_
  refine r_callS_v MF.bs (st := []) dX6_minds_1 (ctX6_isSheet a1 M) miX6_isSheet wd_1253 rfl (by decide) rfl (Nat.le_of_ble_eq_true rfl) ?_
  refine r_ite (GIM mtX6_minds 2 M) (fun h_1 => ?_) (fun h_1 => ?_)
  · have hp := hp h_1
    refine r_if_eq_f MF.bs (tgt := 41) dX6_minds_4 (by decide) (b2i_1 h_1) ?_
    refine r_aload_n MF.bs dX6_minds_7 rfl 0 rfl ?_
    refine r_iload_n MF.bs dX6_minds_8 rfl 3 rfl ?_
    refine r_callV_v MF.bs (st := []) dX6_minds_9 (ctX6_isOne a3 M) miX6_isOne wd_1079 rfl (by decide) rfl (Nat.le_of_ble_eq_true rfl) rfl rfl rfl ?_
    refine r_ite (GIM mtX6_minds 2 M) (fun h_2 => ?_) (fun h_2 => ?_)
    · have hp := hp h_2
      refine r_if_eq_f MF.bs (tgt := 41) dX6_minds_12 (by decide) (b2i_1 h_2) ?_
      refine r_iload MF.bs dX6_minds_15 4 rfl ?_
      refine r_i2l MF.bs dX6_minds_17 ?_
      refine r_lconst MF.bs dX6_minds_18 (v := 0) (by decide) ?_
      refine r_ldc2 MF.bs (v := 8) dX6_minds_19 wd_970 ?_
      refine r_callS_v MF.bs (st := []) dX6_minds_22 (ctX6_isIn ((a4 : Int32).toInt64) 0 8 M) miX6_isIn wd_971 rfl (by decide) rfl (Nat.le_of_ble_eq_true rfl) ?_
      refine r_ite (GIM mtX6_minds 2 M) (fun h_3 => ?_) (fun h_3 => ?_)
      · have hp := hp h_3
        refine r_if_eq_f MF.bs (tgt := 41) dX6_minds_25 (by decide) (b2i_1 h_3) ?_
        refine r_iload_n MF.bs dX6_minds_28 rfl 3 rfl ?_
        refine r_iload MF.bs dX6_minds_29 4 rfl ?_
        refine r_iadd MF.bs dX6_minds_31 ?_
        refine r_aload_n MF.bs dX6_minds_32 rfl 0 rfl ?_
        refine r_getR MF.bs dX6_minds_33 rfl rfl 0 (by decide) wd_875 rfl ?_
        refine r_iconst MF.bs dX6_minds_36 (v := 0) (by decide) ?_
        refine r_ialoadL MF.bs dX6_minds_37 rfl (vin_l (by decide) (by decide)) (k9 := 0) (by decide) ?_
        refine r_ite (GIM mtX6_minds 2 M) (fun h_4 => ?_) (fun h_4 => ?_)
        · have hp := hp h_4
          refine r_icmp_le_t MF.bs (tgt := 43) dX6_minds_38 (by decide) h_4 ?_
          obtain ⟨hq_5, hp⟩ := hp
          refine r_aload_n MF.bs dX6_minds_43 rfl 0 rfl ?_
          refine r_iload_n MF.bs dX6_minds_44 rfl 1 rfl ?_
          refine r_iconst MF.bs dX6_minds_45 (v := 0) (by decide) ?_
          refine r_callV_v MF.bs (st := []) dX6_minds_46 (ctX6_lacks a1 0 M hq_5) miX6_lacks wd_1310 rfl (by decide) rfl (Nat.le_of_ble_eq_true rfl) rfl rfl rfl ?_
          refine r_ite (GIM mtX6_minds 2 M) (fun h_6 => ?_) (fun h_6 => ?_)
          · have hp := hp.1 h_6
            refine r_if_eq_t MF.bs (tgt := 59) dX6_minds_49 (by decide) h_6 ?_
            obtain ⟨hq_7, hp⟩ := hp
            refine r_iload_n MF.bs dX6_minds_59 rfl 2 rfl ?_
            refine r_i2l MF.bs dX6_minds_60 ?_
            refine r_lconst MF.bs dX6_minds_61 (v := 0) (by decide) ?_
            refine r_aload_n MF.bs dX6_minds_62 rfl 0 rfl ?_
            refine r_getR MF.bs dX6_minds_63 rfl rfl 19 (by decide) wd_894 rfl ?_
            refine r_iload_n MF.bs dX6_minds_66 rfl 1 rfl ?_
            refine r_iaload MF.bs dX6_minds_67 rfl hq_7 ?_
            refine r_i2l MF.bs dX6_minds_68 ?_
            refine r_callS_v MF.bs (st := []) dX6_minds_69 (ctX6_isIn ((a2 : Int32).toInt64) 0 (((M 58 a1.toNatClampNeg) : Int32).toInt64) M) miX6_isIn wd_971 rfl (by decide) rfl (Nat.le_of_ble_eq_true rfl) ?_
            refine r_ite (GIM mtX6_minds 2 M) (fun h_8 => ?_) (fun h_8 => ?_)
            · have hp := hp h_8
              refine r_if_eq_f MF.bs (tgt := 92) dX6_minds_72 (by decide) (b2i_1 h_8) ?_
              obtain ⟨hq_9, hp⟩ := hp
              refine r_iload_n MF.bs dX6_minds_75 rfl 2 rfl ?_
              refine r_i2l MF.bs dX6_minds_76 ?_
              refine r_iload MF.bs dX6_minds_77 4 rfl ?_
              refine r_i2l MF.bs dX6_minds_79 ?_
              refine r_ladd MF.bs dX6_minds_80 ?_
              refine r_aload_n MF.bs dX6_minds_81 rfl 0 rfl ?_
              refine r_getR MF.bs dX6_minds_82 rfl rfl 19 (by decide) wd_894 rfl ?_
              refine r_iload_n MF.bs dX6_minds_85 rfl 1 rfl ?_
              refine r_iaload MF.bs dX6_minds_86 rfl hq_9 ?_
              refine r_i2l MF.bs dX6_minds_87 ?_
              refine r_lcmp MF.bs dX6_minds_88 ?_
              refine r_ite (GIM mtX6_minds 2 M) (fun h_10 => ?_) (fun h_10 => ?_)
              · have hp := hp h_10
                refine r_if_le_t MF.bs (tgt := 95) dX6_minds_89 (by decide) h_10 ?_
                refine r_iconst MF.bs dX6_minds_95 (v := 0) (by decide) ?_
                refine r_istore MF.bs (lv' := [(5, .int 0), (0, .ref 46), (1, .int a1), (2, .int a2), (3, .int a3), (4, .int a4)]) dX6_minds_96 (by decide) rfl ?_
                refine r_sub [(0, .ref 46), (1, .int a1), (2, .int a2), (3, .int a3), (4, .int a4), (5, .int 0)] [1, 2, 3, 4, 5, 0] rfl ?_
                exact cX6_minds_98 M 400 a1 a2 a3 a4 0 M hp
              · refine r_if_le_f MF.bs (tgt := 95) dX6_minds_89 (by decide) h_10 ?_
                refine r_bipush MF.bs dX6_minds_92 (v := -12) (by decide) ?_
                exact r_iret dX6_minds_94 rfl
            · refine r_if_eq_t MF.bs (tgt := 92) dX6_minds_72 (by decide) (b2i_0 h_8) ?_
              refine r_bipush MF.bs dX6_minds_92 (v := -12) (by decide) ?_
              exact r_iret dX6_minds_94 rfl
          · have hp := hp.2 h_6
            refine r_if_eq_f MF.bs (tgt := 59) dX6_minds_49 (by decide) h_6 ?_
            have hq_11 := hp
            refine r_aload_n MF.bs dX6_minds_52 rfl 0 rfl ?_
            refine r_iload_n MF.bs dX6_minds_53 rfl 1 rfl ?_
            refine r_iconst MF.bs dX6_minds_54 (v := 0) (by decide) ?_
            refine r_callV_v MF.bs (st := []) dX6_minds_55 (ctX6_lacks a1 0 M hq_11) miX6_lacks wd_1310 rfl (by decide) rfl (Nat.le_of_ble_eq_true rfl) rfl rfl rfl ?_
            exact r_iret dX6_minds_58 rfl
        · refine r_icmp_le_f MF.bs (tgt := 43) dX6_minds_38 (by decide) h_4 ?_
          refine r_iconst MF.bs dX6_minds_41 (v := -1) (by decide) ?_
          exact r_iret dX6_minds_42 rfl
      · refine r_if_eq_t MF.bs (tgt := 41) dX6_minds_25 (by decide) (b2i_0 h_3) ?_
        refine r_iconst MF.bs dX6_minds_41 (v := -1) (by decide) ?_
        exact r_iret dX6_minds_42 rfl
    · refine r_if_eq_t MF.bs (tgt := 41) dX6_minds_12 (by decide) (b2i_0 h_2) ?_
      refine r_iconst MF.bs dX6_minds_41 (v := -1) (by decide) ?_
      exact r_iret dX6_minds_42 rfl
  · refine r_if_eq_t MF.bs (tgt := 41) dX6_minds_4 (by decide) (b2i_0 h_1) ?_
    refine r_iconst MF.bs dX6_minds_41 (v := -1) (by decide) ?_
    exact r_iret dX6_minds_42 rfl
abbrev mtX6_shelf : MT := (RX6, yX6_shelf, cX6_shelf, 5, (some .int))
theorem miX6_shelf : MV mtX6_shelf 3 := ⟨wd_1324, ⟨wd_1322, wd_1323⟩, wd_86, ⟨by decide, by decide, by decide +kernel⟩, by decide⟩
def mX6_shelf_139   (k0 : Int32) (k1 : Int32) (M : Mem) : Int32 × Mem := (1, (upm M 62 k1.toNatClampNeg k0))
def PX6_shelf_139   (k0 : Int32) (k1 : Int32) (M : Mem) : Prop := vp_in k1 4
set_option maxRecDepth 100000 in
theorem cX6_shelf_139    (M0 : Mem) (k0 : Int32) (k1 : Int32) (M : Mem) (hp : PX6_shelf_139 k0 k1 M) : AWP (GIM mtX6_shelf 2 M0 (mX6_shelf_139 k0 k1 M)) mtX6_shelf 139 [] [.int k0, .int k1, .ref 62] M := by
  unfold mX6_shelf_139
  unfold PX6_shelf_139 at hp
  have hq_19 := hp
  refine r_iastore MF.bs dX6_shelf_139 rfl hq_19 ?_
  refine r_iconst MF.bs dX6_shelf_140 (v := 1) (by decide) ?_
  exact r_iret dX6_shelf_141 rfl
def mX6_shelf_118   (v1 : Int32) (v3 : Int32) (v4 : Int32) (k0 : Int32) (k1 : Int32) (M : Mem) : Int32 × Mem := (if v4 = 0 then (mX6_shelf_139 0 v1 (upm M 61 k1.toNatClampNeg k0)) else (mX6_shelf_139 ((upm M 61 k1.toNatClampNeg k0) 58 v3.toNatClampNeg) v1 (upm M 61 k1.toNatClampNeg k0)))
def PX6_shelf_118   (v1 : Int32) (v3 : Int32) (v4 : Int32) (k0 : Int32) (k1 : Int32) (M : Mem) : Prop := vp_in k1 4 ∧ (((v4 = 0 → PX6_shelf_139 0 v1 (upm M 61 k1.toNatClampNeg k0)) ∧ (¬ v4 = 0 → vp_in v3 4 ∧ (PX6_shelf_139 ((upm M 61 k1.toNatClampNeg k0) 58 v3.toNatClampNeg) v1 (upm M 61 k1.toNatClampNeg k0)))))
set_option maxRecDepth 100000 in
theorem cX6_shelf_118    (M0 : Mem) (v1 : Int32) (v3 : Int32) (v4 : Int32) (k0 : Int32) (k1 : Int32) (M : Mem) (hp : PX6_shelf_118 v1 v3 v4 k0 k1 M) : AWP (GIM mtX6_shelf 2 M0 (mX6_shelf_118 v1 v3 v4 k0 k1 M)) mtX6_shelf 118 [(0, .ref 46), (1, .int v1), (3, .int v3), (4, .int v4)] [.int k0, .int k1, .ref 61] M := by
  unfold mX6_shelf_118
  unfold PX6_shelf_118 at hp
  obtain ⟨hq_16, hp⟩ := hp
  refine r_iastore MF.bs dX6_shelf_118 rfl hq_16 ?_
  refine r_aload_n MF.bs dX6_shelf_119 rfl 0 rfl ?_
  refine r_getR MF.bs dX6_shelf_120 rfl rfl 23 (by decide) wd_898 rfl ?_
  refine r_iload_n MF.bs dX6_shelf_123 rfl 1 rfl ?_
  refine r_iload MF.bs dX6_shelf_124 3 rfl ?_
  refine r_ite (GIM mtX6_shelf 2 M0) (fun h_17 => ?_) (fun h_17 => ?_)
  · have hp := hp.1 h_17
    refine r_if_eq_t MF.bs (tgt := 138) dX6_shelf_126 (by decide) h_17 ?_
    refine r_iconst MF.bs dX6_shelf_138 (v := 0) (by decide) ?_
    refine r_sub [] [] rfl ?_
    exact cX6_shelf_139 M0 0 v1 (upm M 61 k1.toNatClampNeg k0) hp
  · have hp := hp.2 h_17
    refine r_if_eq_f MF.bs (tgt := 138) dX6_shelf_126 (by decide) h_17 ?_
    obtain ⟨hq_18, hp⟩ := hp
    refine r_aload_n MF.bs dX6_shelf_129 rfl 0 rfl ?_
    refine r_getR MF.bs dX6_shelf_130 rfl rfl 19 (by decide) wd_894 rfl ?_
    refine r_iload_n MF.bs dX6_shelf_133 rfl 2 rfl ?_
    refine r_iaload MF.bs dX6_shelf_134 rfl hq_18 ?_
    refine r_goto MF.bs dX6_shelf_135 (tgt := 139) (by decide) ?_
    refine r_sub [] [] rfl ?_
    exact cX6_shelf_139 M0 ((upm M 61 k1.toNatClampNeg k0) 58 v3.toNatClampNeg) v1 (upm M 61 k1.toNatClampNeg k0) hp
def mX6_shelf_89   (v1 : Int32) (v2 : Int32) (v3 : Int32) (v4 : Int32) (k0 : Int32) (k1 : Int32) (M : Mem) : Int32 × Mem := (if v2 = 0 then (mX6_shelf_118 v1 v3 v4 v3 v1 (upm M 60 k1.toNatClampNeg k0)) else (if v4 = 0 then (mX6_shelf_118 v1 v3 v4 0 v1 (upm M 60 k1.toNatClampNeg k0)) else (mX6_shelf_118 v1 v3 v4 ((upm M 60 k1.toNatClampNeg k0) 57 v3.toNatClampNeg) v1 (upm M 60 k1.toNatClampNeg k0))))
def PX6_shelf_89   (v1 : Int32) (v2 : Int32) (v3 : Int32) (v4 : Int32) (k0 : Int32) (k1 : Int32) (M : Mem) : Prop := vp_in k1 4 ∧ (((v2 = 0 → PX6_shelf_118 v1 v3 v4 v3 v1 (upm M 60 k1.toNatClampNeg k0)) ∧ (¬ v2 = 0 → ((v4 = 0 → PX6_shelf_118 v1 v3 v4 0 v1 (upm M 60 k1.toNatClampNeg k0)) ∧ (¬ v4 = 0 → vp_in v3 4 ∧ (PX6_shelf_118 v1 v3 v4 ((upm M 60 k1.toNatClampNeg k0) 57 v3.toNatClampNeg) v1 (upm M 60 k1.toNatClampNeg k0)))))))
set_option maxRecDepth 100000 in
theorem cX6_shelf_89    (M0 : Mem) (v1 : Int32) (v2 : Int32) (v3 : Int32) (v4 : Int32) (k0 : Int32) (k1 : Int32) (M : Mem) (hp : PX6_shelf_89 v1 v2 v3 v4 k0 k1 M) : AWP (GIM mtX6_shelf 2 M0 (mX6_shelf_89 v1 v2 v3 v4 k0 k1 M)) mtX6_shelf 89 [(0, .ref 46), (1, .int v1), (2, .int v2), (3, .int v3), (4, .int v4)] [.int k0, .int k1, .ref 60] M := by
  unfold mX6_shelf_89
  unfold PX6_shelf_89 at hp
  obtain ⟨hq_12, hp⟩ := hp
  refine r_iastore MF.bs dX6_shelf_89 rfl hq_12 ?_
  refine r_aload_n MF.bs dX6_shelf_90 rfl 0 rfl ?_
  refine r_getR MF.bs dX6_shelf_91 rfl rfl 22 (by decide) wd_897 rfl ?_
  refine r_iload_n MF.bs dX6_shelf_94 rfl 1 rfl ?_
  refine r_iload_n MF.bs dX6_shelf_95 rfl 2 rfl ?_
  refine r_ite (GIM mtX6_shelf 2 M0) (fun h_13 => ?_) (fun h_13 => ?_)
  · have hp := hp.1 h_13
    refine r_if_ne_f MF.bs (tgt := 103) dX6_shelf_96 (by decide) h_13 ?_
    refine r_iload_n MF.bs dX6_shelf_99 rfl 3 rfl ?_
    refine r_goto MF.bs dX6_shelf_100 (tgt := 118) (by decide) ?_
    refine r_sub [(0, .ref 46), (1, .int v1), (3, .int v3), (4, .int v4)] [0, 1, 3, 4] rfl ?_
    exact cX6_shelf_118 M0 v1 v3 v4 v3 v1 (upm M 60 k1.toNatClampNeg k0) hp
  · have hp := hp.2 h_13
    refine r_if_ne_t MF.bs (tgt := 103) dX6_shelf_96 (by decide) h_13 ?_
    refine r_iload MF.bs dX6_shelf_103 4 rfl ?_
    refine r_ite (GIM mtX6_shelf 2 M0) (fun h_14 => ?_) (fun h_14 => ?_)
    · have hp := hp.1 h_14
      refine r_if_eq_t MF.bs (tgt := 117) dX6_shelf_105 (by decide) h_14 ?_
      refine r_iconst MF.bs dX6_shelf_117 (v := 0) (by decide) ?_
      refine r_sub [(0, .ref 46), (1, .int v1), (3, .int v3), (4, .int v4)] [0, 1, 3, 4] rfl ?_
      exact cX6_shelf_118 M0 v1 v3 v4 0 v1 (upm M 60 k1.toNatClampNeg k0) hp
    · have hp := hp.2 h_14
      refine r_if_eq_f MF.bs (tgt := 117) dX6_shelf_105 (by decide) h_14 ?_
      obtain ⟨hq_15, hp⟩ := hp
      refine r_aload_n MF.bs dX6_shelf_108 rfl 0 rfl ?_
      refine r_getR MF.bs dX6_shelf_109 rfl rfl 18 (by decide) wd_893 rfl ?_
      refine r_iload_n MF.bs dX6_shelf_112 rfl 3 rfl ?_
      refine r_iaload MF.bs dX6_shelf_113 rfl hq_15 ?_
      refine r_goto MF.bs dX6_shelf_114 (tgt := 118) (by decide) ?_
      refine r_sub [(0, .ref 46), (1, .int v1), (3, .int v3), (4, .int v4)] [0, 1, 3, 4] rfl ?_
      exact cX6_shelf_118 M0 v1 v3 v4 ((upm M 60 k1.toNatClampNeg k0) 57 v3.toNatClampNeg) v1 (upm M 60 k1.toNatClampNeg k0) hp
def mX6_shelf_64   (v1 : Int32) (v2 : Int32) (v3 : Int32) (k0 : Int32) (M : Mem) : Int32 × Mem := (if v2 = 0 then (mX6_shelf_89 v1 v2 v3 k0 1 v1 M) else (if k0 = 0 then (mX6_shelf_89 v1 v2 v3 k0 0 v1 M) else (mX6_shelf_89 v1 v2 v3 k0 2 v1 M)))
def PX6_shelf_64   (v1 : Int32) (v2 : Int32) (v3 : Int32) (k0 : Int32) (M : Mem) : Prop := ((v2 = 0 → PX6_shelf_89 v1 v2 v3 k0 1 v1 M) ∧ (¬ v2 = 0 → ((k0 = 0 → PX6_shelf_89 v1 v2 v3 k0 0 v1 M) ∧ (¬ k0 = 0 → PX6_shelf_89 v1 v2 v3 k0 2 v1 M))))
set_option maxRecDepth 100000 in
theorem cX6_shelf_64    (M0 : Mem) (v1 : Int32) (v2 : Int32) (v3 : Int32) (k0 : Int32) (M : Mem) (hp : PX6_shelf_64 v1 v2 v3 k0 M) : AWP (GIM mtX6_shelf 2 M0 (mX6_shelf_64 v1 v2 v3 k0 M)) mtX6_shelf 64 [(0, .ref 46), (1, .int v1), (2, .int v2), (3, .int v3)] [.int k0] M := by
  unfold mX6_shelf_64
  unfold PX6_shelf_64 at hp
  refine r_istore MF.bs (lv' := [(4, .int k0), (0, .ref 46), (1, .int v1), (2, .int v2), (3, .int v3)]) dX6_shelf_64 (by decide) rfl ?_
  refine r_aload_n MF.bs dX6_shelf_66 rfl 1 rfl ?_
  refine r_getR MF.bs dX6_shelf_67 rfl rfl 21 (by decide) wd_896 rfl ?_
  refine r_iload_n MF.bs dX6_shelf_70 rfl 2 rfl ?_
  refine r_iload_n MF.bs dX6_shelf_71 rfl 3 rfl ?_
  refine r_ite (GIM mtX6_shelf 2 M0) (fun h_10 => ?_) (fun h_10 => ?_)
  · have hp := hp.1 h_10
    refine r_if_ne_f MF.bs (tgt := 79) dX6_shelf_72 (by decide) h_10 ?_
    refine r_iconst MF.bs dX6_shelf_75 (v := 1) (by decide) ?_
    refine r_goto MF.bs dX6_shelf_76 (tgt := 89) (by decide) ?_
    refine r_sub [(0, .ref 46), (1, .int v1), (2, .int v2), (3, .int v3), (4, .int k0)] [1, 2, 3, 4, 0] rfl ?_
    exact cX6_shelf_89 M0 v1 v2 v3 k0 1 v1 M hp
  · have hp := hp.2 h_10
    refine r_if_ne_t MF.bs (tgt := 79) dX6_shelf_72 (by decide) h_10 ?_
    refine r_iload MF.bs dX6_shelf_79 0 rfl ?_
    refine r_ite (GIM mtX6_shelf 2 M0) (fun h_11 => ?_) (fun h_11 => ?_)
    · have hp := hp.1 h_11
      refine r_if_eq_t MF.bs (tgt := 88) dX6_shelf_81 (by decide) h_11 ?_
      refine r_iconst MF.bs dX6_shelf_88 (v := 0) (by decide) ?_
      refine r_sub [(0, .ref 46), (1, .int v1), (2, .int v2), (3, .int v3), (4, .int k0)] [1, 2, 3, 4, 0] rfl ?_
      exact cX6_shelf_89 M0 v1 v2 v3 k0 0 v1 M hp
    · have hp := hp.2 h_11
      refine r_if_eq_f MF.bs (tgt := 88) dX6_shelf_81 (by decide) h_11 ?_
      refine r_iconst MF.bs dX6_shelf_84 (v := 2) (by decide) ?_
      refine r_goto MF.bs dX6_shelf_85 (tgt := 89) (by decide) ?_
      refine r_sub [(0, .ref 46), (1, .int v1), (2, .int v2), (3, .int v3), (4, .int k0)] [1, 2, 3, 4, 0] rfl ?_
      exact cX6_shelf_89 M0 v1 v2 v3 k0 2 v1 M hp
def mX6_shelf_63   (v1 : Int32) (v2 : Int32) (v3 : Int32) (M : Mem) : Int32 × Mem := (mX6_shelf_64 v1 v2 v3 0 M)
def PX6_shelf_63   (v1 : Int32) (v2 : Int32) (v3 : Int32) (M : Mem) : Prop := PX6_shelf_64 v1 v2 v3 0 M
set_option maxRecDepth 100000 in
theorem cX6_shelf_63    (M0 : Mem) (v1 : Int32) (v2 : Int32) (v3 : Int32) (M : Mem) (hp : PX6_shelf_63 v1 v2 v3 M) : AWP (GIM mtX6_shelf 2 M0 (mX6_shelf_63 v1 v2 v3 M)) mtX6_shelf 63 [(0, .ref 46), (1, .int v1), (2, .int v2), (3, .int v3)] [] M := by
  unfold mX6_shelf_63
  unfold PX6_shelf_63 at hp
  refine r_iconst MF.bs dX6_shelf_63 (v := 0) (by decide) ?_
  exact cX6_shelf_64 M0 v1 v2 v3 0 M hp
def mX6_shelf_45   (v1 : Int32) (v2 : Int32) (v3 : Int32) (M : Mem) : Int32 × Mem := (if v2 = 1 then (if (M 57 v3.toNatClampNeg) < 0 then (mX6_shelf_63 v1 v2 v3 M) else (mX6_shelf_64 v1 v2 v3 1 M)) else (mX6_shelf_63 v1 v2 v3 M))
def PX6_shelf_45   (v1 : Int32) (v2 : Int32) (v3 : Int32) (M : Mem) : Prop := ((v2 = 1 → vp_in v3 4 ∧ ((((M 57 v3.toNatClampNeg) < 0 → PX6_shelf_63 v1 v2 v3 M) ∧ (¬ (M 57 v3.toNatClampNeg) < 0 → PX6_shelf_64 v1 v2 v3 1 M)))) ∧ (¬ v2 = 1 → PX6_shelf_63 v1 v2 v3 M))
set_option maxRecDepth 100000 in
theorem cX6_shelf_45    (M0 : Mem) (v1 : Int32) (v2 : Int32) (v3 : Int32) (M : Mem) (hp : PX6_shelf_45 v1 v2 v3 M) : AWP (GIM mtX6_shelf 2 M0 (mX6_shelf_45 v1 v2 v3 M)) mtX6_shelf 45 [(0, .ref 46), (1, .int v1), (2, .int v2), (3, .int v3)] [] M := by
  unfold mX6_shelf_45
  unfold PX6_shelf_45 at hp
  refine r_iload_n MF.bs dX6_shelf_45 rfl 2 rfl ?_
  refine r_iconst MF.bs dX6_shelf_46 (v := 1) (by decide) ?_
  refine r_ite (GIM mtX6_shelf 2 M0) (fun h_7 => ?_) (fun h_7 => ?_)
  · have hp := hp.1 h_7
    refine r_icmp_ne_f MF.bs (tgt := 63) dX6_shelf_47 (by decide) h_7 ?_
    obtain ⟨hq_8, hp⟩ := hp
    refine r_aload_n MF.bs dX6_shelf_50 rfl 0 rfl ?_
    refine r_getR MF.bs dX6_shelf_51 rfl rfl 18 (by decide) wd_893 rfl ?_
    refine r_iload_n MF.bs dX6_shelf_54 rfl 3 rfl ?_
    refine r_iaload MF.bs dX6_shelf_55 rfl hq_8 ?_
    refine r_ite (GIM mtX6_shelf 2 M0) (fun h_9 => ?_) (fun h_9 => ?_)
    · have hp := hp.1 h_9
      refine r_if_lt_t MF.bs (tgt := 63) dX6_shelf_56 (by decide) h_9 ?_
      exact cX6_shelf_63 M0 v1 v2 v3 M hp
    · have hp := hp.2 h_9
      refine r_if_lt_f MF.bs (tgt := 63) dX6_shelf_56 (by decide) h_9 ?_
      refine r_iconst MF.bs dX6_shelf_59 (v := 1) (by decide) ?_
      refine r_goto MF.bs dX6_shelf_60 (tgt := 64) (by decide) ?_
      exact cX6_shelf_64 M0 v1 v2 v3 1 M hp
  · have hp := hp.2 h_7
    refine r_icmp_ne_t MF.bs (tgt := 63) dX6_shelf_47 (by decide) h_7 ?_
    exact cX6_shelf_63 M0 v1 v2 v3 M hp
def mX6_shelf_31   (v1 : Int32) (v2 : Int32) (v3 : Int32) (M : Mem) : Int32 × Mem := (if v2 = 1 then (if (mX6_isSheet v3) = true then (mX6_shelf_45 v1 v2 v3 M) else ((-1), M)) else (mX6_shelf_45 v1 v2 v3 M))
def PX6_shelf_31   (v1 : Int32) (v2 : Int32) (v3 : Int32) (M : Mem) : Prop := ((v2 = 1 → ((mX6_isSheet v3) = true → PX6_shelf_45 v1 v2 v3 M)) ∧ (¬ v2 = 1 → PX6_shelf_45 v1 v2 v3 M))
set_option maxRecDepth 100000 in
theorem cX6_shelf_31    (M0 : Mem) (v1 : Int32) (v2 : Int32) (v3 : Int32) (M : Mem) (hp : PX6_shelf_31 v1 v2 v3 M) : AWP (GIM mtX6_shelf 2 M0 (mX6_shelf_31 v1 v2 v3 M)) mtX6_shelf 31 [(0, .ref 46), (1, .int v1), (2, .int v2), (3, .int v3)] [] M := by
  unfold mX6_shelf_31
  unfold PX6_shelf_31 at hp
  refine r_iload_n MF.bs dX6_shelf_31 rfl 2 rfl ?_
  refine r_iconst MF.bs dX6_shelf_32 (v := 1) (by decide) ?_
  refine r_ite (GIM mtX6_shelf 2 M0) (fun h_5 => ?_) (fun h_5 => ?_)
  · have hp := hp.1 h_5
    refine r_icmp_ne_f MF.bs (tgt := 45) dX6_shelf_33 (by decide) h_5 ?_
    refine r_iload_n MF.bs dX6_shelf_36 rfl 3 rfl ?_
    refine r_callS_v MF.bs (st := []) dX6_shelf_37 (ctX6_isSheet v3 M) miX6_isSheet wd_1253 rfl (by decide) rfl (Nat.le_of_ble_eq_true rfl) ?_
    refine r_ite (GIM mtX6_shelf 2 M0) (fun h_6 => ?_) (fun h_6 => ?_)
    · have hp := hp h_6
      refine r_if_ne_t MF.bs (tgt := 45) dX6_shelf_40 (by decide) (b2i_1 h_6) ?_
      exact cX6_shelf_45 M0 v1 v2 v3 M hp
    · refine r_if_ne_f MF.bs (tgt := 45) dX6_shelf_40 (by decide) (b2i_0 h_6) ?_
      refine r_iconst MF.bs dX6_shelf_43 (v := -1) (by decide) ?_
      exact r_iret dX6_shelf_44 rfl
  · have hp := hp.2 h_5
    refine r_icmp_ne_t MF.bs (tgt := 45) dX6_shelf_33 (by decide) h_5 ?_
    exact cX6_shelf_45 M0 v1 v2 v3 M hp
def mX6_shelf  (a1 : Int32) (a2 : Int32) (a3 : Int32) (M : Mem) : Int32 × Mem := (if (mX6_isShelf a1) = true then (if (mX6_isIn ((a2 : Int32).toInt64) 0 2) = true then (if a2 = 0 then (if (mX6_isOne a3 M) = true then (mX6_shelf_31 a1 a2 a3 M) else ((-1), M)) else (mX6_shelf_31 a1 a2 a3 M)) else ((-1), M)) else ((-1), M))
def PX6_shelf  (a1 : Int32) (a2 : Int32) (a3 : Int32) (M : Mem) : Prop := ((mX6_isShelf a1) = true → ((mX6_isIn ((a2 : Int32).toInt64) 0 2) = true → ((a2 = 0 → ((mX6_isOne a3 M) = true → PX6_shelf_31 a1 a2 a3 M)) ∧ (¬ a2 = 0 → PX6_shelf_31 a1 a2 a3 M))))
set_option maxRecDepth 100000 in
theorem ctX6_shelf   (a1 : Int32) (a2 : Int32) (a3 : Int32) (M : Mem) (hp : PX6_shelf a1 a2 a3 M) : CT mtX6_shelf 2 [.ref 46, .int a1, .int a2, .int a3] M (some (.int ((mX6_shelf a1 a2 a3 M).1)), (mX6_shelf a1 a2 a3 M).2) := by
  refine CT.of (by decide) rfl (Nat.le_of_ble_eq_true rfl) ?_
  show AWP (GIM mtX6_shelf 2 M (mX6_shelf a1 a2 a3 M)) mtX6_shelf 0 [(0, .ref 46), (1, .int a1), (2, .int a2), (3, .int a3)] [] M
  unfold mX6_shelf
  unfold PX6_shelf at hp
  refine r_iload_n MF.bs dX6_shelf_0 rfl 1 rfl ?_
  refine r_callS_v MF.bs (st := []) dX6_shelf_1 (ctX6_isShelf a1 M) miX6_isShelf wd_1325 rfl (by decide) rfl (Nat.le_of_ble_eq_true rfl) ?_
  refine r_ite (GIM mtX6_shelf 2 M) (fun h_1 => ?_) (fun h_1 => ?_)
  · have hp := hp h_1
    refine r_if_eq_f MF.bs (tgt := 43) dX6_shelf_4 (by decide) (b2i_1 h_1) ?_
    refine r_iload_n MF.bs dX6_shelf_7 rfl 2 rfl ?_
    refine r_i2l MF.bs dX6_shelf_8 ?_
    refine r_lconst MF.bs dX6_shelf_9 (v := 0) (by decide) ?_
    refine r_ldc2 MF.bs (v := 2) dX6_shelf_10 wd_1289 ?_
    refine r_callS_v MF.bs (st := []) dX6_shelf_13 (ctX6_isIn ((a2 : Int32).toInt64) 0 2 M) miX6_isIn wd_971 rfl (by decide) rfl (Nat.le_of_ble_eq_true rfl) ?_
    refine r_ite (GIM mtX6_shelf 2 M) (fun h_2 => ?_) (fun h_2 => ?_)
    · have hp := hp h_2
      refine r_if_eq_f MF.bs (tgt := 43) dX6_shelf_16 (by decide) (b2i_1 h_2) ?_
      refine r_iload_n MF.bs dX6_shelf_19 rfl 2 rfl ?_
      refine r_ite (GIM mtX6_shelf 2 M) (fun h_3 => ?_) (fun h_3 => ?_)
      · have hp := hp.1 h_3
        refine r_if_ne_f MF.bs (tgt := 31) dX6_shelf_20 (by decide) h_3 ?_
        refine r_aload_n MF.bs dX6_shelf_23 rfl 0 rfl ?_
        refine r_iload_n MF.bs dX6_shelf_24 rfl 3 rfl ?_
        refine r_callV_v MF.bs (st := []) dX6_shelf_25 (ctX6_isOne a3 M) miX6_isOne wd_1079 rfl (by decide) rfl (Nat.le_of_ble_eq_true rfl) rfl rfl rfl ?_
        refine r_ite (GIM mtX6_shelf 2 M) (fun h_4 => ?_) (fun h_4 => ?_)
        · have hp := hp h_4
          refine r_if_eq_f MF.bs (tgt := 43) dX6_shelf_28 (by decide) (b2i_1 h_4) ?_
          exact cX6_shelf_31 M a1 a2 a3 M hp
        · refine r_if_eq_t MF.bs (tgt := 43) dX6_shelf_28 (by decide) (b2i_0 h_4) ?_
          refine r_iconst MF.bs dX6_shelf_43 (v := -1) (by decide) ?_
          exact r_iret dX6_shelf_44 rfl
      · have hp := hp.2 h_3
        refine r_if_ne_t MF.bs (tgt := 31) dX6_shelf_20 (by decide) h_3 ?_
        exact cX6_shelf_31 M a1 a2 a3 M hp
    · refine r_if_eq_t MF.bs (tgt := 43) dX6_shelf_16 (by decide) (b2i_0 h_2) ?_
      refine r_iconst MF.bs dX6_shelf_43 (v := -1) (by decide) ?_
      exact r_iret dX6_shelf_44 rfl
  · refine r_if_eq_t MF.bs (tgt := 43) dX6_shelf_4 (by decide) (b2i_0 h_1) ?_
    refine r_iconst MF.bs dX6_shelf_43 (v := -1) (by decide) ?_
    exact r_iret dX6_shelf_44 rfl
abbrev mtX6_heldOn : MT := (RX6, yX6_heldOn, cX6_heldOn, 2, (some .int))
theorem miX6_heldOn : MV mtX6_heldOn 1 := ⟨wd_1337, ⟨wd_1336, wd_67⟩, wd_86, ⟨by decide, by decide, by decide +kernel⟩, by decide⟩
def mX6_heldOn_27   (v1 : Int32) (M : Mem) : Int32 := (M 60 v1.toNatClampNeg)
def PX6_heldOn_27   (v1 : Int32) (M : Mem) : Prop := vp_in v1 4
set_option maxRecDepth 100000 in
theorem cX6_heldOn_27    (v1 : Int32) (M : Mem) (hp : PX6_heldOn_27 v1 M) : AWP (GI mtX6_heldOn 1 M M (mX6_heldOn_27 v1 M)) mtX6_heldOn 27 [(0, .ref 46), (1, .int v1)] [] M := by
  unfold mX6_heldOn_27
  unfold PX6_heldOn_27 at hp
  have hq_5 := hp
  refine r_aload_n MF.bs dX6_heldOn_27 rfl 0 rfl ?_
  refine r_getR MF.bs dX6_heldOn_28 rfl rfl 21 (by decide) wd_896 rfl ?_
  refine r_iload_n MF.bs dX6_heldOn_31 rfl 1 rfl ?_
  refine r_iaload MF.bs dX6_heldOn_32 rfl hq_5 ?_
  exact r_iret dX6_heldOn_33 rfl
def mX6_heldOn  (a1 : Int32) (M : Mem) : Int32 := (if (M 60 a1.toNatClampNeg) = 1 then (if (mX6_isOne (M 61 a1.toNatClampNeg) M) = true then (mX6_heldOn_27 a1 M) else 0) else (mX6_heldOn_27 a1 M))
def PX6_heldOn  (a1 : Int32) (M : Mem) : Prop := vp_in a1 4 ∧ ((((M 60 a1.toNatClampNeg) = 1 → vp_in a1 4 ∧ (((mX6_isOne (M 61 a1.toNatClampNeg) M) = true → PX6_heldOn_27 a1 M))) ∧ (¬ (M 60 a1.toNatClampNeg) = 1 → PX6_heldOn_27 a1 M)))
set_option maxRecDepth 100000 in
theorem ctX6_heldOn   (a1 : Int32) (M : Mem) (hp : PX6_heldOn a1 M) : CT mtX6_heldOn 1 [.ref 46, .int a1] M (some (.int (mX6_heldOn a1 M)), M) := by
  refine CT.of (by decide) rfl (Nat.le_of_ble_eq_true rfl) ?_
  show AWP (GI mtX6_heldOn 1 M M (mX6_heldOn a1 M)) mtX6_heldOn 0 [(0, .ref 46), (1, .int a1)] [] M
  unfold mX6_heldOn
  unfold PX6_heldOn at hp
  obtain ⟨hq_1, hp⟩ := hp
  refine r_aload_n MF.bs dX6_heldOn_0 rfl 0 rfl ?_
  refine r_getR MF.bs dX6_heldOn_1 rfl rfl 21 (by decide) wd_896 rfl ?_
  refine r_iload_n MF.bs dX6_heldOn_4 rfl 1 rfl ?_
  refine r_iaload MF.bs dX6_heldOn_5 rfl hq_1 ?_
  refine r_iconst MF.bs dX6_heldOn_6 (v := 1) (by decide) ?_
  refine r_ite (GI mtX6_heldOn 1 M M) (fun h_2 => ?_) (fun h_2 => ?_)
  · have hp := hp.1 h_2
    refine r_icmp_ne_f MF.bs (tgt := 27) dX6_heldOn_7 (by decide) h_2 ?_
    obtain ⟨hq_3, hp⟩ := hp
    refine r_aload_n MF.bs dX6_heldOn_10 rfl 0 rfl ?_
    refine r_aload_n MF.bs dX6_heldOn_11 rfl 0 rfl ?_
    refine r_getR MF.bs dX6_heldOn_12 rfl rfl 22 (by decide) wd_897 rfl ?_
    refine r_iload_n MF.bs dX6_heldOn_15 rfl 1 rfl ?_
    refine r_iaload MF.bs dX6_heldOn_16 rfl hq_3 ?_
    refine r_callV_v MF.bs (st := []) dX6_heldOn_17 (ctX6_isOne (M 61 a1.toNatClampNeg) M) miX6_isOne wd_1079 rfl (by decide) rfl (Nat.le_of_ble_eq_true rfl) rfl rfl rfl ?_
    refine r_ite (GI mtX6_heldOn 1 M M) (fun h_4 => ?_) (fun h_4 => ?_)
    · have hp := hp h_4
      refine r_if_ne_t MF.bs (tgt := 27) dX6_heldOn_20 (by decide) (b2i_1 h_4) ?_
      exact cX6_heldOn_27 a1 M hp
    · refine r_if_ne_f MF.bs (tgt := 27) dX6_heldOn_20 (by decide) (b2i_0 h_4) ?_
      refine r_iconst MF.bs dX6_heldOn_23 (v := 0) (by decide) ?_
      refine r_goto MF.bs dX6_heldOn_24 (tgt := 33) (by decide) ?_
      exact r_iret dX6_heldOn_33 rfl
  · have hp := hp.2 h_2
    refine r_icmp_ne_t MF.bs (tgt := 27) dX6_heldOn_7 (by decide) h_2 ?_
    exact cX6_heldOn_27 a1 M hp
abbrev mtX6_taken : MT := (RX6, yX6_taken, cX6_taken, 4, (some .int))
theorem miX6_taken : MV mtX6_taken 2 := ⟨wd_1331, ⟨wd_1329, wd_1330⟩, wd_86, ⟨by decide, by decide, by decide +kernel⟩, by decide⟩
def mX6_taken  (a1 : Int32) (a2 : Int32) (M : Mem) : Int32 := (if (mX6_isShelf a1) = true then (if (mX6_isIn ((a2 : Int32).toInt64) 0 13) = true then (if (mX6_isIn ((a2 : Int32).toInt64) 6 9) = true then (-1) else (if (mX6_heldOn a1 M) = 0 then (-11) else (if 10 ≤ a2 then (if (mX6_heldOn a1 M) = 2 then (if (M 61 a1.toNatClampNeg) = (a2 - 10) then (M 62 a1.toNatClampNeg) else (-13)) else (-13)) else (if (mX6_heldOn a1 M) = 1 then (if (mX6_isUnder (mX6_its (M 61 a1.toNatClampNeg) 0 M) a2 M) = true then (M 61 a1.toNatClampNeg) else (-13)) else (-13))))) else (-1)) else (-1))
def PX6_taken  (a1 : Int32) (a2 : Int32) (M : Mem) : Prop := ((mX6_isShelf a1) = true → ((mX6_isIn ((a2 : Int32).toInt64) 0 13) = true → (¬ (mX6_isIn ((a2 : Int32).toInt64) 6 9) = true → PX6_heldOn a1 M ∧ ((¬ (mX6_heldOn a1 M) = 0 → ((10 ≤ a2 → ((mX6_heldOn a1 M) = 2 → vp_in a1 4 ∧ (((M 61 a1.toNatClampNeg) = (a2 - 10) → vp_in a1 4)))) ∧ (¬ 10 ≤ a2 → ((mX6_heldOn a1 M) = 1 → vp_in a1 4 ∧ (PX6_its (M 61 a1.toNatClampNeg) 0 M ∧ (PX6_isUnder (mX6_its (M 61 a1.toNatClampNeg) 0 M) a2 M ∧ (((mX6_isUnder (mX6_its (M 61 a1.toNatClampNeg) 0 M) a2 M) = true → vp_in a1 4))))))))))))
set_option maxRecDepth 100000 in
theorem ctX6_taken   (a1 : Int32) (a2 : Int32) (M : Mem) (hp : PX6_taken a1 a2 M) : CT mtX6_taken 2 [.ref 46, .int a1, .int a2] M (some (.int (mX6_taken a1 a2 M)), M) := by
  refine CT.of (by decide) rfl (Nat.le_of_ble_eq_true rfl) ?_
  show AWP (GI mtX6_taken 2 M M (mX6_taken a1 a2 M)) mtX6_taken 0 [(0, .ref 46), (1, .int a1), (2, .int a2)] [] M
  unfold mX6_taken
  unfold PX6_taken at hp
  refine r_iload_n MF.bs dX6_taken_0 rfl 1 rfl ?_
  refine r_callS_v MF.bs (st := []) dX6_taken_1 (ctX6_isShelf a1 M) miX6_isShelf wd_1325 rfl (by decide) rfl (Nat.le_of_ble_eq_true rfl) ?_
  refine r_ite (GI mtX6_taken 2 M M) (fun h_1 => ?_) (fun h_1 => ?_)
  · have hp := hp h_1
    refine r_if_eq_f MF.bs (tgt := 33) dX6_taken_4 (by decide) (b2i_1 h_1) ?_
    refine r_iload_n MF.bs dX6_taken_7 rfl 2 rfl ?_
    refine r_i2l MF.bs dX6_taken_8 ?_
    refine r_lconst MF.bs dX6_taken_9 (v := 0) (by decide) ?_
    refine r_ldc2 MF.bs (v := 13) dX6_taken_10 wd_1332 ?_
    refine r_callS_v MF.bs (st := []) dX6_taken_13 (ctX6_isIn ((a2 : Int32).toInt64) 0 13 M) miX6_isIn wd_971 rfl (by decide) rfl (Nat.le_of_ble_eq_true rfl) ?_
    refine r_ite (GI mtX6_taken 2 M M) (fun h_2 => ?_) (fun h_2 => ?_)
    · have hp := hp h_2
      refine r_if_eq_f MF.bs (tgt := 33) dX6_taken_16 (by decide) (b2i_1 h_2) ?_
      refine r_iload_n MF.bs dX6_taken_19 rfl 2 rfl ?_
      refine r_i2l MF.bs dX6_taken_20 ?_
      refine r_ldc2 MF.bs (v := 6) dX6_taken_21 wd_1333 ?_
      refine r_ldc2 MF.bs (v := 9) dX6_taken_24 wd_1058 ?_
      refine r_callS_v MF.bs (st := []) dX6_taken_27 (ctX6_isIn ((a2 : Int32).toInt64) 6 9 M) miX6_isIn wd_971 rfl (by decide) rfl (Nat.le_of_ble_eq_true rfl) ?_
      refine r_ite (GI mtX6_taken 2 M M) (fun h_3 => ?_) (fun h_3 => ?_)
      · refine r_if_eq_f MF.bs (tgt := 35) dX6_taken_30 (by decide) (b2i_1 h_3) ?_
        refine r_iconst MF.bs dX6_taken_33 (v := -1) (by decide) ?_
        exact r_iret dX6_taken_34 rfl
      · have hp := hp h_3
        refine r_if_eq_t MF.bs (tgt := 35) dX6_taken_30 (by decide) (b2i_0 h_3) ?_
        obtain ⟨hq_4, hp⟩ := hp
        refine r_aload_n MF.bs dX6_taken_35 rfl 0 rfl ?_
        refine r_iload_n MF.bs dX6_taken_36 rfl 1 rfl ?_
        refine r_callV_v MF.bs (st := []) dX6_taken_37 (ctX6_heldOn a1 M hq_4) miX6_heldOn wd_1334 rfl (by decide) rfl (Nat.le_of_ble_eq_true rfl) rfl rfl rfl ?_
        refine r_istore_n MF.bs (lv' := [(3, .int (mX6_heldOn a1 M)), (0, .ref 46), (1, .int a1), (2, .int a2)]) dX6_taken_40 rfl (by decide) rfl ?_
        refine r_iload_n MF.bs dX6_taken_41 rfl 0 rfl ?_
        refine r_ite (GI mtX6_taken 2 M M) (fun h_5 => ?_) (fun h_5 => ?_)
        · refine r_if_ne_f MF.bs (tgt := 48) dX6_taken_42 (by decide) h_5 ?_
          refine r_bipush MF.bs dX6_taken_45 (v := -11) (by decide) ?_
          exact r_iret dX6_taken_47 rfl
        · have hp := hp h_5
          refine r_if_ne_t MF.bs (tgt := 48) dX6_taken_42 (by decide) h_5 ?_
          refine r_iload_n MF.bs dX6_taken_48 rfl 3 rfl ?_
          refine r_bipush MF.bs dX6_taken_49 (v := 10) (by decide) ?_
          refine r_ite (GI mtX6_taken 2 M M) (fun h_6 => ?_) (fun h_6 => ?_)
          · have hp := hp.1 h_6
            refine r_icmp_ge_t MF.bs (tgt := 89) dX6_taken_51 (by decide) h_6 ?_
            refine r_iload_n MF.bs dX6_taken_89 rfl 0 rfl ?_
            refine r_iconst MF.bs dX6_taken_90 (v := 2) (by decide) ?_
            refine r_ite (GI mtX6_taken 2 M M) (fun h_7 => ?_) (fun h_7 => ?_)
            · have hp := hp h_7
              refine r_icmp_ne_f MF.bs (tgt := 116) dX6_taken_91 (by decide) h_7 ?_
              obtain ⟨hq_8, hp⟩ := hp
              refine r_aload_n MF.bs dX6_taken_94 rfl 1 rfl ?_
              refine r_getR MF.bs dX6_taken_95 rfl rfl 22 (by decide) wd_897 rfl ?_
              refine r_iload_n MF.bs dX6_taken_98 rfl 2 rfl ?_
              refine r_iaload MF.bs dX6_taken_99 rfl hq_8 ?_
              refine r_iload_n MF.bs dX6_taken_100 rfl 3 rfl ?_
              refine r_bipush MF.bs dX6_taken_101 (v := 10) (by decide) ?_
              refine r_isub MF.bs dX6_taken_103 ?_
              refine r_ite (GI mtX6_taken 2 M M) (fun h_9 => ?_) (fun h_9 => ?_)
              · have hp := hp h_9
                refine r_icmp_ne_f MF.bs (tgt := 116) dX6_taken_104 (by decide) h_9 ?_
                have hq_10 := hp
                refine r_aload_n MF.bs dX6_taken_107 rfl 1 rfl ?_
                refine r_getR MF.bs dX6_taken_108 rfl rfl 23 (by decide) wd_898 rfl ?_
                refine r_iload_n MF.bs dX6_taken_111 rfl 2 rfl ?_
                refine r_iaload MF.bs dX6_taken_112 rfl hq_10 ?_
                refine r_goto MF.bs dX6_taken_113 (tgt := 118) (by decide) ?_
                exact r_iret dX6_taken_118 rfl
              · refine r_icmp_ne_t MF.bs (tgt := 116) dX6_taken_104 (by decide) h_9 ?_
                refine r_bipush MF.bs dX6_taken_116 (v := -13) (by decide) ?_
                exact r_iret dX6_taken_118 rfl
            · refine r_icmp_ne_t MF.bs (tgt := 116) dX6_taken_91 (by decide) h_7 ?_
              refine r_bipush MF.bs dX6_taken_116 (v := -13) (by decide) ?_
              exact r_iret dX6_taken_118 rfl
          · have hp := hp.2 h_6
            refine r_icmp_ge_f MF.bs (tgt := 89) dX6_taken_51 (by decide) h_6 ?_
            refine r_iload_n MF.bs dX6_taken_54 rfl 0 rfl ?_
            refine r_iconst MF.bs dX6_taken_55 (v := 1) (by decide) ?_
            refine r_ite (GI mtX6_taken 2 M M) (fun h_11 => ?_) (fun h_11 => ?_)
            · have hp := hp h_11
              refine r_icmp_ne_f MF.bs (tgt := 86) dX6_taken_56 (by decide) h_11 ?_
              obtain ⟨hq_12, hp⟩ := hp
              obtain ⟨hq_13, hp⟩ := hp
              obtain ⟨hq_14, hp⟩ := hp
              refine r_aload_n MF.bs dX6_taken_59 rfl 1 rfl ?_
              refine r_aload_n MF.bs dX6_taken_60 rfl 1 rfl ?_
              refine r_getR MF.bs dX6_taken_61 rfl rfl 22 (by decide) wd_897 rfl ?_
              refine r_iload_n MF.bs dX6_taken_64 rfl 2 rfl ?_
              refine r_iaload MF.bs dX6_taken_65 rfl hq_12 ?_
              refine r_iconst MF.bs dX6_taken_66 (v := 0) (by decide) ?_
              refine r_callV_v MF.bs (st := []) dX6_taken_67 (ctX6_its (M 61 a1.toNatClampNeg) 0 M hq_13) miX6_its wd_1083 rfl (by decide) rfl (Nat.le_of_ble_eq_true rfl) rfl rfl rfl ?_
              refine r_iload_n MF.bs dX6_taken_70 rfl 3 rfl ?_
              refine r_callS_v MF.bs (st := []) dX6_taken_71 (ctX6_isUnder (mX6_its (M 61 a1.toNatClampNeg) 0 M) a2 M hq_14) miX6_isUnder wd_1338 rfl (by decide) rfl (Nat.le_of_ble_eq_true rfl) ?_
              refine r_ite (GI mtX6_taken 2 M M) (fun h_15 => ?_) (fun h_15 => ?_)
              · have hp := hp h_15
                refine r_if_eq_f MF.bs (tgt := 86) dX6_taken_74 (by decide) (b2i_1 h_15) ?_
                have hq_16 := hp
                refine r_aload_n MF.bs dX6_taken_77 rfl 1 rfl ?_
                refine r_getR MF.bs dX6_taken_78 rfl rfl 22 (by decide) wd_897 rfl ?_
                refine r_iload_n MF.bs dX6_taken_81 rfl 2 rfl ?_
                refine r_iaload MF.bs dX6_taken_82 rfl hq_16 ?_
                refine r_goto MF.bs dX6_taken_83 (tgt := 88) (by decide) ?_
                exact r_iret dX6_taken_88 rfl
              · refine r_if_eq_t MF.bs (tgt := 86) dX6_taken_74 (by decide) (b2i_0 h_15) ?_
                refine r_bipush MF.bs dX6_taken_86 (v := -13) (by decide) ?_
                exact r_iret dX6_taken_88 rfl
            · refine r_icmp_ne_t MF.bs (tgt := 86) dX6_taken_56 (by decide) h_11 ?_
              refine r_bipush MF.bs dX6_taken_86 (v := -13) (by decide) ?_
              exact r_iret dX6_taken_88 rfl
    · refine r_if_eq_t MF.bs (tgt := 33) dX6_taken_16 (by decide) (b2i_0 h_2) ?_
      refine r_iconst MF.bs dX6_taken_33 (v := -1) (by decide) ?_
      exact r_iret dX6_taken_34 rfl
  · refine r_if_eq_t MF.bs (tgt := 33) dX6_taken_4 (by decide) (b2i_0 h_1) ?_
    refine r_iconst MF.bs dX6_taken_33 (v := -1) (by decide) ?_
    exact r_iret dX6_taken_34 rfl
abbrev mtX6_runs : MT := (RX6, yX6_runs, cX6_runs, 2, none)
theorem miX6_runs : MV mtX6_runs 1 := ⟨wd_1356, ⟨wd_1355, wd_70⟩, wd_86, ⟨by decide, by decide, by decide +kernel⟩, by decide⟩
def mX6_runs  (a1 : Int32) (M : Mem) : Mem := (if 30 ≤ (M 46 25) then M else (upm (upm M 63 (M 46 25).toNatClampNeg a1) 46 25 (((upm M 63 (M 46 25).toNatClampNeg a1) 46 25) + 1)))
def PX6_runs  (a1 : Int32) (M : Mem) : Prop := (¬ 30 ≤ (M 46 25) → vp_in (M 46 25) 30)
set_option maxRecDepth 100000 in
theorem ctX6_runs   (a1 : Int32) (M : Mem) (hp : PX6_runs a1 M) : CT mtX6_runs 0 [.ref 46, .int a1] M (none, mX6_runs a1 M) := by
  refine CT.of (by decide) rfl (Nat.le_of_ble_eq_true rfl) ?_
  show AWP (GV mtX6_runs 0 M (mX6_runs a1 M)) mtX6_runs 0 [(0, .ref 46), (1, .int a1)] [] M
  unfold mX6_runs
  unfold PX6_runs at hp
  refine r_aload_n MF.bs dX6_runs_0 rfl 0 rfl ?_
  refine r_getI MF.bs dX6_runs_1 rfl rfl 25 (by decide) wd_900 rfl ?_
  refine r_bipush MF.bs dX6_runs_4 (v := 30) (by decide) ?_
  refine r_ite (GV mtX6_runs 0 M) (fun h_1 => ?_) (fun h_1 => ?_)
  · refine r_icmp_ge_t MF.bs (tgt := 29) dX6_runs_6 (by decide) h_1 ?_
    exact r_vret dX6_runs_29 rfl
  · have hp := hp h_1
    refine r_icmp_ge_f MF.bs (tgt := 29) dX6_runs_6 (by decide) h_1 ?_
    have hq_2 := hp
    refine r_aload_n MF.bs dX6_runs_9 rfl 0 rfl ?_
    refine r_getR MF.bs dX6_runs_10 rfl rfl 24 (by decide) wd_899 rfl ?_
    refine r_aload_n MF.bs dX6_runs_13 rfl 0 rfl ?_
    refine r_getI MF.bs dX6_runs_14 rfl rfl 25 (by decide) wd_900 rfl ?_
    refine r_iload_n MF.bs dX6_runs_17 rfl 1 rfl ?_
    refine r_iastore MF.bs dX6_runs_18 rfl hq_2 ?_
    refine r_aload_n MF.bs dX6_runs_19 rfl 0 rfl ?_
    refine r_dup MF.bs dX6_runs_20 rfl ?_
    refine r_getI MF.bs dX6_runs_21 rfl rfl 25 (by decide) wd_900 rfl ?_
    refine r_iconst MF.bs dX6_runs_24 (v := 1) (by decide) ?_
    refine r_iadd MF.bs dX6_runs_25 ?_
    refine r_putI MF.bs dX6_runs_26 rfl rfl 25 (by decide) wd_900 rfl rfl rfl rfl rfl ?_
    exact r_vret dX6_runs_29 rfl
abbrev mtX6_driftsPlain : MT := (RX6, yX6_driftsPlain, cX6_driftsPlain, 2, (some .int))
theorem miX6_driftsPlain : MV mtX6_driftsPlain 1 := ⟨wd_1360, ⟨wd_1359, wd_71⟩, wd_86, ⟨by decide, by decide, by decide +kernel⟩, by decide⟩
def mX6_driftsPlain_6   (v1 : Int32) (M : Mem) : Int32 × Mem := (((v1 * 9) + (M 46 27)), M)
def PX6_driftsPlain_6   (v1 : Int32) (M : Mem) : Prop := True
set_option maxRecDepth 100000 in
theorem cX6_driftsPlain_6    (M0 : Mem) (v1 : Int32) (M : Mem) (hp : PX6_driftsPlain_6 v1 M) : AWP (GIM mtX6_driftsPlain 1 M0 (mX6_driftsPlain_6 v1 M)) mtX6_driftsPlain 6 [(0, .ref 46), (1, .int v1)] [] M := by
  unfold mX6_driftsPlain_6
  unfold PX6_driftsPlain_6 at hp
  refine r_iload_n MF.bs dX6_driftsPlain_6 rfl 1 rfl ?_
  refine r_bipush MF.bs dX6_driftsPlain_7 (v := 9) (by decide) ?_
  refine r_imul MF.bs dX6_driftsPlain_9 ?_
  refine r_aload_n MF.bs dX6_driftsPlain_10 rfl 0 rfl ?_
  refine r_getI MF.bs dX6_driftsPlain_11 rfl rfl 27 (by decide) wd_902 rfl ?_
  refine r_iadd MF.bs dX6_driftsPlain_14 ?_
  exact r_iret dX6_driftsPlain_15 rfl
def mX6_driftsPlain  (a1 : Int32) (M : Mem) : Int32 × Mem := (mX6_driftsPlain_6 a1 (mX6_runs 10 M))
def PX6_driftsPlain  (a1 : Int32) (M : Mem) : Prop := PX6_runs 10 M ∧ (PX6_driftsPlain_6 a1 (mX6_runs 10 M))
set_option maxRecDepth 100000 in
theorem ctX6_driftsPlain   (a1 : Int32) (M : Mem) (hp : PX6_driftsPlain a1 M) : CT mtX6_driftsPlain 1 [.ref 46, .int a1] M (some (.int ((mX6_driftsPlain a1 M).1)), (mX6_driftsPlain a1 M).2) := by
  refine CT.of (by decide) rfl (Nat.le_of_ble_eq_true rfl) ?_
  show AWP (GIM mtX6_driftsPlain 1 M (mX6_driftsPlain a1 M)) mtX6_driftsPlain 0 [(0, .ref 46), (1, .int a1)] [] M
  unfold mX6_driftsPlain
  unfold PX6_driftsPlain at hp
  obtain ⟨hq_1, hp⟩ := hp
  refine r_aload_n MF.bs dX6_driftsPlain_0 rfl 0 rfl ?_
  refine r_bipush MF.bs dX6_driftsPlain_1 (v := 10) (by decide) ?_
  refine r_callV_n MF.bs (st := []) dX6_driftsPlain_3 (ctX6_runs 10 M hq_1) miX6_runs wd_1353 rfl (by decide) rfl (Nat.le_of_ble_eq_true rfl) rfl rfl rfl ?_
  exact cX6_driftsPlain_6 M a1 (mX6_runs 10 M) hp
abbrev mtX6_driftsOfFog : MT := (RX6, yX6_driftsOfFog, cX6_driftsOfFog, 2, (some .int))
theorem miX6_driftsOfFog : MV mtX6_driftsOfFog 1 := ⟨wd_1352, ⟨wd_1351, wd_69⟩, wd_86, ⟨by decide, by decide, by decide +kernel⟩, by decide⟩
def mX6_driftsOfFog_12   (k0 : Int32) (k1 : Int32) (M : Mem) : Int32 × Mem := ((k1 - k0), M)
def PX6_driftsOfFog_12   (k0 : Int32) (k1 : Int32) (M : Mem) : Prop := True
set_option maxRecDepth 100000 in
theorem cX6_driftsOfFog_12    (M0 : Mem) (k0 : Int32) (k1 : Int32) (M : Mem) (hp : PX6_driftsOfFog_12 k0 k1 M) : AWP (GIM mtX6_driftsOfFog 2 M0 (mX6_driftsOfFog_12 k0 k1 M)) mtX6_driftsOfFog 12 [] [.int k0, .int k1] M := by
  unfold mX6_driftsOfFog_12
  unfold PX6_driftsOfFog_12 at hp
  refine r_isub MF.bs dX6_driftsOfFog_12 ?_
  exact r_iret dX6_driftsOfFog_13 rfl
def mX6_driftsOfFog_6   (v1 : Int32) (M : Mem) : Int32 × Mem := (mX6_driftsOfFog_12 ((mX6_driftsPlain v1 M).1) 0 ((mX6_driftsPlain v1 M).2))
def PX6_driftsOfFog_6   (v1 : Int32) (M : Mem) : Prop := PX6_driftsPlain v1 M ∧ (PX6_driftsOfFog_12 ((mX6_driftsPlain v1 M).1) 0 ((mX6_driftsPlain v1 M).2))
set_option maxRecDepth 100000 in
theorem cX6_driftsOfFog_6    (M0 : Mem) (v1 : Int32) (M : Mem) (hp : PX6_driftsOfFog_6 v1 M) : AWP (GIM mtX6_driftsOfFog 2 M0 (mX6_driftsOfFog_6 v1 M)) mtX6_driftsOfFog 6 [(0, .ref 46), (1, .int v1)] [] M := by
  unfold mX6_driftsOfFog_6
  unfold PX6_driftsOfFog_6 at hp
  obtain ⟨hq_2, hp⟩ := hp
  refine r_iconst MF.bs dX6_driftsOfFog_6 (v := 0) (by decide) ?_
  refine r_aload_n MF.bs dX6_driftsOfFog_7 rfl 0 rfl ?_
  refine r_iload_n MF.bs dX6_driftsOfFog_8 rfl 1 rfl ?_
  refine r_callV_v MF.bs (st := [.int 0]) dX6_driftsOfFog_9 (ctX6_driftsPlain v1 M hq_2) miX6_driftsPlain wd_1357 rfl (by decide) rfl (Nat.le_of_ble_eq_true rfl) rfl rfl rfl ?_
  refine r_sub [] [] rfl ?_
  exact cX6_driftsOfFog_12 M0 ((mX6_driftsPlain v1 M).1) 0 ((mX6_driftsPlain v1 M).2) hp
def mX6_driftsOfFog  (a1 : Int32) (M : Mem) : Int32 × Mem := (mX6_driftsOfFog_6 a1 (mX6_runs 30 M))
def PX6_driftsOfFog  (a1 : Int32) (M : Mem) : Prop := PX6_runs 30 M ∧ (PX6_driftsOfFog_6 a1 (mX6_runs 30 M))
set_option maxRecDepth 100000 in
theorem ctX6_driftsOfFog   (a1 : Int32) (M : Mem) (hp : PX6_driftsOfFog a1 M) : CT mtX6_driftsOfFog 2 [.ref 46, .int a1] M (some (.int ((mX6_driftsOfFog a1 M).1)), (mX6_driftsOfFog a1 M).2) := by
  refine CT.of (by decide) rfl (Nat.le_of_ble_eq_true rfl) ?_
  show AWP (GIM mtX6_driftsOfFog 2 M (mX6_driftsOfFog a1 M)) mtX6_driftsOfFog 0 [(0, .ref 46), (1, .int a1)] [] M
  unfold mX6_driftsOfFog
  unfold PX6_driftsOfFog at hp
  obtain ⟨hq_1, hp⟩ := hp
  refine r_aload_n MF.bs dX6_driftsOfFog_0 rfl 0 rfl ?_
  refine r_bipush MF.bs dX6_driftsOfFog_1 (v := 30) (by decide) ?_
  refine r_callV_n MF.bs (st := []) dX6_driftsOfFog_3 (ctX6_runs 30 M hq_1) miX6_runs wd_1353 rfl (by decide) rfl (Nat.le_of_ble_eq_true rfl) rfl rfl rfl ?_
  exact cX6_driftsOfFog_6 M a1 (mX6_runs 30 M) hp
abbrev mtX6_drifts : MT := (RX6, yX6_drifts, cX6_drifts, 2, (some .int))
theorem miX6_drifts : MV mtX6_drifts 1 := ⟨wd_1348, ⟨wd_1347, wd_68⟩, wd_86, ⟨by decide, by decide, by decide +kernel⟩, by decide⟩
def mX6_drifts_49   (k0 : Int32) (M : Mem) : Int32 × Mem := ((k0 + 6), M)
def PX6_drifts_49   (k0 : Int32) (M : Mem) : Prop := True
set_option maxRecDepth 100000 in
theorem cX6_drifts_49    (M0 : Mem) (k0 : Int32) (M : Mem) (hp : PX6_drifts_49 k0 M) : AWP (GIM mtX6_drifts 3 M0 (mX6_drifts_49 k0 M)) mtX6_drifts 49 [] [.int k0] M := by
  unfold mX6_drifts_49
  unfold PX6_drifts_49 at hp
  refine r_bipush MF.bs dX6_drifts_49 (v := 6) (by decide) ?_
  refine r_iadd MF.bs dX6_drifts_51 ?_
  exact r_iret dX6_drifts_52 rfl
def mX6_drifts_44   (v1 : Int32) (M : Mem) : Int32 × Mem := (mX6_drifts_49 ((mX6_driftsOfFog v1 M).1) ((mX6_driftsOfFog v1 M).2))
def PX6_drifts_44   (v1 : Int32) (M : Mem) : Prop := PX6_driftsOfFog v1 M ∧ (PX6_drifts_49 ((mX6_driftsOfFog v1 M).1) ((mX6_driftsOfFog v1 M).2))
set_option maxRecDepth 100000 in
theorem cX6_drifts_44    (M0 : Mem) (v1 : Int32) (M : Mem) (hp : PX6_drifts_44 v1 M) : AWP (GIM mtX6_drifts 3 M0 (mX6_drifts_44 v1 M)) mtX6_drifts 44 [(0, .ref 46), (1, .int v1)] [] M := by
  unfold mX6_drifts_44
  unfold PX6_drifts_44 at hp
  obtain ⟨hq_9, hp⟩ := hp
  refine r_aload_n MF.bs dX6_drifts_44 rfl 0 rfl ?_
  refine r_iload_n MF.bs dX6_drifts_45 rfl 1 rfl ?_
  refine r_callV_v MF.bs (st := []) dX6_drifts_46 (ctX6_driftsOfFog v1 M hq_9) miX6_driftsOfFog wd_1349 rfl (by decide) rfl (Nat.le_of_ble_eq_true rfl) rfl rfl rfl ?_
  refine r_sub [] [] rfl ?_
  exact cX6_drifts_49 M0 ((mX6_driftsOfFog v1 M).1) ((mX6_driftsOfFog v1 M).2) hp
def mX6_drifts_64   (k0 : Int32) (M : Mem) : Int32 × Mem := ((k0 + (M 46 27)), M)
def PX6_drifts_64   (k0 : Int32) (M : Mem) : Prop := True
set_option maxRecDepth 100000 in
theorem cX6_drifts_64    (M0 : Mem) (k0 : Int32) (M : Mem) (hp : PX6_drifts_64 k0 M) : AWP (GIM mtX6_drifts 3 M0 (mX6_drifts_64 k0 M)) mtX6_drifts 64 [(0, .ref 46)] [.int k0] M := by
  unfold mX6_drifts_64
  unfold PX6_drifts_64 at hp
  refine r_aload_n MF.bs dX6_drifts_64 rfl 0 rfl ?_
  refine r_getI MF.bs dX6_drifts_65 rfl rfl 27 (by decide) wd_902 rfl ?_
  refine r_iadd MF.bs dX6_drifts_68 ?_
  exact r_iret dX6_drifts_69 rfl
def mX6_drifts_59   (v1 : Int32) (M : Mem) : Int32 × Mem := (mX6_drifts_64 ((mX6_driftsPlain v1 M).1) ((mX6_driftsPlain v1 M).2))
def PX6_drifts_59   (v1 : Int32) (M : Mem) : Prop := PX6_driftsPlain v1 M ∧ (PX6_drifts_64 ((mX6_driftsPlain v1 M).1) ((mX6_driftsPlain v1 M).2))
set_option maxRecDepth 100000 in
theorem cX6_drifts_59    (M0 : Mem) (v1 : Int32) (M : Mem) (hp : PX6_drifts_59 v1 M) : AWP (GIM mtX6_drifts 3 M0 (mX6_drifts_59 v1 M)) mtX6_drifts 59 [(0, .ref 46), (1, .int v1)] [] M := by
  unfold mX6_drifts_59
  unfold PX6_drifts_59 at hp
  obtain ⟨hq_8, hp⟩ := hp
  refine r_aload_n MF.bs dX6_drifts_59 rfl 0 rfl ?_
  refine r_iload_n MF.bs dX6_drifts_60 rfl 1 rfl ?_
  refine r_callV_v MF.bs (st := []) dX6_drifts_61 (ctX6_driftsPlain v1 M hq_8) miX6_driftsPlain wd_1357 rfl (by decide) rfl (Nat.le_of_ble_eq_true rfl) rfl rfl rfl ?_
  refine r_sub [(0, .ref 46)] [0] rfl ?_
  exact cX6_drifts_64 M0 ((mX6_driftsPlain v1 M).1) ((mX6_driftsPlain v1 M).2) hp
def mX6_drifts  (a1 : Int32) (M : Mem) : Int32 × Mem := (if (M 46 26) = 2 then ((mX6_driftsOfFog a1 M).1, (mX6_driftsOfFog a1 M).2) else (if (M 46 26) = 3 then (mX6_drifts_59 a1 (mX6_runs 51 M)) else (if (M 46 26) = 4 then (mX6_drifts_44 a1 (mX6_runs 40 M)) else ((mX6_driftsPlain a1 M).1, (mX6_driftsPlain a1 M).2))))
def PX6_drifts  (a1 : Int32) (M : Mem) : Prop := (((M 46 26) = 2 → PX6_driftsOfFog a1 M) ∧ (¬ (M 46 26) = 2 → (((M 46 26) = 3 → PX6_runs 51 M ∧ (PX6_drifts_59 a1 (mX6_runs 51 M))) ∧ (¬ (M 46 26) = 3 → (((M 46 26) = 4 → PX6_runs 40 M ∧ (PX6_drifts_44 a1 (mX6_runs 40 M))) ∧ (¬ (M 46 26) = 4 → PX6_driftsPlain a1 M))))))
set_option maxRecDepth 100000 in
theorem ctX6_drifts   (a1 : Int32) (M : Mem) (hp : PX6_drifts a1 M) : CT mtX6_drifts 3 [.ref 46, .int a1] M (some (.int ((mX6_drifts a1 M).1)), (mX6_drifts a1 M).2) := by
  refine CT.of (by decide) rfl (Nat.le_of_ble_eq_true rfl) ?_
  show AWP (GIM mtX6_drifts 3 M (mX6_drifts a1 M)) mtX6_drifts 0 [(0, .ref 46), (1, .int a1)] [] M
  unfold mX6_drifts
  unfold PX6_drifts at hp
  refine r_aload_n MF.bs dX6_drifts_0 rfl 0 rfl ?_
  refine r_getI MF.bs dX6_drifts_1 rfl rfl 26 (by decide) wd_901 rfl ?_
  refine r_ite (GIM mtX6_drifts 3 M) (fun h_1 => ?_) (fun h_1 => ?_)
  · have hp := hp.1 h_1
    refine r_tsw_in MF.bs (tgt := 32) dX6_drifts_4 h_1 (by decide) (by decide) rfl (by decide) ?_
    have hq_2 := hp
    refine r_aload_n MF.bs dX6_drifts_32 rfl 0 rfl ?_
    refine r_iload_n MF.bs dX6_drifts_33 rfl 1 rfl ?_
    refine r_callV_v MF.bs (st := []) dX6_drifts_34 (ctX6_driftsOfFog a1 M hq_2) miX6_driftsOfFog wd_1349 rfl (by decide) rfl (Nat.le_of_ble_eq_true rfl) rfl rfl rfl ?_
    exact r_iret dX6_drifts_37 rfl
  · have hp := hp.2 h_1
    refine r_ite (GIM mtX6_drifts 3 M) (fun h_3 => ?_) (fun h_3 => ?_)
    · have hp := hp.1 h_3
      refine r_tsw_in MF.bs (tgt := 53) dX6_drifts_4 h_3 (by decide) (by decide) rfl (by decide) ?_
      obtain ⟨hq_4, hp⟩ := hp
      refine r_aload_n MF.bs dX6_drifts_53 rfl 0 rfl ?_
      refine r_bipush MF.bs dX6_drifts_54 (v := 51) (by decide) ?_
      refine r_callV_n MF.bs (st := []) dX6_drifts_56 (ctX6_runs 51 M hq_4) miX6_runs wd_1353 rfl (by decide) rfl (Nat.le_of_ble_eq_true rfl) rfl rfl rfl ?_
      exact cX6_drifts_59 M a1 (mX6_runs 51 M) hp
    · have hp := hp.2 h_3
      refine r_ite (GIM mtX6_drifts 3 M) (fun h_5 => ?_) (fun h_5 => ?_)
      · have hp := hp.1 h_5
        refine r_tsw_in MF.bs (tgt := 38) dX6_drifts_4 h_5 (by decide) (by decide) rfl (by decide) ?_
        obtain ⟨hq_6, hp⟩ := hp
        refine r_aload_n MF.bs dX6_drifts_38 rfl 0 rfl ?_
        refine r_bipush MF.bs dX6_drifts_39 (v := 40) (by decide) ?_
        refine r_callV_n MF.bs (st := []) dX6_drifts_41 (ctX6_runs 40 M hq_6) miX6_runs wd_1353 rfl (by decide) rfl (Nat.le_of_ble_eq_true rfl) rfl rfl rfl ?_
        exact cX6_drifts_44 M a1 (mX6_runs 40 M) hp
      · have hp := hp.2 h_5
        refine r_tsw_out MF.bs (tgt := 70) dX6_drifts_4 (by have e0 := lv_neT (a := 2) h_1 (by decide); have e1 := lv_neT (a := 3) h_3 (by decide); have e2 := lv_neT (a := 4) h_5 (by decide); omega) (by decide) ?_
        have hq_7 := hp
        refine r_aload_n MF.bs dX6_drifts_70 rfl 0 rfl ?_
        refine r_iload_n MF.bs dX6_drifts_71 rfl 1 rfl ?_
        refine r_callV_v MF.bs (st := []) dX6_drifts_72 (ctX6_driftsPlain a1 M hq_7) miX6_driftsPlain wd_1357 rfl (by decide) rfl (Nat.le_of_ble_eq_true rfl) rfl rfl rfl ?_
        exact r_iret dX6_drifts_75 rfl
abbrev mtX6_dripsPlain : MT := (RX6, yX6_dripsPlain, cX6_dripsPlain, 2, (some .int))
theorem miX6_dripsPlain : MV mtX6_dripsPlain 1 := ⟨wd_1368, ⟨wd_1367, wd_73⟩, wd_86, ⟨by decide, by decide, by decide +kernel⟩, by decide⟩
def mX6_dripsPlain_11   (k0 : Int32) (M : Mem) : Int32 × Mem := ((k0 - ((M 46 28) * 3)), M)
def PX6_dripsPlain_11   (k0 : Int32) (M : Mem) : Prop := True
set_option maxRecDepth 100000 in
theorem cX6_dripsPlain_11    (M0 : Mem) (k0 : Int32) (M : Mem) (hp : PX6_dripsPlain_11 k0 M) : AWP (GIM mtX6_dripsPlain 4 M0 (mX6_dripsPlain_11 k0 M)) mtX6_dripsPlain 11 [(0, .ref 46)] [.int k0] M := by
  unfold mX6_dripsPlain_11
  unfold PX6_dripsPlain_11 at hp
  refine r_aload_n MF.bs dX6_dripsPlain_11 rfl 0 rfl ?_
  refine r_getI MF.bs dX6_dripsPlain_12 rfl rfl 28 (by decide) wd_903 rfl ?_
  refine r_iconst MF.bs dX6_dripsPlain_15 (v := 3) (by decide) ?_
  refine r_imul MF.bs dX6_dripsPlain_16 ?_
  refine r_isub MF.bs dX6_dripsPlain_17 ?_
  exact r_iret dX6_dripsPlain_18 rfl
def mX6_dripsPlain_6   (v1 : Int32) (M : Mem) : Int32 × Mem := (mX6_dripsPlain_11 ((mX6_drifts v1 M).1) ((mX6_drifts v1 M).2))
def PX6_dripsPlain_6   (v1 : Int32) (M : Mem) : Prop := PX6_drifts v1 M ∧ (PX6_dripsPlain_11 ((mX6_drifts v1 M).1) ((mX6_drifts v1 M).2))
set_option maxRecDepth 100000 in
theorem cX6_dripsPlain_6    (M0 : Mem) (v1 : Int32) (M : Mem) (hp : PX6_dripsPlain_6 v1 M) : AWP (GIM mtX6_dripsPlain 4 M0 (mX6_dripsPlain_6 v1 M)) mtX6_dripsPlain 6 [(0, .ref 46), (1, .int v1)] [] M := by
  unfold mX6_dripsPlain_6
  unfold PX6_dripsPlain_6 at hp
  obtain ⟨hq_2, hp⟩ := hp
  refine r_aload_n MF.bs dX6_dripsPlain_6 rfl 0 rfl ?_
  refine r_iload_n MF.bs dX6_dripsPlain_7 rfl 1 rfl ?_
  refine r_callV_v MF.bs (st := []) dX6_dripsPlain_8 (ctX6_drifts v1 M hq_2) miX6_drifts wd_1345 rfl (by decide) rfl (Nat.le_of_ble_eq_true rfl) rfl rfl rfl ?_
  refine r_sub [(0, .ref 46)] [0] rfl ?_
  exact cX6_dripsPlain_11 M0 ((mX6_drifts v1 M).1) ((mX6_drifts v1 M).2) hp
def mX6_dripsPlain  (a1 : Int32) (M : Mem) : Int32 × Mem := (mX6_dripsPlain_6 a1 (mX6_runs 11 M))
def PX6_dripsPlain  (a1 : Int32) (M : Mem) : Prop := PX6_runs 11 M ∧ (PX6_dripsPlain_6 a1 (mX6_runs 11 M))
set_option maxRecDepth 100000 in
theorem ctX6_dripsPlain   (a1 : Int32) (M : Mem) (hp : PX6_dripsPlain a1 M) : CT mtX6_dripsPlain 4 [.ref 46, .int a1] M (some (.int ((mX6_dripsPlain a1 M).1)), (mX6_dripsPlain a1 M).2) := by
  refine CT.of (by decide) rfl (Nat.le_of_ble_eq_true rfl) ?_
  show AWP (GIM mtX6_dripsPlain 4 M (mX6_dripsPlain a1 M)) mtX6_dripsPlain 0 [(0, .ref 46), (1, .int a1)] [] M
  unfold mX6_dripsPlain
  unfold PX6_dripsPlain at hp
  obtain ⟨hq_1, hp⟩ := hp
  refine r_aload_n MF.bs dX6_dripsPlain_0 rfl 0 rfl ?_
  refine r_bipush MF.bs dX6_dripsPlain_1 (v := 11) (by decide) ?_
  refine r_callV_n MF.bs (st := []) dX6_dripsPlain_3 (ctX6_runs 11 M hq_1) miX6_runs wd_1353 rfl (by decide) rfl (Nat.le_of_ble_eq_true rfl) rfl rfl rfl ?_
  exact cX6_dripsPlain_6 M a1 (mX6_runs 11 M) hp
abbrev mtX6_drips : MT := (RX6, yX6_drips, cX6_drips, 3, (some .int))
theorem miX6_drips : MV mtX6_drips 1 := ⟨wd_1364, ⟨wd_1363, wd_72⟩, wd_86, ⟨by decide, by decide, by decide +kernel⟩, by decide⟩
def mX6_drips_27   (k0 : Int32) (M : Mem) : Int32 × Mem := ((k0 + 2), M)
def PX6_drips_27   (k0 : Int32) (M : Mem) : Prop := True
set_option maxRecDepth 100000 in
theorem cX6_drips_27    (M0 : Mem) (k0 : Int32) (M : Mem) (hp : PX6_drips_27 k0 M) : AWP (GIM mtX6_drips 5 M0 (mX6_drips_27 k0 M)) mtX6_drips 27 [] [.int k0] M := by
  unfold mX6_drips_27
  unfold PX6_drips_27 at hp
  refine r_iconst MF.bs dX6_drips_27 (v := 2) (by decide) ?_
  refine r_iadd MF.bs dX6_drips_28 ?_
  exact r_iret dX6_drips_29 rfl
def mX6_drips_22   (v1 : Int32) (M : Mem) : Int32 × Mem := (mX6_drips_27 ((mX6_dripsPlain v1 M).1) ((mX6_dripsPlain v1 M).2))
def PX6_drips_22   (v1 : Int32) (M : Mem) : Prop := PX6_dripsPlain v1 M ∧ (PX6_drips_27 ((mX6_dripsPlain v1 M).1) ((mX6_dripsPlain v1 M).2))
set_option maxRecDepth 100000 in
theorem cX6_drips_22    (M0 : Mem) (v1 : Int32) (M : Mem) (hp : PX6_drips_22 v1 M) : AWP (GIM mtX6_drips 5 M0 (mX6_drips_22 v1 M)) mtX6_drips 22 [(0, .ref 46), (1, .int v1)] [] M := by
  unfold mX6_drips_22
  unfold PX6_drips_22 at hp
  obtain ⟨hq_8, hp⟩ := hp
  refine r_aload_n MF.bs dX6_drips_22 rfl 0 rfl ?_
  refine r_iload_n MF.bs dX6_drips_23 rfl 1 rfl ?_
  refine r_callV_v MF.bs (st := []) dX6_drips_24 (ctX6_dripsPlain v1 M hq_8) miX6_dripsPlain wd_1365 rfl (by decide) rfl (Nat.le_of_ble_eq_true rfl) rfl rfl rfl ?_
  refine r_sub [] [] rfl ?_
  exact cX6_drips_27 M0 ((mX6_dripsPlain v1 M).1) ((mX6_dripsPlain v1 M).2) hp
def mX6_drips_16   (v1 : Int32) (M : Mem) : Int32 × Mem := (mX6_drips_22 v1 (mX6_runs 20 M))
def PX6_drips_16   (v1 : Int32) (M : Mem) : Prop := PX6_runs 20 M ∧ (PX6_drips_22 v1 (mX6_runs 20 M))
set_option maxRecDepth 100000 in
theorem cX6_drips_16    (M0 : Mem) (v1 : Int32) (M : Mem) (hp : PX6_drips_16 v1 M) : AWP (GIM mtX6_drips 5 M0 (mX6_drips_16 v1 M)) mtX6_drips 16 [(0, .ref 46), (1, .int v1)] [] M := by
  unfold mX6_drips_16
  unfold PX6_drips_16 at hp
  obtain ⟨hq_6, hp⟩ := hp
  refine r_aload_n MF.bs dX6_drips_16 rfl 0 rfl ?_
  refine r_bipush MF.bs dX6_drips_17 (v := 20) (by decide) ?_
  refine r_callV_n MF.bs (st := []) dX6_drips_19 (ctX6_runs 20 M hq_6) miX6_runs wd_1353 rfl (by decide) rfl (Nat.le_of_ble_eq_true rfl) rfl rfl rfl ?_
  exact cX6_drips_22 M0 v1 (mX6_runs 20 M) hp
def mX6_drips_59   (k0 : Int32) (k1 : Int32) (M : Mem) : Int32 × Mem := ((k1 ^^^ k0), M)
def PX6_drips_59   (k0 : Int32) (k1 : Int32) (M : Mem) : Prop := True
set_option maxRecDepth 100000 in
theorem cX6_drips_59    (M0 : Mem) (k0 : Int32) (k1 : Int32) (M : Mem) (hp : PX6_drips_59 k0 k1 M) : AWP (GIM mtX6_drips 5 M0 (mX6_drips_59 k0 k1 M)) mtX6_drips 59 [] [.int k0, .int k1] M := by
  unfold mX6_drips_59
  unfold PX6_drips_59 at hp
  refine r_ixor MF.bs dX6_drips_59 ?_
  exact r_iret dX6_drips_60 rfl
def mX6_drips_49   (k0 : Int32) (M : Mem) : Int32 × Mem := (mX6_drips_59 ((mX6_drifts (M 46 28) M).1) k0 ((mX6_drifts (M 46 28) M).2))
def PX6_drips_49   (k0 : Int32) (M : Mem) : Prop := PX6_drifts (M 46 28) M ∧ (PX6_drips_59 ((mX6_drifts (M 46 28) M).1) k0 ((mX6_drifts (M 46 28) M).2))
set_option maxRecDepth 100000 in
theorem cX6_drips_49    (M0 : Mem) (k0 : Int32) (M : Mem) (hp : PX6_drips_49 k0 M) : AWP (GIM mtX6_drips 5 M0 (mX6_drips_49 k0 M)) mtX6_drips 49 [(0, .ref 46)] [.int k0] M := by
  unfold mX6_drips_49
  unfold PX6_drips_49 at hp
  obtain ⟨hq_9, hp⟩ := hp
  refine r_istore_n MF.bs (lv' := [(2, .int k0), (0, .ref 46)]) dX6_drips_49 rfl (by decide) rfl ?_
  refine r_iload_n MF.bs dX6_drips_50 rfl 0 rfl ?_
  refine r_aload_n MF.bs dX6_drips_51 rfl 1 rfl ?_
  refine r_aload_n MF.bs dX6_drips_52 rfl 1 rfl ?_
  refine r_getI MF.bs dX6_drips_53 rfl rfl 28 (by decide) wd_903 rfl ?_
  refine r_callV_v MF.bs (st := [.int k0]) dX6_drips_56 (ctX6_drifts (M 46 28) M hq_9) miX6_drifts wd_1345 rfl (by decide) rfl (Nat.le_of_ble_eq_true rfl) rfl rfl rfl ?_
  refine r_sub [] [] rfl ?_
  exact cX6_drips_59 M0 ((mX6_drifts (M 46 28) M).1) k0 ((mX6_drifts (M 46 28) M).2) hp
def mX6_drips_44   (v1 : Int32) (M : Mem) : Int32 × Mem := (mX6_drips_49 ((mX6_dripsPlain v1 M).1) ((mX6_dripsPlain v1 M).2))
def PX6_drips_44   (v1 : Int32) (M : Mem) : Prop := PX6_dripsPlain v1 M ∧ (PX6_drips_49 ((mX6_dripsPlain v1 M).1) ((mX6_dripsPlain v1 M).2))
set_option maxRecDepth 100000 in
theorem cX6_drips_44    (M0 : Mem) (v1 : Int32) (M : Mem) (hp : PX6_drips_44 v1 M) : AWP (GIM mtX6_drips 5 M0 (mX6_drips_44 v1 M)) mtX6_drips 44 [(0, .ref 46), (1, .int v1)] [] M := by
  unfold mX6_drips_44
  unfold PX6_drips_44 at hp
  obtain ⟨hq_7, hp⟩ := hp
  refine r_aload_n MF.bs dX6_drips_44 rfl 0 rfl ?_
  refine r_iload_n MF.bs dX6_drips_45 rfl 1 rfl ?_
  refine r_callV_v MF.bs (st := []) dX6_drips_46 (ctX6_dripsPlain v1 M hq_7) miX6_dripsPlain wd_1365 rfl (by decide) rfl (Nat.le_of_ble_eq_true rfl) rfl rfl rfl ?_
  refine r_sub [(0, .ref 46)] [0] rfl ?_
  exact cX6_drips_49 M0 ((mX6_dripsPlain v1 M).1) ((mX6_dripsPlain v1 M).2) hp
def mX6_drips  (a1 : Int32) (M : Mem) : Int32 × Mem := (if (M 46 26) = 1 then (mX6_drips_16 a1 M) else (if (M 46 26) = 3 then (mX6_drips_16 a1 M) else (if (M 46 26) = 4 then (mX6_drips_44 a1 (mX6_runs 41 M)) else ((mX6_dripsPlain a1 M).1, (mX6_dripsPlain a1 M).2))))
def PX6_drips  (a1 : Int32) (M : Mem) : Prop := (((M 46 26) = 1 → PX6_drips_16 a1 M) ∧ (¬ (M 46 26) = 1 → (((M 46 26) = 3 → PX6_drips_16 a1 M) ∧ (¬ (M 46 26) = 3 → (((M 46 26) = 4 → PX6_runs 41 M ∧ (PX6_drips_44 a1 (mX6_runs 41 M))) ∧ (¬ (M 46 26) = 4 → PX6_dripsPlain a1 M))))))
set_option maxRecDepth 100000 in
theorem ctX6_drips   (a1 : Int32) (M : Mem) (hp : PX6_drips a1 M) : CT mtX6_drips 5 [.ref 46, .int a1] M (some (.int ((mX6_drips a1 M).1)), (mX6_drips a1 M).2) := by
  refine CT.of (by decide) rfl (Nat.le_of_ble_eq_true rfl) ?_
  show AWP (GIM mtX6_drips 5 M (mX6_drips a1 M)) mtX6_drips 0 [(0, .ref 46), (1, .int a1)] [] M
  unfold mX6_drips
  unfold PX6_drips at hp
  refine r_aload_n MF.bs dX6_drips_0 rfl 0 rfl ?_
  refine r_getI MF.bs dX6_drips_1 rfl rfl 26 (by decide) wd_901 rfl ?_
  refine r_iconst MF.bs dX6_drips_4 (v := 1) (by decide) ?_
  refine r_ite (GIM mtX6_drips 5 M) (fun h_1 => ?_) (fun h_1 => ?_)
  · have hp := hp.1 h_1
    refine r_icmp_eq_t MF.bs (tgt := 16) dX6_drips_5 (by decide) h_1 ?_
    exact cX6_drips_16 M a1 M hp
  · have hp := hp.2 h_1
    refine r_icmp_eq_f MF.bs (tgt := 16) dX6_drips_5 (by decide) h_1 ?_
    refine r_aload_n MF.bs dX6_drips_8 rfl 0 rfl ?_
    refine r_getI MF.bs dX6_drips_9 rfl rfl 26 (by decide) wd_901 rfl ?_
    refine r_iconst MF.bs dX6_drips_12 (v := 3) (by decide) ?_
    refine r_ite (GIM mtX6_drips 5 M) (fun h_2 => ?_) (fun h_2 => ?_)
    · have hp := hp.1 h_2
      refine r_icmp_ne_f MF.bs (tgt := 30) dX6_drips_13 (by decide) h_2 ?_
      exact cX6_drips_16 M a1 M hp
    · have hp := hp.2 h_2
      refine r_icmp_ne_t MF.bs (tgt := 30) dX6_drips_13 (by decide) h_2 ?_
      refine r_aload_n MF.bs dX6_drips_30 rfl 0 rfl ?_
      refine r_getI MF.bs dX6_drips_31 rfl rfl 26 (by decide) wd_901 rfl ?_
      refine r_iconst MF.bs dX6_drips_34 (v := 4) (by decide) ?_
      refine r_ite (GIM mtX6_drips 5 M) (fun h_3 => ?_) (fun h_3 => ?_)
      · have hp := hp.1 h_3
        refine r_icmp_ne_f MF.bs (tgt := 61) dX6_drips_35 (by decide) h_3 ?_
        obtain ⟨hq_4, hp⟩ := hp
        refine r_aload_n MF.bs dX6_drips_38 rfl 0 rfl ?_
        refine r_bipush MF.bs dX6_drips_39 (v := 41) (by decide) ?_
        refine r_callV_n MF.bs (st := []) dX6_drips_41 (ctX6_runs 41 M hq_4) miX6_runs wd_1353 rfl (by decide) rfl (Nat.le_of_ble_eq_true rfl) rfl rfl rfl ?_
        exact cX6_drips_44 M a1 (mX6_runs 41 M) hp
      · have hp := hp.2 h_3
        refine r_icmp_ne_t MF.bs (tgt := 61) dX6_drips_35 (by decide) h_3 ?_
        have hq_5 := hp
        refine r_aload_n MF.bs dX6_drips_61 rfl 0 rfl ?_
        refine r_iload_n MF.bs dX6_drips_62 rfl 1 rfl ?_
        refine r_callV_v MF.bs (st := []) dX6_drips_63 (ctX6_dripsPlain a1 M hq_5) miX6_dripsPlain wd_1365 rfl (by decide) rfl (Nat.le_of_ble_eq_true rfl) rfl rfl rfl ?_
        exact r_iret dX6_drips_66 rfl
abbrev mtX6_partsPlain : MT := (RX6, yX6_partsPlain, cX6_partsPlain, 2, (some .int))
theorem miX6_partsPlain : MV mtX6_partsPlain 1 := ⟨wd_1376, ⟨wd_1375, wd_75⟩, wd_86, ⟨by decide, by decide, by decide +kernel⟩, by decide⟩
def mX6_partsPlain_30   (v1 : Int32) (k0 : Int32) (M : Mem) : Int32 × Mem := (if ((upm M 46 29 k0) 46 29) = 0 then ((v1 / (((upm M 46 29 k0) 46 28) - ((upm M 46 29 k0) 46 27))), (upm M 46 29 k0)) else (0, (upm M 46 29 k0)))
def PX6_partsPlain_30   (v1 : Int32) (k0 : Int32) (M : Mem) : Prop := (k0 = 0 ∨ k0 = 1) ∧ ((((upm M 46 29 k0) 46 29) = 0 → ¬ (((upm M 46 29 k0) 46 28) - ((upm M 46 29 k0) 46 27)) = 0))
set_option maxRecDepth 100000 in
theorem cX6_partsPlain_30    (M0 : Mem) (v1 : Int32) (k0 : Int32) (M : Mem) (hp : PX6_partsPlain_30 v1 k0 M) : AWP (GIM mtX6_partsPlain 1 M0 (mX6_partsPlain_30 v1 k0 M)) mtX6_partsPlain 30 [(0, .ref 46), (1, .int v1)] [.int k0, .ref 46] M := by
  unfold mX6_partsPlain_30
  unfold PX6_partsPlain_30 at hp
  obtain ⟨hq_4, hp⟩ := hp
  refine r_putI MF.bs dX6_partsPlain_30 rfl rfl 29 (by decide) wd_904 rfl rfl rfl (z_nar hq_4) (z_fit hq_4) ?_
  refine r_aload_n MF.bs dX6_partsPlain_33 rfl 0 rfl ?_
  refine r_getI MF.bs dX6_partsPlain_34 rfl rfl 29 (by decide) wd_904 rfl ?_
  refine r_ite (GIM mtX6_partsPlain 1 M0) (fun h_5 => ?_) (fun h_5 => ?_)
  · have hp := hp h_5
    refine r_if_eq_t MF.bs (tgt := 44) dX6_partsPlain_37 (by decide) h_5 ?_
    have hq_6 := hp
    refine r_iload_n MF.bs dX6_partsPlain_44 rfl 1 rfl ?_
    refine r_aload_n MF.bs dX6_partsPlain_45 rfl 0 rfl ?_
    refine r_getI MF.bs dX6_partsPlain_46 rfl rfl 28 (by decide) wd_903 rfl ?_
    refine r_aload_n MF.bs dX6_partsPlain_49 rfl 0 rfl ?_
    refine r_getI MF.bs dX6_partsPlain_50 rfl rfl 27 (by decide) wd_902 rfl ?_
    refine r_isub MF.bs dX6_partsPlain_53 ?_
    refine r_idiv MF.bs dX6_partsPlain_54 hq_6 ?_
    exact r_iret dX6_partsPlain_55 rfl
  · refine r_if_eq_f MF.bs (tgt := 44) dX6_partsPlain_37 (by decide) h_5 ?_
    refine r_iconst MF.bs dX6_partsPlain_40 (v := 0) (by decide) ?_
    refine r_goto MF.bs dX6_partsPlain_41 (tgt := 55) (by decide) ?_
    exact r_iret dX6_partsPlain_55 rfl
def mX6_partsPlain_25   (v1 : Int32) (M : Mem) : Int32 × Mem := (mX6_partsPlain_30 v1 1 M)
def PX6_partsPlain_25   (v1 : Int32) (M : Mem) : Prop := PX6_partsPlain_30 v1 1 M
set_option maxRecDepth 100000 in
theorem cX6_partsPlain_25    (M0 : Mem) (v1 : Int32) (M : Mem) (hp : PX6_partsPlain_25 v1 M) : AWP (GIM mtX6_partsPlain 1 M0 (mX6_partsPlain_25 v1 M)) mtX6_partsPlain 25 [(0, .ref 46), (1, .int v1)] [.ref 46] M := by
  unfold mX6_partsPlain_25
  unfold PX6_partsPlain_25 at hp
  refine r_iconst MF.bs dX6_partsPlain_25 (v := 1) (by decide) ?_
  refine r_goto MF.bs dX6_partsPlain_26 (tgt := 30) (by decide) ?_
  exact cX6_partsPlain_30 M0 v1 1 M hp
def mX6_partsPlain_6   (v1 : Int32) (M : Mem) : Int32 × Mem := (if (M 46 29) = 0 then (if (M 46 27) = (M 46 28) then (mX6_partsPlain_25 v1 M) else (mX6_partsPlain_30 v1 0 M)) else (mX6_partsPlain_25 v1 M))
def PX6_partsPlain_6   (v1 : Int32) (M : Mem) : Prop := (((M 46 29) = 0 → (((M 46 27) = (M 46 28) → PX6_partsPlain_25 v1 M) ∧ (¬ (M 46 27) = (M 46 28) → PX6_partsPlain_30 v1 0 M))) ∧ (¬ (M 46 29) = 0 → PX6_partsPlain_25 v1 M))
set_option maxRecDepth 100000 in
theorem cX6_partsPlain_6    (M0 : Mem) (v1 : Int32) (M : Mem) (hp : PX6_partsPlain_6 v1 M) : AWP (GIM mtX6_partsPlain 1 M0 (mX6_partsPlain_6 v1 M)) mtX6_partsPlain 6 [(0, .ref 46), (1, .int v1)] [] M := by
  unfold mX6_partsPlain_6
  unfold PX6_partsPlain_6 at hp
  refine r_aload_n MF.bs dX6_partsPlain_6 rfl 0 rfl ?_
  refine r_aload_n MF.bs dX6_partsPlain_7 rfl 0 rfl ?_
  refine r_getI MF.bs dX6_partsPlain_8 rfl rfl 29 (by decide) wd_904 rfl ?_
  refine r_ite (GIM mtX6_partsPlain 1 M0) (fun h_2 => ?_) (fun h_2 => ?_)
  · have hp := hp.1 h_2
    refine r_if_ne_f MF.bs (tgt := 25) dX6_partsPlain_11 (by decide) h_2 ?_
    refine r_aload_n MF.bs dX6_partsPlain_14 rfl 0 rfl ?_
    refine r_getI MF.bs dX6_partsPlain_15 rfl rfl 27 (by decide) wd_902 rfl ?_
    refine r_aload_n MF.bs dX6_partsPlain_18 rfl 0 rfl ?_
    refine r_getI MF.bs dX6_partsPlain_19 rfl rfl 28 (by decide) wd_903 rfl ?_
    refine r_ite (GIM mtX6_partsPlain 1 M0) (fun h_3 => ?_) (fun h_3 => ?_)
    · have hp := hp.1 h_3
      refine r_icmp_ne_f MF.bs (tgt := 29) dX6_partsPlain_22 (by decide) h_3 ?_
      exact cX6_partsPlain_25 M0 v1 M hp
    · have hp := hp.2 h_3
      refine r_icmp_ne_t MF.bs (tgt := 29) dX6_partsPlain_22 (by decide) h_3 ?_
      refine r_iconst MF.bs dX6_partsPlain_29 (v := 0) (by decide) ?_
      exact cX6_partsPlain_30 M0 v1 0 M hp
  · have hp := hp.2 h_2
    refine r_if_ne_t MF.bs (tgt := 25) dX6_partsPlain_11 (by decide) h_2 ?_
    exact cX6_partsPlain_25 M0 v1 M hp
def mX6_partsPlain  (a1 : Int32) (M : Mem) : Int32 × Mem := (mX6_partsPlain_6 a1 (mX6_runs 12 M))
def PX6_partsPlain  (a1 : Int32) (M : Mem) : Prop := PX6_runs 12 M ∧ (PX6_partsPlain_6 a1 (mX6_runs 12 M))
set_option maxRecDepth 100000 in
theorem ctX6_partsPlain   (a1 : Int32) (M : Mem) (hp : PX6_partsPlain a1 M) : CT mtX6_partsPlain 1 [.ref 46, .int a1] M (some (.int ((mX6_partsPlain a1 M).1)), (mX6_partsPlain a1 M).2) := by
  refine CT.of (by decide) rfl (Nat.le_of_ble_eq_true rfl) ?_
  show AWP (GIM mtX6_partsPlain 1 M (mX6_partsPlain a1 M)) mtX6_partsPlain 0 [(0, .ref 46), (1, .int a1)] [] M
  unfold mX6_partsPlain
  unfold PX6_partsPlain at hp
  obtain ⟨hq_1, hp⟩ := hp
  refine r_aload_n MF.bs dX6_partsPlain_0 rfl 0 rfl ?_
  refine r_bipush MF.bs dX6_partsPlain_1 (v := 12) (by decide) ?_
  refine r_callV_n MF.bs (st := []) dX6_partsPlain_3 (ctX6_runs 12 M hq_1) miX6_runs wd_1353 rfl (by decide) rfl (Nat.le_of_ble_eq_true rfl) rfl rfl rfl ?_
  exact cX6_partsPlain_6 M a1 (mX6_runs 12 M) hp
abbrev mtX6_parts : MT := (RX6, yX6_parts, cX6_parts, 3, (some .int))
theorem miX6_parts : MV mtX6_parts 1 := ⟨wd_1372, ⟨wd_1371, wd_74⟩, wd_86, ⟨by decide, by decide, by decide +kernel⟩, by decide⟩
def mX6_parts_24   (k0 : Int32) (M : Mem) : Int32 × Mem := ((k0 * 2), M)
def PX6_parts_24   (k0 : Int32) (M : Mem) : Prop := True
set_option maxRecDepth 100000 in
theorem cX6_parts_24    (M0 : Mem) (k0 : Int32) (M : Mem) (hp : PX6_parts_24 k0 M) : AWP (GIM mtX6_parts 4 M0 (mX6_parts_24 k0 M)) mtX6_parts 24 [] [.int k0] M := by
  unfold mX6_parts_24
  unfold PX6_parts_24 at hp
  refine r_iconst MF.bs dX6_parts_24 (v := 2) (by decide) ?_
  refine r_imul MF.bs dX6_parts_25 ?_
  exact r_iret dX6_parts_26 rfl
def mX6_parts_14   (v1 : Int32) (M : Mem) : Int32 × Mem := (mX6_parts_24 ((mX6_partsPlain (v1 - (M 46 28)) M).1) ((mX6_partsPlain (v1 - (M 46 28)) M).2))
def PX6_parts_14   (v1 : Int32) (M : Mem) : Prop := PX6_partsPlain (v1 - (M 46 28)) M ∧ (PX6_parts_24 ((mX6_partsPlain (v1 - (M 46 28)) M).1) ((mX6_partsPlain (v1 - (M 46 28)) M).2))
set_option maxRecDepth 100000 in
theorem cX6_parts_14    (M0 : Mem) (v1 : Int32) (M : Mem) (hp : PX6_parts_14 v1 M) : AWP (GIM mtX6_parts 4 M0 (mX6_parts_14 v1 M)) mtX6_parts 14 [(0, .ref 46), (1, .int v1)] [] M := by
  unfold mX6_parts_14
  unfold PX6_parts_14 at hp
  obtain ⟨hq_6, hp⟩ := hp
  refine r_aload_n MF.bs dX6_parts_14 rfl 0 rfl ?_
  refine r_iload_n MF.bs dX6_parts_15 rfl 1 rfl ?_
  refine r_aload_n MF.bs dX6_parts_16 rfl 0 rfl ?_
  refine r_getI MF.bs dX6_parts_17 rfl rfl 28 (by decide) wd_903 rfl ?_
  refine r_isub MF.bs dX6_parts_20 ?_
  refine r_callV_v MF.bs (st := []) dX6_parts_21 (ctX6_partsPlain (v1 - (M 46 28)) M hq_6) miX6_partsPlain wd_1373 rfl (by decide) rfl (Nat.le_of_ble_eq_true rfl) rfl rfl rfl ?_
  refine r_sub [] [] rfl ?_
  exact cX6_parts_24 M0 ((mX6_partsPlain (v1 - (M 46 28)) M).1) ((mX6_partsPlain (v1 - (M 46 28)) M).2) hp
def mX6_parts_67   (k0 : Int32) (k1 : Int32) (M : Mem) : Int32 × Mem := ((k1 + k0), M)
def PX6_parts_67   (k0 : Int32) (k1 : Int32) (M : Mem) : Prop := True
set_option maxRecDepth 100000 in
theorem cX6_parts_67    (M0 : Mem) (k0 : Int32) (k1 : Int32) (M : Mem) (hp : PX6_parts_67 k0 k1 M) : AWP (GIM mtX6_parts 4 M0 (mX6_parts_67 k0 k1 M)) mtX6_parts 67 [] [.int k0, .int k1] M := by
  unfold mX6_parts_67
  unfold PX6_parts_67 at hp
  refine r_iadd MF.bs dX6_parts_67 ?_
  exact r_iret dX6_parts_68 rfl
def mX6_parts_46   (k0 : Int32) (M : Mem) : Int32 × Mem := (if (M 46 29) = 0 then (mX6_parts_67 ((mX6_drifts (M 46 27) M).1) k0 ((mX6_drifts (M 46 27) M).2)) else (0, M))
def PX6_parts_46   (k0 : Int32) (M : Mem) : Prop := ((M 46 29) = 0 → PX6_drifts (M 46 27) M ∧ (PX6_parts_67 ((mX6_drifts (M 46 27) M).1) k0 ((mX6_drifts (M 46 27) M).2)))
set_option maxRecDepth 100000 in
theorem cX6_parts_46    (M0 : Mem) (k0 : Int32) (M : Mem) (hp : PX6_parts_46 k0 M) : AWP (GIM mtX6_parts 4 M0 (mX6_parts_46 k0 M)) mtX6_parts 46 [(0, .ref 46)] [.int k0] M := by
  unfold mX6_parts_46
  unfold PX6_parts_46 at hp
  refine r_istore_n MF.bs (lv' := [(2, .int k0), (0, .ref 46)]) dX6_parts_46 rfl (by decide) rfl ?_
  refine r_aload_n MF.bs dX6_parts_47 rfl 1 rfl ?_
  refine r_getI MF.bs dX6_parts_48 rfl rfl 29 (by decide) wd_904 rfl ?_
  refine r_ite (GIM mtX6_parts 4 M0) (fun h_8 => ?_) (fun h_8 => ?_)
  · have hp := hp h_8
    refine r_if_eq_t MF.bs (tgt := 58) dX6_parts_51 (by decide) h_8 ?_
    obtain ⟨hq_9, hp⟩ := hp
    refine r_iload_n MF.bs dX6_parts_58 rfl 0 rfl ?_
    refine r_aload_n MF.bs dX6_parts_59 rfl 1 rfl ?_
    refine r_aload_n MF.bs dX6_parts_60 rfl 1 rfl ?_
    refine r_getI MF.bs dX6_parts_61 rfl rfl 27 (by decide) wd_902 rfl ?_
    refine r_callV_v MF.bs (st := [.int k0]) dX6_parts_64 (ctX6_drifts (M 46 27) M hq_9) miX6_drifts wd_1345 rfl (by decide) rfl (Nat.le_of_ble_eq_true rfl) rfl rfl rfl ?_
    refine r_sub [] [] rfl ?_
    exact cX6_parts_67 M0 ((mX6_drifts (M 46 27) M).1) k0 ((mX6_drifts (M 46 27) M).2) hp
  · refine r_if_eq_f MF.bs (tgt := 58) dX6_parts_51 (by decide) h_8 ?_
    refine r_iconst MF.bs dX6_parts_54 (v := 0) (by decide) ?_
    refine r_goto MF.bs dX6_parts_55 (tgt := 68) (by decide) ?_
    exact r_iret dX6_parts_68 rfl
def mX6_parts_41   (v1 : Int32) (M : Mem) : Int32 × Mem := (mX6_parts_46 ((mX6_partsPlain v1 M).1) ((mX6_partsPlain v1 M).2))
def PX6_parts_41   (v1 : Int32) (M : Mem) : Prop := PX6_partsPlain v1 M ∧ (PX6_parts_46 ((mX6_partsPlain v1 M).1) ((mX6_partsPlain v1 M).2))
set_option maxRecDepth 100000 in
theorem cX6_parts_41    (M0 : Mem) (v1 : Int32) (M : Mem) (hp : PX6_parts_41 v1 M) : AWP (GIM mtX6_parts 4 M0 (mX6_parts_41 v1 M)) mtX6_parts 41 [(0, .ref 46), (1, .int v1)] [] M := by
  unfold mX6_parts_41
  unfold PX6_parts_41 at hp
  obtain ⟨hq_7, hp⟩ := hp
  refine r_aload_n MF.bs dX6_parts_41 rfl 0 rfl ?_
  refine r_iload_n MF.bs dX6_parts_42 rfl 1 rfl ?_
  refine r_callV_v MF.bs (st := []) dX6_parts_43 (ctX6_partsPlain v1 M hq_7) miX6_partsPlain wd_1373 rfl (by decide) rfl (Nat.le_of_ble_eq_true rfl) rfl rfl rfl ?_
  refine r_sub [(0, .ref 46)] [0] rfl ?_
  exact cX6_parts_46 M0 ((mX6_partsPlain v1 M).1) ((mX6_partsPlain v1 M).2) hp
def mX6_parts  (a1 : Int32) (M : Mem) : Int32 × Mem := (if (M 46 26) = 3 then (mX6_parts_14 a1 (mX6_runs 50 M)) else (if (M 46 26) = 5 then (mX6_parts_41 a1 (mX6_runs 61 M)) else ((mX6_partsPlain a1 M).1, (mX6_partsPlain a1 M).2)))
def PX6_parts  (a1 : Int32) (M : Mem) : Prop := (((M 46 26) = 3 → PX6_runs 50 M ∧ (PX6_parts_14 a1 (mX6_runs 50 M))) ∧ (¬ (M 46 26) = 3 → (((M 46 26) = 5 → PX6_runs 61 M ∧ (PX6_parts_41 a1 (mX6_runs 61 M))) ∧ (¬ (M 46 26) = 5 → PX6_partsPlain a1 M))))
set_option maxRecDepth 100000 in
theorem ctX6_parts   (a1 : Int32) (M : Mem) (hp : PX6_parts a1 M) : CT mtX6_parts 4 [.ref 46, .int a1] M (some (.int ((mX6_parts a1 M).1)), (mX6_parts a1 M).2) := by
  refine CT.of (by decide) rfl (Nat.le_of_ble_eq_true rfl) ?_
  show AWP (GIM mtX6_parts 4 M (mX6_parts a1 M)) mtX6_parts 0 [(0, .ref 46), (1, .int a1)] [] M
  unfold mX6_parts
  unfold PX6_parts at hp
  refine r_aload_n MF.bs dX6_parts_0 rfl 0 rfl ?_
  refine r_getI MF.bs dX6_parts_1 rfl rfl 26 (by decide) wd_901 rfl ?_
  refine r_iconst MF.bs dX6_parts_4 (v := 3) (by decide) ?_
  refine r_ite (GIM mtX6_parts 4 M) (fun h_1 => ?_) (fun h_1 => ?_)
  · have hp := hp.1 h_1
    refine r_icmp_ne_f MF.bs (tgt := 27) dX6_parts_5 (by decide) h_1 ?_
    obtain ⟨hq_2, hp⟩ := hp
    refine r_aload_n MF.bs dX6_parts_8 rfl 0 rfl ?_
    refine r_bipush MF.bs dX6_parts_9 (v := 50) (by decide) ?_
    refine r_callV_n MF.bs (st := []) dX6_parts_11 (ctX6_runs 50 M hq_2) miX6_runs wd_1353 rfl (by decide) rfl (Nat.le_of_ble_eq_true rfl) rfl rfl rfl ?_
    exact cX6_parts_14 M a1 (mX6_runs 50 M) hp
  · have hp := hp.2 h_1
    refine r_icmp_ne_t MF.bs (tgt := 27) dX6_parts_5 (by decide) h_1 ?_
    refine r_aload_n MF.bs dX6_parts_27 rfl 0 rfl ?_
    refine r_getI MF.bs dX6_parts_28 rfl rfl 26 (by decide) wd_901 rfl ?_
    refine r_iconst MF.bs dX6_parts_31 (v := 5) (by decide) ?_
    refine r_ite (GIM mtX6_parts 4 M) (fun h_3 => ?_) (fun h_3 => ?_)
    · have hp := hp.1 h_3
      refine r_icmp_ne_f MF.bs (tgt := 69) dX6_parts_32 (by decide) h_3 ?_
      obtain ⟨hq_4, hp⟩ := hp
      refine r_aload_n MF.bs dX6_parts_35 rfl 0 rfl ?_
      refine r_bipush MF.bs dX6_parts_36 (v := 61) (by decide) ?_
      refine r_callV_n MF.bs (st := []) dX6_parts_38 (ctX6_runs 61 M hq_4) miX6_runs wd_1353 rfl (by decide) rfl (Nat.le_of_ble_eq_true rfl) rfl rfl rfl ?_
      exact cX6_parts_41 M a1 (mX6_runs 61 M) hp
    · have hp := hp.2 h_3
      refine r_icmp_ne_t MF.bs (tgt := 69) dX6_parts_32 (by decide) h_3 ?_
      have hq_5 := hp
      refine r_aload_n MF.bs dX6_parts_69 rfl 0 rfl ?_
      refine r_iload_n MF.bs dX6_parts_70 rfl 1 rfl ?_
      refine r_callV_v MF.bs (st := []) dX6_parts_71 (ctX6_partsPlain a1 M hq_5) miX6_partsPlain wd_1373 rfl (by decide) rfl (Nat.le_of_ble_eq_true rfl) rfl rfl rfl ?_
      exact r_iret dX6_parts_74 rfl
abbrev mtX6_haltsPlain : MT := (RX6, yX6_haltsPlain, cX6_haltsPlain, 2, (some .int))
theorem miX6_haltsPlain : MV mtX6_haltsPlain 1 := ⟨wd_1384, ⟨wd_1383, wd_77⟩, wd_86, ⟨by decide, by decide, by decide +kernel⟩, by decide⟩
def mX6_haltsPlain_11   (k0 : Int32) (M : Mem) : Int32 × Mem := ((k0 ^^^ 130), M)
def PX6_haltsPlain_11   (k0 : Int32) (M : Mem) : Prop := True
set_option maxRecDepth 100000 in
theorem cX6_haltsPlain_11    (M0 : Mem) (k0 : Int32) (M : Mem) (hp : PX6_haltsPlain_11 k0 M) : AWP (GIM mtX6_haltsPlain 6 M0 (mX6_haltsPlain_11 k0 M)) mtX6_haltsPlain 11 [] [.int k0] M := by
  unfold mX6_haltsPlain_11
  unfold PX6_haltsPlain_11 at hp
  refine r_sipush MF.bs dX6_haltsPlain_11 (v := 130) (by decide) ?_
  refine r_ixor MF.bs dX6_haltsPlain_14 ?_
  exact r_iret dX6_haltsPlain_15 rfl
def mX6_haltsPlain_6   (v1 : Int32) (M : Mem) : Int32 × Mem := (mX6_haltsPlain_11 ((mX6_drips v1 M).1) ((mX6_drips v1 M).2))
def PX6_haltsPlain_6   (v1 : Int32) (M : Mem) : Prop := PX6_drips v1 M ∧ (PX6_haltsPlain_11 ((mX6_drips v1 M).1) ((mX6_drips v1 M).2))
set_option maxRecDepth 100000 in
theorem cX6_haltsPlain_6    (M0 : Mem) (v1 : Int32) (M : Mem) (hp : PX6_haltsPlain_6 v1 M) : AWP (GIM mtX6_haltsPlain 6 M0 (mX6_haltsPlain_6 v1 M)) mtX6_haltsPlain 6 [(0, .ref 46), (1, .int v1)] [] M := by
  unfold mX6_haltsPlain_6
  unfold PX6_haltsPlain_6 at hp
  obtain ⟨hq_2, hp⟩ := hp
  refine r_aload_n MF.bs dX6_haltsPlain_6 rfl 0 rfl ?_
  refine r_iload_n MF.bs dX6_haltsPlain_7 rfl 1 rfl ?_
  refine r_callV_v MF.bs (st := []) dX6_haltsPlain_8 (ctX6_drips v1 M hq_2) miX6_drips wd_1361 rfl (by decide) rfl (Nat.le_of_ble_eq_true rfl) rfl rfl rfl ?_
  refine r_sub [] [] rfl ?_
  exact cX6_haltsPlain_11 M0 ((mX6_drips v1 M).1) ((mX6_drips v1 M).2) hp
def mX6_haltsPlain  (a1 : Int32) (M : Mem) : Int32 × Mem := (mX6_haltsPlain_6 a1 (mX6_runs 13 M))
def PX6_haltsPlain  (a1 : Int32) (M : Mem) : Prop := PX6_runs 13 M ∧ (PX6_haltsPlain_6 a1 (mX6_runs 13 M))
set_option maxRecDepth 100000 in
theorem ctX6_haltsPlain   (a1 : Int32) (M : Mem) (hp : PX6_haltsPlain a1 M) : CT mtX6_haltsPlain 6 [.ref 46, .int a1] M (some (.int ((mX6_haltsPlain a1 M).1)), (mX6_haltsPlain a1 M).2) := by
  refine CT.of (by decide) rfl (Nat.le_of_ble_eq_true rfl) ?_
  show AWP (GIM mtX6_haltsPlain 6 M (mX6_haltsPlain a1 M)) mtX6_haltsPlain 0 [(0, .ref 46), (1, .int a1)] [] M
  unfold mX6_haltsPlain
  unfold PX6_haltsPlain at hp
  obtain ⟨hq_1, hp⟩ := hp
  refine r_aload_n MF.bs dX6_haltsPlain_0 rfl 0 rfl ?_
  refine r_bipush MF.bs dX6_haltsPlain_1 (v := 13) (by decide) ?_
  refine r_callV_n MF.bs (st := []) dX6_haltsPlain_3 (ctX6_runs 13 M hq_1) miX6_runs wd_1353 rfl (by decide) rfl (Nat.le_of_ble_eq_true rfl) rfl rfl rfl ?_
  exact cX6_haltsPlain_6 M a1 (mX6_runs 13 M) hp
abbrev mtX6_halts : MT := (RX6, yX6_halts, cX6_halts, 3, (some .int))
theorem miX6_halts : MV mtX6_halts 1 := ⟨wd_1380, ⟨wd_1379, wd_76⟩, wd_86, ⟨by decide, by decide, by decide +kernel⟩, by decide⟩
def mX6_halts_37   (k0 : Int32) (k1 : Int32) (M : Mem) : Int32 × Mem := ((k1 - k0), M)
def PX6_halts_37   (k0 : Int32) (k1 : Int32) (M : Mem) : Prop := True
set_option maxRecDepth 100000 in
theorem cX6_halts_37    (M0 : Mem) (k0 : Int32) (k1 : Int32) (M : Mem) (hp : PX6_halts_37 k0 k1 M) : AWP (GIM mtX6_halts 7 M0 (mX6_halts_37 k0 k1 M)) mtX6_halts 37 [] [.int k0, .int k1] M := by
  unfold mX6_halts_37
  unfold PX6_halts_37 at hp
  refine r_isub MF.bs dX6_halts_37 ?_
  exact r_iret dX6_halts_38 rfl
def mX6_halts_27   (k0 : Int32) (M : Mem) : Int32 × Mem := (mX6_halts_37 ((mX6_parts (M 46 27) M).1) k0 ((mX6_parts (M 46 27) M).2))
def PX6_halts_27   (k0 : Int32) (M : Mem) : Prop := PX6_parts (M 46 27) M ∧ (PX6_halts_37 ((mX6_parts (M 46 27) M).1) k0 ((mX6_parts (M 46 27) M).2))
set_option maxRecDepth 100000 in
theorem cX6_halts_27    (M0 : Mem) (k0 : Int32) (M : Mem) (hp : PX6_halts_27 k0 M) : AWP (GIM mtX6_halts 7 M0 (mX6_halts_27 k0 M)) mtX6_halts 27 [(0, .ref 46)] [.int k0] M := by
  unfold mX6_halts_27
  unfold PX6_halts_27 at hp
  obtain ⟨hq_9, hp⟩ := hp
  refine r_istore_n MF.bs (lv' := [(2, .int k0), (0, .ref 46)]) dX6_halts_27 rfl (by decide) rfl ?_
  refine r_iload_n MF.bs dX6_halts_28 rfl 0 rfl ?_
  refine r_aload_n MF.bs dX6_halts_29 rfl 1 rfl ?_
  refine r_aload_n MF.bs dX6_halts_30 rfl 1 rfl ?_
  refine r_getI MF.bs dX6_halts_31 rfl rfl 27 (by decide) wd_902 rfl ?_
  refine r_callV_v MF.bs (st := [.int k0]) dX6_halts_34 (ctX6_parts (M 46 27) M hq_9) miX6_parts wd_1369 rfl (by decide) rfl (Nat.le_of_ble_eq_true rfl) rfl rfl rfl ?_
  refine r_sub [] [] rfl ?_
  exact cX6_halts_37 M0 ((mX6_parts (M 46 27) M).1) k0 ((mX6_parts (M 46 27) M).2) hp
def mX6_halts_22   (v1 : Int32) (M : Mem) : Int32 × Mem := (mX6_halts_27 ((mX6_haltsPlain v1 M).1) ((mX6_haltsPlain v1 M).2))
def PX6_halts_22   (v1 : Int32) (M : Mem) : Prop := PX6_haltsPlain v1 M ∧ (PX6_halts_27 ((mX6_haltsPlain v1 M).1) ((mX6_haltsPlain v1 M).2))
set_option maxRecDepth 100000 in
theorem cX6_halts_22    (M0 : Mem) (v1 : Int32) (M : Mem) (hp : PX6_halts_22 v1 M) : AWP (GIM mtX6_halts 7 M0 (mX6_halts_22 v1 M)) mtX6_halts 22 [(0, .ref 46), (1, .int v1)] [] M := by
  unfold mX6_halts_22
  unfold PX6_halts_22 at hp
  obtain ⟨hq_8, hp⟩ := hp
  refine r_aload_n MF.bs dX6_halts_22 rfl 0 rfl ?_
  refine r_iload_n MF.bs dX6_halts_23 rfl 1 rfl ?_
  refine r_callV_v MF.bs (st := []) dX6_halts_24 (ctX6_haltsPlain v1 M hq_8) miX6_haltsPlain wd_1381 rfl (by decide) rfl (Nat.le_of_ble_eq_true rfl) rfl rfl rfl ?_
  refine r_sub [(0, .ref 46)] [0] rfl ?_
  exact cX6_halts_27 M0 ((mX6_haltsPlain v1 M).1) ((mX6_haltsPlain v1 M).2) hp
def mX6_halts_16   (v1 : Int32) (M : Mem) : Int32 × Mem := (mX6_halts_22 v1 (mX6_runs 31 M))
def PX6_halts_16   (v1 : Int32) (M : Mem) : Prop := PX6_runs 31 M ∧ (PX6_halts_22 v1 (mX6_runs 31 M))
set_option maxRecDepth 100000 in
theorem cX6_halts_16    (M0 : Mem) (v1 : Int32) (M : Mem) (hp : PX6_halts_16 v1 M) : AWP (GIM mtX6_halts 7 M0 (mX6_halts_16 v1 M)) mtX6_halts 16 [(0, .ref 46), (1, .int v1)] [] M := by
  unfold mX6_halts_16
  unfold PX6_halts_16 at hp
  obtain ⟨hq_6, hp⟩ := hp
  refine r_aload_n MF.bs dX6_halts_16 rfl 0 rfl ?_
  refine r_bipush MF.bs dX6_halts_17 (v := 31) (by decide) ?_
  refine r_callV_n MF.bs (st := []) dX6_halts_19 (ctX6_runs 31 M hq_6) miX6_runs wd_1353 rfl (by decide) rfl (Nat.le_of_ble_eq_true rfl) rfl rfl rfl ?_
  exact cX6_halts_22 M0 v1 (mX6_runs 31 M) hp
def mX6_halts_58   (k0 : Int32) (M : Mem) : Int32 × Mem := ((k0 * 3), M)
def PX6_halts_58   (k0 : Int32) (M : Mem) : Prop := True
set_option maxRecDepth 100000 in
theorem cX6_halts_58    (M0 : Mem) (k0 : Int32) (M : Mem) (hp : PX6_halts_58 k0 M) : AWP (GIM mtX6_halts 7 M0 (mX6_halts_58 k0 M)) mtX6_halts 58 [] [.int k0] M := by
  unfold mX6_halts_58
  unfold PX6_halts_58 at hp
  refine r_iconst MF.bs dX6_halts_58 (v := 3) (by decide) ?_
  refine r_imul MF.bs dX6_halts_59 ?_
  exact r_iret dX6_halts_60 rfl
def mX6_halts_53   (v1 : Int32) (M : Mem) : Int32 × Mem := (mX6_halts_58 ((mX6_haltsPlain v1 M).1) ((mX6_haltsPlain v1 M).2))
def PX6_halts_53   (v1 : Int32) (M : Mem) : Prop := PX6_haltsPlain v1 M ∧ (PX6_halts_58 ((mX6_haltsPlain v1 M).1) ((mX6_haltsPlain v1 M).2))
set_option maxRecDepth 100000 in
theorem cX6_halts_53    (M0 : Mem) (v1 : Int32) (M : Mem) (hp : PX6_halts_53 v1 M) : AWP (GIM mtX6_halts 7 M0 (mX6_halts_53 v1 M)) mtX6_halts 53 [(0, .ref 46), (1, .int v1)] [] M := by
  unfold mX6_halts_53
  unfold PX6_halts_53 at hp
  obtain ⟨hq_7, hp⟩ := hp
  refine r_aload_n MF.bs dX6_halts_53 rfl 0 rfl ?_
  refine r_iload_n MF.bs dX6_halts_54 rfl 1 rfl ?_
  refine r_callV_v MF.bs (st := []) dX6_halts_55 (ctX6_haltsPlain v1 M hq_7) miX6_haltsPlain wd_1381 rfl (by decide) rfl (Nat.le_of_ble_eq_true rfl) rfl rfl rfl ?_
  refine r_sub [] [] rfl ?_
  exact cX6_halts_58 M0 ((mX6_haltsPlain v1 M).1) ((mX6_haltsPlain v1 M).2) hp
def mX6_halts  (a1 : Int32) (M : Mem) : Int32 × Mem := (if (M 46 26) = 2 then (mX6_halts_16 a1 M) else (if (M 46 26) = 4 then (mX6_halts_16 a1 M) else (if (M 46 26) = 5 then (mX6_halts_53 a1 (mX6_runs 60 M)) else ((mX6_haltsPlain a1 M).1, (mX6_haltsPlain a1 M).2))))
def PX6_halts  (a1 : Int32) (M : Mem) : Prop := (((M 46 26) = 2 → PX6_halts_16 a1 M) ∧ (¬ (M 46 26) = 2 → (((M 46 26) = 4 → PX6_halts_16 a1 M) ∧ (¬ (M 46 26) = 4 → (((M 46 26) = 5 → PX6_runs 60 M ∧ (PX6_halts_53 a1 (mX6_runs 60 M))) ∧ (¬ (M 46 26) = 5 → PX6_haltsPlain a1 M))))))
set_option maxRecDepth 100000 in
theorem ctX6_halts   (a1 : Int32) (M : Mem) (hp : PX6_halts a1 M) : CT mtX6_halts 7 [.ref 46, .int a1] M (some (.int ((mX6_halts a1 M).1)), (mX6_halts a1 M).2) := by
  refine CT.of (by decide) rfl (Nat.le_of_ble_eq_true rfl) ?_
  show AWP (GIM mtX6_halts 7 M (mX6_halts a1 M)) mtX6_halts 0 [(0, .ref 46), (1, .int a1)] [] M
  unfold mX6_halts
  unfold PX6_halts at hp
  refine r_aload_n MF.bs dX6_halts_0 rfl 0 rfl ?_
  refine r_getI MF.bs dX6_halts_1 rfl rfl 26 (by decide) wd_901 rfl ?_
  refine r_iconst MF.bs dX6_halts_4 (v := 2) (by decide) ?_
  refine r_ite (GIM mtX6_halts 7 M) (fun h_1 => ?_) (fun h_1 => ?_)
  · have hp := hp.1 h_1
    refine r_icmp_eq_t MF.bs (tgt := 16) dX6_halts_5 (by decide) h_1 ?_
    exact cX6_halts_16 M a1 M hp
  · have hp := hp.2 h_1
    refine r_icmp_eq_f MF.bs (tgt := 16) dX6_halts_5 (by decide) h_1 ?_
    refine r_aload_n MF.bs dX6_halts_8 rfl 0 rfl ?_
    refine r_getI MF.bs dX6_halts_9 rfl rfl 26 (by decide) wd_901 rfl ?_
    refine r_iconst MF.bs dX6_halts_12 (v := 4) (by decide) ?_
    refine r_ite (GIM mtX6_halts 7 M) (fun h_2 => ?_) (fun h_2 => ?_)
    · have hp := hp.1 h_2
      refine r_icmp_ne_f MF.bs (tgt := 39) dX6_halts_13 (by decide) h_2 ?_
      exact cX6_halts_16 M a1 M hp
    · have hp := hp.2 h_2
      refine r_icmp_ne_t MF.bs (tgt := 39) dX6_halts_13 (by decide) h_2 ?_
      refine r_aload_n MF.bs dX6_halts_39 rfl 0 rfl ?_
      refine r_getI MF.bs dX6_halts_40 rfl rfl 26 (by decide) wd_901 rfl ?_
      refine r_iconst MF.bs dX6_halts_43 (v := 5) (by decide) ?_
      refine r_ite (GIM mtX6_halts 7 M) (fun h_3 => ?_) (fun h_3 => ?_)
      · have hp := hp.1 h_3
        refine r_icmp_ne_f MF.bs (tgt := 61) dX6_halts_44 (by decide) h_3 ?_
        obtain ⟨hq_4, hp⟩ := hp
        refine r_aload_n MF.bs dX6_halts_47 rfl 0 rfl ?_
        refine r_bipush MF.bs dX6_halts_48 (v := 60) (by decide) ?_
        refine r_callV_n MF.bs (st := []) dX6_halts_50 (ctX6_runs 60 M hq_4) miX6_runs wd_1353 rfl (by decide) rfl (Nat.le_of_ble_eq_true rfl) rfl rfl rfl ?_
        exact cX6_halts_53 M a1 (mX6_runs 60 M) hp
      · have hp := hp.2 h_3
        refine r_icmp_ne_t MF.bs (tgt := 61) dX6_halts_44 (by decide) h_3 ?_
        have hq_5 := hp
        refine r_aload_n MF.bs dX6_halts_61 rfl 0 rfl ?_
        refine r_iload_n MF.bs dX6_halts_62 rfl 1 rfl ?_
        refine r_callV_v MF.bs (st := []) dX6_halts_63 (ctX6_haltsPlain a1 M hq_5) miX6_haltsPlain wd_1381 rfl (by decide) rfl (Nat.le_of_ble_eq_true rfl) rfl rfl rfl ?_
        exact r_iret dX6_halts_66 rfl
abbrev mtX6_act : MT := (RX6, yX6_act, cX6_act, 5, (some .int))
theorem miX6_act : MV mtX6_act 3 := ⟨wd_1344, ⟨wd_1342, wd_1343⟩, wd_86, ⟨by decide, by decide, by decide +kernel⟩, by decide⟩
def mX6_act_123   (k0 : Int32) (M : Mem) : Int32 × Mem := (if (M 46 29) = 0 then (k0, M) else ((-15), M))
def PX6_act_123   (k0 : Int32) (M : Mem) : Prop := True
set_option maxRecDepth 100000 in
theorem cX6_act_123    (M0 : Mem) (k0 : Int32) (M : Mem) (hp : PX6_act_123 k0 M) : AWP (GIM mtX6_act 8 M0 (mX6_act_123 k0 M)) mtX6_act 123 [(0, .ref 46)] [.int k0] M := by
  unfold mX6_act_123
  unfold PX6_act_123 at hp
  refine r_istore MF.bs (lv' := [(4, .int k0), (0, .ref 46)]) dX6_act_123 (by decide) rfl ?_
  refine r_aload_n MF.bs dX6_act_125 rfl 1 rfl ?_
  refine r_getI MF.bs dX6_act_126 rfl rfl 29 (by decide) wd_904 rfl ?_
  refine r_ite (GIM mtX6_act 8 M0) (fun h_17 => ?_) (fun h_17 => ?_)
  · refine r_if_eq_t MF.bs (tgt := 137) dX6_act_129 (by decide) h_17 ?_
    refine r_iload MF.bs dX6_act_137 0 rfl ?_
    exact r_iret dX6_act_139 rfl
  · refine r_if_eq_f MF.bs (tgt := 137) dX6_act_129 (by decide) h_17 ?_
    refine r_bipush MF.bs dX6_act_132 (v := -15) (by decide) ?_
    refine r_goto MF.bs dX6_act_134 (tgt := 139) (by decide) ?_
    exact r_iret dX6_act_139 rfl
def mX6_act_89   (k0 : Int32) (M : Mem) : Int32 × Mem := (mX6_act_123 k0 M)
def PX6_act_89   (k0 : Int32) (M : Mem) : Prop := PX6_act_123 k0 M
set_option maxRecDepth 100000 in
theorem cX6_act_89    (M0 : Mem) (k0 : Int32) (M : Mem) (hp : PX6_act_89 k0 M) : AWP (GIM mtX6_act 8 M0 (mX6_act_89 k0 M)) mtX6_act 89 [(0, .ref 46)] [.int k0] M := by
  unfold mX6_act_89
  unfold PX6_act_89 at hp
  refine r_goto MF.bs dX6_act_89 (tgt := 123) (by decide) ?_
  exact cX6_act_123 M0 k0 M hp
def mX6_act_102   (k0 : Int32) (M : Mem) : Int32 × Mem := (mX6_act_123 k0 M)
def PX6_act_102   (k0 : Int32) (M : Mem) : Prop := PX6_act_123 k0 M
set_option maxRecDepth 100000 in
theorem cX6_act_102    (M0 : Mem) (k0 : Int32) (M : Mem) (hp : PX6_act_102 k0 M) : AWP (GIM mtX6_act 8 M0 (mX6_act_102 k0 M)) mtX6_act 102 [(0, .ref 46)] [.int k0] M := by
  unfold mX6_act_102
  unfold PX6_act_102 at hp
  refine r_goto MF.bs dX6_act_102 (tgt := 123) (by decide) ?_
  exact cX6_act_123 M0 k0 M hp
def mX6_act_115   (k0 : Int32) (M : Mem) : Int32 × Mem := (mX6_act_123 k0 M)
def PX6_act_115   (k0 : Int32) (M : Mem) : Prop := PX6_act_123 k0 M
set_option maxRecDepth 100000 in
theorem cX6_act_115    (M0 : Mem) (k0 : Int32) (M : Mem) (hp : PX6_act_115 k0 M) : AWP (GIM mtX6_act 8 M0 (mX6_act_115 k0 M)) mtX6_act 115 [(0, .ref 46)] [.int k0] M := by
  unfold mX6_act_115
  unfold PX6_act_115 at hp
  refine r_goto MF.bs dX6_act_115 (tgt := 123) (by decide) ?_
  exact cX6_act_123 M0 k0 M hp
def mX6_act  (a1 : Int32) (a2 : Int32) (a3 : Int32) (M : Mem) : Int32 × Mem := (if (mX6_isShelf a1) = true then (if (mX6_isIn ((a2 : Int32).toInt64) 0 3) = true then (if (mX6_heldOn a1 (upm M 46 25 0)) = 1 then (if a2 = 0 then (mX6_act_89 ((mX6_drifts a3 (upm (upm (upm (upm (upm M 46 25 0) 46 29 0) 46 26 (mX6_its ((upm (upm M 46 25 0) 46 29 0) 61 a1.toNatClampNeg) 0 (upm (upm M 46 25 0) 46 29 0))) 46 27 ((upm (upm (upm M 46 25 0) 46 29 0) 46 26 (mX6_its ((upm (upm M 46 25 0) 46 29 0) 61 a1.toNatClampNeg) 0 (upm (upm M 46 25 0) 46 29 0))) 61 a1.toNatClampNeg)) 46 28 (mX6_its ((upm (upm (upm (upm M 46 25 0) 46 29 0) 46 26 (mX6_its ((upm (upm M 46 25 0) 46 29 0) 61 a1.toNatClampNeg) 0 (upm (upm M 46 25 0) 46 29 0))) 46 27 ((upm (upm (upm M 46 25 0) 46 29 0) 46 26 (mX6_its ((upm (upm M 46 25 0) 46 29 0) 61 a1.toNatClampNeg) 0 (upm (upm M 46 25 0) 46 29 0))) 61 a1.toNatClampNeg)) 61 a1.toNatClampNeg) 1 (upm (upm (upm (upm M 46 25 0) 46 29 0) 46 26 (mX6_its ((upm (upm M 46 25 0) 46 29 0) 61 a1.toNatClampNeg) 0 (upm (upm M 46 25 0) 46 29 0))) 46 27 ((upm (upm (upm M 46 25 0) 46 29 0) 46 26 (mX6_its ((upm (upm M 46 25 0) 46 29 0) 61 a1.toNatClampNeg) 0 (upm (upm M 46 25 0) 46 29 0))) 61 a1.toNatClampNeg))))).1) ((mX6_drifts a3 (upm (upm (upm (upm (upm M 46 25 0) 46 29 0) 46 26 (mX6_its ((upm (upm M 46 25 0) 46 29 0) 61 a1.toNatClampNeg) 0 (upm (upm M 46 25 0) 46 29 0))) 46 27 ((upm (upm (upm M 46 25 0) 46 29 0) 46 26 (mX6_its ((upm (upm M 46 25 0) 46 29 0) 61 a1.toNatClampNeg) 0 (upm (upm M 46 25 0) 46 29 0))) 61 a1.toNatClampNeg)) 46 28 (mX6_its ((upm (upm (upm (upm M 46 25 0) 46 29 0) 46 26 (mX6_its ((upm (upm M 46 25 0) 46 29 0) 61 a1.toNatClampNeg) 0 (upm (upm M 46 25 0) 46 29 0))) 46 27 ((upm (upm (upm M 46 25 0) 46 29 0) 46 26 (mX6_its ((upm (upm M 46 25 0) 46 29 0) 61 a1.toNatClampNeg) 0 (upm (upm M 46 25 0) 46 29 0))) 61 a1.toNatClampNeg)) 61 a1.toNatClampNeg) 1 (upm (upm (upm (upm M 46 25 0) 46 29 0) 46 26 (mX6_its ((upm (upm M 46 25 0) 46 29 0) 61 a1.toNatClampNeg) 0 (upm (upm M 46 25 0) 46 29 0))) 46 27 ((upm (upm (upm M 46 25 0) 46 29 0) 46 26 (mX6_its ((upm (upm M 46 25 0) 46 29 0) 61 a1.toNatClampNeg) 0 (upm (upm M 46 25 0) 46 29 0))) 61 a1.toNatClampNeg))))).2)) else (if a2 = 1 then (mX6_act_102 ((mX6_drips a3 (upm (upm (upm (upm (upm M 46 25 0) 46 29 0) 46 26 (mX6_its ((upm (upm M 46 25 0) 46 29 0) 61 a1.toNatClampNeg) 0 (upm (upm M 46 25 0) 46 29 0))) 46 27 ((upm (upm (upm M 46 25 0) 46 29 0) 46 26 (mX6_its ((upm (upm M 46 25 0) 46 29 0) 61 a1.toNatClampNeg) 0 (upm (upm M 46 25 0) 46 29 0))) 61 a1.toNatClampNeg)) 46 28 (mX6_its ((upm (upm (upm (upm M 46 25 0) 46 29 0) 46 26 (mX6_its ((upm (upm M 46 25 0) 46 29 0) 61 a1.toNatClampNeg) 0 (upm (upm M 46 25 0) 46 29 0))) 46 27 ((upm (upm (upm M 46 25 0) 46 29 0) 46 26 (mX6_its ((upm (upm M 46 25 0) 46 29 0) 61 a1.toNatClampNeg) 0 (upm (upm M 46 25 0) 46 29 0))) 61 a1.toNatClampNeg)) 61 a1.toNatClampNeg) 1 (upm (upm (upm (upm M 46 25 0) 46 29 0) 46 26 (mX6_its ((upm (upm M 46 25 0) 46 29 0) 61 a1.toNatClampNeg) 0 (upm (upm M 46 25 0) 46 29 0))) 46 27 ((upm (upm (upm M 46 25 0) 46 29 0) 46 26 (mX6_its ((upm (upm M 46 25 0) 46 29 0) 61 a1.toNatClampNeg) 0 (upm (upm M 46 25 0) 46 29 0))) 61 a1.toNatClampNeg))))).1) ((mX6_drips a3 (upm (upm (upm (upm (upm M 46 25 0) 46 29 0) 46 26 (mX6_its ((upm (upm M 46 25 0) 46 29 0) 61 a1.toNatClampNeg) 0 (upm (upm M 46 25 0) 46 29 0))) 46 27 ((upm (upm (upm M 46 25 0) 46 29 0) 46 26 (mX6_its ((upm (upm M 46 25 0) 46 29 0) 61 a1.toNatClampNeg) 0 (upm (upm M 46 25 0) 46 29 0))) 61 a1.toNatClampNeg)) 46 28 (mX6_its ((upm (upm (upm (upm M 46 25 0) 46 29 0) 46 26 (mX6_its ((upm (upm M 46 25 0) 46 29 0) 61 a1.toNatClampNeg) 0 (upm (upm M 46 25 0) 46 29 0))) 46 27 ((upm (upm (upm M 46 25 0) 46 29 0) 46 26 (mX6_its ((upm (upm M 46 25 0) 46 29 0) 61 a1.toNatClampNeg) 0 (upm (upm M 46 25 0) 46 29 0))) 61 a1.toNatClampNeg)) 61 a1.toNatClampNeg) 1 (upm (upm (upm (upm M 46 25 0) 46 29 0) 46 26 (mX6_its ((upm (upm M 46 25 0) 46 29 0) 61 a1.toNatClampNeg) 0 (upm (upm M 46 25 0) 46 29 0))) 46 27 ((upm (upm (upm M 46 25 0) 46 29 0) 46 26 (mX6_its ((upm (upm M 46 25 0) 46 29 0) 61 a1.toNatClampNeg) 0 (upm (upm M 46 25 0) 46 29 0))) 61 a1.toNatClampNeg))))).2)) else (if a2 = 2 then (mX6_act_115 ((mX6_parts a3 (upm (upm (upm (upm (upm M 46 25 0) 46 29 0) 46 26 (mX6_its ((upm (upm M 46 25 0) 46 29 0) 61 a1.toNatClampNeg) 0 (upm (upm M 46 25 0) 46 29 0))) 46 27 ((upm (upm (upm M 46 25 0) 46 29 0) 46 26 (mX6_its ((upm (upm M 46 25 0) 46 29 0) 61 a1.toNatClampNeg) 0 (upm (upm M 46 25 0) 46 29 0))) 61 a1.toNatClampNeg)) 46 28 (mX6_its ((upm (upm (upm (upm M 46 25 0) 46 29 0) 46 26 (mX6_its ((upm (upm M 46 25 0) 46 29 0) 61 a1.toNatClampNeg) 0 (upm (upm M 46 25 0) 46 29 0))) 46 27 ((upm (upm (upm M 46 25 0) 46 29 0) 46 26 (mX6_its ((upm (upm M 46 25 0) 46 29 0) 61 a1.toNatClampNeg) 0 (upm (upm M 46 25 0) 46 29 0))) 61 a1.toNatClampNeg)) 61 a1.toNatClampNeg) 1 (upm (upm (upm (upm M 46 25 0) 46 29 0) 46 26 (mX6_its ((upm (upm M 46 25 0) 46 29 0) 61 a1.toNatClampNeg) 0 (upm (upm M 46 25 0) 46 29 0))) 46 27 ((upm (upm (upm M 46 25 0) 46 29 0) 46 26 (mX6_its ((upm (upm M 46 25 0) 46 29 0) 61 a1.toNatClampNeg) 0 (upm (upm M 46 25 0) 46 29 0))) 61 a1.toNatClampNeg))))).1) ((mX6_parts a3 (upm (upm (upm (upm (upm M 46 25 0) 46 29 0) 46 26 (mX6_its ((upm (upm M 46 25 0) 46 29 0) 61 a1.toNatClampNeg) 0 (upm (upm M 46 25 0) 46 29 0))) 46 27 ((upm (upm (upm M 46 25 0) 46 29 0) 46 26 (mX6_its ((upm (upm M 46 25 0) 46 29 0) 61 a1.toNatClampNeg) 0 (upm (upm M 46 25 0) 46 29 0))) 61 a1.toNatClampNeg)) 46 28 (mX6_its ((upm (upm (upm (upm M 46 25 0) 46 29 0) 46 26 (mX6_its ((upm (upm M 46 25 0) 46 29 0) 61 a1.toNatClampNeg) 0 (upm (upm M 46 25 0) 46 29 0))) 46 27 ((upm (upm (upm M 46 25 0) 46 29 0) 46 26 (mX6_its ((upm (upm M 46 25 0) 46 29 0) 61 a1.toNatClampNeg) 0 (upm (upm M 46 25 0) 46 29 0))) 61 a1.toNatClampNeg)) 61 a1.toNatClampNeg) 1 (upm (upm (upm (upm M 46 25 0) 46 29 0) 46 26 (mX6_its ((upm (upm M 46 25 0) 46 29 0) 61 a1.toNatClampNeg) 0 (upm (upm M 46 25 0) 46 29 0))) 46 27 ((upm (upm (upm M 46 25 0) 46 29 0) 46 26 (mX6_its ((upm (upm M 46 25 0) 46 29 0) 61 a1.toNatClampNeg) 0 (upm (upm M 46 25 0) 46 29 0))) 61 a1.toNatClampNeg))))).2)) else (mX6_act_123 ((mX6_halts a3 (upm (upm (upm (upm (upm M 46 25 0) 46 29 0) 46 26 (mX6_its ((upm (upm M 46 25 0) 46 29 0) 61 a1.toNatClampNeg) 0 (upm (upm M 46 25 0) 46 29 0))) 46 27 ((upm (upm (upm M 46 25 0) 46 29 0) 46 26 (mX6_its ((upm (upm M 46 25 0) 46 29 0) 61 a1.toNatClampNeg) 0 (upm (upm M 46 25 0) 46 29 0))) 61 a1.toNatClampNeg)) 46 28 (mX6_its ((upm (upm (upm (upm M 46 25 0) 46 29 0) 46 26 (mX6_its ((upm (upm M 46 25 0) 46 29 0) 61 a1.toNatClampNeg) 0 (upm (upm M 46 25 0) 46 29 0))) 46 27 ((upm (upm (upm M 46 25 0) 46 29 0) 46 26 (mX6_its ((upm (upm M 46 25 0) 46 29 0) 61 a1.toNatClampNeg) 0 (upm (upm M 46 25 0) 46 29 0))) 61 a1.toNatClampNeg)) 61 a1.toNatClampNeg) 1 (upm (upm (upm (upm M 46 25 0) 46 29 0) 46 26 (mX6_its ((upm (upm M 46 25 0) 46 29 0) 61 a1.toNatClampNeg) 0 (upm (upm M 46 25 0) 46 29 0))) 46 27 ((upm (upm (upm M 46 25 0) 46 29 0) 46 26 (mX6_its ((upm (upm M 46 25 0) 46 29 0) 61 a1.toNatClampNeg) 0 (upm (upm M 46 25 0) 46 29 0))) 61 a1.toNatClampNeg))))).1) ((mX6_halts a3 (upm (upm (upm (upm (upm M 46 25 0) 46 29 0) 46 26 (mX6_its ((upm (upm M 46 25 0) 46 29 0) 61 a1.toNatClampNeg) 0 (upm (upm M 46 25 0) 46 29 0))) 46 27 ((upm (upm (upm M 46 25 0) 46 29 0) 46 26 (mX6_its ((upm (upm M 46 25 0) 46 29 0) 61 a1.toNatClampNeg) 0 (upm (upm M 46 25 0) 46 29 0))) 61 a1.toNatClampNeg)) 46 28 (mX6_its ((upm (upm (upm (upm M 46 25 0) 46 29 0) 46 26 (mX6_its ((upm (upm M 46 25 0) 46 29 0) 61 a1.toNatClampNeg) 0 (upm (upm M 46 25 0) 46 29 0))) 46 27 ((upm (upm (upm M 46 25 0) 46 29 0) 46 26 (mX6_its ((upm (upm M 46 25 0) 46 29 0) 61 a1.toNatClampNeg) 0 (upm (upm M 46 25 0) 46 29 0))) 61 a1.toNatClampNeg)) 61 a1.toNatClampNeg) 1 (upm (upm (upm (upm M 46 25 0) 46 29 0) 46 26 (mX6_its ((upm (upm M 46 25 0) 46 29 0) 61 a1.toNatClampNeg) 0 (upm (upm M 46 25 0) 46 29 0))) 46 27 ((upm (upm (upm M 46 25 0) 46 29 0) 46 26 (mX6_its ((upm (upm M 46 25 0) 46 29 0) 61 a1.toNatClampNeg) 0 (upm (upm M 46 25 0) 46 29 0))) 61 a1.toNatClampNeg))))).2))))) else (0, (upm M 46 25 0))) else (0, (upm M 46 25 0))) else (0, (upm M 46 25 0)))
def PX6_act  (a1 : Int32) (a2 : Int32) (a3 : Int32) (M : Mem) : Prop := ((mX6_isShelf a1) = true → ((mX6_isIn ((a2 : Int32).toInt64) 0 3) = true → PX6_heldOn a1 (upm M 46 25 0) ∧ (((mX6_heldOn a1 (upm M 46 25 0)) = 1 → vp_in a1 4 ∧ (PX6_its ((upm (upm M 46 25 0) 46 29 0) 61 a1.toNatClampNeg) 0 (upm (upm M 46 25 0) 46 29 0) ∧ (vp_in a1 4 ∧ (vp_in a1 4 ∧ (PX6_its ((upm (upm (upm (upm M 46 25 0) 46 29 0) 46 26 (mX6_its ((upm (upm M 46 25 0) 46 29 0) 61 a1.toNatClampNeg) 0 (upm (upm M 46 25 0) 46 29 0))) 46 27 ((upm (upm (upm M 46 25 0) 46 29 0) 46 26 (mX6_its ((upm (upm M 46 25 0) 46 29 0) 61 a1.toNatClampNeg) 0 (upm (upm M 46 25 0) 46 29 0))) 61 a1.toNatClampNeg)) 61 a1.toNatClampNeg) 1 (upm (upm (upm (upm M 46 25 0) 46 29 0) 46 26 (mX6_its ((upm (upm M 46 25 0) 46 29 0) 61 a1.toNatClampNeg) 0 (upm (upm M 46 25 0) 46 29 0))) 46 27 ((upm (upm (upm M 46 25 0) 46 29 0) 46 26 (mX6_its ((upm (upm M 46 25 0) 46 29 0) 61 a1.toNatClampNeg) 0 (upm (upm M 46 25 0) 46 29 0))) 61 a1.toNatClampNeg)) ∧ (((a2 = 0 → PX6_drifts a3 (upm (upm (upm (upm (upm M 46 25 0) 46 29 0) 46 26 (mX6_its ((upm (upm M 46 25 0) 46 29 0) 61 a1.toNatClampNeg) 0 (upm (upm M 46 25 0) 46 29 0))) 46 27 ((upm (upm (upm M 46 25 0) 46 29 0) 46 26 (mX6_its ((upm (upm M 46 25 0) 46 29 0) 61 a1.toNatClampNeg) 0 (upm (upm M 46 25 0) 46 29 0))) 61 a1.toNatClampNeg)) 46 28 (mX6_its ((upm (upm (upm (upm M 46 25 0) 46 29 0) 46 26 (mX6_its ((upm (upm M 46 25 0) 46 29 0) 61 a1.toNatClampNeg) 0 (upm (upm M 46 25 0) 46 29 0))) 46 27 ((upm (upm (upm M 46 25 0) 46 29 0) 46 26 (mX6_its ((upm (upm M 46 25 0) 46 29 0) 61 a1.toNatClampNeg) 0 (upm (upm M 46 25 0) 46 29 0))) 61 a1.toNatClampNeg)) 61 a1.toNatClampNeg) 1 (upm (upm (upm (upm M 46 25 0) 46 29 0) 46 26 (mX6_its ((upm (upm M 46 25 0) 46 29 0) 61 a1.toNatClampNeg) 0 (upm (upm M 46 25 0) 46 29 0))) 46 27 ((upm (upm (upm M 46 25 0) 46 29 0) 46 26 (mX6_its ((upm (upm M 46 25 0) 46 29 0) 61 a1.toNatClampNeg) 0 (upm (upm M 46 25 0) 46 29 0))) 61 a1.toNatClampNeg)))) ∧ (PX6_act_89 ((mX6_drifts a3 (upm (upm (upm (upm (upm M 46 25 0) 46 29 0) 46 26 (mX6_its ((upm (upm M 46 25 0) 46 29 0) 61 a1.toNatClampNeg) 0 (upm (upm M 46 25 0) 46 29 0))) 46 27 ((upm (upm (upm M 46 25 0) 46 29 0) 46 26 (mX6_its ((upm (upm M 46 25 0) 46 29 0) 61 a1.toNatClampNeg) 0 (upm (upm M 46 25 0) 46 29 0))) 61 a1.toNatClampNeg)) 46 28 (mX6_its ((upm (upm (upm (upm M 46 25 0) 46 29 0) 46 26 (mX6_its ((upm (upm M 46 25 0) 46 29 0) 61 a1.toNatClampNeg) 0 (upm (upm M 46 25 0) 46 29 0))) 46 27 ((upm (upm (upm M 46 25 0) 46 29 0) 46 26 (mX6_its ((upm (upm M 46 25 0) 46 29 0) 61 a1.toNatClampNeg) 0 (upm (upm M 46 25 0) 46 29 0))) 61 a1.toNatClampNeg)) 61 a1.toNatClampNeg) 1 (upm (upm (upm (upm M 46 25 0) 46 29 0) 46 26 (mX6_its ((upm (upm M 46 25 0) 46 29 0) 61 a1.toNatClampNeg) 0 (upm (upm M 46 25 0) 46 29 0))) 46 27 ((upm (upm (upm M 46 25 0) 46 29 0) 46 26 (mX6_its ((upm (upm M 46 25 0) 46 29 0) 61 a1.toNatClampNeg) 0 (upm (upm M 46 25 0) 46 29 0))) 61 a1.toNatClampNeg))))).1) ((mX6_drifts a3 (upm (upm (upm (upm (upm M 46 25 0) 46 29 0) 46 26 (mX6_its ((upm (upm M 46 25 0) 46 29 0) 61 a1.toNatClampNeg) 0 (upm (upm M 46 25 0) 46 29 0))) 46 27 ((upm (upm (upm M 46 25 0) 46 29 0) 46 26 (mX6_its ((upm (upm M 46 25 0) 46 29 0) 61 a1.toNatClampNeg) 0 (upm (upm M 46 25 0) 46 29 0))) 61 a1.toNatClampNeg)) 46 28 (mX6_its ((upm (upm (upm (upm M 46 25 0) 46 29 0) 46 26 (mX6_its ((upm (upm M 46 25 0) 46 29 0) 61 a1.toNatClampNeg) 0 (upm (upm M 46 25 0) 46 29 0))) 46 27 ((upm (upm (upm M 46 25 0) 46 29 0) 46 26 (mX6_its ((upm (upm M 46 25 0) 46 29 0) 61 a1.toNatClampNeg) 0 (upm (upm M 46 25 0) 46 29 0))) 61 a1.toNatClampNeg)) 61 a1.toNatClampNeg) 1 (upm (upm (upm (upm M 46 25 0) 46 29 0) 46 26 (mX6_its ((upm (upm M 46 25 0) 46 29 0) 61 a1.toNatClampNeg) 0 (upm (upm M 46 25 0) 46 29 0))) 46 27 ((upm (upm (upm M 46 25 0) 46 29 0) 46 26 (mX6_its ((upm (upm M 46 25 0) 46 29 0) 61 a1.toNatClampNeg) 0 (upm (upm M 46 25 0) 46 29 0))) 61 a1.toNatClampNeg))))).2))) ∧ (¬ a2 = 0 → ((a2 = 1 → PX6_drips a3 (upm (upm (upm (upm (upm M 46 25 0) 46 29 0) 46 26 (mX6_its ((upm (upm M 46 25 0) 46 29 0) 61 a1.toNatClampNeg) 0 (upm (upm M 46 25 0) 46 29 0))) 46 27 ((upm (upm (upm M 46 25 0) 46 29 0) 46 26 (mX6_its ((upm (upm M 46 25 0) 46 29 0) 61 a1.toNatClampNeg) 0 (upm (upm M 46 25 0) 46 29 0))) 61 a1.toNatClampNeg)) 46 28 (mX6_its ((upm (upm (upm (upm M 46 25 0) 46 29 0) 46 26 (mX6_its ((upm (upm M 46 25 0) 46 29 0) 61 a1.toNatClampNeg) 0 (upm (upm M 46 25 0) 46 29 0))) 46 27 ((upm (upm (upm M 46 25 0) 46 29 0) 46 26 (mX6_its ((upm (upm M 46 25 0) 46 29 0) 61 a1.toNatClampNeg) 0 (upm (upm M 46 25 0) 46 29 0))) 61 a1.toNatClampNeg)) 61 a1.toNatClampNeg) 1 (upm (upm (upm (upm M 46 25 0) 46 29 0) 46 26 (mX6_its ((upm (upm M 46 25 0) 46 29 0) 61 a1.toNatClampNeg) 0 (upm (upm M 46 25 0) 46 29 0))) 46 27 ((upm (upm (upm M 46 25 0) 46 29 0) 46 26 (mX6_its ((upm (upm M 46 25 0) 46 29 0) 61 a1.toNatClampNeg) 0 (upm (upm M 46 25 0) 46 29 0))) 61 a1.toNatClampNeg)))) ∧ (PX6_act_102 ((mX6_drips a3 (upm (upm (upm (upm (upm M 46 25 0) 46 29 0) 46 26 (mX6_its ((upm (upm M 46 25 0) 46 29 0) 61 a1.toNatClampNeg) 0 (upm (upm M 46 25 0) 46 29 0))) 46 27 ((upm (upm (upm M 46 25 0) 46 29 0) 46 26 (mX6_its ((upm (upm M 46 25 0) 46 29 0) 61 a1.toNatClampNeg) 0 (upm (upm M 46 25 0) 46 29 0))) 61 a1.toNatClampNeg)) 46 28 (mX6_its ((upm (upm (upm (upm M 46 25 0) 46 29 0) 46 26 (mX6_its ((upm (upm M 46 25 0) 46 29 0) 61 a1.toNatClampNeg) 0 (upm (upm M 46 25 0) 46 29 0))) 46 27 ((upm (upm (upm M 46 25 0) 46 29 0) 46 26 (mX6_its ((upm (upm M 46 25 0) 46 29 0) 61 a1.toNatClampNeg) 0 (upm (upm M 46 25 0) 46 29 0))) 61 a1.toNatClampNeg)) 61 a1.toNatClampNeg) 1 (upm (upm (upm (upm M 46 25 0) 46 29 0) 46 26 (mX6_its ((upm (upm M 46 25 0) 46 29 0) 61 a1.toNatClampNeg) 0 (upm (upm M 46 25 0) 46 29 0))) 46 27 ((upm (upm (upm M 46 25 0) 46 29 0) 46 26 (mX6_its ((upm (upm M 46 25 0) 46 29 0) 61 a1.toNatClampNeg) 0 (upm (upm M 46 25 0) 46 29 0))) 61 a1.toNatClampNeg))))).1) ((mX6_drips a3 (upm (upm (upm (upm (upm M 46 25 0) 46 29 0) 46 26 (mX6_its ((upm (upm M 46 25 0) 46 29 0) 61 a1.toNatClampNeg) 0 (upm (upm M 46 25 0) 46 29 0))) 46 27 ((upm (upm (upm M 46 25 0) 46 29 0) 46 26 (mX6_its ((upm (upm M 46 25 0) 46 29 0) 61 a1.toNatClampNeg) 0 (upm (upm M 46 25 0) 46 29 0))) 61 a1.toNatClampNeg)) 46 28 (mX6_its ((upm (upm (upm (upm M 46 25 0) 46 29 0) 46 26 (mX6_its ((upm (upm M 46 25 0) 46 29 0) 61 a1.toNatClampNeg) 0 (upm (upm M 46 25 0) 46 29 0))) 46 27 ((upm (upm (upm M 46 25 0) 46 29 0) 46 26 (mX6_its ((upm (upm M 46 25 0) 46 29 0) 61 a1.toNatClampNeg) 0 (upm (upm M 46 25 0) 46 29 0))) 61 a1.toNatClampNeg)) 61 a1.toNatClampNeg) 1 (upm (upm (upm (upm M 46 25 0) 46 29 0) 46 26 (mX6_its ((upm (upm M 46 25 0) 46 29 0) 61 a1.toNatClampNeg) 0 (upm (upm M 46 25 0) 46 29 0))) 46 27 ((upm (upm (upm M 46 25 0) 46 29 0) 46 26 (mX6_its ((upm (upm M 46 25 0) 46 29 0) 61 a1.toNatClampNeg) 0 (upm (upm M 46 25 0) 46 29 0))) 61 a1.toNatClampNeg))))).2))) ∧ (¬ a2 = 1 → ((a2 = 2 → PX6_parts a3 (upm (upm (upm (upm (upm M 46 25 0) 46 29 0) 46 26 (mX6_its ((upm (upm M 46 25 0) 46 29 0) 61 a1.toNatClampNeg) 0 (upm (upm M 46 25 0) 46 29 0))) 46 27 ((upm (upm (upm M 46 25 0) 46 29 0) 46 26 (mX6_its ((upm (upm M 46 25 0) 46 29 0) 61 a1.toNatClampNeg) 0 (upm (upm M 46 25 0) 46 29 0))) 61 a1.toNatClampNeg)) 46 28 (mX6_its ((upm (upm (upm (upm M 46 25 0) 46 29 0) 46 26 (mX6_its ((upm (upm M 46 25 0) 46 29 0) 61 a1.toNatClampNeg) 0 (upm (upm M 46 25 0) 46 29 0))) 46 27 ((upm (upm (upm M 46 25 0) 46 29 0) 46 26 (mX6_its ((upm (upm M 46 25 0) 46 29 0) 61 a1.toNatClampNeg) 0 (upm (upm M 46 25 0) 46 29 0))) 61 a1.toNatClampNeg)) 61 a1.toNatClampNeg) 1 (upm (upm (upm (upm M 46 25 0) 46 29 0) 46 26 (mX6_its ((upm (upm M 46 25 0) 46 29 0) 61 a1.toNatClampNeg) 0 (upm (upm M 46 25 0) 46 29 0))) 46 27 ((upm (upm (upm M 46 25 0) 46 29 0) 46 26 (mX6_its ((upm (upm M 46 25 0) 46 29 0) 61 a1.toNatClampNeg) 0 (upm (upm M 46 25 0) 46 29 0))) 61 a1.toNatClampNeg)))) ∧ (PX6_act_115 ((mX6_parts a3 (upm (upm (upm (upm (upm M 46 25 0) 46 29 0) 46 26 (mX6_its ((upm (upm M 46 25 0) 46 29 0) 61 a1.toNatClampNeg) 0 (upm (upm M 46 25 0) 46 29 0))) 46 27 ((upm (upm (upm M 46 25 0) 46 29 0) 46 26 (mX6_its ((upm (upm M 46 25 0) 46 29 0) 61 a1.toNatClampNeg) 0 (upm (upm M 46 25 0) 46 29 0))) 61 a1.toNatClampNeg)) 46 28 (mX6_its ((upm (upm (upm (upm M 46 25 0) 46 29 0) 46 26 (mX6_its ((upm (upm M 46 25 0) 46 29 0) 61 a1.toNatClampNeg) 0 (upm (upm M 46 25 0) 46 29 0))) 46 27 ((upm (upm (upm M 46 25 0) 46 29 0) 46 26 (mX6_its ((upm (upm M 46 25 0) 46 29 0) 61 a1.toNatClampNeg) 0 (upm (upm M 46 25 0) 46 29 0))) 61 a1.toNatClampNeg)) 61 a1.toNatClampNeg) 1 (upm (upm (upm (upm M 46 25 0) 46 29 0) 46 26 (mX6_its ((upm (upm M 46 25 0) 46 29 0) 61 a1.toNatClampNeg) 0 (upm (upm M 46 25 0) 46 29 0))) 46 27 ((upm (upm (upm M 46 25 0) 46 29 0) 46 26 (mX6_its ((upm (upm M 46 25 0) 46 29 0) 61 a1.toNatClampNeg) 0 (upm (upm M 46 25 0) 46 29 0))) 61 a1.toNatClampNeg))))).1) ((mX6_parts a3 (upm (upm (upm (upm (upm M 46 25 0) 46 29 0) 46 26 (mX6_its ((upm (upm M 46 25 0) 46 29 0) 61 a1.toNatClampNeg) 0 (upm (upm M 46 25 0) 46 29 0))) 46 27 ((upm (upm (upm M 46 25 0) 46 29 0) 46 26 (mX6_its ((upm (upm M 46 25 0) 46 29 0) 61 a1.toNatClampNeg) 0 (upm (upm M 46 25 0) 46 29 0))) 61 a1.toNatClampNeg)) 46 28 (mX6_its ((upm (upm (upm (upm M 46 25 0) 46 29 0) 46 26 (mX6_its ((upm (upm M 46 25 0) 46 29 0) 61 a1.toNatClampNeg) 0 (upm (upm M 46 25 0) 46 29 0))) 46 27 ((upm (upm (upm M 46 25 0) 46 29 0) 46 26 (mX6_its ((upm (upm M 46 25 0) 46 29 0) 61 a1.toNatClampNeg) 0 (upm (upm M 46 25 0) 46 29 0))) 61 a1.toNatClampNeg)) 61 a1.toNatClampNeg) 1 (upm (upm (upm (upm M 46 25 0) 46 29 0) 46 26 (mX6_its ((upm (upm M 46 25 0) 46 29 0) 61 a1.toNatClampNeg) 0 (upm (upm M 46 25 0) 46 29 0))) 46 27 ((upm (upm (upm M 46 25 0) 46 29 0) 46 26 (mX6_its ((upm (upm M 46 25 0) 46 29 0) 61 a1.toNatClampNeg) 0 (upm (upm M 46 25 0) 46 29 0))) 61 a1.toNatClampNeg))))).2))) ∧ (¬ a2 = 2 → PX6_halts a3 (upm (upm (upm (upm (upm M 46 25 0) 46 29 0) 46 26 (mX6_its ((upm (upm M 46 25 0) 46 29 0) 61 a1.toNatClampNeg) 0 (upm (upm M 46 25 0) 46 29 0))) 46 27 ((upm (upm (upm M 46 25 0) 46 29 0) 46 26 (mX6_its ((upm (upm M 46 25 0) 46 29 0) 61 a1.toNatClampNeg) 0 (upm (upm M 46 25 0) 46 29 0))) 61 a1.toNatClampNeg)) 46 28 (mX6_its ((upm (upm (upm (upm M 46 25 0) 46 29 0) 46 26 (mX6_its ((upm (upm M 46 25 0) 46 29 0) 61 a1.toNatClampNeg) 0 (upm (upm M 46 25 0) 46 29 0))) 46 27 ((upm (upm (upm M 46 25 0) 46 29 0) 46 26 (mX6_its ((upm (upm M 46 25 0) 46 29 0) 61 a1.toNatClampNeg) 0 (upm (upm M 46 25 0) 46 29 0))) 61 a1.toNatClampNeg)) 61 a1.toNatClampNeg) 1 (upm (upm (upm (upm M 46 25 0) 46 29 0) 46 26 (mX6_its ((upm (upm M 46 25 0) 46 29 0) 61 a1.toNatClampNeg) 0 (upm (upm M 46 25 0) 46 29 0))) 46 27 ((upm (upm (upm M 46 25 0) 46 29 0) 46 26 (mX6_its ((upm (upm M 46 25 0) 46 29 0) 61 a1.toNatClampNeg) 0 (upm (upm M 46 25 0) 46 29 0))) 61 a1.toNatClampNeg)))) ∧ (PX6_act_123 ((mX6_halts a3 (upm (upm (upm (upm (upm M 46 25 0) 46 29 0) 46 26 (mX6_its ((upm (upm M 46 25 0) 46 29 0) 61 a1.toNatClampNeg) 0 (upm (upm M 46 25 0) 46 29 0))) 46 27 ((upm (upm (upm M 46 25 0) 46 29 0) 46 26 (mX6_its ((upm (upm M 46 25 0) 46 29 0) 61 a1.toNatClampNeg) 0 (upm (upm M 46 25 0) 46 29 0))) 61 a1.toNatClampNeg)) 46 28 (mX6_its ((upm (upm (upm (upm M 46 25 0) 46 29 0) 46 26 (mX6_its ((upm (upm M 46 25 0) 46 29 0) 61 a1.toNatClampNeg) 0 (upm (upm M 46 25 0) 46 29 0))) 46 27 ((upm (upm (upm M 46 25 0) 46 29 0) 46 26 (mX6_its ((upm (upm M 46 25 0) 46 29 0) 61 a1.toNatClampNeg) 0 (upm (upm M 46 25 0) 46 29 0))) 61 a1.toNatClampNeg)) 61 a1.toNatClampNeg) 1 (upm (upm (upm (upm M 46 25 0) 46 29 0) 46 26 (mX6_its ((upm (upm M 46 25 0) 46 29 0) 61 a1.toNatClampNeg) 0 (upm (upm M 46 25 0) 46 29 0))) 46 27 ((upm (upm (upm M 46 25 0) 46 29 0) 46 26 (mX6_its ((upm (upm M 46 25 0) 46 29 0) 61 a1.toNatClampNeg) 0 (upm (upm M 46 25 0) 46 29 0))) 61 a1.toNatClampNeg))))).1) ((mX6_halts a3 (upm (upm (upm (upm (upm M 46 25 0) 46 29 0) 46 26 (mX6_its ((upm (upm M 46 25 0) 46 29 0) 61 a1.toNatClampNeg) 0 (upm (upm M 46 25 0) 46 29 0))) 46 27 ((upm (upm (upm M 46 25 0) 46 29 0) 46 26 (mX6_its ((upm (upm M 46 25 0) 46 29 0) 61 a1.toNatClampNeg) 0 (upm (upm M 46 25 0) 46 29 0))) 61 a1.toNatClampNeg)) 46 28 (mX6_its ((upm (upm (upm (upm M 46 25 0) 46 29 0) 46 26 (mX6_its ((upm (upm M 46 25 0) 46 29 0) 61 a1.toNatClampNeg) 0 (upm (upm M 46 25 0) 46 29 0))) 46 27 ((upm (upm (upm M 46 25 0) 46 29 0) 46 26 (mX6_its ((upm (upm M 46 25 0) 46 29 0) 61 a1.toNatClampNeg) 0 (upm (upm M 46 25 0) 46 29 0))) 61 a1.toNatClampNeg)) 61 a1.toNatClampNeg) 1 (upm (upm (upm (upm M 46 25 0) 46 29 0) 46 26 (mX6_its ((upm (upm M 46 25 0) 46 29 0) 61 a1.toNatClampNeg) 0 (upm (upm M 46 25 0) 46 29 0))) 46 27 ((upm (upm (upm M 46 25 0) 46 29 0) 46 26 (mX6_its ((upm (upm M 46 25 0) 46 29 0) 61 a1.toNatClampNeg) 0 (upm (upm M 46 25 0) 46 29 0))) 61 a1.toNatClampNeg))))).2)))))))))))))))))
set_option maxRecDepth 100000 in
theorem ctX6_act   (a1 : Int32) (a2 : Int32) (a3 : Int32) (M : Mem) (hp : PX6_act a1 a2 a3 M) : CT mtX6_act 8 [.ref 46, .int a1, .int a2, .int a3] M (some (.int ((mX6_act a1 a2 a3 M).1)), (mX6_act a1 a2 a3 M).2) := by
  refine CT.of (by decide) rfl (Nat.le_of_ble_eq_true rfl) ?_
  show AWP (GIM mtX6_act 8 M (mX6_act a1 a2 a3 M)) mtX6_act 0 [(0, .ref 46), (1, .int a1), (2, .int a2), (3, .int a3)] [] M
  unfold mX6_act
  unfold PX6_act at hp
  refine r_aload_n MF.bs dX6_act_0 rfl 0 rfl ?_
  refine r_iconst MF.bs dX6_act_1 (v := 0) (by decide) ?_
  refine r_putI MF.bs dX6_act_2 rfl rfl 25 (by decide) wd_900 rfl rfl rfl rfl rfl ?_
  refine r_iload_n MF.bs dX6_act_5 rfl 1 rfl ?_
  refine r_callS_v MF.bs (st := []) dX6_act_6 (ctX6_isShelf a1 (upm M 46 25 0)) miX6_isShelf wd_1325 rfl (by decide) rfl (Nat.le_of_ble_eq_true rfl) ?_
  refine r_ite (GIM mtX6_act 8 M) (fun h_1 => ?_) (fun h_1 => ?_)
  · have hp := hp h_1
    refine r_if_eq_f MF.bs (tgt := 33) dX6_act_9 (by decide) (b2i_1 h_1) ?_
    refine r_iload_n MF.bs dX6_act_12 rfl 2 rfl ?_
    refine r_i2l MF.bs dX6_act_13 ?_
    refine r_lconst MF.bs dX6_act_14 (v := 0) (by decide) ?_
    refine r_ldc2 MF.bs (v := 3) dX6_act_15 wd_1056 ?_
    refine r_callS_v MF.bs (st := []) dX6_act_18 (ctX6_isIn ((a2 : Int32).toInt64) 0 3 (upm M 46 25 0)) miX6_isIn wd_971 rfl (by decide) rfl (Nat.le_of_ble_eq_true rfl) ?_
    refine r_ite (GIM mtX6_act 8 M) (fun h_2 => ?_) (fun h_2 => ?_)
    · have hp := hp h_2
      refine r_if_eq_f MF.bs (tgt := 33) dX6_act_21 (by decide) (b2i_1 h_2) ?_
      obtain ⟨hq_3, hp⟩ := hp
      refine r_aload_n MF.bs dX6_act_24 rfl 0 rfl ?_
      refine r_iload_n MF.bs dX6_act_25 rfl 1 rfl ?_
      refine r_callV_v MF.bs (st := []) dX6_act_26 (ctX6_heldOn a1 (upm M 46 25 0) hq_3) miX6_heldOn wd_1334 rfl (by decide) rfl (Nat.le_of_ble_eq_true rfl) rfl rfl rfl ?_
      refine r_iconst MF.bs dX6_act_29 (v := 1) (by decide) ?_
      refine r_ite (GIM mtX6_act 8 M) (fun h_4 => ?_) (fun h_4 => ?_)
      · have hp := hp h_4
        refine r_icmp_eq_t MF.bs (tgt := 35) dX6_act_30 (by decide) h_4 ?_
        obtain ⟨hq_5, hp⟩ := hp
        obtain ⟨hq_6, hp⟩ := hp
        obtain ⟨hq_7, hp⟩ := hp
        obtain ⟨hq_8, hp⟩ := hp
        obtain ⟨hq_9, hp⟩ := hp
        refine r_aload_n MF.bs dX6_act_35 rfl 0 rfl ?_
        refine r_iconst MF.bs dX6_act_36 (v := 0) (by decide) ?_
        refine r_putI MF.bs dX6_act_37 rfl rfl 29 (by decide) wd_904 rfl rfl rfl rfl rfl ?_
        refine r_aload_n MF.bs dX6_act_40 rfl 0 rfl ?_
        refine r_aload_n MF.bs dX6_act_41 rfl 0 rfl ?_
        refine r_aload_n MF.bs dX6_act_42 rfl 0 rfl ?_
        refine r_getR MF.bs dX6_act_43 rfl rfl 22 (by decide) wd_897 rfl ?_
        refine r_iload_n MF.bs dX6_act_46 rfl 1 rfl ?_
        refine r_iaload MF.bs dX6_act_47 rfl hq_5 ?_
        refine r_iconst MF.bs dX6_act_48 (v := 0) (by decide) ?_
        refine r_callV_v MF.bs (st := [.ref 46]) dX6_act_49 (ctX6_its ((upm (upm M 46 25 0) 46 29 0) 61 a1.toNatClampNeg) 0 (upm (upm M 46 25 0) 46 29 0) hq_6) miX6_its wd_1083 rfl (by decide) rfl (Nat.le_of_ble_eq_true rfl) rfl rfl rfl ?_
        refine r_putI MF.bs dX6_act_52 rfl rfl 26 (by decide) wd_901 rfl rfl rfl rfl rfl ?_
        refine r_aload_n MF.bs dX6_act_55 rfl 0 rfl ?_
        refine r_aload_n MF.bs dX6_act_56 rfl 0 rfl ?_
        refine r_getR MF.bs dX6_act_57 rfl rfl 22 (by decide) wd_897 rfl ?_
        refine r_iload_n MF.bs dX6_act_60 rfl 1 rfl ?_
        refine r_iaload MF.bs dX6_act_61 rfl hq_7 ?_
        refine r_putI MF.bs dX6_act_62 rfl rfl 27 (by decide) wd_902 rfl rfl rfl rfl rfl ?_
        refine r_aload_n MF.bs dX6_act_65 rfl 0 rfl ?_
        refine r_aload_n MF.bs dX6_act_66 rfl 0 rfl ?_
        refine r_aload_n MF.bs dX6_act_67 rfl 0 rfl ?_
        refine r_getR MF.bs dX6_act_68 rfl rfl 22 (by decide) wd_897 rfl ?_
        refine r_iload_n MF.bs dX6_act_71 rfl 1 rfl ?_
        refine r_iaload MF.bs dX6_act_72 rfl hq_8 ?_
        refine r_iconst MF.bs dX6_act_73 (v := 1) (by decide) ?_
        refine r_callV_v MF.bs (st := [.ref 46]) dX6_act_74 (ctX6_its ((upm (upm (upm (upm M 46 25 0) 46 29 0) 46 26 (mX6_its ((upm (upm M 46 25 0) 46 29 0) 61 a1.toNatClampNeg) 0 (upm (upm M 46 25 0) 46 29 0))) 46 27 ((upm (upm (upm M 46 25 0) 46 29 0) 46 26 (mX6_its ((upm (upm M 46 25 0) 46 29 0) 61 a1.toNatClampNeg) 0 (upm (upm M 46 25 0) 46 29 0))) 61 a1.toNatClampNeg)) 61 a1.toNatClampNeg) 1 (upm (upm (upm (upm M 46 25 0) 46 29 0) 46 26 (mX6_its ((upm (upm M 46 25 0) 46 29 0) 61 a1.toNatClampNeg) 0 (upm (upm M 46 25 0) 46 29 0))) 46 27 ((upm (upm (upm M 46 25 0) 46 29 0) 46 26 (mX6_its ((upm (upm M 46 25 0) 46 29 0) 61 a1.toNatClampNeg) 0 (upm (upm M 46 25 0) 46 29 0))) 61 a1.toNatClampNeg)) hq_9) miX6_its wd_1083 rfl (by decide) rfl (Nat.le_of_ble_eq_true rfl) rfl rfl rfl ?_
        refine r_putI MF.bs dX6_act_77 rfl rfl 28 (by decide) wd_903 rfl rfl rfl rfl rfl ?_
        refine r_iload_n MF.bs dX6_act_80 rfl 2 rfl ?_
        refine r_ite (GIM mtX6_act 8 M) (fun h_10 => ?_) (fun h_10 => ?_)
        · have hp := hp.1 h_10
          refine r_if_ne_f MF.bs (tgt := 92) dX6_act_81 (by decide) h_10 ?_
          obtain ⟨hq_11, hp⟩ := hp
          refine r_aload_n MF.bs dX6_act_84 rfl 0 rfl ?_
          refine r_iload_n MF.bs dX6_act_85 rfl 3 rfl ?_
          refine r_callV_v MF.bs (st := []) dX6_act_86 (ctX6_drifts a3 (upm (upm (upm (upm (upm M 46 25 0) 46 29 0) 46 26 (mX6_its ((upm (upm M 46 25 0) 46 29 0) 61 a1.toNatClampNeg) 0 (upm (upm M 46 25 0) 46 29 0))) 46 27 ((upm (upm (upm M 46 25 0) 46 29 0) 46 26 (mX6_its ((upm (upm M 46 25 0) 46 29 0) 61 a1.toNatClampNeg) 0 (upm (upm M 46 25 0) 46 29 0))) 61 a1.toNatClampNeg)) 46 28 (mX6_its ((upm (upm (upm (upm M 46 25 0) 46 29 0) 46 26 (mX6_its ((upm (upm M 46 25 0) 46 29 0) 61 a1.toNatClampNeg) 0 (upm (upm M 46 25 0) 46 29 0))) 46 27 ((upm (upm (upm M 46 25 0) 46 29 0) 46 26 (mX6_its ((upm (upm M 46 25 0) 46 29 0) 61 a1.toNatClampNeg) 0 (upm (upm M 46 25 0) 46 29 0))) 61 a1.toNatClampNeg)) 61 a1.toNatClampNeg) 1 (upm (upm (upm (upm M 46 25 0) 46 29 0) 46 26 (mX6_its ((upm (upm M 46 25 0) 46 29 0) 61 a1.toNatClampNeg) 0 (upm (upm M 46 25 0) 46 29 0))) 46 27 ((upm (upm (upm M 46 25 0) 46 29 0) 46 26 (mX6_its ((upm (upm M 46 25 0) 46 29 0) 61 a1.toNatClampNeg) 0 (upm (upm M 46 25 0) 46 29 0))) 61 a1.toNatClampNeg)))) hq_11) miX6_drifts wd_1345 rfl (by decide) rfl (Nat.le_of_ble_eq_true rfl) rfl rfl rfl ?_
          refine r_sub [(0, .ref 46)] [0] rfl ?_
          exact cX6_act_89 M ((mX6_drifts a3 (upm (upm (upm (upm (upm M 46 25 0) 46 29 0) 46 26 (mX6_its ((upm (upm M 46 25 0) 46 29 0) 61 a1.toNatClampNeg) 0 (upm (upm M 46 25 0) 46 29 0))) 46 27 ((upm (upm (upm M 46 25 0) 46 29 0) 46 26 (mX6_its ((upm (upm M 46 25 0) 46 29 0) 61 a1.toNatClampNeg) 0 (upm (upm M 46 25 0) 46 29 0))) 61 a1.toNatClampNeg)) 46 28 (mX6_its ((upm (upm (upm (upm M 46 25 0) 46 29 0) 46 26 (mX6_its ((upm (upm M 46 25 0) 46 29 0) 61 a1.toNatClampNeg) 0 (upm (upm M 46 25 0) 46 29 0))) 46 27 ((upm (upm (upm M 46 25 0) 46 29 0) 46 26 (mX6_its ((upm (upm M 46 25 0) 46 29 0) 61 a1.toNatClampNeg) 0 (upm (upm M 46 25 0) 46 29 0))) 61 a1.toNatClampNeg)) 61 a1.toNatClampNeg) 1 (upm (upm (upm (upm M 46 25 0) 46 29 0) 46 26 (mX6_its ((upm (upm M 46 25 0) 46 29 0) 61 a1.toNatClampNeg) 0 (upm (upm M 46 25 0) 46 29 0))) 46 27 ((upm (upm (upm M 46 25 0) 46 29 0) 46 26 (mX6_its ((upm (upm M 46 25 0) 46 29 0) 61 a1.toNatClampNeg) 0 (upm (upm M 46 25 0) 46 29 0))) 61 a1.toNatClampNeg))))).1) ((mX6_drifts a3 (upm (upm (upm (upm (upm M 46 25 0) 46 29 0) 46 26 (mX6_its ((upm (upm M 46 25 0) 46 29 0) 61 a1.toNatClampNeg) 0 (upm (upm M 46 25 0) 46 29 0))) 46 27 ((upm (upm (upm M 46 25 0) 46 29 0) 46 26 (mX6_its ((upm (upm M 46 25 0) 46 29 0) 61 a1.toNatClampNeg) 0 (upm (upm M 46 25 0) 46 29 0))) 61 a1.toNatClampNeg)) 46 28 (mX6_its ((upm (upm (upm (upm M 46 25 0) 46 29 0) 46 26 (mX6_its ((upm (upm M 46 25 0) 46 29 0) 61 a1.toNatClampNeg) 0 (upm (upm M 46 25 0) 46 29 0))) 46 27 ((upm (upm (upm M 46 25 0) 46 29 0) 46 26 (mX6_its ((upm (upm M 46 25 0) 46 29 0) 61 a1.toNatClampNeg) 0 (upm (upm M 46 25 0) 46 29 0))) 61 a1.toNatClampNeg)) 61 a1.toNatClampNeg) 1 (upm (upm (upm (upm M 46 25 0) 46 29 0) 46 26 (mX6_its ((upm (upm M 46 25 0) 46 29 0) 61 a1.toNatClampNeg) 0 (upm (upm M 46 25 0) 46 29 0))) 46 27 ((upm (upm (upm M 46 25 0) 46 29 0) 46 26 (mX6_its ((upm (upm M 46 25 0) 46 29 0) 61 a1.toNatClampNeg) 0 (upm (upm M 46 25 0) 46 29 0))) 61 a1.toNatClampNeg))))).2) hp
        · have hp := hp.2 h_10
          refine r_if_ne_t MF.bs (tgt := 92) dX6_act_81 (by decide) h_10 ?_
          refine r_iload_n MF.bs dX6_act_92 rfl 2 rfl ?_
          refine r_iconst MF.bs dX6_act_93 (v := 1) (by decide) ?_
          refine r_ite (GIM mtX6_act 8 M) (fun h_12 => ?_) (fun h_12 => ?_)
          · have hp := hp.1 h_12
            refine r_icmp_ne_f MF.bs (tgt := 105) dX6_act_94 (by decide) h_12 ?_
            obtain ⟨hq_13, hp⟩ := hp
            refine r_aload_n MF.bs dX6_act_97 rfl 0 rfl ?_
            refine r_iload_n MF.bs dX6_act_98 rfl 3 rfl ?_
            refine r_callV_v MF.bs (st := []) dX6_act_99 (ctX6_drips a3 (upm (upm (upm (upm (upm M 46 25 0) 46 29 0) 46 26 (mX6_its ((upm (upm M 46 25 0) 46 29 0) 61 a1.toNatClampNeg) 0 (upm (upm M 46 25 0) 46 29 0))) 46 27 ((upm (upm (upm M 46 25 0) 46 29 0) 46 26 (mX6_its ((upm (upm M 46 25 0) 46 29 0) 61 a1.toNatClampNeg) 0 (upm (upm M 46 25 0) 46 29 0))) 61 a1.toNatClampNeg)) 46 28 (mX6_its ((upm (upm (upm (upm M 46 25 0) 46 29 0) 46 26 (mX6_its ((upm (upm M 46 25 0) 46 29 0) 61 a1.toNatClampNeg) 0 (upm (upm M 46 25 0) 46 29 0))) 46 27 ((upm (upm (upm M 46 25 0) 46 29 0) 46 26 (mX6_its ((upm (upm M 46 25 0) 46 29 0) 61 a1.toNatClampNeg) 0 (upm (upm M 46 25 0) 46 29 0))) 61 a1.toNatClampNeg)) 61 a1.toNatClampNeg) 1 (upm (upm (upm (upm M 46 25 0) 46 29 0) 46 26 (mX6_its ((upm (upm M 46 25 0) 46 29 0) 61 a1.toNatClampNeg) 0 (upm (upm M 46 25 0) 46 29 0))) 46 27 ((upm (upm (upm M 46 25 0) 46 29 0) 46 26 (mX6_its ((upm (upm M 46 25 0) 46 29 0) 61 a1.toNatClampNeg) 0 (upm (upm M 46 25 0) 46 29 0))) 61 a1.toNatClampNeg)))) hq_13) miX6_drips wd_1361 rfl (by decide) rfl (Nat.le_of_ble_eq_true rfl) rfl rfl rfl ?_
            refine r_sub [(0, .ref 46)] [0] rfl ?_
            exact cX6_act_102 M ((mX6_drips a3 (upm (upm (upm (upm (upm M 46 25 0) 46 29 0) 46 26 (mX6_its ((upm (upm M 46 25 0) 46 29 0) 61 a1.toNatClampNeg) 0 (upm (upm M 46 25 0) 46 29 0))) 46 27 ((upm (upm (upm M 46 25 0) 46 29 0) 46 26 (mX6_its ((upm (upm M 46 25 0) 46 29 0) 61 a1.toNatClampNeg) 0 (upm (upm M 46 25 0) 46 29 0))) 61 a1.toNatClampNeg)) 46 28 (mX6_its ((upm (upm (upm (upm M 46 25 0) 46 29 0) 46 26 (mX6_its ((upm (upm M 46 25 0) 46 29 0) 61 a1.toNatClampNeg) 0 (upm (upm M 46 25 0) 46 29 0))) 46 27 ((upm (upm (upm M 46 25 0) 46 29 0) 46 26 (mX6_its ((upm (upm M 46 25 0) 46 29 0) 61 a1.toNatClampNeg) 0 (upm (upm M 46 25 0) 46 29 0))) 61 a1.toNatClampNeg)) 61 a1.toNatClampNeg) 1 (upm (upm (upm (upm M 46 25 0) 46 29 0) 46 26 (mX6_its ((upm (upm M 46 25 0) 46 29 0) 61 a1.toNatClampNeg) 0 (upm (upm M 46 25 0) 46 29 0))) 46 27 ((upm (upm (upm M 46 25 0) 46 29 0) 46 26 (mX6_its ((upm (upm M 46 25 0) 46 29 0) 61 a1.toNatClampNeg) 0 (upm (upm M 46 25 0) 46 29 0))) 61 a1.toNatClampNeg))))).1) ((mX6_drips a3 (upm (upm (upm (upm (upm M 46 25 0) 46 29 0) 46 26 (mX6_its ((upm (upm M 46 25 0) 46 29 0) 61 a1.toNatClampNeg) 0 (upm (upm M 46 25 0) 46 29 0))) 46 27 ((upm (upm (upm M 46 25 0) 46 29 0) 46 26 (mX6_its ((upm (upm M 46 25 0) 46 29 0) 61 a1.toNatClampNeg) 0 (upm (upm M 46 25 0) 46 29 0))) 61 a1.toNatClampNeg)) 46 28 (mX6_its ((upm (upm (upm (upm M 46 25 0) 46 29 0) 46 26 (mX6_its ((upm (upm M 46 25 0) 46 29 0) 61 a1.toNatClampNeg) 0 (upm (upm M 46 25 0) 46 29 0))) 46 27 ((upm (upm (upm M 46 25 0) 46 29 0) 46 26 (mX6_its ((upm (upm M 46 25 0) 46 29 0) 61 a1.toNatClampNeg) 0 (upm (upm M 46 25 0) 46 29 0))) 61 a1.toNatClampNeg)) 61 a1.toNatClampNeg) 1 (upm (upm (upm (upm M 46 25 0) 46 29 0) 46 26 (mX6_its ((upm (upm M 46 25 0) 46 29 0) 61 a1.toNatClampNeg) 0 (upm (upm M 46 25 0) 46 29 0))) 46 27 ((upm (upm (upm M 46 25 0) 46 29 0) 46 26 (mX6_its ((upm (upm M 46 25 0) 46 29 0) 61 a1.toNatClampNeg) 0 (upm (upm M 46 25 0) 46 29 0))) 61 a1.toNatClampNeg))))).2) hp
          · have hp := hp.2 h_12
            refine r_icmp_ne_t MF.bs (tgt := 105) dX6_act_94 (by decide) h_12 ?_
            refine r_iload_n MF.bs dX6_act_105 rfl 2 rfl ?_
            refine r_iconst MF.bs dX6_act_106 (v := 2) (by decide) ?_
            refine r_ite (GIM mtX6_act 8 M) (fun h_14 => ?_) (fun h_14 => ?_)
            · have hp := hp.1 h_14
              refine r_icmp_ne_f MF.bs (tgt := 118) dX6_act_107 (by decide) h_14 ?_
              obtain ⟨hq_15, hp⟩ := hp
              refine r_aload_n MF.bs dX6_act_110 rfl 0 rfl ?_
              refine r_iload_n MF.bs dX6_act_111 rfl 3 rfl ?_
              refine r_callV_v MF.bs (st := []) dX6_act_112 (ctX6_parts a3 (upm (upm (upm (upm (upm M 46 25 0) 46 29 0) 46 26 (mX6_its ((upm (upm M 46 25 0) 46 29 0) 61 a1.toNatClampNeg) 0 (upm (upm M 46 25 0) 46 29 0))) 46 27 ((upm (upm (upm M 46 25 0) 46 29 0) 46 26 (mX6_its ((upm (upm M 46 25 0) 46 29 0) 61 a1.toNatClampNeg) 0 (upm (upm M 46 25 0) 46 29 0))) 61 a1.toNatClampNeg)) 46 28 (mX6_its ((upm (upm (upm (upm M 46 25 0) 46 29 0) 46 26 (mX6_its ((upm (upm M 46 25 0) 46 29 0) 61 a1.toNatClampNeg) 0 (upm (upm M 46 25 0) 46 29 0))) 46 27 ((upm (upm (upm M 46 25 0) 46 29 0) 46 26 (mX6_its ((upm (upm M 46 25 0) 46 29 0) 61 a1.toNatClampNeg) 0 (upm (upm M 46 25 0) 46 29 0))) 61 a1.toNatClampNeg)) 61 a1.toNatClampNeg) 1 (upm (upm (upm (upm M 46 25 0) 46 29 0) 46 26 (mX6_its ((upm (upm M 46 25 0) 46 29 0) 61 a1.toNatClampNeg) 0 (upm (upm M 46 25 0) 46 29 0))) 46 27 ((upm (upm (upm M 46 25 0) 46 29 0) 46 26 (mX6_its ((upm (upm M 46 25 0) 46 29 0) 61 a1.toNatClampNeg) 0 (upm (upm M 46 25 0) 46 29 0))) 61 a1.toNatClampNeg)))) hq_15) miX6_parts wd_1369 rfl (by decide) rfl (Nat.le_of_ble_eq_true rfl) rfl rfl rfl ?_
              refine r_sub [(0, .ref 46)] [0] rfl ?_
              exact cX6_act_115 M ((mX6_parts a3 (upm (upm (upm (upm (upm M 46 25 0) 46 29 0) 46 26 (mX6_its ((upm (upm M 46 25 0) 46 29 0) 61 a1.toNatClampNeg) 0 (upm (upm M 46 25 0) 46 29 0))) 46 27 ((upm (upm (upm M 46 25 0) 46 29 0) 46 26 (mX6_its ((upm (upm M 46 25 0) 46 29 0) 61 a1.toNatClampNeg) 0 (upm (upm M 46 25 0) 46 29 0))) 61 a1.toNatClampNeg)) 46 28 (mX6_its ((upm (upm (upm (upm M 46 25 0) 46 29 0) 46 26 (mX6_its ((upm (upm M 46 25 0) 46 29 0) 61 a1.toNatClampNeg) 0 (upm (upm M 46 25 0) 46 29 0))) 46 27 ((upm (upm (upm M 46 25 0) 46 29 0) 46 26 (mX6_its ((upm (upm M 46 25 0) 46 29 0) 61 a1.toNatClampNeg) 0 (upm (upm M 46 25 0) 46 29 0))) 61 a1.toNatClampNeg)) 61 a1.toNatClampNeg) 1 (upm (upm (upm (upm M 46 25 0) 46 29 0) 46 26 (mX6_its ((upm (upm M 46 25 0) 46 29 0) 61 a1.toNatClampNeg) 0 (upm (upm M 46 25 0) 46 29 0))) 46 27 ((upm (upm (upm M 46 25 0) 46 29 0) 46 26 (mX6_its ((upm (upm M 46 25 0) 46 29 0) 61 a1.toNatClampNeg) 0 (upm (upm M 46 25 0) 46 29 0))) 61 a1.toNatClampNeg))))).1) ((mX6_parts a3 (upm (upm (upm (upm (upm M 46 25 0) 46 29 0) 46 26 (mX6_its ((upm (upm M 46 25 0) 46 29 0) 61 a1.toNatClampNeg) 0 (upm (upm M 46 25 0) 46 29 0))) 46 27 ((upm (upm (upm M 46 25 0) 46 29 0) 46 26 (mX6_its ((upm (upm M 46 25 0) 46 29 0) 61 a1.toNatClampNeg) 0 (upm (upm M 46 25 0) 46 29 0))) 61 a1.toNatClampNeg)) 46 28 (mX6_its ((upm (upm (upm (upm M 46 25 0) 46 29 0) 46 26 (mX6_its ((upm (upm M 46 25 0) 46 29 0) 61 a1.toNatClampNeg) 0 (upm (upm M 46 25 0) 46 29 0))) 46 27 ((upm (upm (upm M 46 25 0) 46 29 0) 46 26 (mX6_its ((upm (upm M 46 25 0) 46 29 0) 61 a1.toNatClampNeg) 0 (upm (upm M 46 25 0) 46 29 0))) 61 a1.toNatClampNeg)) 61 a1.toNatClampNeg) 1 (upm (upm (upm (upm M 46 25 0) 46 29 0) 46 26 (mX6_its ((upm (upm M 46 25 0) 46 29 0) 61 a1.toNatClampNeg) 0 (upm (upm M 46 25 0) 46 29 0))) 46 27 ((upm (upm (upm M 46 25 0) 46 29 0) 46 26 (mX6_its ((upm (upm M 46 25 0) 46 29 0) 61 a1.toNatClampNeg) 0 (upm (upm M 46 25 0) 46 29 0))) 61 a1.toNatClampNeg))))).2) hp
            · have hp := hp.2 h_14
              refine r_icmp_ne_t MF.bs (tgt := 118) dX6_act_107 (by decide) h_14 ?_
              obtain ⟨hq_16, hp⟩ := hp
              refine r_aload_n MF.bs dX6_act_118 rfl 0 rfl ?_
              refine r_iload_n MF.bs dX6_act_119 rfl 3 rfl ?_
              refine r_callV_v MF.bs (st := []) dX6_act_120 (ctX6_halts a3 (upm (upm (upm (upm (upm M 46 25 0) 46 29 0) 46 26 (mX6_its ((upm (upm M 46 25 0) 46 29 0) 61 a1.toNatClampNeg) 0 (upm (upm M 46 25 0) 46 29 0))) 46 27 ((upm (upm (upm M 46 25 0) 46 29 0) 46 26 (mX6_its ((upm (upm M 46 25 0) 46 29 0) 61 a1.toNatClampNeg) 0 (upm (upm M 46 25 0) 46 29 0))) 61 a1.toNatClampNeg)) 46 28 (mX6_its ((upm (upm (upm (upm M 46 25 0) 46 29 0) 46 26 (mX6_its ((upm (upm M 46 25 0) 46 29 0) 61 a1.toNatClampNeg) 0 (upm (upm M 46 25 0) 46 29 0))) 46 27 ((upm (upm (upm M 46 25 0) 46 29 0) 46 26 (mX6_its ((upm (upm M 46 25 0) 46 29 0) 61 a1.toNatClampNeg) 0 (upm (upm M 46 25 0) 46 29 0))) 61 a1.toNatClampNeg)) 61 a1.toNatClampNeg) 1 (upm (upm (upm (upm M 46 25 0) 46 29 0) 46 26 (mX6_its ((upm (upm M 46 25 0) 46 29 0) 61 a1.toNatClampNeg) 0 (upm (upm M 46 25 0) 46 29 0))) 46 27 ((upm (upm (upm M 46 25 0) 46 29 0) 46 26 (mX6_its ((upm (upm M 46 25 0) 46 29 0) 61 a1.toNatClampNeg) 0 (upm (upm M 46 25 0) 46 29 0))) 61 a1.toNatClampNeg)))) hq_16) miX6_halts wd_1377 rfl (by decide) rfl (Nat.le_of_ble_eq_true rfl) rfl rfl rfl ?_
              refine r_sub [(0, .ref 46)] [0] rfl ?_
              exact cX6_act_123 M ((mX6_halts a3 (upm (upm (upm (upm (upm M 46 25 0) 46 29 0) 46 26 (mX6_its ((upm (upm M 46 25 0) 46 29 0) 61 a1.toNatClampNeg) 0 (upm (upm M 46 25 0) 46 29 0))) 46 27 ((upm (upm (upm M 46 25 0) 46 29 0) 46 26 (mX6_its ((upm (upm M 46 25 0) 46 29 0) 61 a1.toNatClampNeg) 0 (upm (upm M 46 25 0) 46 29 0))) 61 a1.toNatClampNeg)) 46 28 (mX6_its ((upm (upm (upm (upm M 46 25 0) 46 29 0) 46 26 (mX6_its ((upm (upm M 46 25 0) 46 29 0) 61 a1.toNatClampNeg) 0 (upm (upm M 46 25 0) 46 29 0))) 46 27 ((upm (upm (upm M 46 25 0) 46 29 0) 46 26 (mX6_its ((upm (upm M 46 25 0) 46 29 0) 61 a1.toNatClampNeg) 0 (upm (upm M 46 25 0) 46 29 0))) 61 a1.toNatClampNeg)) 61 a1.toNatClampNeg) 1 (upm (upm (upm (upm M 46 25 0) 46 29 0) 46 26 (mX6_its ((upm (upm M 46 25 0) 46 29 0) 61 a1.toNatClampNeg) 0 (upm (upm M 46 25 0) 46 29 0))) 46 27 ((upm (upm (upm M 46 25 0) 46 29 0) 46 26 (mX6_its ((upm (upm M 46 25 0) 46 29 0) 61 a1.toNatClampNeg) 0 (upm (upm M 46 25 0) 46 29 0))) 61 a1.toNatClampNeg))))).1) ((mX6_halts a3 (upm (upm (upm (upm (upm M 46 25 0) 46 29 0) 46 26 (mX6_its ((upm (upm M 46 25 0) 46 29 0) 61 a1.toNatClampNeg) 0 (upm (upm M 46 25 0) 46 29 0))) 46 27 ((upm (upm (upm M 46 25 0) 46 29 0) 46 26 (mX6_its ((upm (upm M 46 25 0) 46 29 0) 61 a1.toNatClampNeg) 0 (upm (upm M 46 25 0) 46 29 0))) 61 a1.toNatClampNeg)) 46 28 (mX6_its ((upm (upm (upm (upm M 46 25 0) 46 29 0) 46 26 (mX6_its ((upm (upm M 46 25 0) 46 29 0) 61 a1.toNatClampNeg) 0 (upm (upm M 46 25 0) 46 29 0))) 46 27 ((upm (upm (upm M 46 25 0) 46 29 0) 46 26 (mX6_its ((upm (upm M 46 25 0) 46 29 0) 61 a1.toNatClampNeg) 0 (upm (upm M 46 25 0) 46 29 0))) 61 a1.toNatClampNeg)) 61 a1.toNatClampNeg) 1 (upm (upm (upm (upm M 46 25 0) 46 29 0) 46 26 (mX6_its ((upm (upm M 46 25 0) 46 29 0) 61 a1.toNatClampNeg) 0 (upm (upm M 46 25 0) 46 29 0))) 46 27 ((upm (upm (upm M 46 25 0) 46 29 0) 46 26 (mX6_its ((upm (upm M 46 25 0) 46 29 0) 61 a1.toNatClampNeg) 0 (upm (upm M 46 25 0) 46 29 0))) 61 a1.toNatClampNeg))))).2) hp
      · refine r_icmp_eq_f MF.bs (tgt := 35) dX6_act_30 (by decide) h_4 ?_
        refine r_iconst MF.bs dX6_act_33 (v := 0) (by decide) ?_
        exact r_iret dX6_act_34 rfl
    · refine r_if_eq_t MF.bs (tgt := 33) dX6_act_21 (by decide) (b2i_0 h_2) ?_
      refine r_iconst MF.bs dX6_act_33 (v := 0) (by decide) ?_
      exact r_iret dX6_act_34 rfl
  · refine r_if_eq_t MF.bs (tgt := 33) dX6_act_9 (by decide) (b2i_0 h_1) ?_
    refine r_iconst MF.bs dX6_act_33 (v := 0) (by decide) ?_
    exact r_iret dX6_act_34 rfl
abbrev mtX6_trace : MT := (RX6, yX6_trace, cX6_trace, 2, (some .int))
theorem miX6_trace : MV mtX6_trace 1 := ⟨wd_1388, ⟨wd_1386, wd_1387⟩, wd_86, ⟨by decide, by decide, by decide +kernel⟩, by decide⟩
def mX6_trace  (a1 : Int32) (M : Mem) : Int32 := (if (mX6_isIn ((a1 : Int32).toInt64) 0 ((((M 46 25) - 1) : Int32).toInt64)) = true then (M 63 a1.toNatClampNeg) else (-3))
def PX6_trace  (a1 : Int32) (M : Mem) : Prop := ((mX6_isIn ((a1 : Int32).toInt64) 0 ((((M 46 25) - 1) : Int32).toInt64)) = true → vp_in a1 30)
set_option maxRecDepth 100000 in
theorem ctX6_trace   (a1 : Int32) (M : Mem) (hp : PX6_trace a1 M) : CT mtX6_trace 1 [.ref 46, .int a1] M (some (.int (mX6_trace a1 M)), M) := by
  refine CT.of (by decide) rfl (Nat.le_of_ble_eq_true rfl) ?_
  show AWP (GI mtX6_trace 1 M M (mX6_trace a1 M)) mtX6_trace 0 [(0, .ref 46), (1, .int a1)] [] M
  unfold mX6_trace
  unfold PX6_trace at hp
  refine r_iload_n MF.bs dX6_trace_0 rfl 1 rfl ?_
  refine r_i2l MF.bs dX6_trace_1 ?_
  refine r_lconst MF.bs dX6_trace_2 (v := 0) (by decide) ?_
  refine r_aload_n MF.bs dX6_trace_3 rfl 0 rfl ?_
  refine r_getI MF.bs dX6_trace_4 rfl rfl 25 (by decide) wd_900 rfl ?_
  refine r_iconst MF.bs dX6_trace_7 (v := 1) (by decide) ?_
  refine r_isub MF.bs dX6_trace_8 ?_
  refine r_i2l MF.bs dX6_trace_9 ?_
  refine r_callS_v MF.bs (st := []) dX6_trace_10 (ctX6_isIn ((a1 : Int32).toInt64) 0 ((((M 46 25) - 1) : Int32).toInt64) M) miX6_isIn wd_971 rfl (by decide) rfl (Nat.le_of_ble_eq_true rfl) ?_
  refine r_ite (GI mtX6_trace 1 M M) (fun h_1 => ?_) (fun h_1 => ?_)
  · have hp := hp h_1
    refine r_if_eq_f MF.bs (tgt := 25) dX6_trace_13 (by decide) (b2i_1 h_1) ?_
    have hq_2 := hp
    refine r_aload_n MF.bs dX6_trace_16 rfl 0 rfl ?_
    refine r_getR MF.bs dX6_trace_17 rfl rfl 24 (by decide) wd_899 rfl ?_
    refine r_iload_n MF.bs dX6_trace_20 rfl 1 rfl ?_
    refine r_iaload MF.bs dX6_trace_21 rfl hq_2 ?_
    refine r_goto MF.bs dX6_trace_22 (tgt := 27) (by decide) ?_
    exact r_iret dX6_trace_27 rfl
  · refine r_if_eq_t MF.bs (tgt := 25) dX6_trace_13 (by decide) (b2i_0 h_1) ?_
    refine r_bipush MF.bs dX6_trace_25 (v := -3) (by decide) ?_
    exact r_iret dX6_trace_27 rfl
abbrev mtX6_many : MT := (RX6, yX6_many, cX6_many, 2, (some .int))
theorem miX6_many : MV mtX6_many 1 := ⟨wd_1392, ⟨wd_1390, wd_1391⟩, wd_86, ⟨by decide, by decide, by decide +kernel⟩, by decide⟩
def mX6_many  (a1 : Int32) (M : Mem) : Int32 := (if a1 = 0 then (M 47 0) else (if a1 = 1 then (mX6_size (mX6_stopped M) M) else (if a1 = 2 then (mX6_size (mX6_housesInUse M) M) else (if a1 = 3 then (mX6_size (mX6_wetBy 1 M) M) else (if a1 = 4 then (M 46 17) else (if a1 = 5 then (M 46 6) else (if a1 = 6 then (M 46 25) else (-1))))))))
def PX6_many  (a1 : Int32) (M : Mem) : Prop := (¬ a1 = 0 → ((a1 = 1 → PX6_stopped M ∧ (PX6_size (mX6_stopped M) M)) ∧ (¬ a1 = 1 → ((a1 = 2 → PX6_housesInUse M ∧ (PX6_size (mX6_housesInUse M) M)) ∧ (¬ a1 = 2 → (a1 = 3 → PX6_wetBy 1 M ∧ (PX6_size (mX6_wetBy 1 M) M)))))))
set_option maxRecDepth 100000 in
theorem ctX6_many   (a1 : Int32) (M : Mem) (hp : PX6_many a1 M) : CT mtX6_many 2 [.ref 46, .int a1] M (some (.int (mX6_many a1 M)), M) := by
  refine CT.of (by decide) rfl (Nat.le_of_ble_eq_true rfl) ?_
  show AWP (GI mtX6_many 2 M M (mX6_many a1 M)) mtX6_many 0 [(0, .ref 46), (1, .int a1)] [] M
  unfold mX6_many
  unfold PX6_many at hp
  refine r_iload_n MF.bs dX6_many_0 rfl 1 rfl ?_
  refine r_ite (GI mtX6_many 2 M M) (fun h_1 => ?_) (fun h_1 => ?_)
  · refine r_tsw_in MF.bs (tgt := 44) dX6_many_1 h_1 (by decide) (by decide) rfl (by decide) ?_
    refine r_aload_n MF.bs dX6_many_44 rfl 0 rfl ?_
    refine r_getR MF.bs dX6_many_45 rfl rfl 0 (by decide) wd_875 rfl ?_
    refine r_iconst MF.bs dX6_many_48 (v := 0) (by decide) ?_
    refine r_ialoadL MF.bs dX6_many_49 rfl (vin_l (by decide) (by decide)) (k9 := 0) (by decide) ?_
    exact r_iret dX6_many_50 rfl
  · have hp := hp h_1
    refine r_ite (GI mtX6_many 2 M M) (fun h_2 => ?_) (fun h_2 => ?_)
    · have hp := hp.1 h_2
      refine r_tsw_in MF.bs (tgt := 51) dX6_many_1 h_2 (by decide) (by decide) rfl (by decide) ?_
      obtain ⟨hq_3, hp⟩ := hp
      have hq_4 := hp
      refine r_aload_n MF.bs dX6_many_51 rfl 0 rfl ?_
      refine r_callV_v MF.bs (st := []) dX6_many_52 (ctX6_stopped M hq_3) miX6_stopped wd_1146 rfl (by decide) rfl (Nat.le_of_ble_eq_true rfl) rfl rfl rfl ?_
      refine r_callS_v MF.bs (st := []) dX6_many_55 (ctX6_size (mX6_stopped M) M hq_4) miX6_size wd_1150 rfl (by decide) rfl (Nat.le_of_ble_eq_true rfl) ?_
      exact r_iret dX6_many_58 rfl
    · have hp := hp.2 h_2
      refine r_ite (GI mtX6_many 2 M M) (fun h_5 => ?_) (fun h_5 => ?_)
      · have hp := hp.1 h_5
        refine r_tsw_in MF.bs (tgt := 59) dX6_many_1 h_5 (by decide) (by decide) rfl (by decide) ?_
        obtain ⟨hq_6, hp⟩ := hp
        have hq_7 := hp
        refine r_aload_n MF.bs dX6_many_59 rfl 0 rfl ?_
        refine r_callV_v MF.bs (st := []) dX6_many_60 (ctX6_housesInUse M hq_6) miX6_housesInUse wd_1180 rfl (by decide) rfl (Nat.le_of_ble_eq_true rfl) rfl rfl rfl ?_
        refine r_callS_v MF.bs (st := []) dX6_many_63 (ctX6_size (mX6_housesInUse M) M hq_7) miX6_size wd_1150 rfl (by decide) rfl (Nat.le_of_ble_eq_true rfl) ?_
        exact r_iret dX6_many_66 rfl
      · have hp := hp.2 h_5
        refine r_ite (GI mtX6_many 2 M M) (fun h_8 => ?_) (fun h_8 => ?_)
        · have hp := hp h_8
          refine r_tsw_in MF.bs (tgt := 67) dX6_many_1 h_8 (by decide) (by decide) rfl (by decide) ?_
          obtain ⟨hq_9, hp⟩ := hp
          have hq_10 := hp
          refine r_aload_n MF.bs dX6_many_67 rfl 0 rfl ?_
          refine r_iconst MF.bs dX6_many_68 (v := 1) (by decide) ?_
          refine r_callV_v MF.bs (st := []) dX6_many_69 (ctX6_wetBy 1 M hq_9) miX6_wetBy wd_1184 rfl (by decide) rfl (Nat.le_of_ble_eq_true rfl) rfl rfl rfl ?_
          refine r_callS_v MF.bs (st := []) dX6_many_72 (ctX6_size (mX6_wetBy 1 M) M hq_10) miX6_size wd_1150 rfl (by decide) rfl (Nat.le_of_ble_eq_true rfl) ?_
          exact r_iret dX6_many_75 rfl
        · refine r_ite (GI mtX6_many 2 M M) (fun h_11 => ?_) (fun h_11 => ?_)
          · refine r_tsw_in MF.bs (tgt := 76) dX6_many_1 h_11 (by decide) (by decide) rfl (by decide) ?_
            refine r_aload_n MF.bs dX6_many_76 rfl 0 rfl ?_
            refine r_getI MF.bs dX6_many_77 rfl rfl 17 (by decide) wd_892 rfl ?_
            exact r_iret dX6_many_80 rfl
          · refine r_ite (GI mtX6_many 2 M M) (fun h_12 => ?_) (fun h_12 => ?_)
            · refine r_tsw_in MF.bs (tgt := 81) dX6_many_1 h_12 (by decide) (by decide) rfl (by decide) ?_
              refine r_aload_n MF.bs dX6_many_81 rfl 0 rfl ?_
              refine r_getI MF.bs dX6_many_82 rfl rfl 6 (by decide) wd_881 rfl ?_
              exact r_iret dX6_many_85 rfl
            · refine r_ite (GI mtX6_many 2 M M) (fun h_13 => ?_) (fun h_13 => ?_)
              · refine r_tsw_in MF.bs (tgt := 86) dX6_many_1 h_13 (by decide) (by decide) rfl (by decide) ?_
                refine r_aload_n MF.bs dX6_many_86 rfl 0 rfl ?_
                refine r_getI MF.bs dX6_many_87 rfl rfl 25 (by decide) wd_900 rfl ?_
                exact r_iret dX6_many_90 rfl
              · refine r_tsw_out MF.bs (tgt := 91) dX6_many_1 (by have e0 := lv_neT (a := 0) h_1 (by decide); have e1 := lv_neT (a := 1) h_2 (by decide); have e2 := lv_neT (a := 2) h_5 (by decide); have e3 := lv_neT (a := 3) h_8 (by decide); have e4 := lv_neT (a := 4) h_11 (by decide); have e5 := lv_neT (a := 5) h_12 (by decide); have e6 := lv_neT (a := 6) h_13 (by decide); omega) (by decide) ?_
                refine r_iconst MF.bs dX6_many_91 (v := -1) (by decide) ?_
                exact r_iret dX6_many_92 rfl
abbrev mtX6_keep : MT := (RX6, yX6_keep, cX6_keep, 2, (some .int))
theorem miX6_keep : MV mtX6_keep 0 := ⟨wd_1396, ⟨wd_1394, wd_1395⟩, wd_86, ⟨by decide, by decide, by decide +kernel⟩, by decide⟩
def mX6_keep_2   : Nat → Int32 → Mem → Int32 × Mem
  | 0, _, M => (0, M)
  | n + 1, v1, M => (if 56 ≤ v1 then (1, (upm M 46 4 1)) else (mX6_keep_2 n (v1 + 1) (upm M 48 v1.toNatClampNeg (M 47 v1.toNatClampNeg))))
def PX6_keep_2   : Nat → Int32 → Mem → Prop
  | 0, _, _ => False
  | n + 1, v1, M => (¬ 56 ≤ v1 → vp_in v1 56 ∧ (vp_in v1 56 ∧ (PX6_keep_2 n (v1 + 1) (upm M 48 v1.toNatClampNeg (M 47 v1.toNatClampNeg)))))
set_option maxRecDepth 100000 in
theorem cX6_keep_2    (M0 : Mem) : ∀ (n : Nat) (v1 : Int32) (M : Mem), PX6_keep_2 n v1 M → AWP (GIM mtX6_keep 0 M0 (mX6_keep_2 n v1 M)) mtX6_keep 2 [(0, .ref 46), (1, .int v1)] [] M := by
  intro n
  induction n with
  | zero =>
    intro v1 M hp
    exact hp.elim
  | succ n ih =>
    intro v1 M hp
    rw [mX6_keep_2]
    rw [PX6_keep_2] at hp
    refine r_iload_n MF.bs dX6_keep_2 rfl 1 rfl ?_
    refine r_bipush MF.bs dX6_keep_3 (v := 56) (by decide) ?_
    refine r_ite (GIM mtX6_keep 0 M0) (fun h_1 => ?_) (fun h_1 => ?_)
    · refine r_icmp_ge_t MF.bs (tgt := 26) dX6_keep_5 (by decide) h_1 ?_
      refine r_aload_n MF.bs dX6_keep_26 rfl 0 rfl ?_
      refine r_iconst MF.bs dX6_keep_27 (v := 1) (by decide) ?_
      refine r_putI MF.bs dX6_keep_28 rfl rfl 4 (by decide) wd_879 rfl rfl rfl rfl rfl ?_
      refine r_iconst MF.bs dX6_keep_31 (v := 1) (by decide) ?_
      exact r_iret dX6_keep_32 rfl
    · have hp := hp h_1
      refine r_icmp_ge_f MF.bs (tgt := 26) dX6_keep_5 (by decide) h_1 ?_
      obtain ⟨hq_2, hp⟩ := hp
      obtain ⟨hq_3, hp⟩ := hp
      refine r_aload_n MF.bs dX6_keep_8 rfl 0 rfl ?_
      refine r_getR MF.bs dX6_keep_9 rfl rfl 1 (by decide) wd_876 rfl ?_
      refine r_iload_n MF.bs dX6_keep_12 rfl 1 rfl ?_
      refine r_aload_n MF.bs dX6_keep_13 rfl 0 rfl ?_
      refine r_getR MF.bs dX6_keep_14 rfl rfl 0 (by decide) wd_875 rfl ?_
      refine r_iload_n MF.bs dX6_keep_17 rfl 1 rfl ?_
      refine r_iaload MF.bs dX6_keep_18 rfl hq_2 ?_
      refine r_iastore MF.bs dX6_keep_19 rfl hq_3 ?_
      refine r_iinc MF.bs (v := (v1 + 1)) (lv' := [(1, .int (v1 + 1)), (0, .ref 46)]) dX6_keep_20 1 rfl rfl (by decide) rfl ?_
      refine r_goto MF.bs dX6_keep_23 (tgt := 2) (by decide) ?_
      refine r_sub [(0, .ref 46), (1, .int (v1 + 1))] [1, 0] rfl ?_
      exact ih (v1 + 1) (upm M 48 v1.toNatClampNeg (M 47 v1.toNatClampNeg)) hp
def mX6_keep  (M : Mem) : Int32 × Mem := (mX6_keep_2 400 0 M)
def PX6_keep  (M : Mem) : Prop := PX6_keep_2 400 0 M
set_option maxRecDepth 100000 in
theorem ctX6_keep   (M : Mem) (hp : PX6_keep M) : CT mtX6_keep 0 [.ref 46] M (some (.int ((mX6_keep M).1)), (mX6_keep M).2) := by
  refine CT.of (by decide) rfl (Nat.le_of_ble_eq_true rfl) ?_
  show AWP (GIM mtX6_keep 0 M (mX6_keep M)) mtX6_keep 0 [(0, .ref 46)] [] M
  unfold mX6_keep
  unfold PX6_keep at hp
  refine r_iconst MF.bs dX6_keep_0 (v := 0) (by decide) ?_
  refine r_istore_n MF.bs (lv' := [(1, .int 0), (0, .ref 46)]) dX6_keep_1 rfl (by decide) rfl ?_
  refine r_sub [(0, .ref 46), (1, .int 0)] [1, 0] rfl ?_
  exact cX6_keep_2 M 400 0 M hp
abbrev mtX6_again : MT := (RX6, yX6_again, cX6_again, 2, (some .int))
theorem miX6_again : MV mtX6_again 0 := ⟨wd_1400, ⟨wd_1398, wd_1399⟩, wd_86, ⟨by decide, by decide, by decide +kernel⟩, by decide⟩
def mX6_again_12   : Nat → Int32 → Mem → Int32 × Mem
  | 0, _, M => (0, M)
  | n + 1, v1, M => (if 56 ≤ v1 then ((M 47 0), M) else (mX6_again_12 n (v1 + 1) (upm M 47 v1.toNatClampNeg (M 48 v1.toNatClampNeg))))
def PX6_again_12   : Nat → Int32 → Mem → Prop
  | 0, _, _ => False
  | n + 1, v1, M => (¬ 56 ≤ v1 → vp_in v1 56 ∧ (vp_in v1 56 ∧ (PX6_again_12 n (v1 + 1) (upm M 47 v1.toNatClampNeg (M 48 v1.toNatClampNeg)))))
set_option maxRecDepth 100000 in
theorem cX6_again_12    (M0 : Mem) : ∀ (n : Nat) (v1 : Int32) (M : Mem), PX6_again_12 n v1 M → AWP (GIM mtX6_again 0 M0 (mX6_again_12 n v1 M)) mtX6_again 12 [(0, .ref 46), (1, .int v1)] [] M := by
  intro n
  induction n with
  | zero =>
    intro v1 M hp
    exact hp.elim
  | succ n ih =>
    intro v1 M hp
    rw [mX6_again_12]
    rw [PX6_again_12] at hp
    refine r_iload_n MF.bs dX6_again_12 rfl 1 rfl ?_
    refine r_bipush MF.bs dX6_again_13 (v := 56) (by decide) ?_
    refine r_ite (GIM mtX6_again 0 M0) (fun h_2 => ?_) (fun h_2 => ?_)
    · refine r_icmp_ge_t MF.bs (tgt := 36) dX6_again_15 (by decide) h_2 ?_
      refine r_aload_n MF.bs dX6_again_36 rfl 0 rfl ?_
      refine r_getR MF.bs dX6_again_37 rfl rfl 0 (by decide) wd_875 rfl ?_
      refine r_iconst MF.bs dX6_again_40 (v := 0) (by decide) ?_
      refine r_ialoadL MF.bs dX6_again_41 rfl (vin_l (by decide) (by decide)) (k9 := 0) (by decide) ?_
      exact r_iret dX6_again_42 rfl
    · have hp := hp h_2
      refine r_icmp_ge_f MF.bs (tgt := 36) dX6_again_15 (by decide) h_2 ?_
      obtain ⟨hq_3, hp⟩ := hp
      obtain ⟨hq_4, hp⟩ := hp
      refine r_aload_n MF.bs dX6_again_18 rfl 0 rfl ?_
      refine r_getR MF.bs dX6_again_19 rfl rfl 0 (by decide) wd_875 rfl ?_
      refine r_iload_n MF.bs dX6_again_22 rfl 1 rfl ?_
      refine r_aload_n MF.bs dX6_again_23 rfl 0 rfl ?_
      refine r_getR MF.bs dX6_again_24 rfl rfl 1 (by decide) wd_876 rfl ?_
      refine r_iload_n MF.bs dX6_again_27 rfl 1 rfl ?_
      refine r_iaload MF.bs dX6_again_28 rfl hq_3 ?_
      refine r_iastore MF.bs dX6_again_29 rfl hq_4 ?_
      refine r_iinc MF.bs (v := (v1 + 1)) (lv' := [(1, .int (v1 + 1)), (0, .ref 46)]) dX6_again_30 1 rfl rfl (by decide) rfl ?_
      refine r_goto MF.bs dX6_again_33 (tgt := 12) (by decide) ?_
      refine r_sub [(0, .ref 46), (1, .int (v1 + 1))] [1, 0] rfl ?_
      exact ih (v1 + 1) (upm M 47 v1.toNatClampNeg (M 48 v1.toNatClampNeg)) hp
def mX6_again  (M : Mem) : Int32 × Mem := (if (M 46 4) = 0 then ((-3), M) else (mX6_again_12 400 0 M))
def PX6_again  (M : Mem) : Prop := (¬ (M 46 4) = 0 → PX6_again_12 400 0 M)
set_option maxRecDepth 100000 in
theorem ctX6_again   (M : Mem) (hp : PX6_again M) : CT mtX6_again 0 [.ref 46] M (some (.int ((mX6_again M).1)), (mX6_again M).2) := by
  refine CT.of (by decide) rfl (Nat.le_of_ble_eq_true rfl) ?_
  show AWP (GIM mtX6_again 0 M (mX6_again M)) mtX6_again 0 [(0, .ref 46)] [] M
  unfold mX6_again
  unfold PX6_again at hp
  refine r_aload_n MF.bs dX6_again_0 rfl 0 rfl ?_
  refine r_getI MF.bs dX6_again_1 rfl rfl 4 (by decide) wd_879 rfl ?_
  refine r_ite (GIM mtX6_again 0 M) (fun h_1 => ?_) (fun h_1 => ?_)
  · refine r_if_ne_f MF.bs (tgt := 10) dX6_again_4 (by decide) h_1 ?_
    refine r_bipush MF.bs dX6_again_7 (v := -3) (by decide) ?_
    exact r_iret dX6_again_9 rfl
  · have hp := hp h_1
    refine r_if_ne_t MF.bs (tgt := 10) dX6_again_4 (by decide) h_1 ?_
    refine r_iconst MF.bs dX6_again_10 (v := 0) (by decide) ?_
    refine r_istore_n MF.bs (lv' := [(1, .int 0), (0, .ref 46)]) dX6_again_11 rfl (by decide) rfl ?_
    refine r_sub [(0, .ref 46), (1, .int 0)] [1, 0] rfl ?_
    exact cX6_again_12 M 400 0 M hp
