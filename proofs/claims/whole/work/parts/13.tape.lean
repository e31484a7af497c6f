abbrev mtX3_takeBytes : MT := (RX3, yX3_takeBytes, cX3_takeBytes, 5, (some .boolean))
theorem miX3_takeBytes : MV mtX3_takeBytes 2 := ⟨wd_309, ⟨wd_307, wd_308⟩, wd_82, ⟨by decide, by decide, by decide +kernel⟩, by decide⟩
def mX3_takeBytes_17   : Nat → Int64 → Int32 → Int32 → Mem → Bool × Mem
  | 0, _, _, _, M => (false, M)
  | n + 1, v1, v3, v4, M => (if v3 ≤ v4 then (true, (upm M 22 1 ((M 22 1) + v3))) else (mX3_takeBytes_17 n v1 v3 (v4 + 1) (upm M 23 ((M 22 1) + v4).toNatClampNeg (((((v1 : Int64).toUInt64 >>> (((8 * v4) : Int32).toInt64.toUInt64 &&& Int64.toUInt64 63)).toInt64) : Int64).toInt32 &&& 255))))
def PX3_takeBytes_17   : Nat → Int64 → Int32 → Int32 → Mem → Prop
  | 0, _, _, _, _ => False
  | n + 1, v1, v3, v4, M => (¬ v3 ≤ v4 → vp_in ((M 22 1) + v4) 200 ∧ (PX3_takeBytes_17 n v1 v3 (v4 + 1) (upm M 23 ((M 22 1) + v4).toNatClampNeg (((((v1 : Int64).toUInt64 >>> (((8 * v4) : Int32).toInt64.toUInt64 &&& Int64.toUInt64 63)).toInt64) : Int64).toInt32 &&& 255))))
set_option maxRecDepth 100000 in
theorem cX3_takeBytes_17    (M0 : Mem) : ∀ (n : Nat) (v1 : Int64) (v3 : Int32) (v4 : Int32) (M : Mem), PX3_takeBytes_17 n v1 v3 v4 M → AWP (GBM mtX3_takeBytes 0 M0 (mX3_takeBytes_17 n v1 v3 v4 M)) mtX3_takeBytes 17 [(0, .ref 22), (1, .long v1), (3, .int v3), (4, .int v4)] [] M := by
  intro n
  induction n with
  | zero =>
    intro v1 v3 v4 M hp
    exact hp.elim
  | succ n ih =>
    intro v1 v3 v4 M hp
    rw [mX3_takeBytes_17]
    rw [PX3_takeBytes_17] at hp
    refine r_iload MF.bs dX3_takeBytes_17 3 rfl ?_
    refine r_iload_n MF.bs dX3_takeBytes_19 rfl 2 rfl ?_
    refine r_ite (GBM mtX3_takeBytes 0 M0) (fun h_2 => ?_) (fun h_2 => ?_)
    · refine r_icmp_ge_t MF.bs (tgt := 53) dX3_takeBytes_20 (by decide) h_2 ?_
      refine r_aload_n MF.bs dX3_takeBytes_53 rfl 0 rfl ?_
      refine r_dup MF.bs dX3_takeBytes_54 rfl ?_
      refine r_getI MF.bs dX3_takeBytes_55 rfl rfl 1 (by decide) wd_166 rfl ?_
      refine r_iload_n MF.bs dX3_takeBytes_58 rfl 2 rfl ?_
      refine r_iadd MF.bs dX3_takeBytes_59 ?_
      refine r_putI MF.bs dX3_takeBytes_60 rfl rfl 1 (by decide) wd_166 rfl rfl rfl rfl rfl ?_
      refine r_iconst MF.bs dX3_takeBytes_63 (v := 1) (by decide) ?_
      exact r_zret (v := 1) dX3_takeBytes_64 rfl rfl
    · have hp := hp h_2
      refine r_icmp_ge_f MF.bs (tgt := 53) dX3_takeBytes_20 (by decide) h_2 ?_
      obtain ⟨hq_3, hp⟩ := hp
      refine r_aload_n MF.bs dX3_takeBytes_23 rfl 0 rfl ?_
      refine r_getR MF.bs dX3_takeBytes_24 rfl rfl 0 (by decide) wd_165 rfl ?_
      refine r_aload_n MF.bs dX3_takeBytes_27 rfl 0 rfl ?_
      refine r_getI MF.bs dX3_takeBytes_28 rfl rfl 1 (by decide) wd_166 rfl ?_
      refine r_iload MF.bs dX3_takeBytes_31 3 rfl ?_
      refine r_iadd MF.bs dX3_takeBytes_33 ?_
      refine r_lload_n MF.bs dX3_takeBytes_34 rfl 1 rfl ?_
      refine r_bipush MF.bs dX3_takeBytes_35 (v := 8) (by decide) ?_
      refine r_iload MF.bs dX3_takeBytes_37 3 rfl ?_
      refine r_imul MF.bs dX3_takeBytes_39 ?_
      refine r_lushr MF.bs dX3_takeBytes_40 ?_
      refine r_l2i MF.bs dX3_takeBytes_41 ?_
      refine r_sipush MF.bs dX3_takeBytes_42 (v := 255) (by decide) ?_
      refine r_iand MF.bs dX3_takeBytes_45 ?_
      refine r_iastore MF.bs dX3_takeBytes_46 rfl hq_3 ?_
      refine r_iinc MF.bs (v := (v4 + 1)) (lv' := [(4, .int (v4 + 1)), (0, .ref 22), (1, .long v1), (3, .int v3)]) dX3_takeBytes_47 3 rfl rfl (by decide) rfl ?_
      refine r_goto MF.bs dX3_takeBytes_50 (tgt := 17) (by decide) ?_
      refine r_sub [(0, .ref 22), (1, .long v1), (3, .int v3), (4, .int (v4 + 1))] [1, 2, 3, 0] rfl ?_
      exact ih v1 v3 (v4 + 1) (upm M 23 ((M 22 1) + v4).toNatClampNeg (((((v1 : Int64).toUInt64 >>> (((8 * v4) : Int32).toInt64.toUInt64 &&& Int64.toUInt64 63)).toInt64) : Int64).toInt32 &&& 255)) hp
def mX3_takeBytes  (a1 : Int64) (a3 : Int32) (M : Mem) : Bool × Mem := (if a3 ≤ (200 - (M 22 1)) then (mX3_takeBytes_17 400 a1 a3 0 M) else (false, M))
def PX3_takeBytes  (a1 : Int64) (a3 : Int32) (M : Mem) : Prop := (a3 ≤ (200 - (M 22 1)) → PX3_takeBytes_17 400 a1 a3 0 M)
set_option maxRecDepth 100000 in
theorem ctX3_takeBytes   (a1 : Int64) (a3 : Int32) (M : Mem) (hp : PX3_takeBytes a1 a3 M) : CT mtX3_takeBytes 0 [.ref 22, .long a1, .int a3] M (some (.int (b2i ((mX3_takeBytes a1 a3 M).1))), (mX3_takeBytes a1 a3 M).2) := by
  refine CT.of (by decide) rfl (Nat.le_of_ble_eq_true rfl) ?_
  show AWP (GBM mtX3_takeBytes 0 M (mX3_takeBytes a1 a3 M)) mtX3_takeBytes 0 [(0, .ref 22), (1, .long a1), (3, .int a3)] [] M
  unfold mX3_takeBytes
  unfold PX3_takeBytes at hp
  refine r_iload_n MF.bs dX3_takeBytes_0 rfl 2 rfl ?_
  refine r_sipush MF.bs dX3_takeBytes_1 (v := 200) (by decide) ?_
  refine r_aload_n MF.bs dX3_takeBytes_4 rfl 0 rfl ?_
  refine r_getI MF.bs dX3_takeBytes_5 rfl rfl 1 (by decide) wd_166 rfl ?_
  refine r_isub MF.bs dX3_takeBytes_8 ?_
  refine r_ite (GBM mtX3_takeBytes 0 M) (fun h_1 => ?_) (fun h_1 => ?_)
  · have hp := hp h_1
    refine r_icmp_le_t MF.bs (tgt := 14) dX3_takeBytes_9 (by decide) h_1 ?_
    refine r_iconst MF.bs dX3_takeBytes_14 (v := 0) (by decide) ?_
    refine r_istore MF.bs (lv' := [(4, .int 0), (0, .ref 22), (1, .long a1), (3, .int a3)]) dX3_takeBytes_15 (by decide) rfl ?_
    refine r_sub [(0, .ref 22), (1, .long a1), (3, .int a3), (4, .int 0)] [1, 2, 3, 0] rfl ?_
    exact cX3_takeBytes_17 M 400 a1 a3 0 M hp
  · refine r_icmp_le_f MF.bs (tgt := 14) dX3_takeBytes_9 (by decide) h_1 ?_
    refine r_iconst MF.bs dX3_takeBytes_12 (v := 0) (by decide) ?_
    exact r_zret (v := 0) dX3_takeBytes_13 rfl rfl
abbrev mtX3_skipBlanks : MT := (RX3, yX3_skipBlanks, cX3_skipBlanks, 1, none)
theorem miX3_skipBlanks : MV mtX3_skipBlanks 0 := ⟨wd_328, ⟨wd_327, wd_0⟩, wd_82, ⟨by decide, by decide, by decide +kernel⟩, by decide⟩
def mX3_skipBlanks_0   : Nat → Mem → Mem
  | 0, M => M
  | n + 1, M => (if (M 22 1) ≤ (M 22 2) then M else (if (M 23 (M 22 2).toNatClampNeg) = 32 then (mX3_skipBlanks_0 n (upm M 22 2 ((M 22 2) + 1))) else M))
def PX3_skipBlanks_0   : Nat → Mem → Prop
  | 0, _ => False
  | n + 1, M => (¬ (M 22 1) ≤ (M 22 2) → vp_in (M 22 2) 200 ∧ (((M 23 (M 22 2).toNatClampNeg) = 32 → PX3_skipBlanks_0 n (upm M 22 2 ((M 22 2) + 1)))))
set_option maxRecDepth 100000 in
theorem cX3_skipBlanks_0    (M0 : Mem) : ∀ (n : Nat) (M : Mem), PX3_skipBlanks_0 n M → AWP (GV mtX3_skipBlanks 0 M0 (mX3_skipBlanks_0 n M)) mtX3_skipBlanks 0 [(0, .ref 22)] [] M := by
  intro n
  induction n with
  | zero =>
    intro M hp
    exact hp.elim
  | succ n ih =>
    intro M hp
    rw [mX3_skipBlanks_0]
    rw [PX3_skipBlanks_0] at hp
    refine r_aload_n MF.bs dX3_skipBlanks_0 rfl 0 rfl ?_
    refine r_getI MF.bs dX3_skipBlanks_1 rfl rfl 2 (by decide) wd_168 rfl ?_
    refine r_aload_n MF.bs dX3_skipBlanks_4 rfl 0 rfl ?_
    refine r_getI MF.bs dX3_skipBlanks_5 rfl rfl 1 (by decide) wd_166 rfl ?_
    refine r_ite (GV mtX3_skipBlanks 0 M0) (fun h_1 => ?_) (fun h_1 => ?_)
    · refine r_icmp_ge_t MF.bs (tgt := 38) dX3_skipBlanks_8 (by decide) h_1 ?_
      exact r_vret dX3_skipBlanks_38 rfl
    · have hp := hp h_1
      refine r_icmp_ge_f MF.bs (tgt := 38) dX3_skipBlanks_8 (by decide) h_1 ?_
      obtain ⟨hq_2, hp⟩ := hp
      refine r_aload_n MF.bs dX3_skipBlanks_11 rfl 0 rfl ?_
      refine r_getR MF.bs dX3_skipBlanks_12 rfl rfl 0 (by decide) wd_165 rfl ?_
      refine r_aload_n MF.bs dX3_skipBlanks_15 rfl 0 rfl ?_
      refine r_getI MF.bs dX3_skipBlanks_16 rfl rfl 2 (by decide) wd_168 rfl ?_
      refine r_iaload MF.bs dX3_skipBlanks_19 rfl hq_2 ?_
      refine r_bipush MF.bs dX3_skipBlanks_20 (v := 32) (by decide) ?_
      refine r_ite (GV mtX3_skipBlanks 0 M0) (fun h_3 => ?_) (fun h_3 => ?_)
      · have hp := hp h_3
        refine r_icmp_ne_f MF.bs (tgt := 38) dX3_skipBlanks_22 (by decide) h_3 ?_
        refine r_aload_n MF.bs dX3_skipBlanks_25 rfl 0 rfl ?_
        refine r_dup MF.bs dX3_skipBlanks_26 rfl ?_
        refine r_getI MF.bs dX3_skipBlanks_27 rfl rfl 2 (by decide) wd_168 rfl ?_
        refine r_iconst MF.bs dX3_skipBlanks_30 (v := 1) (by decide) ?_
        refine r_iadd MF.bs dX3_skipBlanks_31 ?_
        refine r_putI MF.bs dX3_skipBlanks_32 rfl rfl 2 (by decide) wd_168 rfl rfl rfl rfl rfl ?_
        refine r_goto MF.bs dX3_skipBlanks_35 (tgt := 0) (by decide) ?_
        exact ih (upm M 22 2 ((M 22 2) + 1)) hp
      · refine r_icmp_ne_t MF.bs (tgt := 38) dX3_skipBlanks_22 (by decide) h_3 ?_
        exact r_vret dX3_skipBlanks_38 rfl
def mX3_skipBlanks  (M : Mem) : Mem := (mX3_skipBlanks_0 400 M)
def PX3_skipBlanks  (M : Mem) : Prop := PX3_skipBlanks_0 400 M
set_option maxRecDepth 100000 in
theorem ctX3_skipBlanks   (M : Mem) (hp : PX3_skipBlanks M) : CT mtX3_skipBlanks 0 [.ref 22] M (none, mX3_skipBlanks M) := by
  refine CT.of (by decide) rfl (Nat.le_of_ble_eq_true rfl) ?_
  show AWP (GV mtX3_skipBlanks 0 M (mX3_skipBlanks M)) mtX3_skipBlanks 0 [(0, .ref 22)] [] M
  unfold mX3_skipBlanks
  unfold PX3_skipBlanks at hp
  exact cX3_skipBlanks_0 M 400 M hp
abbrev mtX3_endOfName : MT := (RX3, yX3_endOfName, cX3_endOfName, 2, (some .int))
theorem miX3_endOfName : MV mtX3_endOfName 0 := ⟨wd_345, ⟨wd_344, wd_4⟩, wd_82, ⟨by decide, by decide, by decide +kernel⟩, by decide⟩
def mX3_endOfName_5   : Nat → Int32 → Mem → Int32
  | 0, _, _ => 0
  | n + 1, v1, M => (if (M 22 1) ≤ v1 then v1 else (if (M 23 v1.toNatClampNeg) < 97 then v1 else (if 122 < (M 23 v1.toNatClampNeg) then v1 else (mX3_endOfName_5 n (v1 + 1) M))))
def PX3_endOfName_5   : Nat → Int32 → Mem → Prop
  | 0, _, _ => False
  | n + 1, v1, M => (¬ (M 22 1) ≤ v1 → vp_in v1 200 ∧ ((¬ (M 23 v1.toNatClampNeg) < 97 → vp_in v1 200 ∧ ((¬ 122 < (M 23 v1.toNatClampNeg) → PX3_endOfName_5 n (v1 + 1) M)))))
set_option maxRecDepth 100000 in
theorem cX3_endOfName_5    : ∀ (n : Nat) (v1 : Int32) (M : Mem), PX3_endOfName_5 n v1 M → AWP (GI mtX3_endOfName 0 M M (mX3_endOfName_5 n v1 M)) mtX3_endOfName 5 [(0, .ref 22), (1, .int v1)] [] M := by
  intro n
  induction n with
  | zero =>
    intro v1 M hp
    exact hp.elim
  | succ n ih =>
    intro v1 M hp
    rw [mX3_endOfName_5]
    rw [PX3_endOfName_5] at hp
    refine r_iload_n MF.bs dX3_endOfName_5 rfl 1 rfl ?_
    refine r_aload_n MF.bs dX3_endOfName_6 rfl 0 rfl ?_
    refine r_getI MF.bs dX3_endOfName_7 rfl rfl 1 (by decide) wd_166 rfl ?_
    refine r_ite (GI mtX3_endOfName 0 M M) (fun h_1 => ?_) (fun h_1 => ?_)
    · refine r_icmp_ge_t MF.bs (tgt := 41) dX3_endOfName_10 (by decide) h_1 ?_
      refine r_iload_n MF.bs dX3_endOfName_41 rfl 1 rfl ?_
      exact r_iret dX3_endOfName_42 rfl
    · have hp := hp h_1
      refine r_icmp_ge_f MF.bs (tgt := 41) dX3_endOfName_10 (by decide) h_1 ?_
      obtain ⟨hq_2, hp⟩ := hp
      refine r_aload_n MF.bs dX3_endOfName_13 rfl 0 rfl ?_
      refine r_getR MF.bs dX3_endOfName_14 rfl rfl 0 (by decide) wd_165 rfl ?_
      refine r_iload_n MF.bs dX3_endOfName_17 rfl 1 rfl ?_
      refine r_iaload MF.bs dX3_endOfName_18 rfl hq_2 ?_
      refine r_bipush MF.bs dX3_endOfName_19 (v := 97) (by decide) ?_
      refine r_ite (GI mtX3_endOfName 0 M M) (fun h_3 => ?_) (fun h_3 => ?_)
      · refine r_icmp_lt_t MF.bs (tgt := 41) dX3_endOfName_21 (by decide) h_3 ?_
        refine r_iload_n MF.bs dX3_endOfName_41 rfl 1 rfl ?_
        exact r_iret dX3_endOfName_42 rfl
      · have hp := hp h_3
        refine r_icmp_lt_f MF.bs (tgt := 41) dX3_endOfName_21 (by decide) h_3 ?_
        obtain ⟨hq_4, hp⟩ := hp
        refine r_aload_n MF.bs dX3_endOfName_24 rfl 0 rfl ?_
        refine r_getR MF.bs dX3_endOfName_25 rfl rfl 0 (by decide) wd_165 rfl ?_
        refine r_iload_n MF.bs dX3_endOfName_28 rfl 1 rfl ?_
        refine r_iaload MF.bs dX3_endOfName_29 rfl hq_4 ?_
        refine r_bipush MF.bs dX3_endOfName_30 (v := 122) (by decide) ?_
        refine r_ite (GI mtX3_endOfName 0 M M) (fun h_5 => ?_) (fun h_5 => ?_)
        · refine r_icmp_gt_t MF.bs (tgt := 41) dX3_endOfName_32 (by decide) h_5 ?_
          refine r_iload_n MF.bs dX3_endOfName_41 rfl 1 rfl ?_
          exact r_iret dX3_endOfName_42 rfl
        · have hp := hp h_5
          refine r_icmp_gt_f MF.bs (tgt := 41) dX3_endOfName_32 (by decide) h_5 ?_
          refine r_iinc MF.bs (v := (v1 + 1)) (lv' := [(1, .int (v1 + 1)), (0, .ref 22)]) dX3_endOfName_35 1 rfl rfl (by decide) rfl ?_
          refine r_goto MF.bs dX3_endOfName_38 (tgt := 5) (by decide) ?_
          refine r_sub [(0, .ref 22), (1, .int (v1 + 1))] [1, 0] rfl ?_
          exact ih (v1 + 1) M hp
def mX3_endOfName  (M : Mem) : Int32 := (mX3_endOfName_5 400 (M 22 2) M)
def PX3_endOfName  (M : Mem) : Prop := PX3_endOfName_5 400 (M 22 2) M
set_option maxRecDepth 100000 in
theorem ctX3_endOfName   (M : Mem) (hp : PX3_endOfName M) : CT mtX3_endOfName 0 [.ref 22] M (some (.int (mX3_endOfName M)), M) := by
  refine CT.of (by decide) rfl (Nat.le_of_ble_eq_true rfl) ?_
  show AWP (GI mtX3_endOfName 0 M M (mX3_endOfName M)) mtX3_endOfName 0 [(0, .ref 22)] [] M
  unfold mX3_endOfName
  unfold PX3_endOfName at hp
  refine r_aload_n MF.bs dX3_endOfName_0 rfl 0 rfl ?_
  refine r_getI MF.bs dX3_endOfName_1 rfl rfl 2 (by decide) wd_168 rfl ?_
  refine r_istore_n MF.bs (lv' := [(1, .int (M 22 2)), (0, .ref 22)]) dX3_endOfName_4 rfl (by decide) rfl ?_
  refine r_sub [(0, .ref 22), (1, .int (M 22 2))] [1, 0] rfl ?_
  exact cX3_endOfName_5 400 (M 22 2) M hp
abbrev mtJ0_coder_7d493 : MT := (RJ0, yJ0_coder_7d493, cJ0_coder_7d493, 1, (some .byte))
theorem miJ0_coder_7d493 : MV mtJ0_coder_7d493 0 := ⟨wd_353, ⟨wd_351, wd_352⟩, wd_88, ⟨by decide, by decide, by decide +kernel⟩, by decide⟩
def mJ0_coder_7d493 (b : Nat)  : Int32 := 0
set_option maxRecDepth 100000 in
theorem ctJ0_coder_7d493 (b : Nat) (hb : b < 16) (M : Mem) : CT mtJ0_coder_7d493 0 [.ref (200 + b)] M (some (.int (mJ0_coder_7d493 b)), M) := by
  refine CT.of (by decide) rfl (Nat.le_of_ble_eq_true rfl) ?_
  show AWP (GI mtJ0_coder_7d493 0 M M (mJ0_coder_7d493 b)) mtJ0_coder_7d493 0 [(0, .ref (200 + b))] [] M
  unfold mJ0_coder_7d493
  refine r_getCS MF.bs dJ0_coder_7d493_0 wd_354 ?_
  refine r_if_eq_f MF.bs (tgt := 13) dJ0_coder_7d493_3 (by decide) (by decide) ?_
  refine r_aload_n MF.bs dJ0_coder_7d493_6 rfl 0 rfl ?_
  refine r_getSc MF.bs dJ0_coder_7d493_7 wd_1403 hb ?_
  refine r_goto MF.bs dJ0_coder_7d493_10 (tgt := 14) (by decide) ?_
  exact r_zret dJ0_coder_7d493_14 rfl rfl
abbrev mtJ0_length_8abf5 : MT := (RJ0, yJ0_length_8abf5, cJ0_length_8abf5, 1, (some .int))
theorem miJ0_length_8abf5 : MV mtJ0_length_8abf5 0 := ⟨wd_349, ⟨wd_347, wd_348⟩, wd_88, ⟨by decide, by decide, by decide +kernel⟩, by decide⟩
def mJ0_length_8abf5 (b : Nat)  : Int32 := ((Int32.ofNat (strLen.getD b 0)) >>> (0 &&& 31))
set_option maxRecDepth 100000 in
theorem ctJ0_length_8abf5 (b : Nat) (hb : b < 16) (M : Mem) : CT mtJ0_length_8abf5 1 [.ref (200 + b)] M (some (.int (mJ0_length_8abf5 b)), M) := by
  refine CT.of (by decide) rfl (Nat.le_of_ble_eq_true rfl) ?_
  show AWP (GI mtJ0_length_8abf5 1 M M (mJ0_length_8abf5 b)) mtJ0_length_8abf5 0 [(0, .ref (200 + b))] [] M
  unfold mJ0_length_8abf5
  refine r_aload_n MF.bs dJ0_length_8abf5_0 rfl 0 rfl ?_
  refine r_getSv MF.bs dJ0_length_8abf5_1 wd_1402 hb ?_
  refine r_tblen MF.bs dJ0_length_8abf5_4 hb ?_
  refine r_aload_n MF.bs dJ0_length_8abf5_5 rfl 0 rfl ?_
  refine r_callT_v MF.bs (v := .int 0) (st := [.int (Int32.ofNat (strLen.getD b 0))]) dJ0_length_8abf5_6 (ctJ0_coder_7d493 b hb M) miJ0_coder_7d493 wd_350 rfl (by decide) rfl (Nat.le_of_ble_eq_true rfl) hb ?_
  refine r_ishr MF.bs dJ0_length_8abf5_9 ?_
  exact r_iret dJ0_length_8abf5_10 rfl
abbrev mtJ0_isLatin1_aae02 : MT := (RJ0, yJ0_isLatin1_aae02, cJ0_isLatin1_aae02, 1, (some .boolean))
theorem miJ0_isLatin1_aae02 : MV mtJ0_isLatin1_aae02 0 := ⟨wd_363, ⟨wd_361, wd_362⟩, wd_88, ⟨by decide, by decide, by decide +kernel⟩, by decide⟩
def mJ0_isLatin1_aae02 (b : Nat)  : Bool := true
set_option maxRecDepth 100000 in
theorem ctJ0_isLatin1_aae02 (b : Nat) (hb : b < 16) (M : Mem) : CT mtJ0_isLatin1_aae02 0 [.ref (200 + b)] M (some (.int (b2i (mJ0_isLatin1_aae02 b))), M) := by
  refine CT.of (by decide) rfl (Nat.le_of_ble_eq_true rfl) ?_
  show AWP (GB mtJ0_isLatin1_aae02 0 M M (mJ0_isLatin1_aae02 b)) mtJ0_isLatin1_aae02 0 [(0, .ref (200 + b))] [] M
  unfold mJ0_isLatin1_aae02
  refine r_getCS MF.bs dJ0_isLatin1_aae02_0 wd_354 ?_
  refine r_if_eq_f MF.bs (tgt := 17) dJ0_isLatin1_aae02_3 (by decide) (by decide) ?_
  refine r_aload_n MF.bs dJ0_isLatin1_aae02_6 rfl 0 rfl ?_
  refine r_getSc MF.bs dJ0_isLatin1_aae02_7 wd_1403 hb ?_
  refine r_if_ne_f MF.bs (tgt := 17) dJ0_isLatin1_aae02_10 (by decide) (by decide) ?_
  refine r_iconst MF.bs dJ0_isLatin1_aae02_13 (v := 1) (by decide) ?_
  refine r_goto MF.bs dJ0_isLatin1_aae02_14 (tgt := 18) (by decide) ?_
  exact r_zret1 dJ0_isLatin1_aae02_18 rfl
abbrev mtJ3_checkIndex_8e157 : MT := (RJ3, yJ3_checkIndex_8e157, cJ3_checkIndex_8e157, 3, (some .int))
theorem miJ3_checkIndex_8e157 : MS mtJ3_checkIndex_8e157 3 := ⟨wd_374, wd_373, wd_90, ⟨by decide, by decide, by decide +kernel⟩, by decide⟩
def mJ3_checkIndex_8e157  (a0 : Int32) (a1 : Int32) (M : Mem) : Int32 := (if a0 < 0 then 0 else (if a0 < a1 then a0 else 0))
def PJ3_checkIndex_8e157  (a0 : Int32) (a1 : Int32) (M : Mem) : Prop := ((a0 < 0 → False) ∧ (¬ a0 < 0 → (¬ a0 < a1 → False)))
set_option maxRecDepth 100000 in
theorem ctJ3_checkIndex_8e157   (a0 : Int32) (a1 : Int32) (M : Mem) (hp : PJ3_checkIndex_8e157 a0 a1 M) : CT mtJ3_checkIndex_8e157 0 [.int a0, .int a1, .ref 400] M (some (.int (mJ3_checkIndex_8e157 a0 a1 M)), M) := by
  refine CT.of (by decide) rfl (Nat.le_of_ble_eq_true rfl) ?_
  show AWP (GI mtJ3_checkIndex_8e157 0 M M (mJ3_checkIndex_8e157 a0 a1 M)) mtJ3_checkIndex_8e157 0 [(0, .int a0), (1, .int a1), (2, .ref 400)] [] M
  unfold mJ3_checkIndex_8e157
  unfold PJ3_checkIndex_8e157 at hp
  refine r_iload_n MF.bs dJ3_checkIndex_8e157_0 rfl 0 rfl ?_
  refine r_ite (GI mtJ3_checkIndex_8e157 0 M M) (fun h_1 => ?_) (fun h_1 => ?_)
  · have hp := hp.1 h_1
    refine r_if_lt_t MF.bs (tgt := 9) dJ3_checkIndex_8e157_1 (by decide) h_1 ?_
    exact hp.elim
  · have hp := hp.2 h_1
    refine r_if_lt_f MF.bs (tgt := 9) dJ3_checkIndex_8e157_1 (by decide) h_1 ?_
    refine r_iload_n MF.bs dJ3_checkIndex_8e157_4 rfl 0 rfl ?_
    refine r_iload_n MF.bs dJ3_checkIndex_8e157_5 rfl 1 rfl ?_
    refine r_ite (GI mtJ3_checkIndex_8e157 0 M M) (fun h_2 => ?_) (fun h_2 => ?_)
    · refine r_icmp_lt_t MF.bs (tgt := 16) dJ3_checkIndex_8e157_6 (by decide) h_2 ?_
      refine r_iload_n MF.bs dJ3_checkIndex_8e157_16 rfl 0 rfl ?_
      exact r_iret dJ3_checkIndex_8e157_17 rfl
    · have hp := hp h_2
      refine r_icmp_lt_f MF.bs (tgt := 16) dJ3_checkIndex_8e157_6 (by decide) h_2 ?_
      exact hp.elim
set_option maxRecDepth 100000 in
theorem ctJ3_checkIndex_8e157N   (a0 : Int32) (a1 : Int32) (M : Mem) (hp : PJ3_checkIndex_8e157 a0 a1 M) : CT mtJ3_checkIndex_8e157 0 [.int a0, .int a1, .null] M (some (.int (mJ3_checkIndex_8e157 a0 a1 M)), M) := by
  refine CT.of (by decide) rfl (Nat.le_of_ble_eq_true rfl) ?_
  show AWP (GI mtJ3_checkIndex_8e157 0 M M (mJ3_checkIndex_8e157 a0 a1 M)) mtJ3_checkIndex_8e157 0 [(0, .int a0), (1, .int a1), (2, .null)] [] M
  unfold mJ3_checkIndex_8e157
  unfold PJ3_checkIndex_8e157 at hp
  refine r_iload_n MF.bs dJ3_checkIndex_8e157_0 rfl 0 rfl ?_
  refine r_ite (GI mtJ3_checkIndex_8e157 0 M M) (fun h_1 => ?_) (fun h_1 => ?_)
  · have hp := hp.1 h_1
    refine r_if_lt_t MF.bs (tgt := 9) dJ3_checkIndex_8e157_1 (by decide) h_1 ?_
    exact hp.elim
  · have hp := hp.2 h_1
    refine r_if_lt_f MF.bs (tgt := 9) dJ3_checkIndex_8e157_1 (by decide) h_1 ?_
    refine r_iload_n MF.bs dJ3_checkIndex_8e157_4 rfl 0 rfl ?_
    refine r_iload_n MF.bs dJ3_checkIndex_8e157_5 rfl 1 rfl ?_
    refine r_ite (GI mtJ3_checkIndex_8e157 0 M M) (fun h_2 => ?_) (fun h_2 => ?_)
    · refine r_icmp_lt_t MF.bs (tgt := 16) dJ3_checkIndex_8e157_6 (by decide) h_2 ?_
      refine r_iload_n MF.bs dJ3_checkIndex_8e157_16 rfl 0 rfl ?_
      exact r_iret dJ3_checkIndex_8e157_17 rfl
    · have hp := hp h_2
      refine r_icmp_lt_f MF.bs (tgt := 16) dJ3_checkIndex_8e157_6 (by decide) h_2 ?_
      exact hp.elim
abbrev mtJ0_checkIndex_df160 : MT := (RJ0, yJ0_checkIndex_df160, cJ0_checkIndex_df160, 2, none)
theorem miJ0_checkIndex_df160 : MS mtJ0_checkIndex_df160 2 := ⟨wd_369, wd_368, wd_88, ⟨by decide, by decide, by decide +kernel⟩, by decide⟩
def mJ0_checkIndex_df160  (a0 : Int32) (a1 : Int32) (M : Mem) : Mem := M
def PJ0_checkIndex_df160  (a0 : Int32) (a1 : Int32) (M : Mem) : Prop := PJ3_checkIndex_8e157 a0 a1 M
set_option maxRecDepth 100000 in
theorem ctJ0_checkIndex_df160   (a0 : Int32) (a1 : Int32) (M : Mem) (hp : PJ0_checkIndex_df160 a0 a1 M) : CT mtJ0_checkIndex_df160 1 [.int a0, .int a1] M (none, M) := by
  refine CT.of (by decide) rfl (Nat.le_of_ble_eq_true rfl) ?_
  show AWP (GV mtJ0_checkIndex_df160 1 M (mJ0_checkIndex_df160 a0 a1 M)) mtJ0_checkIndex_df160 0 [(0, .int a0), (1, .int a1)] [] M
  unfold mJ0_checkIndex_df160
  unfold PJ0_checkIndex_df160 at hp
  refine r_iload_n MF.bs dJ0_checkIndex_df160_0 rfl 0 rfl ?_
  refine r_iload_n MF.bs dJ0_checkIndex_df160_1 rfl 1 rfl ?_
  refine r_getFM MF.bs dJ0_checkIndex_df160_2 wd_370 ?_ ?_
  · have hq_1 := hp
    refine r_callS_v MF.bs (st := []) dJ0_checkIndex_df160_5 (ctJ3_checkIndex_8e157N a0 a1 M hq_1) miJ3_checkIndex_8e157 wd_372 rfl (by decide) rfl (Nat.le_of_ble_eq_true rfl) ?_
    refine r_pop MF.bs dJ0_checkIndex_df160_8 rfl ?_
    exact r_vret dJ0_checkIndex_df160_9 rfl
  · have hq_2 := hp
    refine r_callS_v MF.bs (st := []) dJ0_checkIndex_df160_5 (ctJ3_checkIndex_8e157 a0 a1 M hq_2) miJ3_checkIndex_8e157 wd_372 rfl (by decide) rfl (Nat.le_of_ble_eq_true rfl) ?_
    refine r_pop MF.bs dJ0_checkIndex_df160_8 rfl ?_
    exact r_vret dJ0_checkIndex_df160_9 rfl
abbrev mtJ1_charAt_3b067 : MT := (RJ1, yJ1_charAt_3b067, cJ1_charAt_3b067, 2, (some .char))
theorem miJ1_charAt_3b067 : MS mtJ1_charAt_3b067 2 := ⟨wd_366, wd_365, wd_89, ⟨by decide, by decide, by decide +kernel⟩, by decide⟩
def mJ1_charAt_3b067 (s0 : Nat) (a1 : Int32) (M : Mem) : Int32 := ((((((strByt.getD s0 []).getD a1.toNatClampNeg 0) &&& 255) : Int32).toUInt32 % 65536).toInt32)
def PJ1_charAt_3b067 (s0 : Nat) (a1 : Int32) (M : Mem) : Prop := PJ0_checkIndex_df160 a1 (Int32.ofNat (strLen.getD s0 0)) M ∧ (vp_in a1 (strLen.getD s0 0) ∧ (narrow .char (.int ((((((strByt.getD s0 []).getD a1.toNatClampNeg 0) &&& 255) : Int32).toUInt32 % 65536).toInt32)) = .int ((((((strByt.getD s0 []).getD a1.toNatClampNeg 0) &&& 255) : Int32).toUInt32 % 65536).toInt32)))
set_option maxRecDepth 100000 in
theorem ctJ1_charAt_3b067 (s0 : Nat) (h0 : s0 < 16) (a1 : Int32) (M : Mem) (hp : PJ1_charAt_3b067 s0 a1 M) : CT mtJ1_charAt_3b067 2 [.ref (300 + s0), .int a1] M (some (.int (mJ1_charAt_3b067 s0 a1 M)), M) := by
  refine CT.of (by decide) rfl (Nat.le_of_ble_eq_true rfl) ?_
  show AWP (GI mtJ1_charAt_3b067 2 M M (mJ1_charAt_3b067 s0 a1 M)) mtJ1_charAt_3b067 0 [(0, .ref (300 + s0)), (1, .int a1)] [] M
  unfold mJ1_charAt_3b067
  unfold PJ1_charAt_3b067 at hp
  obtain ⟨hq_1, hp⟩ := hp
  obtain ⟨hq_2, hp⟩ := hp
  refine r_iload_n MF.bs dJ1_charAt_3b067_0 rfl 1 rfl ?_
  refine r_aload_n MF.bs dJ1_charAt_3b067_1 rfl 0 rfl ?_
  refine r_tblen MF.bs dJ1_charAt_3b067_2 h0 ?_
  refine r_callS_n MF.bs (st := []) dJ1_charAt_3b067_3 (ctJ0_checkIndex_df160 a1 (Int32.ofNat (strLen.getD s0 0)) M hq_1) miJ0_checkIndex_df160 wd_367 rfl (by decide) rfl (Nat.le_of_ble_eq_true rfl) ?_
  refine r_aload_n MF.bs dJ1_charAt_3b067_6 rfl 0 rfl ?_
  refine r_iload_n MF.bs dJ1_charAt_3b067_7 rfl 1 rfl ?_
  refine r_tbald MF.bs dJ1_charAt_3b067_8 h0 hq_2 ?_
  refine r_sipush MF.bs dJ1_charAt_3b067_9 (v := 255) (by decide) ?_
  refine r_iand MF.bs dJ1_charAt_3b067_12 ?_
  refine r_i2c MF.bs dJ1_charAt_3b067_13 ?_
  exact r_zret dJ1_charAt_3b067_14 rfl hp
abbrev mtJ0_charAt_5068e : MT := (RJ0, yJ0_charAt_5068e, cJ0_charAt_5068e, 2, (some .char))
theorem miJ0_charAt_5068e : MV mtJ0_charAt_5068e 1 := ⟨wd_359, ⟨wd_357, wd_358⟩, wd_88, ⟨by decide, by decide, by decide +kernel⟩, by decide⟩
def mJ0_charAt_5068e (b : Nat) (a1 : Int32) (M : Mem) : Int32 := (mJ1_charAt_3b067 b a1 M)
def PJ0_charAt_5068e (b : Nat) (a1 : Int32) (M : Mem) : Prop := PJ1_charAt_3b067 b a1 M ∧ (narrow .char (.int (mJ1_charAt_3b067 b a1 M)) = .int (mJ1_charAt_3b067 b a1 M))
set_option maxRecDepth 100000 in
theorem ctJ0_charAt_5068e (b : Nat) (hb : b < 16) (a1 : Int32) (M : Mem) (hp : PJ0_charAt_5068e b a1 M) : CT mtJ0_charAt_5068e 3 [.ref (200 + b), .int a1] M (some (.int (mJ0_charAt_5068e b a1 M)), M) := by
  refine CT.of (by decide) rfl (Nat.le_of_ble_eq_true rfl) ?_
  show AWP (GI mtJ0_charAt_5068e 3 M M (mJ0_charAt_5068e b a1 M)) mtJ0_charAt_5068e 0 [(0, .ref (200 + b)), (1, .int a1)] [] M
  unfold mJ0_charAt_5068e
  unfold PJ0_charAt_5068e at hp
  refine r_aload_n MF.bs dJ0_charAt_5068e_0 rfl 0 rfl ?_
  refine r_callT_v MF.bs (v := .int 1) (st := []) dJ0_charAt_5068e_1 (ctJ0_isLatin1_aae02 b hb M) miJ0_isLatin1_aae02 wd_360 rfl (by decide) rfl (Nat.le_of_ble_eq_true rfl) hb ?_
  refine r_if_eq_f MF.bs (tgt := 16) dJ0_charAt_5068e_4 (by decide) (by decide) ?_
  obtain ⟨hq_1, hp⟩ := hp
  refine r_aload_n MF.bs dJ0_charAt_5068e_7 rfl 0 rfl ?_
  refine r_getSv MF.bs dJ0_charAt_5068e_8 wd_1402 hb ?_
  refine r_iload_n MF.bs dJ0_charAt_5068e_11 rfl 1 rfl ?_
  refine r_callS_v MF.bs (st := []) dJ0_charAt_5068e_12 (ctJ1_charAt_3b067 b hb a1 M hq_1) miJ1_charAt_3b067 wd_364 rfl (by decide) rfl (Nat.le_of_ble_eq_true rfl) ?_
  exact r_zret dJ0_charAt_5068e_15 rfl hp
abbrev mtX3_isNameHere : MT := (RX3, yX3_isNameHere, cX3_isNameHere, 3, (some .boolean))
theorem miX3_isNameHere : MV mtX3_isNameHere 1 := ⟨wd_341, ⟨wd_340, wd_3⟩, wd_82, ⟨by decide, by decide, by decide +kernel⟩, by decide⟩
def mX3_isNameHere_20 (s1 : Nat)  : Nat → Int32 → Mem → Bool
  | 0, _, _ => false
  | n + 1, v2, M => (if (mJ0_length_8abf5 s1) ≤ v2 then true else (if (M 23 ((M 22 2) + v2).toNatClampNeg) = (mJ0_charAt_5068e s1 v2 M) then (mX3_isNameHere_20 s1 n (v2 + 1) M) else false))
def PX3_isNameHere_20 (s1 : Nat)  : Nat → Int32 → Mem → Prop
  | 0, _, _ => False
  | n + 1, v2, M => (¬ (mJ0_length_8abf5 s1) ≤ v2 → vp_in ((M 22 2) + v2) 200 ∧ (PJ0_charAt_5068e s1 v2 M ∧ (((M 23 ((M 22 2) + v2).toNatClampNeg) = (mJ0_charAt_5068e s1 v2 M) → PX3_isNameHere_20 s1 n (v2 + 1) M))))
set_option maxRecDepth 100000 in
theorem cX3_isNameHere_20 (s1 : Nat) (h1 : s1 < 16)  : ∀ (n : Nat) (v2 : Int32) (M : Mem), PX3_isNameHere_20 s1 n v2 M → AWP (GB mtX3_isNameHere 4 M M (mX3_isNameHere_20 s1 n v2 M)) mtX3_isNameHere 20 [(0, .ref 22), (1, .ref (200 + s1)), (2, .int v2)] [] M := by
  intro n
  induction n with
  | zero =>
    intro v2 M hp
    exact hp.elim
  | succ n ih =>
    intro v2 M hp
    rw [mX3_isNameHere_20]
    rw [PX3_isNameHere_20] at hp
    refine r_iload_n MF.bs dX3_isNameHere_20 rfl 2 rfl ?_
    refine r_aload_n MF.bs dX3_isNameHere_21 rfl 1 rfl ?_
    refine r_callT_v MF.bs (st := [.int v2]) dX3_isNameHere_22 (ctJ0_length_8abf5 s1 h1 M) miJ0_length_8abf5 wd_346 rfl (by decide) rfl (Nat.le_of_ble_eq_true rfl) h1 ?_
    refine r_ite (GB mtX3_isNameHere 4 M M) (fun h_3 => ?_) (fun h_3 => ?_)
    · refine r_icmp_ge_t MF.bs (tgt := 55) dX3_isNameHere_25 (by decide) h_3 ?_
      refine r_iconst MF.bs dX3_isNameHere_55 (v := 1) (by decide) ?_
      exact r_zret1 dX3_isNameHere_56 rfl
    · have hp := hp h_3
      refine r_icmp_ge_f MF.bs (tgt := 55) dX3_isNameHere_25 (by decide) h_3 ?_
      obtain ⟨hq_4, hp⟩ := hp
      obtain ⟨hq_5, hp⟩ := hp
      refine r_aload_n MF.bs dX3_isNameHere_28 rfl 0 rfl ?_
      refine r_getR MF.bs dX3_isNameHere_29 rfl rfl 0 (by decide) wd_165 rfl ?_
      refine r_aload_n MF.bs dX3_isNameHere_32 rfl 0 rfl ?_
      refine r_getI MF.bs dX3_isNameHere_33 rfl rfl 2 (by decide) wd_168 rfl ?_
      refine r_iload_n MF.bs dX3_isNameHere_36 rfl 2 rfl ?_
      refine r_iadd MF.bs dX3_isNameHere_37 ?_
      refine r_iaload MF.bs dX3_isNameHere_38 rfl hq_4 ?_
      refine r_aload_n MF.bs dX3_isNameHere_39 rfl 1 rfl ?_
      refine r_iload_n MF.bs dX3_isNameHere_40 rfl 2 rfl ?_
      refine r_callT_v MF.bs (st := [.int (M 23 ((M 22 2) + v2).toNatClampNeg)]) dX3_isNameHere_41 (ctJ0_charAt_5068e s1 h1 v2 M hq_5) miJ0_charAt_5068e wd_356 rfl (by decide) rfl (Nat.le_of_ble_eq_true rfl) h1 ?_
      refine r_ite (GB mtX3_isNameHere 4 M M) (fun h_6 => ?_) (fun h_6 => ?_)
      · have hp := hp h_6
        refine r_icmp_eq_t MF.bs (tgt := 49) dX3_isNameHere_44 (by decide) h_6 ?_
        refine r_iinc MF.bs (v := (v2 + 1)) (lv' := [(2, .int (v2 + 1)), (0, .ref 22), (1, .ref (200 + s1))]) dX3_isNameHere_49 2 rfl rfl (by decide) rfl ?_
        refine r_goto MF.bs dX3_isNameHere_52 (tgt := 20) (by decide) ?_
        refine r_sub [(0, .ref 22), (1, .ref (200 + s1)), (2, .int (v2 + 1))] [1, 2, 0] rfl ?_
        exact ih (v2 + 1) M hp
      · refine r_icmp_eq_f MF.bs (tgt := 49) dX3_isNameHere_44 (by decide) h_6 ?_
        refine r_iconst MF.bs dX3_isNameHere_47 (v := 0) (by decide) ?_
        exact r_zret0 dX3_isNameHere_48 rfl
def mX3_isNameHere (s1 : Nat) (M : Mem) : Bool := (if ((mX3_endOfName M) - (M 22 2)) = (mJ0_length_8abf5 s1) then (mX3_isNameHere_20 s1 400 0 M) else false)
def PX3_isNameHere (s1 : Nat) (M : Mem) : Prop := PX3_endOfName M ∧ ((((mX3_endOfName M) - (M 22 2)) = (mJ0_length_8abf5 s1) → PX3_isNameHere_20 s1 400 0 M))
set_option maxRecDepth 100000 in
theorem ctX3_isNameHere (s1 : Nat) (h1 : s1 < 16) (M : Mem) (hp : PX3_isNameHere s1 M) : CT mtX3_isNameHere 4 [.ref 22, .ref (200 + s1)] M (some (.int (b2i (mX3_isNameHere s1 M))), M) := by
  refine CT.of (by decide) rfl (Nat.le_of_ble_eq_true rfl) ?_
  show AWP (GB mtX3_isNameHere 4 M M (mX3_isNameHere s1 M)) mtX3_isNameHere 0 [(0, .ref 22), (1, .ref (200 + s1))] [] M
  unfold mX3_isNameHere
  unfold PX3_isNameHere at hp
  obtain ⟨hq_1, hp⟩ := hp
  refine r_aload_n MF.bs dX3_isNameHere_0 rfl 0 rfl ?_
  refine r_callV_v MF.bs (st := []) dX3_isNameHere_1 (ctX3_endOfName M hq_1) miX3_endOfName wd_342 rfl (by decide) rfl (Nat.le_of_ble_eq_true rfl) rfl rfl rfl ?_
  refine r_aload_n MF.bs dX3_isNameHere_4 rfl 0 rfl ?_
  refine r_getI MF.bs dX3_isNameHere_5 rfl rfl 2 (by decide) wd_168 rfl ?_
  refine r_isub MF.bs dX3_isNameHere_8 ?_
  refine r_aload_n MF.bs dX3_isNameHere_9 rfl 1 rfl ?_
  refine r_callT_v MF.bs (st := [.int ((mX3_endOfName M) - (M 22 2))]) dX3_isNameHere_10 (ctJ0_length_8abf5 s1 h1 M) miJ0_length_8abf5 wd_346 rfl (by decide) rfl (Nat.le_of_ble_eq_true rfl) h1 ?_
  refine r_ite (GB mtX3_isNameHere 4 M M) (fun h_2 => ?_) (fun h_2 => ?_)
  · have hp := hp h_2
    refine r_icmp_eq_t MF.bs (tgt := 18) dX3_isNameHere_13 (by decide) h_2 ?_
    refine r_iconst MF.bs dX3_isNameHere_18 (v := 0) (by decide) ?_
    refine r_istore_n MF.bs (lv' := [(2, .int 0), (0, .ref 22), (1, .ref (200 + s1))]) dX3_isNameHere_19 rfl (by decide) rfl ?_
    refine r_sub [(0, .ref 22), (1, .ref (200 + s1)), (2, .int 0)] [1, 2, 0] rfl ?_
    exact cX3_isNameHere_20 s1 h1 400 0 M hp
  · refine r_icmp_eq_f MF.bs (tgt := 18) dX3_isNameHere_13 (by decide) h_2 ?_
    refine r_iconst MF.bs dX3_isNameHere_16 (v := 0) (by decide) ?_
    exact r_zret0 dX3_isNameHere_17 rfl
abbrev mtX3_kindHere : MT := (RX3, yX3_kindHere, cX3_kindHere, 1, (some .int))
theorem miX3_kindHere : MV mtX3_kindHere 0 := ⟨wd_336, ⟨wd_335, wd_2⟩, wd_82, ⟨by decide, by decide, by decide +kernel⟩, by decide⟩
def mX3_kindHere  (M : Mem) : Int32 := (if (mX3_isNameHere 6 M) = true then 0 else (if (mX3_isNameHere 7 M) = true then 1 else (if (mX3_isNameHere 8 M) = true then 2 else (if (mX3_isNameHere 9 M) = true then 3 else (if (mX3_isNameHere 10 M) = true then 4 else (if (mX3_isNameHere 11 M) = true then 5 else (-1)))))))
def PX3_kindHere  (M : Mem) : Prop := PX3_isNameHere 6 M ∧ ((¬ (mX3_isNameHere 6 M) = true → PX3_isNameHere 7 M ∧ ((¬ (mX3_isNameHere 7 M) = true → PX3_isNameHere 8 M ∧ ((¬ (mX3_isNameHere 8 M) = true → PX3_isNameHere 9 M ∧ ((¬ (mX3_isNameHere 9 M) = true → PX3_isNameHere 10 M ∧ ((¬ (mX3_isNameHere 10 M) = true → PX3_isNameHere 11 M))))))))))
set_option maxRecDepth 100000 in
theorem ctX3_kindHere   (M : Mem) (hp : PX3_kindHere M) : CT mtX3_kindHere 5 [.ref 22] M (some (.int (mX3_kindHere M)), M) := by
  refine CT.of (by decide) rfl (Nat.le_of_ble_eq_true rfl) ?_
  show AWP (GI mtX3_kindHere 5 M M (mX3_kindHere M)) mtX3_kindHere 0 [(0, .ref 22)] [] M
  unfold mX3_kindHere
  unfold PX3_kindHere at hp
  obtain ⟨hq_1, hp⟩ := hp
  refine r_aload_n MF.bs dX3_kindHere_0 rfl 0 rfl ?_
  refine r_ldcS MF.bs (i := 6) dX3_kindHere_1 rfl rfl ?_
  refine r_callV_v MF.bs (st := []) dX3_kindHere_3 (ctX3_isNameHere 6 (by decide) M hq_1) miX3_isNameHere wd_338 rfl (by decide) rfl (Nat.le_of_ble_eq_true rfl) rfl rfl rfl ?_
  refine r_ite (GI mtX3_kindHere 5 M M) (fun h_2 => ?_) (fun h_2 => ?_)
  · refine r_if_eq_f MF.bs (tgt := 11) dX3_kindHere_6 (by decide) (b2i_1 h_2) ?_
    refine r_iconst MF.bs dX3_kindHere_9 (v := 0) (by decide) ?_
    exact r_iret dX3_kindHere_10 rfl
  · have hp := hp h_2
    refine r_if_eq_t MF.bs (tgt := 11) dX3_kindHere_6 (by decide) (b2i_0 h_2) ?_
    obtain ⟨hq_3, hp⟩ := hp
    refine r_aload_n MF.bs dX3_kindHere_11 rfl 0 rfl ?_
    refine r_ldcS MF.bs (i := 7) dX3_kindHere_12 rfl rfl ?_
    refine r_callV_v MF.bs (st := []) dX3_kindHere_14 (ctX3_isNameHere 7 (by decide) M hq_3) miX3_isNameHere wd_338 rfl (by decide) rfl (Nat.le_of_ble_eq_true rfl) rfl rfl rfl ?_
    refine r_ite (GI mtX3_kindHere 5 M M) (fun h_4 => ?_) (fun h_4 => ?_)
    · refine r_if_eq_f MF.bs (tgt := 22) dX3_kindHere_17 (by decide) (b2i_1 h_4) ?_
      refine r_iconst MF.bs dX3_kindHere_20 (v := 1) (by decide) ?_
      exact r_iret dX3_kindHere_21 rfl
    · have hp := hp h_4
      refine r_if_eq_t MF.bs (tgt := 22) dX3_kindHere_17 (by decide) (b2i_0 h_4) ?_
      obtain ⟨hq_5, hp⟩ := hp
      refine r_aload_n MF.bs dX3_kindHere_22 rfl 0 rfl ?_
      refine r_ldcS MF.bs (i := 8) dX3_kindHere_23 rfl rfl ?_
      refine r_callV_v MF.bs (st := []) dX3_kindHere_25 (ctX3_isNameHere 8 (by decide) M hq_5) miX3_isNameHere wd_338 rfl (by decide) rfl (Nat.le_of_ble_eq_true rfl) rfl rfl rfl ?_
      refine r_ite (GI mtX3_kindHere 5 M M) (fun h_6 => ?_) (fun h_6 => ?_)
      · refine r_if_eq_f MF.bs (tgt := 33) dX3_kindHere_28 (by decide) (b2i_1 h_6) ?_
        refine r_iconst MF.bs dX3_kindHere_31 (v := 2) (by decide) ?_
        exact r_iret dX3_kindHere_32 rfl
      · have hp := hp h_6
        refine r_if_eq_t MF.bs (tgt := 33) dX3_kindHere_28 (by decide) (b2i_0 h_6) ?_
        obtain ⟨hq_7, hp⟩ := hp
        refine r_aload_n MF.bs dX3_kindHere_33 rfl 0 rfl ?_
        refine r_ldcS MF.bs (i := 9) dX3_kindHere_34 rfl rfl ?_
        refine r_callV_v MF.bs (st := []) dX3_kindHere_36 (ctX3_isNameHere 9 (by decide) M hq_7) miX3_isNameHere wd_338 rfl (by decide) rfl (Nat.le_of_ble_eq_true rfl) rfl rfl rfl ?_
        refine r_ite (GI mtX3_kindHere 5 M M) (fun h_8 => ?_) (fun h_8 => ?_)
        · refine r_if_eq_f MF.bs (tgt := 44) dX3_kindHere_39 (by decide) (b2i_1 h_8) ?_
          refine r_iconst MF.bs dX3_kindHere_42 (v := 3) (by decide) ?_
          exact r_iret dX3_kindHere_43 rfl
        · have hp := hp h_8
          refine r_if_eq_t MF.bs (tgt := 44) dX3_kindHere_39 (by decide) (b2i_0 h_8) ?_
          obtain ⟨hq_9, hp⟩ := hp
          refine r_aload_n MF.bs dX3_kindHere_44 rfl 0 rfl ?_
          refine r_ldcS MF.bs (i := 10) dX3_kindHere_45 rfl rfl ?_
          refine r_callV_v MF.bs (st := []) dX3_kindHere_47 (ctX3_isNameHere 10 (by decide) M hq_9) miX3_isNameHere wd_338 rfl (by decide) rfl (Nat.le_of_ble_eq_true rfl) rfl rfl rfl ?_
          refine r_ite (GI mtX3_kindHere 5 M M) (fun h_10 => ?_) (fun h_10 => ?_)
          · refine r_if_eq_f MF.bs (tgt := 55) dX3_kindHere_50 (by decide) (b2i_1 h_10) ?_
            refine r_iconst MF.bs dX3_kindHere_53 (v := 4) (by decide) ?_
            exact r_iret dX3_kindHere_54 rfl
          · have hp := hp h_10
            refine r_if_eq_t MF.bs (tgt := 55) dX3_kindHere_50 (by decide) (b2i_0 h_10) ?_
            have hq_11 := hp
            refine r_aload_n MF.bs dX3_kindHere_55 rfl 0 rfl ?_
            refine r_ldcS MF.bs (i := 11) dX3_kindHere_56 rfl rfl ?_
            refine r_callV_v MF.bs (st := []) dX3_kindHere_58 (ctX3_isNameHere 11 (by decide) M hq_11) miX3_isNameHere wd_338 rfl (by decide) rfl (Nat.le_of_ble_eq_true rfl) rfl rfl rfl ?_
            refine r_ite (GI mtX3_kindHere 5 M M) (fun h_12 => ?_) (fun h_12 => ?_)
            · refine r_if_eq_f MF.bs (tgt := 68) dX3_kindHere_61 (by decide) (b2i_1 h_12) ?_
              refine r_iconst MF.bs dX3_kindHere_64 (v := 5) (by decide) ?_
              refine r_goto MF.bs dX3_kindHere_65 (tgt := 69) (by decide) ?_
              exact r_iret dX3_kindHere_69 rfl
            · refine r_if_eq_t MF.bs (tgt := 68) dX3_kindHere_61 (by decide) (b2i_0 h_12) ?_
              refine r_iconst MF.bs dX3_kindHere_68 (v := -1) (by decide) ?_
              exact r_iret dX3_kindHere_69 rfl
abbrev mtX3_findFault : MT := (RX3, yX3_findFault, cX3_findFault, 1, none)
theorem miX3_findFault : MV mtX3_findFault 0 := ⟨wd_406, ⟨wd_405, wd_6⟩, wd_82, ⟨by decide, by decide, by decide +kernel⟩, by decide⟩
def mX3_findFault  (M : Mem) : Mem := (if 0 ≤ (M 22 3) then M else (upm M 22 3 (M 22 2)))
set_option maxRecDepth 100000 in
theorem ctX3_findFault   (M : Mem) : CT mtX3_findFault 0 [.ref 22] M (none, mX3_findFault M) := by
  refine CT.of (by decide) rfl (Nat.le_of_ble_eq_true rfl) ?_
  show AWP (GV mtX3_findFault 0 M (mX3_findFault M)) mtX3_findFault 0 [(0, .ref 22)] [] M
  unfold mX3_findFault
  refine r_aload_n MF.bs dX3_findFault_0 rfl 0 rfl ?_
  refine r_getI MF.bs dX3_findFault_1 rfl rfl 3 (by decide) wd_169 rfl ?_
  refine r_ite (GV mtX3_findFault 0 M) (fun h_1 => ?_) (fun h_1 => ?_)
  · refine r_if_ge_t MF.bs (tgt := 15) dX3_findFault_4 (by decide) h_1 ?_
    exact r_vret dX3_findFault_15 rfl
  · refine r_if_ge_f MF.bs (tgt := 15) dX3_findFault_4 (by decide) h_1 ?_
    refine r_aload_n MF.bs dX3_findFault_7 rfl 0 rfl ?_
    refine r_aload_n MF.bs dX3_findFault_8 rfl 0 rfl ?_
    refine r_getI MF.bs dX3_findFault_9 rfl rfl 2 (by decide) wd_168 rfl ?_
    refine r_putI MF.bs dX3_findFault_12 rfl rfl 3 (by decide) wd_169 rfl rfl rfl rfl rfl ?_
    exact r_vret dX3_findFault_15 rfl
abbrev mtX3_takeName : MT := (RX3, yX3_takeName, cX3_takeName, 2, none)
theorem miX3_takeName : MV mtX3_takeName 1 := ⟨wd_411, ⟨wd_410, wd_7⟩, wd_82, ⟨by decide, by decide, by decide +kernel⟩, by decide⟩
def mX3_takeName_4 (s1 : Nat)  (M : Mem) : Mem := (if (mX3_isNameHere s1 M) = true then (upm M 22 2 (mX3_endOfName M)) else (mX3_findFault M))
def PX3_takeName_4 (s1 : Nat)  (M : Mem) : Prop := PX3_isNameHere s1 M ∧ (((mX3_isNameHere s1 M) = true → PX3_endOfName M))
set_option maxRecDepth 100000 in
theorem cX3_takeName_4 (s1 : Nat) (h1 : s1 < 16)  (M0 : Mem) (M : Mem) (hp : PX3_takeName_4 s1 M) : AWP (GV mtX3_takeName 5 M0 (mX3_takeName_4 s1 M)) mtX3_takeName 4 [(0, .ref 22), (1, .ref (200 + s1))] [] M := by
  unfold mX3_takeName_4
  unfold PX3_takeName_4 at hp
  obtain ⟨hq_2, hp⟩ := hp
  refine r_aload_n MF.bs dX3_takeName_4 rfl 0 rfl ?_
  refine r_aload_n MF.bs dX3_takeName_5 rfl 1 rfl ?_
  refine r_callV_v MF.bs (st := []) dX3_takeName_6 (ctX3_isNameHere s1 h1 M hq_2) miX3_isNameHere wd_338 rfl (by decide) rfl (Nat.le_of_ble_eq_true rfl) rfl rfl rfl ?_
  refine r_ite (GV mtX3_takeName 5 M0) (fun h_3 => ?_) (fun h_3 => ?_)
  · have hp := hp h_3
    refine r_if_eq_f MF.bs (tgt := 23) dX3_takeName_9 (by decide) (b2i_1 h_3) ?_
    have hq_4 := hp
    refine r_aload_n MF.bs dX3_takeName_12 rfl 0 rfl ?_
    refine r_aload_n MF.bs dX3_takeName_13 rfl 0 rfl ?_
    refine r_callV_v MF.bs (st := [.ref 22]) dX3_takeName_14 (ctX3_endOfName M hq_4) miX3_endOfName wd_342 rfl (by decide) rfl (Nat.le_of_ble_eq_true rfl) rfl rfl rfl ?_
    refine r_putI MF.bs dX3_takeName_17 rfl rfl 2 (by decide) wd_168 rfl rfl rfl rfl rfl ?_
    refine r_goto MF.bs dX3_takeName_20 (tgt := 27) (by decide) ?_
    exact r_vret dX3_takeName_27 rfl
  · refine r_if_eq_t MF.bs (tgt := 23) dX3_takeName_9 (by decide) (b2i_0 h_3) ?_
    refine r_aload_n MF.bs dX3_takeName_23 rfl 0 rfl ?_
    refine r_callV_n MF.bs (st := []) dX3_takeName_24 (ctX3_findFault M) miX3_findFault wd_403 rfl (by decide) rfl (Nat.le_of_ble_eq_true rfl) rfl rfl rfl ?_
    exact r_vret dX3_takeName_27 rfl
def mX3_takeName (s1 : Nat) (M : Mem) : Mem := (mX3_takeName_4 s1 (mX3_skipBlanks M))
def PX3_takeName (s1 : Nat) (M : Mem) : Prop := PX3_skipBlanks M ∧ (PX3_takeName_4 s1 (mX3_skipBlanks M))
set_option maxRecDepth 100000 in
theorem ctX3_takeName (s1 : Nat) (h1 : s1 < 16) (M : Mem) (hp : PX3_takeName s1 M) : CT mtX3_takeName 5 [.ref 22, .ref (200 + s1)] M (none, mX3_takeName s1 M) := by
  refine CT.of (by decide) rfl (Nat.le_of_ble_eq_true rfl) ?_
  show AWP (GV mtX3_takeName 5 M (mX3_takeName s1 M)) mtX3_takeName 0 [(0, .ref 22), (1, .ref (200 + s1))] [] M
  unfold mX3_takeName
  unfold PX3_takeName at hp
  obtain ⟨hq_1, hp⟩ := hp
  refine r_aload_n MF.bs dX3_takeName_0 rfl 0 rfl ?_
  refine r_callV_n MF.bs (st := []) dX3_takeName_1 (ctX3_skipBlanks M hq_1) miX3_skipBlanks wd_325 rfl (by decide) rfl (Nat.le_of_ble_eq_true rfl) rfl rfl rfl ?_
  exact cX3_takeName_4 s1 h1 M (mX3_skipBlanks M) hp
abbrev mtX3_endOfNumber : MT := (RX3, yX3_endOfNumber, cX3_endOfNumber, 2, (some .int))
theorem miX3_endOfNumber : MV mtX3_endOfNumber 0 := ⟨wd_419, ⟨wd_418, wd_9⟩, wd_82, ⟨by decide, by decide, by decide +kernel⟩, by decide⟩
def mX3_endOfNumber_5   : Nat → Int32 → Mem → Int32
  | 0, _, _ => 0
  | n + 1, v1, M => (if (M 22 1) ≤ v1 then v1 else (if (M 23 v1.toNatClampNeg) < 48 then v1 else (if 57 < (M 23 v1.toNatClampNeg) then v1 else (mX3_endOfNumber_5 n (v1 + 1) M))))
def PX3_endOfNumber_5   : Nat → Int32 → Mem → Prop
  | 0, _, _ => False
  | n + 1, v1, M => (¬ (M 22 1) ≤ v1 → vp_in v1 200 ∧ ((¬ (M 23 v1.toNatClampNeg) < 48 → vp_in v1 200 ∧ ((¬ 57 < (M 23 v1.toNatClampNeg) → PX3_endOfNumber_5 n (v1 + 1) M)))))
set_option maxRecDepth 100000 in
theorem cX3_endOfNumber_5    : ∀ (n : Nat) (v1 : Int32) (M : Mem), PX3_endOfNumber_5 n v1 M → AWP (GI mtX3_endOfNumber 0 M M (mX3_endOfNumber_5 n v1 M)) mtX3_endOfNumber 5 [(0, .ref 22), (1, .int v1)] [] M := by
  intro n
  induction n with
  | zero =>
    intro v1 M hp
    exact hp.elim
  | succ n ih =>
    intro v1 M hp
    rw [mX3_endOfNumber_5]
    rw [PX3_endOfNumber_5] at hp
    refine r_iload_n MF.bs dX3_endOfNumber_5 rfl 1 rfl ?_
    refine r_aload_n MF.bs dX3_endOfNumber_6 rfl 0 rfl ?_
    refine r_getI MF.bs dX3_endOfNumber_7 rfl rfl 1 (by decide) wd_166 rfl ?_
    refine r_ite (GI mtX3_endOfNumber 0 M M) (fun h_1 => ?_) (fun h_1 => ?_)
    · refine r_icmp_ge_t MF.bs (tgt := 41) dX3_endOfNumber_10 (by decide) h_1 ?_
      refine r_iload_n MF.bs dX3_endOfNumber_41 rfl 1 rfl ?_
      exact r_iret dX3_endOfNumber_42 rfl
    · have hp := hp h_1
      refine r_icmp_ge_f MF.bs (tgt := 41) dX3_endOfNumber_10 (by decide) h_1 ?_
      obtain ⟨hq_2, hp⟩ := hp
      refine r_aload_n MF.bs dX3_endOfNumber_13 rfl 0 rfl ?_
      refine r_getR MF.bs dX3_endOfNumber_14 rfl rfl 0 (by decide) wd_165 rfl ?_
      refine r_iload_n MF.bs dX3_endOfNumber_17 rfl 1 rfl ?_
      refine r_iaload MF.bs dX3_endOfNumber_18 rfl hq_2 ?_
      refine r_bipush MF.bs dX3_endOfNumber_19 (v := 48) (by decide) ?_
      refine r_ite (GI mtX3_endOfNumber 0 M M) (fun h_3 => ?_) (fun h_3 => ?_)
      · refine r_icmp_lt_t MF.bs (tgt := 41) dX3_endOfNumber_21 (by decide) h_3 ?_
        refine r_iload_n MF.bs dX3_endOfNumber_41 rfl 1 rfl ?_
        exact r_iret dX3_endOfNumber_42 rfl
      · have hp := hp h_3
        refine r_icmp_lt_f MF.bs (tgt := 41) dX3_endOfNumber_21 (by decide) h_3 ?_
        obtain ⟨hq_4, hp⟩ := hp
        refine r_aload_n MF.bs dX3_endOfNumber_24 rfl 0 rfl ?_
        refine r_getR MF.bs dX3_endOfNumber_25 rfl rfl 0 (by decide) wd_165 rfl ?_
        refine r_iload_n MF.bs dX3_endOfNumber_28 rfl 1 rfl ?_
        refine r_iaload MF.bs dX3_endOfNumber_29 rfl hq_4 ?_
        refine r_bipush MF.bs dX3_endOfNumber_30 (v := 57) (by decide) ?_
        refine r_ite (GI mtX3_endOfNumber 0 M M) (fun h_5 => ?_) (fun h_5 => ?_)
        · refine r_icmp_gt_t MF.bs (tgt := 41) dX3_endOfNumber_32 (by decide) h_5 ?_
          refine r_iload_n MF.bs dX3_endOfNumber_41 rfl 1 rfl ?_
          exact r_iret dX3_endOfNumber_42 rfl
        · have hp := hp h_5
          refine r_icmp_gt_f MF.bs (tgt := 41) dX3_endOfNumber_32 (by decide) h_5 ?_
          refine r_iinc MF.bs (v := (v1 + 1)) (lv' := [(1, .int (v1 + 1)), (0, .ref 22)]) dX3_endOfNumber_35 1 rfl rfl (by decide) rfl ?_
          refine r_goto MF.bs dX3_endOfNumber_38 (tgt := 5) (by decide) ?_
          refine r_sub [(0, .ref 22), (1, .int (v1 + 1))] [1, 0] rfl ?_
          exact ih (v1 + 1) M hp
def mX3_endOfNumber  (M : Mem) : Int32 := (mX3_endOfNumber_5 400 (M 22 2) M)
def PX3_endOfNumber  (M : Mem) : Prop := PX3_endOfNumber_5 400 (M 22 2) M
set_option maxRecDepth 100000 in
theorem ctX3_endOfNumber   (M : Mem) (hp : PX3_endOfNumber M) : CT mtX3_endOfNumber 0 [.ref 22] M (some (.int (mX3_endOfNumber M)), M) := by
  refine CT.of (by decide) rfl (Nat.le_of_ble_eq_true rfl) ?_
  show AWP (GI mtX3_endOfNumber 0 M M (mX3_endOfNumber M)) mtX3_endOfNumber 0 [(0, .ref 22)] [] M
  unfold mX3_endOfNumber
  unfold PX3_endOfNumber at hp
  refine r_aload_n MF.bs dX3_endOfNumber_0 rfl 0 rfl ?_
  refine r_getI MF.bs dX3_endOfNumber_1 rfl rfl 2 (by decide) wd_168 rfl ?_
  refine r_istore_n MF.bs (lv' := [(1, .int (M 22 2)), (0, .ref 22)]) dX3_endOfNumber_4 rfl (by decide) rfl ?_
  refine r_sub [(0, .ref 22), (1, .int (M 22 2))] [1, 0] rfl ?_
  exact cX3_endOfNumber_5 400 (M 22 2) M hp
abbrev mtX3_number : MT := (RX3, yX3_number, cX3_number, 6, (some .int))
theorem miX3_number : MV mtX3_number 2 := ⟨wd_415, ⟨wd_414, wd_8⟩, wd_82, ⟨by decide, by decide, by decide +kernel⟩, by decide⟩
def mX3_number_87   (v1 : Int32) (M : Mem) : Int32 × Mem := (v1, (mX3_findFault M))
def PX3_number_87   (v1 : Int32) (M : Mem) : Prop := True
set_option maxRecDepth 100000 in
theorem cX3_number_87    (M0 : Mem) (v1 : Int32) (M : Mem) (hp : PX3_number_87 v1 M) : AWP (GIM mtX3_number 1 M0 (mX3_number_87 v1 M)) mtX3_number 87 [(0, .ref 22), (1, .int v1)] [] M := by
  unfold mX3_number_87
  unfold PX3_number_87 at hp
  refine r_aload_n MF.bs dX3_number_87 rfl 0 rfl ?_
  refine r_callV_n MF.bs (st := []) dX3_number_88 (ctX3_findFault M) miX3_findFault wd_403 rfl (by decide) rfl (Nat.le_of_ble_eq_true rfl) rfl rfl rfl ?_
  refine r_iload_n MF.bs dX3_number_91 rfl 1 rfl ?_
  exact r_iret dX3_number_92 rfl
def mX3_number_59   (v1 : Int32) (v2 : Int32) (v3 : Int32) (v4 : Int32) (M : Mem) : Int32 × Mem := (if v3 = (M 22 2) then (mX3_number_87 v1 M) else (if ((M 22 2) + 3) < v3 then (mX3_number_87 v1 M) else (if (mX5_isWithin v4 v1 v2) = true then (v4, (upm M 22 2 v3)) else (mX3_number_87 v1 M))))
def PX3_number_59   (v1 : Int32) (v2 : Int32) (v3 : Int32) (v4 : Int32) (M : Mem) : Prop := ((v3 = (M 22 2) → PX3_number_87 v1 M) ∧ (¬ v3 = (M 22 2) → ((((M 22 2) + 3) < v3 → PX3_number_87 v1 M) ∧ (¬ ((M 22 2) + 3) < v3 → (¬ (mX5_isWithin v4 v1 v2) = true → PX3_number_87 v1 M)))))
set_option maxRecDepth 100000 in
theorem cX3_number_59    (M0 : Mem) (v1 : Int32) (v2 : Int32) (v3 : Int32) (v4 : Int32) (M : Mem) (hp : PX3_number_59 v1 v2 v3 v4 M) : AWP (GIM mtX3_number 1 M0 (mX3_number_59 v1 v2 v3 v4 M)) mtX3_number 59 [(0, .ref 22), (1, .int v1), (2, .int v2), (3, .int v3), (4, .int v4)] [] M := by
  unfold mX3_number_59
  unfold PX3_number_59 at hp
  refine r_iload_n MF.bs dX3_number_59 rfl 3 rfl ?_
  refine r_aload_n MF.bs dX3_number_60 rfl 0 rfl ?_
  refine r_getI MF.bs dX3_number_61 rfl rfl 2 (by decide) wd_168 rfl ?_
  refine r_ite (GIM mtX3_number 1 M0) (fun h_6 => ?_) (fun h_6 => ?_)
  · have hp := hp.1 h_6
    refine r_icmp_eq_t MF.bs (tgt := 87) dX3_number_64 (by decide) h_6 ?_
    refine r_sub [(0, .ref 22), (1, .int v1)] [0, 1] rfl ?_
    exact cX3_number_87 M0 v1 M hp
  · have hp := hp.2 h_6
    refine r_icmp_eq_f MF.bs (tgt := 87) dX3_number_64 (by decide) h_6 ?_
    refine r_iload_n MF.bs dX3_number_67 rfl 3 rfl ?_
    refine r_aload_n MF.bs dX3_number_68 rfl 0 rfl ?_
    refine r_getI MF.bs dX3_number_69 rfl rfl 2 (by decide) wd_168 rfl ?_
    refine r_iconst MF.bs dX3_number_72 (v := 3) (by decide) ?_
    refine r_iadd MF.bs dX3_number_73 ?_
    refine r_ite (GIM mtX3_number 1 M0) (fun h_7 => ?_) (fun h_7 => ?_)
    · have hp := hp.1 h_7
      refine r_icmp_gt_t MF.bs (tgt := 87) dX3_number_74 (by decide) h_7 ?_
      refine r_sub [(0, .ref 22), (1, .int v1)] [0, 1] rfl ?_
      exact cX3_number_87 M0 v1 M hp
    · have hp := hp.2 h_7
      refine r_icmp_gt_f MF.bs (tgt := 87) dX3_number_74 (by decide) h_7 ?_
      refine r_iload MF.bs dX3_number_77 4 rfl ?_
      refine r_iload_n MF.bs dX3_number_79 rfl 1 rfl ?_
      refine r_iload_n MF.bs dX3_number_80 rfl 2 rfl ?_
      refine r_callSN_v MF.bs (st := []) dX3_number_81 (ctX5_isWithin v4 v1 v2 M) miX5_isWithin nw_5 rfl (by decide) rfl (Nat.le_of_ble_eq_true rfl) ?_
      refine r_ite (GIM mtX3_number 1 M0) (fun h_8 => ?_) (fun h_8 => ?_)
      · refine r_if_ne_t MF.bs (tgt := 93) dX3_number_84 (by decide) (b2i_1 h_8) ?_
        refine r_aload_n MF.bs dX3_number_93 rfl 0 rfl ?_
        refine r_iload_n MF.bs dX3_number_94 rfl 3 rfl ?_
        refine r_putI MF.bs dX3_number_95 rfl rfl 2 (by decide) wd_168 rfl rfl rfl rfl rfl ?_
        refine r_iload MF.bs dX3_number_98 4 rfl ?_
        exact r_iret dX3_number_100 rfl
      · have hp := hp h_8
        refine r_if_ne_f MF.bs (tgt := 93) dX3_number_84 (by decide) (b2i_0 h_8) ?_
        refine r_sub [(0, .ref 22), (1, .int v1)] [0, 1] rfl ?_
        exact cX3_number_87 M0 v1 M hp
def mX3_number_18   : Nat → Int32 → Int32 → Int32 → Int32 → Int32 → Mem → Int32 × Mem
  | 0, _, _, _, _, _, M => (0, M)
  | n + 1, v1, v2, v3, v4, v5, M => (if v3 ≤ v5 then (mX3_number_59 v1 v2 v3 v4 M) else (if ((M 22 2) + 3) ≤ v5 then (mX3_number_59 v1 v2 v3 v4 M) else (mX3_number_18 n v1 v2 v3 (((v4 * 10) + (M 23 v5.toNatClampNeg)) - 48) (v5 + 1) M)))
def PX3_number_18   : Nat → Int32 → Int32 → Int32 → Int32 → Int32 → Mem → Prop
  | 0, _, _, _, _, _, _ => False
  | n + 1, v1, v2, v3, v4, v5, M => ((v3 ≤ v5 → PX3_number_59 v1 v2 v3 v4 M) ∧ (¬ v3 ≤ v5 → ((((M 22 2) + 3) ≤ v5 → PX3_number_59 v1 v2 v3 v4 M) ∧ (¬ ((M 22 2) + 3) ≤ v5 → vp_in v5 200 ∧ (PX3_number_18 n v1 v2 v3 (((v4 * 10) + (M 23 v5.toNatClampNeg)) - 48) (v5 + 1) M)))))
set_option maxRecDepth 100000 in
theorem cX3_number_18    (M0 : Mem) : ∀ (n : Nat) (v1 : Int32) (v2 : Int32) (v3 : Int32) (v4 : Int32) (v5 : Int32) (M : Mem), PX3_number_18 n v1 v2 v3 v4 v5 M → AWP (GIM mtX3_number 1 M0 (mX3_number_18 n v1 v2 v3 v4 v5 M)) mtX3_number 18 [(0, .ref 22), (1, .int v1), (2, .int v2), (3, .int v3), (4, .int v4), (5, .int v5)] [] M := by
  intro n
  induction n with
  | zero =>
    intro v1 v2 v3 v4 v5 M hp
    exact hp.elim
  | succ n ih =>
    intro v1 v2 v3 v4 v5 M hp
    rw [mX3_number_18]
    rw [PX3_number_18] at hp
    refine r_iload MF.bs dX3_number_18 5 rfl ?_
    refine r_iload_n MF.bs dX3_number_20 rfl 3 rfl ?_
    refine r_ite (GIM mtX3_number 1 M0) (fun h_3 => ?_) (fun h_3 => ?_)
    · have hp := hp.1 h_3
      refine r_icmp_ge_t MF.bs (tgt := 59) dX3_number_21 (by decide) h_3 ?_
      refine r_sub [(0, .ref 22), (1, .int v1), (2, .int v2), (3, .int v3), (4, .int v4)] [0, 1, 2, 3, 4] rfl ?_
      exact cX3_number_59 M0 v1 v2 v3 v4 M hp
    · have hp := hp.2 h_3
      refine r_icmp_ge_f MF.bs (tgt := 59) dX3_number_21 (by decide) h_3 ?_
      refine r_iload MF.bs dX3_number_24 5 rfl ?_
      refine r_aload_n MF.bs dX3_number_26 rfl 0 rfl ?_
      refine r_getI MF.bs dX3_number_27 rfl rfl 2 (by decide) wd_168 rfl ?_
      refine r_iconst MF.bs dX3_number_30 (v := 3) (by decide) ?_
      refine r_iadd MF.bs dX3_number_31 ?_
      refine r_ite (GIM mtX3_number 1 M0) (fun h_4 => ?_) (fun h_4 => ?_)
      · have hp := hp.1 h_4
        refine r_icmp_ge_t MF.bs (tgt := 59) dX3_number_32 (by decide) h_4 ?_
        refine r_sub [(0, .ref 22), (1, .int v1), (2, .int v2), (3, .int v3), (4, .int v4)] [0, 1, 2, 3, 4] rfl ?_
        exact cX3_number_59 M0 v1 v2 v3 v4 M hp
      · have hp := hp.2 h_4
        refine r_icmp_ge_f MF.bs (tgt := 59) dX3_number_32 (by decide) h_4 ?_
        obtain ⟨hq_5, hp⟩ := hp
        refine r_iload MF.bs dX3_number_35 4 rfl ?_
        refine r_bipush MF.bs dX3_number_37 (v := 10) (by decide) ?_
        refine r_imul MF.bs dX3_number_39 ?_
        refine r_aload_n MF.bs dX3_number_40 rfl 0 rfl ?_
        refine r_getR MF.bs dX3_number_41 rfl rfl 0 (by decide) wd_165 rfl ?_
        refine r_iload MF.bs dX3_number_44 5 rfl ?_
        refine r_iaload MF.bs dX3_number_46 rfl hq_5 ?_
        refine r_iadd MF.bs dX3_number_47 ?_
        refine r_bipush MF.bs dX3_number_48 (v := 48) (by decide) ?_
        refine r_isub MF.bs dX3_number_50 ?_
        refine r_istore MF.bs (lv' := [(4, .int (((v4 * 10) + (M 23 v5.toNatClampNeg)) - 48)), (0, .ref 22), (1, .int v1), (2, .int v2), (3, .int v3), (5, .int v5)]) dX3_number_51 (by decide) rfl ?_
        refine r_iinc MF.bs (v := (v5 + 1)) (lv' := [(5, .int (v5 + 1)), (4, .int (((v4 * 10) + (M 23 v5.toNatClampNeg)) - 48)), (0, .ref 22), (1, .int v1), (2, .int v2), (3, .int v3)]) dX3_number_53 5 rfl rfl (by decide) rfl ?_
        refine r_goto MF.bs dX3_number_56 (tgt := 18) (by decide) ?_
        refine r_sub [(0, .ref 22), (1, .int v1), (2, .int v2), (3, .int v3), (4, .int (((v4 * 10) + (M 23 v5.toNatClampNeg)) - 48)), (5, .int (v5 + 1))] [2, 3, 4, 5, 1, 0] rfl ?_
        exact ih v1 v2 v3 (((v4 * 10) + (M 23 v5.toNatClampNeg)) - 48) (v5 + 1) M hp
def mX3_number_4   (v1 : Int32) (v2 : Int32) (M : Mem) : Int32 × Mem := (mX3_number_18 400 v1 v2 (mX3_endOfNumber M) 0 (M 22 2) M)
def PX3_number_4   (v1 : Int32) (v2 : Int32) (M : Mem) : Prop := PX3_endOfNumber M ∧ (PX3_number_18 400 v1 v2 (mX3_endOfNumber M) 0 (M 22 2) M)
set_option maxRecDepth 100000 in
theorem cX3_number_4    (M0 : Mem) (v1 : Int32) (v2 : Int32) (M : Mem) (hp : PX3_number_4 v1 v2 M) : AWP (GIM mtX3_number 1 M0 (mX3_number_4 v1 v2 M)) mtX3_number 4 [(0, .ref 22), (1, .int v1), (2, .int v2)] [] M := by
  unfold mX3_number_4
  unfold PX3_number_4 at hp
  obtain ⟨hq_2, hp⟩ := hp
  refine r_aload_n MF.bs dX3_number_4 rfl 0 rfl ?_
  refine r_callV_v MF.bs (st := []) dX3_number_5 (ctX3_endOfNumber M hq_2) miX3_endOfNumber wd_416 rfl (by decide) rfl (Nat.le_of_ble_eq_true rfl) rfl rfl rfl ?_
  refine r_istore_n MF.bs (lv' := [(3, .int (mX3_endOfNumber M)), (0, .ref 22), (1, .int v1), (2, .int v2)]) dX3_number_8 rfl (by decide) rfl ?_
  refine r_iconst MF.bs dX3_number_9 (v := 0) (by decide) ?_
  refine r_istore MF.bs (lv' := [(4, .int 0), (3, .int (mX3_endOfNumber M)), (0, .ref 22), (1, .int v1), (2, .int v2)]) dX3_number_10 (by decide) rfl ?_
  refine r_aload_n MF.bs dX3_number_12 rfl 2 rfl ?_
  refine r_getI MF.bs dX3_number_13 rfl rfl 2 (by decide) wd_168 rfl ?_
  refine r_istore MF.bs (lv' := [(5, .int (M 22 2)), (4, .int 0), (3, .int (mX3_endOfNumber M)), (0, .ref 22), (1, .int v1), (2, .int v2)]) dX3_number_16 (by decide) rfl ?_
  refine r_sub [(0, .ref 22), (1, .int v1), (2, .int v2), (3, .int (mX3_endOfNumber M)), (4, .int 0), (5, .int (M 22 2))] [3, 4, 5, 2, 1, 0] rfl ?_
  exact cX3_number_18 M0 400 v1 v2 (mX3_endOfNumber M) 0 (M 22 2) M hp
def mX3_number  (a1 : Int32) (a2 : Int32) (M : Mem) : Int32 × Mem := (mX3_number_4 a1 a2 (mX3_skipBlanks M))
def PX3_number  (a1 : Int32) (a2 : Int32) (M : Mem) : Prop := PX3_skipBlanks M ∧ (PX3_number_4 a1 a2 (mX3_skipBlanks M))
set_option maxRecDepth 100000 in
theorem ctX3_number   (a1 : Int32) (a2 : Int32) (M : Mem) (hp : PX3_number a1 a2 M) : CT mtX3_number 1 [.ref 22, .int a1, .int a2] M (some (.int ((mX3_number a1 a2 M).1)), (mX3_number a1 a2 M).2) := by
  refine CT.of (by decide) rfl (Nat.le_of_ble_eq_true rfl) ?_
  show AWP (GIM mtX3_number 1 M (mX3_number a1 a2 M)) mtX3_number 0 [(0, .ref 22), (1, .int a1), (2, .int a2)] [] M
  unfold mX3_number
  unfold PX3_number at hp
  obtain ⟨hq_1, hp⟩ := hp
  refine r_aload_n MF.bs dX3_number_0 rfl 0 rfl ?_
  refine r_callV_n MF.bs (st := []) dX3_number_1 (ctX3_skipBlanks M hq_1) miX3_skipBlanks wd_325 rfl (by decide) rfl (Nat.le_of_ble_eq_true rfl) rfl rfl rfl ?_
  exact cX3_number_4 M a1 a2 (mX3_skipBlanks M) hp
abbrev mtX3_takesName : MT := (RX3, yX3_takesName, cX3_takesName, 2, (some .boolean))
theorem miX3_takesName : MV mtX3_takesName 1 := ⟨wd_425, ⟨wd_424, wd_10⟩, wd_82, ⟨by decide, by decide, by decide +kernel⟩, by decide⟩
def mX3_takesName_4 (s1 : Nat)  (M : Mem) : Bool × Mem := (if (mX3_isNameHere s1 M) = true then (true, (upm M 22 2 (mX3_endOfName M))) else (false, M))
def PX3_takesName_4 (s1 : Nat)  (M : Mem) : Prop := PX3_isNameHere s1 M ∧ (((mX3_isNameHere s1 M) = true → PX3_endOfName M))
set_option maxRecDepth 100000 in
theorem cX3_takesName_4 (s1 : Nat) (h1 : s1 < 16)  (M0 : Mem) (M : Mem) (hp : PX3_takesName_4 s1 M) : AWP (GBM mtX3_takesName 5 M0 (mX3_takesName_4 s1 M)) mtX3_takesName 4 [(0, .ref 22), (1, .ref (200 + s1))] [] M := by
  unfold mX3_takesName_4
  unfold PX3_takesName_4 at hp
  obtain ⟨hq_2, hp⟩ := hp
  refine r_aload_n MF.bs dX3_takesName_4 rfl 0 rfl ?_
  refine r_aload_n MF.bs dX3_takesName_5 rfl 1 rfl ?_
  refine r_callV_v MF.bs (st := []) dX3_takesName_6 (ctX3_isNameHere s1 h1 M hq_2) miX3_isNameHere wd_338 rfl (by decide) rfl (Nat.le_of_ble_eq_true rfl) rfl rfl rfl ?_
  refine r_ite (GBM mtX3_takesName 5 M0) (fun h_3 => ?_) (fun h_3 => ?_)
  · have hp := hp h_3
    refine r_if_ne_t MF.bs (tgt := 14) dX3_takesName_9 (by decide) (b2i_1 h_3) ?_
    have hq_4 := hp
    refine r_aload_n MF.bs dX3_takesName_14 rfl 0 rfl ?_
    refine r_aload_n MF.bs dX3_takesName_15 rfl 0 rfl ?_
    refine r_callV_v MF.bs (st := [.ref 22]) dX3_takesName_16 (ctX3_endOfName M hq_4) miX3_endOfName wd_342 rfl (by decide) rfl (Nat.le_of_ble_eq_true rfl) rfl rfl rfl ?_
    refine r_putI MF.bs dX3_takesName_19 rfl rfl 2 (by decide) wd_168 rfl rfl rfl rfl rfl ?_
    refine r_iconst MF.bs dX3_takesName_22 (v := 1) (by decide) ?_
    exact r_zret (v := 1) dX3_takesName_23 rfl rfl
  · refine r_if_ne_f MF.bs (tgt := 14) dX3_takesName_9 (by decide) (b2i_0 h_3) ?_
    refine r_iconst MF.bs dX3_takesName_12 (v := 0) (by decide) ?_
    exact r_zret (v := 0) dX3_takesName_13 rfl rfl
def mX3_takesName (s1 : Nat) (M : Mem) : Bool × Mem := (mX3_takesName_4 s1 (mX3_skipBlanks M))
def PX3_takesName (s1 : Nat) (M : Mem) : Prop := PX3_skipBlanks M ∧ (PX3_takesName_4 s1 (mX3_skipBlanks M))
set_option maxRecDepth 100000 in
theorem ctX3_takesName (s1 : Nat) (h1 : s1 < 16) (M : Mem) (hp : PX3_takesName s1 M) : CT mtX3_takesName 5 [.ref 22, .ref (200 + s1)] M (some (.int (b2i ((mX3_takesName s1 M).1))), (mX3_takesName s1 M).2) := by
  refine CT.of (by decide) rfl (Nat.le_of_ble_eq_true rfl) ?_
  show AWP (GBM mtX3_takesName 5 M (mX3_takesName s1 M)) mtX3_takesName 0 [(0, .ref 22), (1, .ref (200 + s1))] [] M
  unfold mX3_takesName
  unfold PX3_takesName at hp
  obtain ⟨hq_1, hp⟩ := hp
  refine r_aload_n MF.bs dX3_takesName_0 rfl 0 rfl ?_
  refine r_callV_n MF.bs (st := []) dX3_takesName_1 (ctX3_skipBlanks M hq_1) miX3_skipBlanks wd_325 rfl (by decide) rfl (Nat.le_of_ble_eq_true rfl) rfl rfl rfl ?_
  exact cX3_takesName_4 s1 h1 M (mX3_skipBlanks M) hp
abbrev mtX3_tellAir : MT := (RX3, yX3_tellAir, cX3_tellAir, 6, none)
theorem miX3_tellAir : MV mtX3_tellAir 2 := ⟨wd_402, ⟨wd_401, wd_5⟩, wd_82, ⟨by decide, by decide, by decide +kernel⟩, by decide⟩
def mX3_tellAir_78 (q1 : Nat)  (v2 : Int32) (v3 : Int32) (v4 : Int32) (k0 : Int32) (M : Mem) : Mem := (mX4_add q1 v2 v4 k0 v3 M).2
def PX3_tellAir_78 (q1 : Nat)  (v2 : Int32) (v3 : Int32) (v4 : Int32) (k0 : Int32) (M : Mem) : Prop := PX4_add q1 v2 v4 k0 v3 M
set_option maxRecDepth 100000 in
theorem cX3_tellAir_78 (q1 : Nat) (h1 : TB q1)  (M0 : Mem) (v2 : Int32) (v3 : Int32) (v4 : Int32) (k0 : Int32) (M : Mem) (hp : PX3_tellAir_78 q1 v2 v3 v4 k0 M) : AWP (GV mtX3_tellAir 6 M0 (mX3_tellAir_78 q1 v2 v3 v4 k0 M)) mtX3_tellAir 78 [(1, .ref q1), (2, .int v2), (3, .int v3), (4, .int v4)] [.int k0] M := by
  unfold mX3_tellAir_78
  unfold PX3_tellAir_78 at hp
  have hq_11 := hp
  refine r_istore MF.bs (lv' := [(5, .int k0), (1, .ref q1), (2, .int v2), (3, .int v3), (4, .int v4)]) dX3_tellAir_78 (by decide) rfl ?_
  refine r_aload_n MF.bs dX3_tellAir_80 rfl 1 rfl ?_
  refine r_iload_n MF.bs dX3_tellAir_81 rfl 2 rfl ?_
  refine r_iload MF.bs dX3_tellAir_82 4 rfl ?_
  refine r_iload MF.bs dX3_tellAir_84 0 rfl ?_
  refine r_iload_n MF.bs dX3_tellAir_86 rfl 3 rfl ?_
  refine r_callV_v MF.bs (st := []) dX3_tellAir_87 (ctX4_add q1 h1 v2 v4 k0 v3 M hq_11) miX4_add wd_427 rfl (by decide) rfl (Nat.le_of_ble_eq_true rfl) (sh_t h1) rfl rfl ?_
  refine r_pop MF.bs dX3_tellAir_90 rfl ?_
  exact r_vret dX3_tellAir_91 rfl
def mX3_tellAir_74 (q1 : Nat)  (v2 : Int32) (v3 : Int32) (v4 : Int32) (k0 : Int32) (M : Mem) : Mem := (mX3_tellAir_78 q1 v2 v3 v4 k0 M)
def PX3_tellAir_74 (q1 : Nat)  (v2 : Int32) (v3 : Int32) (v4 : Int32) (k0 : Int32) (M : Mem) : Prop := PX3_tellAir_78 q1 v2 v3 v4 k0 M
set_option maxRecDepth 100000 in
theorem cX3_tellAir_74 (q1 : Nat) (h1 : TB q1)  (M0 : Mem) (v2 : Int32) (v3 : Int32) (v4 : Int32) (k0 : Int32) (M : Mem) (hp : PX3_tellAir_74 q1 v2 v3 v4 k0 M) : AWP (GV mtX3_tellAir 6 M0 (mX3_tellAir_74 q1 v2 v3 v4 k0 M)) mtX3_tellAir 74 [(1, .ref q1), (2, .int v2), (3, .int v3), (4, .int v4)] [.int k0] M := by
  unfold mX3_tellAir_74
  unfold PX3_tellAir_74 at hp
  refine r_goto MF.bs dX3_tellAir_74 (tgt := 78) (by decide) ?_
  exact cX3_tellAir_78 q1 h1 M0 v2 v3 v4 k0 M hp
def mX3_tellAir_64 (q1 : Nat)  (v2 : Int32) (v3 : Int32) (v4 : Int32) (k0 : Int32) (M : Mem) : Mem := (if k0 = 0 then (mX3_tellAir_78 q1 v2 v3 v4 0 M) else (mX3_tellAir_74 q1 v2 v3 v4 ((mX3_number 0 15 M).1) ((mX3_number 0 15 M).2)))
def PX3_tellAir_64 (q1 : Nat)  (v2 : Int32) (v3 : Int32) (v4 : Int32) (k0 : Int32) (M : Mem) : Prop := ((k0 = 0 → PX3_tellAir_78 q1 v2 v3 v4 0 M) ∧ (¬ k0 = 0 → PX3_number 0 15 M ∧ (PX3_tellAir_74 q1 v2 v3 v4 ((mX3_number 0 15 M).1) ((mX3_number 0 15 M).2))))
set_option maxRecDepth 100000 in
theorem cX3_tellAir_64 (q1 : Nat) (h1 : TB q1)  (M0 : Mem) (v2 : Int32) (v3 : Int32) (v4 : Int32) (k0 : Int32) (M : Mem) (hp : PX3_tellAir_64 q1 v2 v3 v4 k0 M) : AWP (GV mtX3_tellAir 6 M0 (mX3_tellAir_64 q1 v2 v3 v4 k0 M)) mtX3_tellAir 64 [(0, .ref 22), (1, .ref q1), (2, .int v2), (3, .int v3), (4, .int v4)] [.int k0] M := by
  unfold mX3_tellAir_64
  unfold PX3_tellAir_64 at hp
  refine r_ite (GV mtX3_tellAir 6 M0) (fun h_9 => ?_) (fun h_9 => ?_)
  · have hp := hp.1 h_9
    refine r_if_eq_t MF.bs (tgt := 77) dX3_tellAir_64 (by decide) h_9 ?_
    refine r_iconst MF.bs dX3_tellAir_77 (v := 0) (by decide) ?_
    refine r_sub [(1, .ref q1), (2, .int v2), (3, .int v3), (4, .int v4)] [1, 2, 3, 4] rfl ?_
    exact cX3_tellAir_78 q1 h1 M0 v2 v3 v4 0 M hp
  · have hp := hp.2 h_9
    refine r_if_eq_f MF.bs (tgt := 77) dX3_tellAir_64 (by decide) h_9 ?_
    obtain ⟨hq_10, hp⟩ := hp
    refine r_aload_n MF.bs dX3_tellAir_67 rfl 0 rfl ?_
    refine r_iconst MF.bs dX3_tellAir_68 (v := 0) (by decide) ?_
    refine r_bipush MF.bs dX3_tellAir_69 (v := 15) (by decide) ?_
    refine r_callV_v MF.bs (st := []) dX3_tellAir_71 (ctX3_number 0 15 M hq_10) miX3_number wd_412 rfl (by decide) rfl (Nat.le_of_ble_eq_true rfl) rfl rfl rfl ?_
    refine r_sub [(1, .ref q1), (2, .int v2), (3, .int v3), (4, .int v4)] [1, 2, 3, 4] rfl ?_
    exact cX3_tellAir_74 q1 h1 M0 v2 v3 v4 ((mX3_number 0 15 M).1) ((mX3_number 0 15 M).2) hp
def mX3_tellAir_56 (q1 : Nat)  (v2 : Int32) (v3 : Int32) (k0 : Int32) (M : Mem) : Mem := (mX3_tellAir_64 q1 v2 v3 k0 (b2i ((mX3_takesName 14 M).1)) ((mX3_takesName 14 M).2))
def PX3_tellAir_56 (q1 : Nat)  (v2 : Int32) (v3 : Int32) (k0 : Int32) (M : Mem) : Prop := PX3_takesName 14 M ∧ (PX3_tellAir_64 q1 v2 v3 k0 (b2i ((mX3_takesName 14 M).1)) ((mX3_takesName 14 M).2))
set_option maxRecDepth 100000 in
theorem cX3_tellAir_56 (q1 : Nat) (h1 : TB q1)  (M0 : Mem) (v2 : Int32) (v3 : Int32) (k0 : Int32) (M : Mem) (hp : PX3_tellAir_56 q1 v2 v3 k0 M) : AWP (GV mtX3_tellAir 6 M0 (mX3_tellAir_56 q1 v2 v3 k0 M)) mtX3_tellAir 56 [(0, .ref 22), (1, .ref q1), (2, .int v2), (3, .int v3)] [.int k0] M := by
  unfold mX3_tellAir_56
  unfold PX3_tellAir_56 at hp
  obtain ⟨hq_8, hp⟩ := hp
  refine r_istore MF.bs (lv' := [(4, .int k0), (0, .ref 22), (1, .ref q1), (2, .int v2), (3, .int v3)]) dX3_tellAir_56 (by decide) rfl ?_
  refine r_aload_n MF.bs dX3_tellAir_58 rfl 1 rfl ?_
  refine r_ldcS MF.bs (i := 14) dX3_tellAir_59 rfl rfl ?_
  refine r_callV_v MF.bs (st := []) dX3_tellAir_61 (ctX3_takesName 14 (by decide) M hq_8) miX3_takesName wd_422 rfl (by decide) rfl (Nat.le_of_ble_eq_true rfl) rfl rfl rfl ?_
  refine r_sub [(0, .ref 22), (1, .ref q1), (2, .int v2), (3, .int v3), (4, .int k0)] [1, 2, 3, 4, 0] rfl ?_
  exact cX3_tellAir_64 q1 h1 M0 v2 v3 k0 (b2i ((mX3_takesName 14 M).1)) ((mX3_takesName 14 M).2) hp
def mX3_tellAir_52 (q1 : Nat)  (v2 : Int32) (v3 : Int32) (k0 : Int32) (M : Mem) : Mem := (mX3_tellAir_56 q1 v2 v3 k0 M)
def PX3_tellAir_52 (q1 : Nat)  (v2 : Int32) (v3 : Int32) (k0 : Int32) (M : Mem) : Prop := PX3_tellAir_56 q1 v2 v3 k0 M
set_option maxRecDepth 100000 in
theorem cX3_tellAir_52 (q1 : Nat) (h1 : TB q1)  (M0 : Mem) (v2 : Int32) (v3 : Int32) (k0 : Int32) (M : Mem) (hp : PX3_tellAir_52 q1 v2 v3 k0 M) : AWP (GV mtX3_tellAir 6 M0 (mX3_tellAir_52 q1 v2 v3 k0 M)) mtX3_tellAir 52 [(0, .ref 22), (1, .ref q1), (2, .int v2), (3, .int v3)] [.int k0] M := by
  unfold mX3_tellAir_52
  unfold PX3_tellAir_52 at hp
  refine r_goto MF.bs dX3_tellAir_52 (tgt := 56) (by decide) ?_
  exact cX3_tellAir_56 q1 h1 M0 v2 v3 k0 M hp
def mX3_tellAir_42 (q1 : Nat)  (v2 : Int32) (v3 : Int32) (k0 : Int32) (M : Mem) : Mem := (if k0 = 0 then (mX3_tellAir_56 q1 v2 v3 3 M) else (mX3_tellAir_52 q1 v2 v3 ((mX3_number 0 9 M).1) ((mX3_number 0 9 M).2)))
def PX3_tellAir_42 (q1 : Nat)  (v2 : Int32) (v3 : Int32) (k0 : Int32) (M : Mem) : Prop := ((k0 = 0 → PX3_tellAir_56 q1 v2 v3 3 M) ∧ (¬ k0 = 0 → PX3_number 0 9 M ∧ (PX3_tellAir_52 q1 v2 v3 ((mX3_number 0 9 M).1) ((mX3_number 0 9 M).2))))
set_option maxRecDepth 100000 in
theorem cX3_tellAir_42 (q1 : Nat) (h1 : TB q1)  (M0 : Mem) (v2 : Int32) (v3 : Int32) (k0 : Int32) (M : Mem) (hp : PX3_tellAir_42 q1 v2 v3 k0 M) : AWP (GV mtX3_tellAir 6 M0 (mX3_tellAir_42 q1 v2 v3 k0 M)) mtX3_tellAir 42 [(0, .ref 22), (1, .ref q1), (2, .int v2), (3, .int v3)] [.int k0] M := by
  unfold mX3_tellAir_42
  unfold PX3_tellAir_42 at hp
  refine r_ite (GV mtX3_tellAir 6 M0) (fun h_6 => ?_) (fun h_6 => ?_)
  · have hp := hp.1 h_6
    refine r_if_eq_t MF.bs (tgt := 55) dX3_tellAir_42 (by decide) h_6 ?_
    refine r_iconst MF.bs dX3_tellAir_55 (v := 3) (by decide) ?_
    exact cX3_tellAir_56 q1 h1 M0 v2 v3 3 M hp
  · have hp := hp.2 h_6
    refine r_if_eq_f MF.bs (tgt := 55) dX3_tellAir_42 (by decide) h_6 ?_
    obtain ⟨hq_7, hp⟩ := hp
    refine r_aload_n MF.bs dX3_tellAir_45 rfl 0 rfl ?_
    refine r_iconst MF.bs dX3_tellAir_46 (v := 0) (by decide) ?_
    refine r_bipush MF.bs dX3_tellAir_47 (v := 9) (by decide) ?_
    refine r_callV_v MF.bs (st := []) dX3_tellAir_49 (ctX3_number 0 9 M hq_7) miX3_number wd_412 rfl (by decide) rfl (Nat.le_of_ble_eq_true rfl) rfl rfl rfl ?_
    exact cX3_tellAir_52 q1 h1 M0 v2 v3 ((mX3_number 0 9 M).1) ((mX3_number 0 9 M).2) hp
def mX3_tellAir_35 (q1 : Nat)  (v2 : Int32) (k0 : Int32) (M : Mem) : Mem := (mX3_tellAir_42 q1 v2 k0 (b2i ((mX3_takesName 13 M).1)) ((mX3_takesName 13 M).2))
def PX3_tellAir_35 (q1 : Nat)  (v2 : Int32) (k0 : Int32) (M : Mem) : Prop := PX3_takesName 13 M ∧ (PX3_tellAir_42 q1 v2 k0 (b2i ((mX3_takesName 13 M).1)) ((mX3_takesName 13 M).2))
set_option maxRecDepth 100000 in
theorem cX3_tellAir_35 (q1 : Nat) (h1 : TB q1)  (M0 : Mem) (v2 : Int32) (k0 : Int32) (M : Mem) (hp : PX3_tellAir_35 q1 v2 k0 M) : AWP (GV mtX3_tellAir 6 M0 (mX3_tellAir_35 q1 v2 k0 M)) mtX3_tellAir 35 [(0, .ref 22), (1, .ref q1), (2, .int v2)] [.int k0] M := by
  unfold mX3_tellAir_35
  unfold PX3_tellAir_35 at hp
  obtain ⟨hq_5, hp⟩ := hp
  refine r_istore_n MF.bs (lv' := [(3, .int k0), (0, .ref 22), (1, .ref q1), (2, .int v2)]) dX3_tellAir_35 rfl (by decide) rfl ?_
  refine r_aload_n MF.bs dX3_tellAir_36 rfl 1 rfl ?_
  refine r_ldcS MF.bs (i := 13) dX3_tellAir_37 rfl rfl ?_
  refine r_callV_v MF.bs (st := []) dX3_tellAir_39 (ctX3_takesName 13 (by decide) M hq_5) miX3_takesName wd_422 rfl (by decide) rfl (Nat.le_of_ble_eq_true rfl) rfl rfl rfl ?_
  refine r_sub [(0, .ref 22), (1, .ref q1), (2, .int v2), (3, .int k0)] [1, 2, 3, 0] rfl ?_
  exact cX3_tellAir_42 q1 h1 M0 v2 k0 (b2i ((mX3_takesName 13 M).1)) ((mX3_takesName 13 M).2) hp
def mX3_tellAir_28 (q1 : Nat)  (v2 : Int32) (M : Mem) : Mem := (mX3_tellAir_35 q1 v2 ((mX3_number 0 15 M).1) ((mX3_number 0 15 M).2))
def PX3_tellAir_28 (q1 : Nat)  (v2 : Int32) (M : Mem) : Prop := PX3_number 0 15 M ∧ (PX3_tellAir_35 q1 v2 ((mX3_number 0 15 M).1) ((mX3_number 0 15 M).2))
set_option maxRecDepth 100000 in
theorem cX3_tellAir_28 (q1 : Nat) (h1 : TB q1)  (M0 : Mem) (v2 : Int32) (M : Mem) (hp : PX3_tellAir_28 q1 v2 M) : AWP (GV mtX3_tellAir 6 M0 (mX3_tellAir_28 q1 v2 M)) mtX3_tellAir 28 [(0, .ref 22), (1, .ref q1), (2, .int v2)] [] M := by
  unfold mX3_tellAir_28
  unfold PX3_tellAir_28 at hp
  obtain ⟨hq_4, hp⟩ := hp
  refine r_aload_n MF.bs dX3_tellAir_28 rfl 0 rfl ?_
  refine r_iconst MF.bs dX3_tellAir_29 (v := 0) (by decide) ?_
  refine r_bipush MF.bs dX3_tellAir_30 (v := 15) (by decide) ?_
  refine r_callV_v MF.bs (st := []) dX3_tellAir_32 (ctX3_number 0 15 M hq_4) miX3_number wd_412 rfl (by decide) rfl (Nat.le_of_ble_eq_true rfl) rfl rfl rfl ?_
  exact cX3_tellAir_35 q1 h1 M0 v2 ((mX3_number 0 15 M).1) ((mX3_number 0 15 M).2) hp
def mX3_tellAir (q1 : Nat) (a2 : Int32) (M : Mem) : Mem := (if (M q1 6) < 8 then (mX3_tellAir_28 q1 a2 (mX3_takeName 12 (upm M 22 2 (mX3_endOfName M)))) else (mX3_findFault M))
def PX3_tellAir (q1 : Nat) (a2 : Int32) (M : Mem) : Prop := ((M q1 6) < 8 → PX3_endOfName M ∧ (PX3_takeName 12 (upm M 22 2 (mX3_endOfName M)) ∧ (PX3_tellAir_28 q1 a2 (mX3_takeName 12 (upm M 22 2 (mX3_endOfName M))))))
set_option maxRecDepth 100000 in
theorem ctX3_tellAir (q1 : Nat) (h1 : TB q1) (a2 : Int32) (M : Mem) (hp : PX3_tellAir q1 a2 M) : CT mtX3_tellAir 6 [.ref 22, .ref q1, .int a2] M (none, mX3_tellAir q1 a2 M) := by
  refine CT.of (by decide) rfl (Nat.le_of_ble_eq_true rfl) ?_
  show AWP (GV mtX3_tellAir 6 M (mX3_tellAir q1 a2 M)) mtX3_tellAir 0 [(0, .ref 22), (1, .ref q1), (2, .int a2)] [] M
  unfold mX3_tellAir
  unfold PX3_tellAir at hp
  refine r_aload_n MF.bs dX3_tellAir_0 rfl 1 rfl ?_
  refine r_getI MF.bs dX3_tellAir_1 (sh_t h1) rfl 6 (by decide) wd_129 rfl ?_
  refine r_bipush MF.bs dX3_tellAir_4 (v := 8) (by decide) ?_
  refine r_ite (GV mtX3_tellAir 6 M) (fun h_1 => ?_) (fun h_1 => ?_)
  · have hp := hp h_1
    refine r_icmp_lt_t MF.bs (tgt := 14) dX3_tellAir_6 (by decide) h_1 ?_
    obtain ⟨hq_2, hp⟩ := hp
    obtain ⟨hq_3, hp⟩ := hp
    refine r_aload_n MF.bs dX3_tellAir_14 rfl 0 rfl ?_
    refine r_aload_n MF.bs dX3_tellAir_15 rfl 0 rfl ?_
    refine r_callV_v MF.bs (st := [.ref 22]) dX3_tellAir_16 (ctX3_endOfName M hq_2) miX3_endOfName wd_342 rfl (by decide) rfl (Nat.le_of_ble_eq_true rfl) rfl rfl rfl ?_
    refine r_putI MF.bs dX3_tellAir_19 rfl rfl 2 (by decide) wd_168 rfl rfl rfl rfl rfl ?_
    refine r_aload_n MF.bs dX3_tellAir_22 rfl 0 rfl ?_
    refine r_ldcS MF.bs (i := 12) dX3_tellAir_23 rfl rfl ?_
    refine r_callV_n MF.bs (st := []) dX3_tellAir_25 (ctX3_takeName 12 (by decide) (upm M 22 2 (mX3_endOfName M)) hq_3) miX3_takeName wd_408 rfl (by decide) rfl (Nat.le_of_ble_eq_true rfl) rfl rfl rfl ?_
    exact cX3_tellAir_28 q1 h1 M a2 (mX3_takeName 12 (upm M 22 2 (mX3_endOfName M))) hp
  · refine r_icmp_lt_f MF.bs (tgt := 14) dX3_tellAir_6 (by decide) h_1 ?_
    refine r_aload_n MF.bs dX3_tellAir_9 rfl 0 rfl ?_
    refine r_callV_n MF.bs (st := []) dX3_tellAir_10 (ctX3_findFault M) miX3_findFault wd_403 rfl (by decide) rfl (Nat.le_of_ble_eq_true rfl) rfl rfl rfl ?_
    exact r_vret dX3_tellAir_13 rfl
abbrev mtX3_tellWet : MT := (RX3, yX3_tellWet, cX3_tellWet, 3, none)
theorem miX3_tellWet : MV mtX3_tellWet 1 := ⟨wd_435, ⟨wd_434, wd_11⟩, wd_82, ⟨by decide, by decide, by decide +kernel⟩, by decide⟩
def mX3_tellWet_26 (q1 : Nat)  (k0 : Int32) (k1 : Int32) (M : Mem) : Mem := (upm M (q1 + 2) k1.toNatClampNeg k0)
def PX3_tellWet_26 (q1 : Nat)  (k0 : Int32) (k1 : Int32) (M : Mem) : Prop := vp_in k1 16
set_option maxRecDepth 100000 in
theorem cX3_tellWet_26 (q1 : Nat) (h1 : TB q1)  (M0 : Mem) (k0 : Int32) (k1 : Int32) (M : Mem) (hp : PX3_tellWet_26 q1 k0 k1 M) : AWP (GV mtX3_tellWet 6 M0 (mX3_tellWet_26 q1 k0 k1 M)) mtX3_tellWet 26 [] [.int k0, .int k1, .ref (q1 + 2)] M := by
  unfold mX3_tellWet_26
  unfold PX3_tellWet_26 at hp
  have hq_4 := hp
  refine r_iastore MF.bs dX3_tellWet_26 (sh_t2 h1) hq_4 ?_
  exact r_vret dX3_tellWet_27 rfl
def mX3_tellWet_14 (q1 : Nat)  (v2 : Int32) (M : Mem) : Mem := (mX3_tellWet_26 q1 ((mX3_number 0 99 M).1) v2 ((mX3_number 0 99 M).2))
def PX3_tellWet_14 (q1 : Nat)  (v2 : Int32) (M : Mem) : Prop := PX3_number 0 99 M ∧ (PX3_tellWet_26 q1 ((mX3_number 0 99 M).1) v2 ((mX3_number 0 99 M).2))
set_option maxRecDepth 100000 in
theorem cX3_tellWet_14 (q1 : Nat) (h1 : TB q1)  (M0 : Mem) (v2 : Int32) (M : Mem) (hp : PX3_tellWet_14 q1 v2 M) : AWP (GV mtX3_tellWet 6 M0 (mX3_tellWet_14 q1 v2 M)) mtX3_tellWet 14 [(0, .ref 22), (1, .ref q1), (2, .int v2)] [] M := by
  unfold mX3_tellWet_14
  unfold PX3_tellWet_14 at hp
  obtain ⟨hq_3, hp⟩ := hp
  refine r_aload_n MF.bs dX3_tellWet_14 rfl 1 rfl ?_
  refine r_getR MF.bs dX3_tellWet_15 (sh_t h1) rfl 1 (by decide) wd_117 rfl ?_
  refine r_iload_n MF.bs dX3_tellWet_18 rfl 2 rfl ?_
  refine r_aload_n MF.bs dX3_tellWet_19 rfl 0 rfl ?_
  refine r_iconst MF.bs dX3_tellWet_20 (v := 0) (by decide) ?_
  refine r_bipush MF.bs dX3_tellWet_21 (v := 99) (by decide) ?_
  refine r_callV_v MF.bs (st := [.int v2, .ref (q1 + 2)]) dX3_tellWet_23 (ctX3_number 0 99 M hq_3) miX3_number wd_412 rfl (by decide) rfl (Nat.le_of_ble_eq_true rfl) rfl rfl rfl ?_
  refine r_sub [] [] rfl ?_
  exact cX3_tellWet_26 q1 h1 M0 ((mX3_number 0 99 M).1) v2 ((mX3_number 0 99 M).2) hp
def mX3_tellWet_7 (q1 : Nat)  (k0 : Int32) (M : Mem) : Mem := (mX3_tellWet_14 q1 k0 (mX3_takeName 15 M))
def PX3_tellWet_7 (q1 : Nat)  (k0 : Int32) (M : Mem) : Prop := PX3_takeName 15 M ∧ (PX3_tellWet_14 q1 k0 (mX3_takeName 15 M))
set_option maxRecDepth 100000 in
theorem cX3_tellWet_7 (q1 : Nat) (h1 : TB q1)  (M0 : Mem) (k0 : Int32) (M : Mem) (hp : PX3_tellWet_7 q1 k0 M) : AWP (GV mtX3_tellWet 6 M0 (mX3_tellWet_7 q1 k0 M)) mtX3_tellWet 7 [(0, .ref 22), (1, .ref q1)] [.int k0] M := by
  unfold mX3_tellWet_7
  unfold PX3_tellWet_7 at hp
  obtain ⟨hq_2, hp⟩ := hp
  refine r_istore_n MF.bs (lv' := [(2, .int k0), (0, .ref 22), (1, .ref q1)]) dX3_tellWet_7 rfl (by decide) rfl ?_
  refine r_aload_n MF.bs dX3_tellWet_8 rfl 1 rfl ?_
  refine r_ldcS MF.bs (i := 15) dX3_tellWet_9 rfl rfl ?_
  refine r_callV_n MF.bs (st := []) dX3_tellWet_11 (ctX3_takeName 15 (by decide) M hq_2) miX3_takeName wd_408 rfl (by decide) rfl (Nat.le_of_ble_eq_true rfl) rfl rfl rfl ?_
  refine r_sub [(0, .ref 22), (1, .ref q1), (2, .int k0)] [1, 2, 0] rfl ?_
  exact cX3_tellWet_14 q1 h1 M0 k0 (mX3_takeName 15 M) hp
def mX3_tellWet (q1 : Nat) (M : Mem) : Mem := (mX3_tellWet_7 q1 ((mX3_number 0 15 M).1) ((mX3_number 0 15 M).2))
def PX3_tellWet (q1 : Nat) (M : Mem) : Prop := PX3_number 0 15 M ∧ (PX3_tellWet_7 q1 ((mX3_number 0 15 M).1) ((mX3_number 0 15 M).2))
set_option maxRecDepth 100000 in
theorem ctX3_tellWet (q1 : Nat) (h1 : TB q1) (M : Mem) (hp : PX3_tellWet q1 M) : CT mtX3_tellWet 6 [.ref 22, .ref q1] M (none, mX3_tellWet q1 M) := by
  refine CT.of (by decide) rfl (Nat.le_of_ble_eq_true rfl) ?_
  show AWP (GV mtX3_tellWet 6 M (mX3_tellWet q1 M)) mtX3_tellWet 0 [(0, .ref 22), (1, .ref q1)] [] M
  unfold mX3_tellWet
  unfold PX3_tellWet at hp
  obtain ⟨hq_1, hp⟩ := hp
  refine r_aload_n MF.bs dX3_tellWet_0 rfl 0 rfl ?_
  refine r_iconst MF.bs dX3_tellWet_1 (v := 0) (by decide) ?_
  refine r_bipush MF.bs dX3_tellWet_2 (v := 15) (by decide) ?_
  refine r_callV_v MF.bs (st := []) dX3_tellWet_4 (ctX3_number 0 15 M hq_1) miX3_number wd_412 rfl (by decide) rfl (Nat.le_of_ble_eq_true rfl) rfl rfl rfl ?_
  exact cX3_tellWet_7 q1 h1 M ((mX3_number 0 15 M).1) ((mX3_number 0 15 M).2) hp
abbrev mtX3_tellLaw : MT := (RX3, yX3_tellLaw, cX3_tellLaw, 3, none)
theorem miX3_tellLaw : MV mtX3_tellLaw 2 := ⟨wd_442, ⟨wd_441, wd_12⟩, wd_82, ⟨by decide, by decide, by decide +kernel⟩, by decide⟩
def mX3_tellLaw_19 (q1 : Nat)  (k0 : Int32) (k1 : Int32) (M : Mem) : Mem := (upm M (q1 + 1) k1.toNatClampNeg k0)
def PX3_tellLaw_19 (q1 : Nat)  (k0 : Int32) (k1 : Int32) (M : Mem) : Prop := vp_in k1 4
set_option maxRecDepth 100000 in
theorem cX3_tellLaw_19 (q1 : Nat) (h1 : TB q1)  (M0 : Mem) (k0 : Int32) (k1 : Int32) (M : Mem) (hp : PX3_tellLaw_19 q1 k0 k1 M) : AWP (GV mtX3_tellLaw 2 M0 (mX3_tellLaw_19 q1 k0 k1 M)) mtX3_tellLaw 19 [] [.int k0, .int k1, .ref (q1 + 1)] M := by
  unfold mX3_tellLaw_19
  unfold PX3_tellLaw_19 at hp
  have hq_4 := hp
  refine r_iastore MF.bs dX3_tellLaw_19 (sh_t1 h1) hq_4 ?_
  exact r_vret dX3_tellLaw_20 rfl
def mX3_tellLaw (q1 : Nat) (a2 : Int32) (M : Mem) : Mem := (mX3_tellLaw_19 q1 ((mX3_number (st_1 a2) (st_2 a2) M).1) a2 ((mX3_number (st_1 a2) (st_2 a2) M).2))
def PX3_tellLaw (q1 : Nat) (a2 : Int32) (M : Mem) : Prop := vp_in a2 4 ∧ (vp_in a2 4 ∧ (PX3_number (st_1 a2) (st_2 a2) M ∧ (PX3_tellLaw_19 q1 ((mX3_number (st_1 a2) (st_2 a2) M).1) a2 ((mX3_number (st_1 a2) (st_2 a2) M).2))))
set_option maxRecDepth 100000 in
theorem ctX3_tellLaw (q1 : Nat) (h1 : TB q1) (a2 : Int32) (M : Mem) (hp : PX3_tellLaw q1 a2 M) : CT mtX3_tellLaw 2 [.ref 22, .ref q1, .int a2] M (none, mX3_tellLaw q1 a2 M) := by
  refine CT.of (by decide) rfl (Nat.le_of_ble_eq_true rfl) ?_
  show AWP (GV mtX3_tellLaw 2 M (mX3_tellLaw q1 a2 M)) mtX3_tellLaw 0 [(0, .ref 22), (1, .ref q1), (2, .int a2)] [] M
  unfold mX3_tellLaw
  unfold PX3_tellLaw at hp
  obtain ⟨hq_1, hp⟩ := hp
  obtain ⟨hq_2, hp⟩ := hp
  obtain ⟨hq_3, hp⟩ := hp
  refine r_aload_n MF.bs dX3_tellLaw_0 rfl 1 rfl ?_
  refine r_getR MF.bs dX3_tellLaw_1 (sh_t h1) rfl 0 (by decide) wd_115 rfl ?_
  refine r_iload_n MF.bs dX3_tellLaw_4 rfl 2 rfl ?_
  refine r_aload_n MF.bs dX3_tellLaw_5 rfl 0 rfl ?_
  refine r_getsN MF.bs (i := 1) dX3_tellLaw_6 rfl nw_6 ?_
  refine r_iload_n MF.bs dX3_tellLaw_9 rfl 2 rfl ?_
  refine r_tiald MF.bs dX3_tellLaw_10 rfl hq_1 ?_
  refine r_getsN MF.bs (i := 2) dX3_tellLaw_11 rfl nw_7 ?_
  refine r_iload_n MF.bs dX3_tellLaw_14 rfl 2 rfl ?_
  refine r_tiald MF.bs dX3_tellLaw_15 rfl hq_2 ?_
  refine r_callV_v MF.bs (st := [.int a2, .ref (q1 + 1)]) dX3_tellLaw_16 (ctX3_number (st_1 a2) (st_2 a2) M hq_3) miX3_number wd_412 rfl (by decide) rfl (Nat.le_of_ble_eq_true rfl) rfl rfl rfl ?_
  refine r_sub [] [] rfl ?_
  exact cX3_tellLaw_19 q1 h1 M ((mX3_number (st_1 a2) (st_2 a2) M).1) a2 ((mX3_number (st_1 a2) (st_2 a2) M).2) hp
abbrev mtX3_takeMark : MT := (RX3, yX3_takeMark, cX3_takeMark, 1, none)
theorem miX3_takeMark : MV mtX3_takeMark 0 := ⟨wd_453, ⟨wd_452, wd_13⟩, wd_82, ⟨by decide, by decide, by decide +kernel⟩, by decide⟩
def mX3_takeMark_42   (M : Mem) : Mem := (mX3_findFault M)
def PX3_takeMark_42   (M : Mem) : Prop := True
set_option maxRecDepth 100000 in
theorem cX3_takeMark_42    (M0 : Mem) (M : Mem) (hp : PX3_takeMark_42 M) : AWP (GV mtX3_takeMark 1 M0 (mX3_takeMark_42 M)) mtX3_takeMark 42 [(0, .ref 22)] [] M := by
  unfold mX3_takeMark_42
  unfold PX3_takeMark_42 at hp
  refine r_aload_n MF.bs dX3_takeMark_42 rfl 0 rfl ?_
  refine r_callV_n MF.bs (st := []) dX3_takeMark_43 (ctX3_findFault M) miX3_findFault wd_403 rfl (by decide) rfl (Nat.le_of_ble_eq_true rfl) rfl rfl rfl ?_
  exact r_vret dX3_takeMark_46 rfl
def mX3_takeMark_4   (M : Mem) : Mem := (if (M 22 1) ≤ (M 22 2) then (mX3_takeMark_42 M) else (if (M 23 (M 22 2).toNatClampNeg) = 59 then (upm M 22 2 ((M 22 2) + 1)) else (mX3_takeMark_42 M)))
def PX3_takeMark_4   (M : Mem) : Prop := (((M 22 1) ≤ (M 22 2) → PX3_takeMark_42 M) ∧ (¬ (M 22 1) ≤ (M 22 2) → vp_in (M 22 2) 200 ∧ ((¬ (M 23 (M 22 2).toNatClampNeg) = 59 → PX3_takeMark_42 M))))
set_option maxRecDepth 100000 in
theorem cX3_takeMark_4    (M0 : Mem) (M : Mem) (hp : PX3_takeMark_4 M) : AWP (GV mtX3_takeMark 1 M0 (mX3_takeMark_4 M)) mtX3_takeMark 4 [(0, .ref 22)] [] M := by
  unfold mX3_takeMark_4
  unfold PX3_takeMark_4 at hp
  refine r_aload_n MF.bs dX3_takeMark_4 rfl 0 rfl ?_
  refine r_getI MF.bs dX3_takeMark_5 rfl rfl 2 (by decide) wd_168 rfl ?_
  refine r_aload_n MF.bs dX3_takeMark_8 rfl 0 rfl ?_
  refine r_getI MF.bs dX3_takeMark_9 rfl rfl 1 (by decide) wd_166 rfl ?_
  refine r_ite (GV mtX3_takeMark 1 M0) (fun h_2 => ?_) (fun h_2 => ?_)
  · have hp := hp.1 h_2
    refine r_icmp_ge_t MF.bs (tgt := 42) dX3_takeMark_12 (by decide) h_2 ?_
    exact cX3_takeMark_42 M0 M hp
  · have hp := hp.2 h_2
    refine r_icmp_ge_f MF.bs (tgt := 42) dX3_takeMark_12 (by decide) h_2 ?_
    obtain ⟨hq_3, hp⟩ := hp
    refine r_aload_n MF.bs dX3_takeMark_15 rfl 0 rfl ?_
    refine r_getR MF.bs dX3_takeMark_16 rfl rfl 0 (by decide) wd_165 rfl ?_
    refine r_aload_n MF.bs dX3_takeMark_19 rfl 0 rfl ?_
    refine r_getI MF.bs dX3_takeMark_20 rfl rfl 2 (by decide) wd_168 rfl ?_
    refine r_iaload MF.bs dX3_takeMark_23 rfl hq_3 ?_
    refine r_bipush MF.bs dX3_takeMark_24 (v := 59) (by decide) ?_
    refine r_ite (GV mtX3_takeMark 1 M0) (fun h_4 => ?_) (fun h_4 => ?_)
    · refine r_icmp_ne_f MF.bs (tgt := 42) dX3_takeMark_26 (by decide) h_4 ?_
      refine r_aload_n MF.bs dX3_takeMark_29 rfl 0 rfl ?_
      refine r_dup MF.bs dX3_takeMark_30 rfl ?_
      refine r_getI MF.bs dX3_takeMark_31 rfl rfl 2 (by decide) wd_168 rfl ?_
      refine r_iconst MF.bs dX3_takeMark_34 (v := 1) (by decide) ?_
      refine r_iadd MF.bs dX3_takeMark_35 ?_
      refine r_putI MF.bs dX3_takeMark_36 rfl rfl 2 (by decide) wd_168 rfl rfl rfl rfl rfl ?_
      refine r_goto MF.bs dX3_takeMark_39 (tgt := 46) (by decide) ?_
      exact r_vret dX3_takeMark_46 rfl
    · have hp := hp h_4
      refine r_icmp_ne_t MF.bs (tgt := 42) dX3_takeMark_26 (by decide) h_4 ?_
      exact cX3_takeMark_42 M0 M hp
def mX3_takeMark  (M : Mem) : Mem := (mX3_takeMark_4 (mX3_skipBlanks M))
def PX3_takeMark  (M : Mem) : Prop := PX3_skipBlanks M ∧ (PX3_takeMark_4 (mX3_skipBlanks M))
set_option maxRecDepth 100000 in
theorem ctX3_takeMark   (M : Mem) (hp : PX3_takeMark M) : CT mtX3_takeMark 1 [.ref 22] M (none, mX3_takeMark M) := by
  refine CT.of (by decide) rfl (Nat.le_of_ble_eq_true rfl) ?_
  show AWP (GV mtX3_takeMark 1 M (mX3_takeMark M)) mtX3_takeMark 0 [(0, .ref 22)] [] M
  unfold mX3_takeMark
  unfold PX3_takeMark at hp
  obtain ⟨hq_1, hp⟩ := hp
  refine r_aload_n MF.bs dX3_takeMark_0 rfl 0 rfl ?_
  refine r_callV_n MF.bs (st := []) dX3_takeMark_1 (ctX3_skipBlanks M hq_1) miX3_skipBlanks wd_325 rfl (by decide) rfl (Nat.le_of_ble_eq_true rfl) rfl rfl rfl ?_
  exact cX3_takeMark_4 M (mX3_skipBlanks M) hp
abbrev mtX3_tellOne : MT := (RX3, yX3_tellOne, cX3_tellOne, 3, none)
theorem miX3_tellOne : MV mtX3_tellOne 1 := ⟨wd_332, ⟨wd_331, wd_1⟩, wd_82, ⟨by decide, by decide, by decide +kernel⟩, by decide⟩
def mX3_tellOne_133 (q1 : Nat)  (M : Mem) : Mem := (mX3_takeMark M)
def PX3_tellOne_133 (q1 : Nat)  (M : Mem) : Prop := PX3_takeMark M
set_option maxRecDepth 100000 in
theorem cX3_tellOne_133 (q1 : Nat) (h1 : TB q1)  (M0 : Mem) (M : Mem) (hp : PX3_tellOne_133 q1 M) : AWP (GV mtX3_tellOne 7 M0 (mX3_tellOne_133 q1 M)) mtX3_tellOne 133 [(0, .ref 22)] [] M := by
  unfold mX3_tellOne_133
  unfold PX3_tellOne_133 at hp
  have hq_11 := hp
  refine r_aload_n MF.bs dX3_tellOne_133 rfl 0 rfl ?_
  refine r_callV_n MF.bs (st := []) dX3_tellOne_134 (ctX3_takeMark M hq_11) miX3_takeMark wd_450 rfl (by decide) rfl (Nat.le_of_ble_eq_true rfl) rfl rfl rfl ?_
  exact r_vret dX3_tellOne_137 rfl
def mX3_tellOne_15 (q1 : Nat)  (M : Mem) : Mem := (mX3_tellOne_133 q1 M)
def PX3_tellOne_15 (q1 : Nat)  (M : Mem) : Prop := PX3_tellOne_133 q1 M
set_option maxRecDepth 100000 in
theorem cX3_tellOne_15 (q1 : Nat) (h1 : TB q1)  (M0 : Mem) (M : Mem) (hp : PX3_tellOne_15 q1 M) : AWP (GV mtX3_tellOne 7 M0 (mX3_tellOne_15 q1 M)) mtX3_tellOne 15 [(0, .ref 22)] [] M := by
  unfold mX3_tellOne_15
  unfold PX3_tellOne_15 at hp
  refine r_goto MF.bs dX3_tellOne_15 (tgt := 133) (by decide) ?_
  exact cX3_tellOne_133 q1 h1 M0 M hp
def mX3_tellOne_32 (q1 : Nat)  (M : Mem) : Mem := (mX3_tellOne_133 q1 M)
def PX3_tellOne_32 (q1 : Nat)  (M : Mem) : Prop := PX3_tellOne_133 q1 M
set_option maxRecDepth 100000 in
theorem cX3_tellOne_32 (q1 : Nat) (h1 : TB q1)  (M0 : Mem) (M : Mem) (hp : PX3_tellOne_32 q1 M) : AWP (GV mtX3_tellOne 7 M0 (mX3_tellOne_32 q1 M)) mtX3_tellOne 32 [(0, .ref 22)] [] M := by
  unfold mX3_tellOne_32
  unfold PX3_tellOne_32 at hp
  refine r_goto MF.bs dX3_tellOne_32 (tgt := 133) (by decide) ?_
  exact cX3_tellOne_133 q1 h1 M0 M hp
def mX3_tellOne_51 (q1 : Nat)  (k0 : Int32) (M : Mem) : Mem := (mX3_tellOne_133 q1 (upm M q1 8 k0))
def PX3_tellOne_51 (q1 : Nat)  (k0 : Int32) (M : Mem) : Prop := PX3_tellOne_133 q1 (upm M q1 8 k0)
set_option maxRecDepth 100000 in
theorem cX3_tellOne_51 (q1 : Nat) (h1 : TB q1)  (M0 : Mem) (k0 : Int32) (M : Mem) (hp : PX3_tellOne_51 q1 k0 M) : AWP (GV mtX3_tellOne 7 M0 (mX3_tellOne_51 q1 k0 M)) mtX3_tellOne 51 [(0, .ref 22)] [.int k0, .ref q1] M := by
  unfold mX3_tellOne_51
  unfold PX3_tellOne_51 at hp
  refine r_putI MF.bs dX3_tellOne_51 (sh_t h1) rfl 8 (by decide) wd_133 rfl rfl rfl rfl rfl ?_
  refine r_goto MF.bs dX3_tellOne_54 (tgt := 133) (by decide) ?_
  exact cX3_tellOne_133 q1 h1 M0 (upm M q1 8 k0) hp
def mX3_tellOne_72 (q1 : Nat)  (M : Mem) : Mem := (mX3_tellOne_133 q1 M)
def PX3_tellOne_72 (q1 : Nat)  (M : Mem) : Prop := PX3_tellOne_133 q1 M
set_option maxRecDepth 100000 in
theorem cX3_tellOne_72 (q1 : Nat) (h1 : TB q1)  (M0 : Mem) (M : Mem) (hp : PX3_tellOne_72 q1 M) : AWP (GV mtX3_tellOne 7 M0 (mX3_tellOne_72 q1 M)) mtX3_tellOne 72 [(0, .ref 22)] [] M := by
  unfold mX3_tellOne_72
  unfold PX3_tellOne_72 at hp
  refine r_goto MF.bs dX3_tellOne_72 (tgt := 133) (by decide) ?_
  exact cX3_tellOne_133 q1 h1 M0 M hp
def mX3_tellOne_90 (q1 : Nat)  (M : Mem) : Mem := (mX3_tellOne_133 q1 M)
def PX3_tellOne_90 (q1 : Nat)  (M : Mem) : Prop := PX3_tellOne_133 q1 M
set_option maxRecDepth 100000 in
theorem cX3_tellOne_90 (q1 : Nat) (h1 : TB q1)  (M0 : Mem) (M : Mem) (hp : PX3_tellOne_90 q1 M) : AWP (GV mtX3_tellOne 7 M0 (mX3_tellOne_90 q1 M)) mtX3_tellOne 90 [(0, .ref 22)] [] M := by
  unfold mX3_tellOne_90
  unfold PX3_tellOne_90 at hp
  refine r_goto MF.bs dX3_tellOne_90 (tgt := 133) (by decide) ?_
  exact cX3_tellOne_133 q1 h1 M0 M hp
def mX3_tellOne_108 (q1 : Nat)  (M : Mem) : Mem := (mX3_tellOne_133 q1 M)
def PX3_tellOne_108 (q1 : Nat)  (M : Mem) : Prop := PX3_tellOne_133 q1 M
set_option maxRecDepth 100000 in
theorem cX3_tellOne_108 (q1 : Nat) (h1 : TB q1)  (M0 : Mem) (M : Mem) (hp : PX3_tellOne_108 q1 M) : AWP (GV mtX3_tellOne 7 M0 (mX3_tellOne_108 q1 M)) mtX3_tellOne 108 [(0, .ref 22)] [] M := by
  unfold mX3_tellOne_108
  unfold PX3_tellOne_108 at hp
  refine r_goto MF.bs dX3_tellOne_108 (tgt := 133) (by decide) ?_
  exact cX3_tellOne_133 q1 h1 M0 M hp
def mX3_tellOne_126 (q1 : Nat)  (M : Mem) : Mem := (mX3_tellOne_133 q1 M)
def PX3_tellOne_126 (q1 : Nat)  (M : Mem) : Prop := PX3_tellOne_133 q1 M
set_option maxRecDepth 100000 in
theorem cX3_tellOne_126 (q1 : Nat) (h1 : TB q1)  (M0 : Mem) (M : Mem) (hp : PX3_tellOne_126 q1 M) : AWP (GV mtX3_tellOne 7 M0 (mX3_tellOne_126 q1 M)) mtX3_tellOne 126 [(0, .ref 22)] [] M := by
  unfold mX3_tellOne_126
  unfold PX3_tellOne_126 at hp
  refine r_goto MF.bs dX3_tellOne_126 (tgt := 133) (by decide) ?_
  exact cX3_tellOne_133 q1 h1 M0 M hp
def mX3_tellOne_117 (q1 : Nat)  (k0 : Int32) (M : Mem) : Mem := (if k0 = 0 then (mX3_tellOne_133 q1 (mX3_findFault M)) else (mX3_tellOne_126 q1 (mX3_tellLaw q1 3 M)))
def PX3_tellOne_117 (q1 : Nat)  (k0 : Int32) (M : Mem) : Prop := ((k0 = 0 → PX3_tellOne_133 q1 (mX3_findFault M)) ∧ (¬ k0 = 0 → PX3_tellLaw q1 3 M ∧ (PX3_tellOne_126 q1 (mX3_tellLaw q1 3 M))))
set_option maxRecDepth 100000 in
theorem cX3_tellOne_117 (q1 : Nat) (h1 : TB q1)  (M0 : Mem) (k0 : Int32) (M : Mem) (hp : PX3_tellOne_117 q1 k0 M) : AWP (GV mtX3_tellOne 7 M0 (mX3_tellOne_117 q1 k0 M)) mtX3_tellOne 117 [(0, .ref 22), (1, .ref q1)] [.int k0] M := by
  unfold mX3_tellOne_117
  unfold PX3_tellOne_117 at hp
  refine r_ite (GV mtX3_tellOne 7 M0) (fun h_21 => ?_) (fun h_21 => ?_)
  · have hp := hp.1 h_21
    refine r_if_eq_t MF.bs (tgt := 129) dX3_tellOne_117 (by decide) h_21 ?_
    refine r_aload_n MF.bs dX3_tellOne_129 rfl 0 rfl ?_
    refine r_callV_n MF.bs (st := []) dX3_tellOne_130 (ctX3_findFault M) miX3_findFault wd_403 rfl (by decide) rfl (Nat.le_of_ble_eq_true rfl) rfl rfl rfl ?_
    refine r_sub [(0, .ref 22)] [0] rfl ?_
    exact cX3_tellOne_133 q1 h1 M0 (mX3_findFault M) hp
  · have hp := hp.2 h_21
    refine r_if_eq_f MF.bs (tgt := 129) dX3_tellOne_117 (by decide) h_21 ?_
    obtain ⟨hq_22, hp⟩ := hp
    refine r_aload_n MF.bs dX3_tellOne_120 rfl 0 rfl ?_
    refine r_aload_n MF.bs dX3_tellOne_121 rfl 1 rfl ?_
    refine r_iconst MF.bs dX3_tellOne_122 (v := 3) (by decide) ?_
    refine r_callV_n MF.bs (st := []) dX3_tellOne_123 (ctX3_tellLaw q1 h1 3 M hq_22) miX3_tellLaw wd_439 rfl (by decide) rfl (Nat.le_of_ble_eq_true rfl) rfl rfl rfl ?_
    refine r_sub [(0, .ref 22)] [0] rfl ?_
    exact cX3_tellOne_126 q1 h1 M0 (mX3_tellLaw q1 3 M) hp
def mX3_tellOne_99 (q1 : Nat)  (k0 : Int32) (M : Mem) : Mem := (if k0 = 0 then (mX3_tellOne_117 q1 (b2i ((mX3_takesName 5 M).1)) ((mX3_takesName 5 M).2)) else (mX3_tellOne_108 q1 (mX3_tellLaw q1 2 M)))
def PX3_tellOne_99 (q1 : Nat)  (k0 : Int32) (M : Mem) : Prop := ((k0 = 0 → PX3_takesName 5 M ∧ (PX3_tellOne_117 q1 (b2i ((mX3_takesName 5 M).1)) ((mX3_takesName 5 M).2))) ∧ (¬ k0 = 0 → PX3_tellLaw q1 2 M ∧ (PX3_tellOne_108 q1 (mX3_tellLaw q1 2 M))))
set_option maxRecDepth 100000 in
theorem cX3_tellOne_99 (q1 : Nat) (h1 : TB q1)  (M0 : Mem) (k0 : Int32) (M : Mem) (hp : PX3_tellOne_99 q1 k0 M) : AWP (GV mtX3_tellOne 7 M0 (mX3_tellOne_99 q1 k0 M)) mtX3_tellOne 99 [(0, .ref 22), (1, .ref q1)] [.int k0] M := by
  unfold mX3_tellOne_99
  unfold PX3_tellOne_99 at hp
  refine r_ite (GV mtX3_tellOne 7 M0) (fun h_18 => ?_) (fun h_18 => ?_)
  · have hp := hp.1 h_18
    refine r_if_eq_t MF.bs (tgt := 111) dX3_tellOne_99 (by decide) h_18 ?_
    obtain ⟨hq_19, hp⟩ := hp
    refine r_aload_n MF.bs dX3_tellOne_111 rfl 0 rfl ?_
    refine r_ldcS MF.bs (i := 5) dX3_tellOne_112 rfl rfl ?_
    refine r_callV_v MF.bs (st := []) dX3_tellOne_114 (ctX3_takesName 5 (by decide) M hq_19) miX3_takesName wd_422 rfl (by decide) rfl (Nat.le_of_ble_eq_true rfl) rfl rfl rfl ?_
    exact cX3_tellOne_117 q1 h1 M0 (b2i ((mX3_takesName 5 M).1)) ((mX3_takesName 5 M).2) hp
  · have hp := hp.2 h_18
    refine r_if_eq_f MF.bs (tgt := 111) dX3_tellOne_99 (by decide) h_18 ?_
    obtain ⟨hq_20, hp⟩ := hp
    refine r_aload_n MF.bs dX3_tellOne_102 rfl 0 rfl ?_
    refine r_aload_n MF.bs dX3_tellOne_103 rfl 1 rfl ?_
    refine r_iconst MF.bs dX3_tellOne_104 (v := 2) (by decide) ?_
    refine r_callV_n MF.bs (st := []) dX3_tellOne_105 (ctX3_tellLaw q1 h1 2 M hq_20) miX3_tellLaw wd_439 rfl (by decide) rfl (Nat.le_of_ble_eq_true rfl) rfl rfl rfl ?_
    refine r_sub [(0, .ref 22)] [0] rfl ?_
    exact cX3_tellOne_108 q1 h1 M0 (mX3_tellLaw q1 2 M) hp
def mX3_tellOne_81 (q1 : Nat)  (k0 : Int32) (M : Mem) : Mem := (if k0 = 0 then (mX3_tellOne_99 q1 (b2i ((mX3_takesName 4 M).1)) ((mX3_takesName 4 M).2)) else (mX3_tellOne_90 q1 (mX3_tellLaw q1 1 M)))
def PX3_tellOne_81 (q1 : Nat)  (k0 : Int32) (M : Mem) : Prop := ((k0 = 0 → PX3_takesName 4 M ∧ (PX3_tellOne_99 q1 (b2i ((mX3_takesName 4 M).1)) ((mX3_takesName 4 M).2))) ∧ (¬ k0 = 0 → PX3_tellLaw q1 1 M ∧ (PX3_tellOne_90 q1 (mX3_tellLaw q1 1 M))))
set_option maxRecDepth 100000 in
theorem cX3_tellOne_81 (q1 : Nat) (h1 : TB q1)  (M0 : Mem) (k0 : Int32) (M : Mem) (hp : PX3_tellOne_81 q1 k0 M) : AWP (GV mtX3_tellOne 7 M0 (mX3_tellOne_81 q1 k0 M)) mtX3_tellOne 81 [(0, .ref 22), (1, .ref q1)] [.int k0] M := by
  unfold mX3_tellOne_81
  unfold PX3_tellOne_81 at hp
  refine r_ite (GV mtX3_tellOne 7 M0) (fun h_15 => ?_) (fun h_15 => ?_)
  · have hp := hp.1 h_15
    refine r_if_eq_t MF.bs (tgt := 93) dX3_tellOne_81 (by decide) h_15 ?_
    obtain ⟨hq_16, hp⟩ := hp
    refine r_aload_n MF.bs dX3_tellOne_93 rfl 0 rfl ?_
    refine r_ldcS MF.bs (i := 4) dX3_tellOne_94 rfl rfl ?_
    refine r_callV_v MF.bs (st := []) dX3_tellOne_96 (ctX3_takesName 4 (by decide) M hq_16) miX3_takesName wd_422 rfl (by decide) rfl (Nat.le_of_ble_eq_true rfl) rfl rfl rfl ?_
    exact cX3_tellOne_99 q1 h1 M0 (b2i ((mX3_takesName 4 M).1)) ((mX3_takesName 4 M).2) hp
  · have hp := hp.2 h_15
    refine r_if_eq_f MF.bs (tgt := 93) dX3_tellOne_81 (by decide) h_15 ?_
    obtain ⟨hq_17, hp⟩ := hp
    refine r_aload_n MF.bs dX3_tellOne_84 rfl 0 rfl ?_
    refine r_aload_n MF.bs dX3_tellOne_85 rfl 1 rfl ?_
    refine r_iconst MF.bs dX3_tellOne_86 (v := 1) (by decide) ?_
    refine r_callV_n MF.bs (st := []) dX3_tellOne_87 (ctX3_tellLaw q1 h1 1 M hq_17) miX3_tellLaw wd_439 rfl (by decide) rfl (Nat.le_of_ble_eq_true rfl) rfl rfl rfl ?_
    refine r_sub [(0, .ref 22)] [0] rfl ?_
    exact cX3_tellOne_90 q1 h1 M0 (mX3_tellLaw q1 1 M) hp
def mX3_tellOne_63 (q1 : Nat)  (k0 : Int32) (M : Mem) : Mem := (if k0 = 0 then (mX3_tellOne_81 q1 (b2i ((mX3_takesName 3 M).1)) ((mX3_takesName 3 M).2)) else (mX3_tellOne_72 q1 (mX3_tellLaw q1 0 M)))
def PX3_tellOne_63 (q1 : Nat)  (k0 : Int32) (M : Mem) : Prop := ((k0 = 0 → PX3_takesName 3 M ∧ (PX3_tellOne_81 q1 (b2i ((mX3_takesName 3 M).1)) ((mX3_takesName 3 M).2))) ∧ (¬ k0 = 0 → PX3_tellLaw q1 0 M ∧ (PX3_tellOne_72 q1 (mX3_tellLaw q1 0 M))))
set_option maxRecDepth 100000 in
theorem cX3_tellOne_63 (q1 : Nat) (h1 : TB q1)  (M0 : Mem) (k0 : Int32) (M : Mem) (hp : PX3_tellOne_63 q1 k0 M) : AWP (GV mtX3_tellOne 7 M0 (mX3_tellOne_63 q1 k0 M)) mtX3_tellOne 63 [(0, .ref 22), (1, .ref q1)] [.int k0] M := by
  unfold mX3_tellOne_63
  unfold PX3_tellOne_63 at hp
  refine r_ite (GV mtX3_tellOne 7 M0) (fun h_12 => ?_) (fun h_12 => ?_)
  · have hp := hp.1 h_12
    refine r_if_eq_t MF.bs (tgt := 75) dX3_tellOne_63 (by decide) h_12 ?_
    obtain ⟨hq_13, hp⟩ := hp
    refine r_aload_n MF.bs dX3_tellOne_75 rfl 0 rfl ?_
    refine r_ldcS MF.bs (i := 3) dX3_tellOne_76 rfl rfl ?_
    refine r_callV_v MF.bs (st := []) dX3_tellOne_78 (ctX3_takesName 3 (by decide) M hq_13) miX3_takesName wd_422 rfl (by decide) rfl (Nat.le_of_ble_eq_true rfl) rfl rfl rfl ?_
    exact cX3_tellOne_81 q1 h1 M0 (b2i ((mX3_takesName 3 M).1)) ((mX3_takesName 3 M).2) hp
  · have hp := hp.2 h_12
    refine r_if_eq_f MF.bs (tgt := 75) dX3_tellOne_63 (by decide) h_12 ?_
    obtain ⟨hq_14, hp⟩ := hp
    refine r_aload_n MF.bs dX3_tellOne_66 rfl 0 rfl ?_
    refine r_aload_n MF.bs dX3_tellOne_67 rfl 1 rfl ?_
    refine r_iconst MF.bs dX3_tellOne_68 (v := 0) (by decide) ?_
    refine r_callV_n MF.bs (st := []) dX3_tellOne_69 (ctX3_tellLaw q1 h1 0 M hq_14) miX3_tellLaw wd_439 rfl (by decide) rfl (Nat.le_of_ble_eq_true rfl) rfl rfl rfl ?_
    refine r_sub [(0, .ref 22)] [0] rfl ?_
    exact cX3_tellOne_72 q1 h1 M0 (mX3_tellLaw q1 0 M) hp
def mX3_tellOne_41 (q1 : Nat)  (k0 : Int32) (M : Mem) : Mem := (if k0 = 0 then (mX3_tellOne_63 q1 (b2i ((mX3_takesName 2 M).1)) ((mX3_takesName 2 M).2)) else (mX3_tellOne_51 q1 ((mX3_number 0 3 M).1) ((mX3_number 0 3 M).2)))
def PX3_tellOne_41 (q1 : Nat)  (k0 : Int32) (M : Mem) : Prop := ((k0 = 0 → PX3_takesName 2 M ∧ (PX3_tellOne_63 q1 (b2i ((mX3_takesName 2 M).1)) ((mX3_takesName 2 M).2))) ∧ (¬ k0 = 0 → PX3_number 0 3 M ∧ (PX3_tellOne_51 q1 ((mX3_number 0 3 M).1) ((mX3_number 0 3 M).2))))
set_option maxRecDepth 100000 in
theorem cX3_tellOne_41 (q1 : Nat) (h1 : TB q1)  (M0 : Mem) (k0 : Int32) (M : Mem) (hp : PX3_tellOne_41 q1 k0 M) : AWP (GV mtX3_tellOne 7 M0 (mX3_tellOne_41 q1 k0 M)) mtX3_tellOne 41 [(0, .ref 22), (1, .ref q1)] [.int k0] M := by
  unfold mX3_tellOne_41
  unfold PX3_tellOne_41 at hp
  refine r_ite (GV mtX3_tellOne 7 M0) (fun h_8 => ?_) (fun h_8 => ?_)
  · have hp := hp.1 h_8
    refine r_if_eq_t MF.bs (tgt := 57) dX3_tellOne_41 (by decide) h_8 ?_
    obtain ⟨hq_9, hp⟩ := hp
    refine r_aload_n MF.bs dX3_tellOne_57 rfl 0 rfl ?_
    refine r_ldcS MF.bs (i := 2) dX3_tellOne_58 rfl rfl ?_
    refine r_callV_v MF.bs (st := []) dX3_tellOne_60 (ctX3_takesName 2 (by decide) M hq_9) miX3_takesName wd_422 rfl (by decide) rfl (Nat.le_of_ble_eq_true rfl) rfl rfl rfl ?_
    exact cX3_tellOne_63 q1 h1 M0 (b2i ((mX3_takesName 2 M).1)) ((mX3_takesName 2 M).2) hp
  · have hp := hp.2 h_8
    refine r_if_eq_f MF.bs (tgt := 57) dX3_tellOne_41 (by decide) h_8 ?_
    obtain ⟨hq_10, hp⟩ := hp
    refine r_aload_n MF.bs dX3_tellOne_44 rfl 1 rfl ?_
    refine r_aload_n MF.bs dX3_tellOne_45 rfl 0 rfl ?_
    refine r_iconst MF.bs dX3_tellOne_46 (v := 0) (by decide) ?_
    refine r_iconst MF.bs dX3_tellOne_47 (v := 3) (by decide) ?_
    refine r_callV_v MF.bs (st := [.ref q1]) dX3_tellOne_48 (ctX3_number 0 3 M hq_10) miX3_number wd_412 rfl (by decide) rfl (Nat.le_of_ble_eq_true rfl) rfl rfl rfl ?_
    refine r_sub [(0, .ref 22)] [0] rfl ?_
    exact cX3_tellOne_51 q1 h1 M0 ((mX3_number 0 3 M).1) ((mX3_number 0 3 M).2) hp
def mX3_tellOne_24 (q1 : Nat)  (k0 : Int32) (M : Mem) : Mem := (if k0 = 0 then (mX3_tellOne_41 q1 (b2i ((mX3_takesName 1 M).1)) ((mX3_takesName 1 M).2)) else (mX3_tellOne_32 q1 (mX3_tellWet q1 M)))
def PX3_tellOne_24 (q1 : Nat)  (k0 : Int32) (M : Mem) : Prop := ((k0 = 0 → PX3_takesName 1 M ∧ (PX3_tellOne_41 q1 (b2i ((mX3_takesName 1 M).1)) ((mX3_takesName 1 M).2))) ∧ (¬ k0 = 0 → PX3_tellWet q1 M ∧ (PX3_tellOne_32 q1 (mX3_tellWet q1 M))))
set_option maxRecDepth 100000 in
theorem cX3_tellOne_24 (q1 : Nat) (h1 : TB q1)  (M0 : Mem) (k0 : Int32) (M : Mem) (hp : PX3_tellOne_24 q1 k0 M) : AWP (GV mtX3_tellOne 7 M0 (mX3_tellOne_24 q1 k0 M)) mtX3_tellOne 24 [(0, .ref 22), (1, .ref q1)] [.int k0] M := by
  unfold mX3_tellOne_24
  unfold PX3_tellOne_24 at hp
  refine r_ite (GV mtX3_tellOne 7 M0) (fun h_5 => ?_) (fun h_5 => ?_)
  · have hp := hp.1 h_5
    refine r_if_eq_t MF.bs (tgt := 35) dX3_tellOne_24 (by decide) h_5 ?_
    obtain ⟨hq_6, hp⟩ := hp
    refine r_aload_n MF.bs dX3_tellOne_35 rfl 0 rfl ?_
    refine r_ldcS MF.bs (i := 1) dX3_tellOne_36 rfl rfl ?_
    refine r_callV_v MF.bs (st := []) dX3_tellOne_38 (ctX3_takesName 1 (by decide) M hq_6) miX3_takesName wd_422 rfl (by decide) rfl (Nat.le_of_ble_eq_true rfl) rfl rfl rfl ?_
    exact cX3_tellOne_41 q1 h1 M0 (b2i ((mX3_takesName 1 M).1)) ((mX3_takesName 1 M).2) hp
  · have hp := hp.2 h_5
    refine r_if_eq_f MF.bs (tgt := 35) dX3_tellOne_24 (by decide) h_5 ?_
    obtain ⟨hq_7, hp⟩ := hp
    refine r_aload_n MF.bs dX3_tellOne_27 rfl 0 rfl ?_
    refine r_aload_n MF.bs dX3_tellOne_28 rfl 1 rfl ?_
    refine r_callV_n MF.bs (st := []) dX3_tellOne_29 (ctX3_tellWet q1 h1 M hq_7) miX3_tellWet wd_432 rfl (by decide) rfl (Nat.le_of_ble_eq_true rfl) rfl rfl rfl ?_
    refine r_sub [(0, .ref 22)] [0] rfl ?_
    exact cX3_tellOne_32 q1 h1 M0 (mX3_tellWet q1 M) hp
def mX3_tellOne (q1 : Nat) (M : Mem) : Mem := (if (mX3_kindHere M) < 0 then (mX3_tellOne_24 q1 (b2i ((mX3_takesName 0 M).1)) ((mX3_takesName 0 M).2)) else (mX3_tellOne_15 q1 (mX3_tellAir q1 (mX3_kindHere M) M)))
def PX3_tellOne (q1 : Nat) (M : Mem) : Prop := PX3_kindHere M ∧ ((((mX3_kindHere M) < 0 → PX3_takesName 0 M ∧ (PX3_tellOne_24 q1 (b2i ((mX3_takesName 0 M).1)) ((mX3_takesName 0 M).2))) ∧ (¬ (mX3_kindHere M) < 0 → PX3_tellAir q1 (mX3_kindHere M) M ∧ (PX3_tellOne_15 q1 (mX3_tellAir q1 (mX3_kindHere M) M)))))
set_option maxRecDepth 100000 in
theorem ctX3_tellOne (q1 : Nat) (h1 : TB q1) (M : Mem) (hp : PX3_tellOne q1 M) : CT mtX3_tellOne 7 [.ref 22, .ref q1] M (none, mX3_tellOne q1 M) := by
  refine CT.of (by decide) rfl (Nat.le_of_ble_eq_true rfl) ?_
  show AWP (GV mtX3_tellOne 7 M (mX3_tellOne q1 M)) mtX3_tellOne 0 [(0, .ref 22), (1, .ref q1)] [] M
  unfold mX3_tellOne
  unfold PX3_tellOne at hp
  obtain ⟨hq_1, hp⟩ := hp
  refine r_aload_n MF.bs dX3_tellOne_0 rfl 0 rfl ?_
  refine r_callV_v MF.bs (st := []) dX3_tellOne_1 (ctX3_kindHere M hq_1) miX3_kindHere wd_333 rfl (by decide) rfl (Nat.le_of_ble_eq_true rfl) rfl rfl rfl ?_
  refine r_istore_n MF.bs (lv' := [(2, .int (mX3_kindHere M)), (0, .ref 22), (1, .ref q1)]) dX3_tellOne_4 rfl (by decide) rfl ?_
  refine r_iload_n MF.bs dX3_tellOne_5 rfl 0 rfl ?_
  refine r_ite (GV mtX3_tellOne 7 M) (fun h_2 => ?_) (fun h_2 => ?_)
  · have hp := hp.1 h_2
    refine r_if_lt_t MF.bs (tgt := 18) dX3_tellOne_6 (by decide) h_2 ?_
    obtain ⟨hq_3, hp⟩ := hp
    refine r_aload_n MF.bs dX3_tellOne_18 rfl 1 rfl ?_
    refine r_ldcS MF.bs (i := 0) dX3_tellOne_19 rfl rfl ?_
    refine r_callV_v MF.bs (st := []) dX3_tellOne_21 (ctX3_takesName 0 (by decide) M hq_3) miX3_takesName wd_422 rfl (by decide) rfl (Nat.le_of_ble_eq_true rfl) rfl rfl rfl ?_
    refine r_sub [(0, .ref 22), (1, .ref q1)] [1, 2] rfl ?_
    exact cX3_tellOne_24 q1 h1 M (b2i ((mX3_takesName 0 M).1)) ((mX3_takesName 0 M).2) hp
  · have hp := hp.2 h_2
    refine r_if_lt_f MF.bs (tgt := 18) dX3_tellOne_6 (by decide) h_2 ?_
    obtain ⟨hq_4, hp⟩ := hp
    refine r_aload_n MF.bs dX3_tellOne_9 rfl 1 rfl ?_
    refine r_aload_n MF.bs dX3_tellOne_10 rfl 2 rfl ?_
    refine r_iload_n MF.bs dX3_tellOne_11 rfl 0 rfl ?_
    refine r_callV_n MF.bs (st := []) dX3_tellOne_12 (ctX3_tellAir q1 h1 (mX3_kindHere M) M hq_4) miX3_tellAir wd_399 rfl (by decide) rfl (Nat.le_of_ble_eq_true rfl) rfl rfl rfl ?_
    refine r_sub [(0, .ref 22)] [1] rfl ?_
    exact cX3_tellOne_15 q1 h1 M (mX3_tellAir q1 (mX3_kindHere M) M) hp
abbrev mtX3_tell : MT := (RX3, yX3_tell, cX3_tell, 3, (some .int))
theorem miX3_tell : MV mtX3_tell 1 := ⟨wd_324, ⟨wd_322, wd_323⟩, wd_82, ⟨by decide, by decide, by decide +kernel⟩, by decide⟩
def mX3_tell_50 (q1 : Nat)  (kf16 : Int32 → Mem → Int32 × Mem) (v2 : Int32) (M : Mem) : Int32 × Mem := (kf16 (v2 + 1) M)
def PX3_tell_50 (q1 : Nat)  (kP16 : Int32 → Mem → Prop) (v2 : Int32) (M : Mem) : Prop := kP16 (v2 + 1) M
set_option maxRecDepth 100000 in
theorem cX3_tell_50 (q1 : Nat) (h1 : TB q1)  (M0 : Mem) (kf16 : Int32 → Mem → Int32 × Mem) (kP16 : Int32 → Mem → Prop) (hk16 : ∀ (v2 : Int32) (M : Mem), kP16 v2 M → AWP (GIM mtX3_tell 8 M0 (kf16 v2 M)) mtX3_tell 16 [(0, .ref 22), (1, .ref q1), (2, .int v2)] [] M) (v2 : Int32) (M : Mem) (hp : PX3_tell_50 q1 kP16 v2 M) : AWP (GIM mtX3_tell 8 M0 (mX3_tell_50 q1 kf16 v2 M)) mtX3_tell 50 [(0, .ref 22), (1, .ref q1), (2, .int v2)] [] M := by
  unfold mX3_tell_50
  unfold PX3_tell_50 at hp
  refine r_iinc MF.bs (v := (v2 + 1)) (lv' := [(2, .int (v2 + 1)), (0, .ref 22), (1, .ref q1)]) dX3_tell_50 2 rfl rfl (by decide) rfl ?_
  refine r_goto MF.bs dX3_tell_53 (tgt := 16) (by decide) ?_
  refine r_sub [(0, .ref 22), (1, .ref q1), (2, .int (v2 + 1))] [1, 2, 0] rfl ?_
  exact hk16 (v2 + 1) M hp
def mX3_tell_46 (q1 : Nat)  (kf16 : Int32 → Mem → Int32 × Mem) (v2 : Int32) (M : Mem) : Int32 × Mem := (mX3_tell_50 q1 kf16 v2 (mX3_skipBlanks M))
def PX3_tell_46 (q1 : Nat)  (kP16 : Int32 → Mem → Prop) (v2 : Int32) (M : Mem) : Prop := PX3_skipBlanks M ∧ (PX3_tell_50 q1 kP16 v2 (mX3_skipBlanks M))
set_option maxRecDepth 100000 in
theorem cX3_tell_46 (q1 : Nat) (h1 : TB q1)  (M0 : Mem) (kf16 : Int32 → Mem → Int32 × Mem) (kP16 : Int32 → Mem → Prop) (hk16 : ∀ (v2 : Int32) (M : Mem), kP16 v2 M → AWP (GIM mtX3_tell 8 M0 (kf16 v2 M)) mtX3_tell 16 [(0, .ref 22), (1, .ref q1), (2, .int v2)] [] M) (v2 : Int32) (M : Mem) (hp : PX3_tell_46 q1 kP16 v2 M) : AWP (GIM mtX3_tell 8 M0 (mX3_tell_46 q1 kf16 v2 M)) mtX3_tell 46 [(0, .ref 22), (1, .ref q1), (2, .int v2)] [] M := by
  unfold mX3_tell_46
  unfold PX3_tell_46 at hp
  obtain ⟨hq_6, hp⟩ := hp
  refine r_aload_n MF.bs dX3_tell_46 rfl 0 rfl ?_
  refine r_callV_n MF.bs (st := []) dX3_tell_47 (ctX3_skipBlanks M hq_6) miX3_skipBlanks wd_325 rfl (by decide) rfl (Nat.le_of_ble_eq_true rfl) rfl rfl rfl ?_
  exact cX3_tell_50 q1 h1 M0 kf16 kP16 hk16 v2 (mX3_skipBlanks M) hp
def mX3_tell_56 (q1 : Nat)  (M : Mem) : Int32 × Mem := ((M 22 3), M)
def PX3_tell_56 (q1 : Nat)  (M : Mem) : Prop := True
set_option maxRecDepth 100000 in
theorem cX3_tell_56 (q1 : Nat) (h1 : TB q1)  (M0 : Mem) (M : Mem) (hp : PX3_tell_56 q1 M) : AWP (GIM mtX3_tell 8 M0 (mX3_tell_56 q1 M)) mtX3_tell 56 [(0, .ref 22)] [] M := by
  unfold mX3_tell_56
  unfold PX3_tell_56 at hp
  refine r_aload_n MF.bs dX3_tell_56 rfl 0 rfl ?_
  refine r_getI MF.bs dX3_tell_57 rfl rfl 3 (by decide) wd_169 rfl ?_
  exact r_iret dX3_tell_60 rfl
def mX3_tell_16 (q1 : Nat)  : Nat → Int32 → Mem → Int32 × Mem
  | 0, _, M => (0, M)
  | n + 1, v2, M => (if 200 ≤ v2 then (mX3_tell_56 q1 M) else (if (M 22 1) ≤ (M 22 2) then (mX3_tell_56 q1 M) else (if 0 ≤ (M 22 3) then (mX3_tell_56 q1 M) else (mX3_tell_46 q1 (mX3_tell_16 q1 n) v2 (mX3_tellOne q1 M)))))
def PX3_tell_16 (q1 : Nat)  : Nat → Int32 → Mem → Prop
  | 0, _, _ => False
  | n + 1, v2, M => ((200 ≤ v2 → PX3_tell_56 q1 M) ∧ (¬ 200 ≤ v2 → (((M 22 1) ≤ (M 22 2) → PX3_tell_56 q1 M) ∧ (¬ (M 22 1) ≤ (M 22 2) → ((0 ≤ (M 22 3) → PX3_tell_56 q1 M) ∧ (¬ 0 ≤ (M 22 3) → PX3_tellOne q1 M ∧ (PX3_tell_46 q1 (PX3_tell_16 q1 n) v2 (mX3_tellOne q1 M))))))))
set_option maxRecDepth 100000 in
theorem cX3_tell_16 (q1 : Nat) (h1 : TB q1)  (M0 : Mem) : ∀ (n : Nat) (v2 : Int32) (M : Mem), PX3_tell_16 q1 n v2 M → AWP (GIM mtX3_tell 8 M0 (mX3_tell_16 q1 n v2 M)) mtX3_tell 16 [(0, .ref 22), (1, .ref q1), (2, .int v2)] [] M := by
  intro n
  induction n with
  | zero =>
    intro v2 M hp
    exact hp.elim
  | succ n ih =>
    intro v2 M hp
    rw [mX3_tell_16]
    rw [PX3_tell_16] at hp
    refine r_iload_n MF.bs dX3_tell_16 rfl 2 rfl ?_
    refine r_sipush MF.bs dX3_tell_17 (v := 200) (by decide) ?_
    refine r_ite (GIM mtX3_tell 8 M0) (fun h_2 => ?_) (fun h_2 => ?_)
    · have hp := hp.1 h_2
      refine r_icmp_ge_t MF.bs (tgt := 56) dX3_tell_20 (by decide) h_2 ?_
      refine r_sub [(0, .ref 22)] [0] rfl ?_
      exact cX3_tell_56 q1 h1 M0 M hp
    · have hp := hp.2 h_2
      refine r_icmp_ge_f MF.bs (tgt := 56) dX3_tell_20 (by decide) h_2 ?_
      refine r_aload_n MF.bs dX3_tell_23 rfl 0 rfl ?_
      refine r_getI MF.bs dX3_tell_24 rfl rfl 2 (by decide) wd_168 rfl ?_
      refine r_aload_n MF.bs dX3_tell_27 rfl 0 rfl ?_
      refine r_getI MF.bs dX3_tell_28 rfl rfl 1 (by decide) wd_166 rfl ?_
      refine r_ite (GIM mtX3_tell 8 M0) (fun h_3 => ?_) (fun h_3 => ?_)
      · have hp := hp.1 h_3
        refine r_icmp_ge_t MF.bs (tgt := 56) dX3_tell_31 (by decide) h_3 ?_
        refine r_sub [(0, .ref 22)] [0] rfl ?_
        exact cX3_tell_56 q1 h1 M0 M hp
      · have hp := hp.2 h_3
        refine r_icmp_ge_f MF.bs (tgt := 56) dX3_tell_31 (by decide) h_3 ?_
        refine r_aload_n MF.bs dX3_tell_34 rfl 0 rfl ?_
        refine r_getI MF.bs dX3_tell_35 rfl rfl 3 (by decide) wd_169 rfl ?_
        refine r_ite (GIM mtX3_tell 8 M0) (fun h_4 => ?_) (fun h_4 => ?_)
        · have hp := hp.1 h_4
          refine r_if_ge_t MF.bs (tgt := 56) dX3_tell_38 (by decide) h_4 ?_
          refine r_sub [(0, .ref 22)] [0] rfl ?_
          exact cX3_tell_56 q1 h1 M0 M hp
        · have hp := hp.2 h_4
          refine r_if_ge_f MF.bs (tgt := 56) dX3_tell_38 (by decide) h_4 ?_
          obtain ⟨hq_5, hp⟩ := hp
          refine r_aload_n MF.bs dX3_tell_41 rfl 0 rfl ?_
          refine r_aload_n MF.bs dX3_tell_42 rfl 1 rfl ?_
          refine r_callV_n MF.bs (st := []) dX3_tell_43 (ctX3_tellOne q1 h1 M hq_5) miX3_tellOne wd_329 rfl (by decide) rfl (Nat.le_of_ble_eq_true rfl) rfl rfl rfl ?_
          exact cX3_tell_46 q1 h1 M0 (mX3_tell_16 q1 n) (PX3_tell_16 q1 n) ih v2 (mX3_tellOne q1 M) hp
def mX3_tell_14 (q1 : Nat)  (M : Mem) : Int32 × Mem := (mX3_tell_16 q1 400 0 M)
def PX3_tell_14 (q1 : Nat)  (M : Mem) : Prop := PX3_tell_16 q1 400 0 M
set_option maxRecDepth 100000 in
theorem cX3_tell_14 (q1 : Nat) (h1 : TB q1)  (M0 : Mem) (M : Mem) (hp : PX3_tell_14 q1 M) : AWP (GIM mtX3_tell 8 M0 (mX3_tell_14 q1 M)) mtX3_tell 14 [(0, .ref 22), (1, .ref q1)] [] M := by
  unfold mX3_tell_14
  unfold PX3_tell_14 at hp
  refine r_iconst MF.bs dX3_tell_14 (v := 0) (by decide) ?_
  refine r_istore_n MF.bs (lv' := [(2, .int 0), (0, .ref 22), (1, .ref q1)]) dX3_tell_15 rfl (by decide) rfl ?_
  refine r_sub [(0, .ref 22), (1, .ref q1), (2, .int 0)] [1, 2, 0] rfl ?_
  exact cX3_tell_16 q1 h1 M0 400 0 M hp
def mX3_tell (q1 : Nat) (M : Mem) : Int32 × Mem := (mX3_tell_14 q1 (mX3_skipBlanks (upm (upm M 22 2 0) 22 3 (-1))))
def PX3_tell (q1 : Nat) (M : Mem) : Prop := PX3_skipBlanks (upm (upm M 22 2 0) 22 3 (-1)) ∧ (PX3_tell_14 q1 (mX3_skipBlanks (upm (upm M 22 2 0) 22 3 (-1))))
set_option maxRecDepth 100000 in
theorem ctX3_tell (q1 : Nat) (h1 : TB q1) (M : Mem) (hp : PX3_tell q1 M) : CT mtX3_tell 8 [.ref 22, .ref q1] M (some (.int ((mX3_tell q1 M).1)), (mX3_tell q1 M).2) := by
  refine CT.of (by decide) rfl (Nat.le_of_ble_eq_true rfl) ?_
  show AWP (GIM mtX3_tell 8 M (mX3_tell q1 M)) mtX3_tell 0 [(0, .ref 22), (1, .ref q1)] [] M
  unfold mX3_tell
  unfold PX3_tell at hp
  obtain ⟨hq_1, hp⟩ := hp
  refine r_aload_n MF.bs dX3_tell_0 rfl 0 rfl ?_
  refine r_iconst MF.bs dX3_tell_1 (v := 0) (by decide) ?_
  refine r_putI MF.bs dX3_tell_2 rfl rfl 2 (by decide) wd_168 rfl rfl rfl rfl rfl ?_
  refine r_aload_n MF.bs dX3_tell_5 rfl 0 rfl ?_
  refine r_iconst MF.bs dX3_tell_6 (v := -1) (by decide) ?_
  refine r_putI MF.bs dX3_tell_7 rfl rfl 3 (by decide) wd_169 rfl rfl rfl rfl rfl ?_
  refine r_aload_n MF.bs dX3_tell_10 rfl 0 rfl ?_
  refine r_callV_n MF.bs (st := []) dX3_tell_11 (ctX3_skipBlanks (upm (upm M 22 2 0) 22 3 (-1)) hq_1) miX3_skipBlanks wd_325 rfl (by decide) rfl (Nat.le_of_ble_eq_true rfl) rfl rfl rfl ?_
  exact cX3_tell_14 q1 h1 M (mX3_skipBlanks (upm (upm M 22 2 0) 22 3 (-1))) hp
