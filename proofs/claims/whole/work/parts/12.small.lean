abbrev mtX1_isMissing : MT := (RX1, yX1_isMissing, cX1_isMissing, 1, (some .boolean))
theorem miX1_isMissing : MV mtX1_isMissing 0 := ⟨wd_705, ⟨wd_703, wd_704⟩, wd_84, ⟨by decide, by decide, by decide +kernel⟩, by decide⟩
def mX1_isMissing (b : Nat) (M : Mem) : Bool := (if (M b 1) = (-1) then true else false)
set_option maxRecDepth 100000 in
theorem ctX1_isMissing (b : Nat) (hb : QB b) (M : Mem) : CT mtX1_isMissing 0 [.ref b] M (some (.int (b2i (mX1_isMissing b M))), M) := by
  refine CT.of (by decide) rfl (Nat.le_of_ble_eq_true rfl) ?_
  show AWP (GB mtX1_isMissing 0 M M (mX1_isMissing b M)) mtX1_isMissing 0 [(0, .ref b)] [] M
  unfold mX1_isMissing
  refine r_aload_n MF.bs dX1_isMissing_0 rfl 0 rfl ?_
  refine r_getI MF.bs dX1_isMissing_1 (sh_q hb) rfl 1 (by decide) wd_218 rfl ?_
  refine r_iconst MF.bs dX1_isMissing_4 (v := -1) (by decide) ?_
  refine r_ite (GB mtX1_isMissing 0 M M) (fun h_1 => ?_) (fun h_1 => ?_)
  · refine r_icmp_ne_f MF.bs (tgt := 12) dX1_isMissing_5 (by decide) h_1 ?_
    refine r_iconst MF.bs dX1_isMissing_8 (v := 1) (by decide) ?_
    refine r_goto MF.bs dX1_isMissing_9 (tgt := 13) (by decide) ?_
    exact r_zret1 dX1_isMissing_13 rfl
  · refine r_icmp_ne_t MF.bs (tgt := 12) dX1_isMissing_5 (by decide) h_1 ?_
    refine r_iconst MF.bs dX1_isMissing_12 (v := 0) (by decide) ?_
    exact r_zret0 dX1_isMissing_13 rfl
abbrev mtX1_hasItem : MT := (RX1, yX1_hasItem, cX1_hasItem, 2, (some .boolean))
theorem miX1_hasItem : MV mtX1_hasItem 1 := ⟨wd_781, ⟨wd_779, wd_780⟩, wd_84, ⟨by decide, by decide, by decide +kernel⟩, by decide⟩
def mX1_hasItem (b : Nat) (a1 : Int32) (M : Mem) : Bool := (mX5_isWithin a1 0 ((M b 2) - 1))
set_option maxRecDepth 100000 in
theorem ctX1_hasItem (b : Nat) (hb : QB b) (a1 : Int32) (M : Mem) : CT mtX1_hasItem 1 [.ref b, .int a1] M (some (.int (b2i (mX1_hasItem b a1 M))), M) := by
  refine CT.of (by decide) rfl (Nat.le_of_ble_eq_true rfl) ?_
  show AWP (GB mtX1_hasItem 1 M M (mX1_hasItem b a1 M)) mtX1_hasItem 0 [(0, .ref b), (1, .int a1)] [] M
  unfold mX1_hasItem
  refine r_iload_n MF.bs dX1_hasItem_0 rfl 1 rfl ?_
  refine r_iconst MF.bs dX1_hasItem_1 (v := 0) (by decide) ?_
  refine r_aload_n MF.bs dX1_hasItem_2 rfl 0 rfl ?_
  refine r_getI MF.bs dX1_hasItem_3 (sh_q hb) rfl 2 (by decide) wd_221 rfl ?_
  refine r_iconst MF.bs dX1_hasItem_6 (v := 1) (by decide) ?_
  refine r_isub MF.bs dX1_hasItem_7 ?_
  refine r_callSN_v MF.bs (st := []) dX1_hasItem_8 (ctX5_isWithin a1 0 ((M b 2) - 1) M) miX5_isWithin nw_13 rfl (by decide) rfl (Nat.le_of_ble_eq_true rfl) ?_
  exact r_zret dX1_hasItem_11 rfl (b2i_nar _)
abbrev mtX1_becomeRow : MT := (RX1, yX1_becomeRow, cX1_becomeRow, 3, none)
theorem miX1_becomeRow : MV mtX1_becomeRow 2 := ⟨wd_772, ⟨wd_770, wd_771⟩, wd_84, ⟨by decide, by decide, by decide +kernel⟩, by decide⟩
def mX1_becomeRow_8 (b : Nat)  (v1 : Int32) (v2 : Int32) (M : Mem) : Mem := (upm (upm M b 1 v1) b 2 v2)
def PX1_becomeRow_8 (b : Nat)  (v1 : Int32) (v2 : Int32) (M : Mem) : Prop := True
set_option maxRecDepth 100000 in
theorem cX1_becomeRow_8 (b : Nat) (hb : QB b)  (M0 : Mem) (v1 : Int32) (v2 : Int32) (M : Mem) (hp : PX1_becomeRow_8 b v1 v2 M) : AWP (GV mtX1_becomeRow 1 M0 (mX1_becomeRow_8 b v1 v2 M)) mtX1_becomeRow 8 [(0, .ref b), (1, .int v1), (2, .int v2)] [] M := by
  unfold mX1_becomeRow_8
  unfold PX1_becomeRow_8 at hp
  refine r_aload_n MF.bs dX1_becomeRow_8 rfl 0 rfl ?_
  refine r_iload_n MF.bs dX1_becomeRow_9 rfl 1 rfl ?_
  refine r_putI MF.bs dX1_becomeRow_10 (sh_q hb) rfl 1 (by decide) wd_218 rfl rfl rfl rfl rfl ?_
  refine r_aload_n MF.bs dX1_becomeRow_13 rfl 0 rfl ?_
  refine r_iload_n MF.bs dX1_becomeRow_14 rfl 2 rfl ?_
  refine r_putI MF.bs dX1_becomeRow_15 (sh_q hb) rfl 2 (by decide) wd_221 rfl rfl rfl rfl rfl ?_
  exact r_vret dX1_becomeRow_18 rfl
def mX1_becomeRow (b : Nat) (a1 : Int32) (a2 : Int32) (M : Mem) : Mem := (mX1_becomeRow_8 b a1 a2 (mJ7_fill_53178 (b + 1) 40 0 M))
def PX1_becomeRow (b : Nat) (a1 : Int32) (a2 : Int32) (M : Mem) : Prop := PJ7_fill_53178 (b + 1) 40 0 M ∧ (PX1_becomeRow_8 b a1 a2 (mJ7_fill_53178 (b + 1) 40 0 M))
set_option maxRecDepth 100000 in
theorem ctX1_becomeRow (b : Nat) (hb : QB b) (a1 : Int32) (a2 : Int32) (M : Mem) (hp : PX1_becomeRow b a1 a2 M) : CT mtX1_becomeRow 1 [.ref b, .int a1, .int a2] M (none, mX1_becomeRow b a1 a2 M) := by
  refine CT.of (by decide) rfl (Nat.le_of_ble_eq_true rfl) ?_
  show AWP (GV mtX1_becomeRow 1 M (mX1_becomeRow b a1 a2 M)) mtX1_becomeRow 0 [(0, .ref b), (1, .int a1), (2, .int a2)] [] M
  unfold mX1_becomeRow
  unfold PX1_becomeRow at hp
  obtain ⟨hq_1, hp⟩ := hp
  refine r_aload_n MF.bs dX1_becomeRow_0 rfl 0 rfl ?_
  refine r_getR MF.bs dX1_becomeRow_1 (sh_q hb) rfl 0 (by decide) wd_216 rfl ?_
  refine r_iconst MF.bs dX1_becomeRow_4 (v := 0) (by decide) ?_
  refine r_callS_n MF.bs (st := []) dX1_becomeRow_5 (ctJ7_fill_53178 (b + 1) 40 (sh_q1 hb) 0 M hq_1) miJ7_fill_53178 wd_773 rfl (by decide) rfl (Nat.le_of_ble_eq_true rfl) ?_
  exact cX1_becomeRow_8 b hb M a1 a2 (mJ7_fill_53178 (b + 1) 40 0 M) hp
abbrev mtX1_narrowed : MT := (RX1, yX1_narrowed, cX1_narrowed, 2, (some .int))
theorem miX1_narrowed : MV mtX1_narrowed 1 := ⟨wd_786, ⟨wd_784, wd_785⟩, wd_84, ⟨by decide, by decide, by decide +kernel⟩, by decide⟩
def mX1_narrowed (b : Nat) (a1 : Int32) (M : Mem) : Int32 := (if (M b 1) = 0 then (a1 : Int32).toInt8.toInt32 else (if (M b 1) = 1 then (a1 : Int32).toInt16.toInt32 else a1))
set_option maxRecDepth 100000 in
theorem ctX1_narrowed (b : Nat) (hb : QB b) (a1 : Int32) (M : Mem) : CT mtX1_narrowed 0 [.ref b, .int a1] M (some (.int (mX1_narrowed b a1 M)), M) := by
  refine CT.of (by decide) rfl (Nat.le_of_ble_eq_true rfl) ?_
  show AWP (GI mtX1_narrowed 0 M M (mX1_narrowed b a1 M)) mtX1_narrowed 0 [(0, .ref b), (1, .int a1)] [] M
  unfold mX1_narrowed
  refine r_aload_n MF.bs dX1_narrowed_0 rfl 0 rfl ?_
  refine r_getI MF.bs dX1_narrowed_1 (sh_q hb) rfl 1 (by decide) wd_218 rfl ?_
  refine r_ite (GI mtX1_narrowed 0 M M) (fun h_1 => ?_) (fun h_1 => ?_)
  · refine r_lsw MF.bs (off := 28) (tgt := 32) dX1_narrowed_4 (by decide) (by rw [h_1]; try rfl) (by decide) ?_
    refine r_iload_n MF.bs dX1_narrowed_32 rfl 1 rfl ?_
    refine r_i2b MF.bs dX1_narrowed_33 ?_
    exact r_iret dX1_narrowed_34 rfl
  · refine r_ite (GI mtX1_narrowed 0 M M) (fun h_2 => ?_) (fun h_2 => ?_)
    · refine r_lsw MF.bs (off := 31) (tgt := 35) dX1_narrowed_4 (by decide) (by rw [h_2]; try rfl) (by decide) ?_
      refine r_iload_n MF.bs dX1_narrowed_35 rfl 1 rfl ?_
      refine r_i2s MF.bs dX1_narrowed_36 ?_
      exact r_iret dX1_narrowed_37 rfl
    · refine r_lsw MF.bs (off := 34) (tgt := 38) dX1_narrowed_4 (by decide) ((lv_osw h_1 (by decide)).trans ((lv_osw h_2 (by decide)).trans (rfl))) (by decide) ?_
      refine r_iload_n MF.bs dX1_narrowed_38 rfl 1 rfl ?_
      exact r_iret dX1_narrowed_39 rfl
abbrev mtX2_holdAir : MT := (RX2, yX2_holdAir, cX2_holdAir, 2, none)
theorem miX2_holdAir : MV mtX2_holdAir 1 := ⟨wd_802, ⟨wd_800, wd_801⟩, wd_85, ⟨by decide, by decide, by decide +kernel⟩, by decide⟩
def mX2_holdAir (b : Nat) (a1 : Int32) (M : Mem) : Mem := (upm (upm M b 0 0) b 1 a1)
set_option maxRecDepth 100000 in
theorem ctX2_holdAir (b : Nat) (hb : VB b) (a1 : Int32) (M : Mem) : CT mtX2_holdAir 0 [.ref b, .int a1] M (none, mX2_holdAir b a1 M) := by
  refine CT.of (by decide) rfl (Nat.le_of_ble_eq_true rfl) ?_
  show AWP (GV mtX2_holdAir 0 M (mX2_holdAir b a1 M)) mtX2_holdAir 0 [(0, .ref b), (1, .int a1)] [] M
  unfold mX2_holdAir
  refine r_aload_n MF.bs dX2_holdAir_0 rfl 0 rfl ?_
  refine r_iconst MF.bs dX2_holdAir_1 (v := 0) (by decide) ?_
  refine r_putI MF.bs dX2_holdAir_2 (sh_v hb) rfl 0 (by decide) wd_236 rfl rfl rfl rfl rfl ?_
  refine r_aload_n MF.bs dX2_holdAir_5 rfl 0 rfl ?_
  refine r_iload_n MF.bs dX2_holdAir_6 rfl 1 rfl ?_
  refine r_putI MF.bs dX2_holdAir_7 (sh_v hb) rfl 1 (by decide) wd_238 rfl rfl rfl rfl rfl ?_
  exact r_vret dX2_holdAir_10 rfl
abbrev mtX2_holdRow : MT := (RX2, yX2_holdRow, cX2_holdRow, 2, none)
theorem miX2_holdRow : MV mtX2_holdRow 1 := ⟨wd_806, ⟨wd_804, wd_805⟩, wd_85, ⟨by decide, by decide, by decide +kernel⟩, by decide⟩
def mX2_holdRow_13 (b : Nat) (q1 : Nat)  (k0 : Int32) (M : Mem) : Mem := (upm (upm (upm M b 0 k0) b 2 ((upm M b 0 k0) q1 1)) b 3 ((upm (upm M b 0 k0) b 2 ((upm M b 0 k0) q1 1)) q1 2))
def PX2_holdRow_13 (b : Nat) (q1 : Nat)  (k0 : Int32) (M : Mem) : Prop := True
set_option maxRecDepth 100000 in
theorem cX2_holdRow_13 (b : Nat) (q1 : Nat) (hb : VB b) (h1 : QB q1)  (M0 : Mem) (k0 : Int32) (M : Mem) (hp : PX2_holdRow_13 b q1 k0 M) : AWP (GV mtX2_holdRow 1 M0 (mX2_holdRow_13 b q1 k0 M)) mtX2_holdRow 13 [(0, .ref b), (1, .ref q1)] [.int k0, .ref b] M := by
  unfold mX2_holdRow_13
  unfold PX2_holdRow_13 at hp
  refine r_putI MF.bs dX2_holdRow_13 (sh_v hb) rfl 0 (by decide) wd_236 rfl rfl rfl rfl rfl ?_
  refine r_aload_n MF.bs dX2_holdRow_16 rfl 0 rfl ?_
  refine r_aload_n MF.bs dX2_holdRow_17 rfl 1 rfl ?_
  refine r_getI MF.bs dX2_holdRow_18 (sh_q h1) rfl 1 (by decide) wd_219 rfl ?_
  refine r_putI MF.bs dX2_holdRow_21 (sh_v hb) rfl 2 (by decide) wd_240 rfl rfl rfl rfl rfl ?_
  refine r_aload_n MF.bs dX2_holdRow_24 rfl 0 rfl ?_
  refine r_aload_n MF.bs dX2_holdRow_25 rfl 1 rfl ?_
  refine r_getI MF.bs dX2_holdRow_26 (sh_q h1) rfl 2 (by decide) wd_222 rfl ?_
  refine r_putI MF.bs dX2_holdRow_29 (sh_v hb) rfl 3 (by decide) wd_242 rfl rfl rfl rfl rfl ?_
  exact r_vret dX2_holdRow_32 rfl
def mX2_holdRow (b : Nat) (q1 : Nat) (M : Mem) : Mem := (if (mX1_isMissing q1 M) = true then (mX2_holdRow_13 b q1 2 M) else (mX2_holdRow_13 b q1 1 M))
def PX2_holdRow (b : Nat) (q1 : Nat) (M : Mem) : Prop := (((mX1_isMissing q1 M) = true → PX2_holdRow_13 b q1 2 M) ∧ (¬ (mX1_isMissing q1 M) = true → PX2_holdRow_13 b q1 1 M))
set_option maxRecDepth 100000 in
theorem ctX2_holdRow (b : Nat) (q1 : Nat) (hb : VB b) (h1 : QB q1) (M : Mem) (hp : PX2_holdRow b q1 M) : CT mtX2_holdRow 1 [.ref b, .ref q1] M (none, mX2_holdRow b q1 M) := by
  refine CT.of (by decide) rfl (Nat.le_of_ble_eq_true rfl) ?_
  show AWP (GV mtX2_holdRow 1 M (mX2_holdRow b q1 M)) mtX2_holdRow 0 [(0, .ref b), (1, .ref q1)] [] M
  unfold mX2_holdRow
  unfold PX2_holdRow at hp
  refine r_aload_n MF.bs dX2_holdRow_0 rfl 0 rfl ?_
  refine r_aload_n MF.bs dX2_holdRow_1 rfl 1 rfl ?_
  refine r_callV_v MF.bs (st := [.ref b]) dX2_holdRow_2 (ctX1_isMissing q1 h1 M) miX1_isMissing wd_807 rfl (by decide) rfl (Nat.le_of_ble_eq_true rfl) (sh_q h1) rfl rfl ?_
  refine r_ite (GV mtX2_holdRow 1 M) (fun h_1 => ?_) (fun h_1 => ?_)
  · have hp := hp.1 h_1
    refine r_if_eq_f MF.bs (tgt := 12) dX2_holdRow_5 (by decide) (b2i_1 h_1) ?_
    refine r_iconst MF.bs dX2_holdRow_8 (v := 2) (by decide) ?_
    refine r_goto MF.bs dX2_holdRow_9 (tgt := 13) (by decide) ?_
    exact cX2_holdRow_13 b q1 hb h1 M 2 M hp
  · have hp := hp.2 h_1
    refine r_if_eq_t MF.bs (tgt := 12) dX2_holdRow_5 (by decide) (b2i_0 h_1) ?_
    refine r_iconst MF.bs dX2_holdRow_12 (v := 1) (by decide) ?_
    exact cX2_holdRow_13 b q1 hb h1 M 1 M hp
abbrev mtX0_takeThing : MT := (RX0, yX0_takeThing, cX0_takeThing, 4, none)
theorem miX0_takeThing : MV mtX0_takeThing 3 := ⟨wd_826, ⟨wd_824, wd_825⟩, wd_83, ⟨by decide, by decide, by decide +kernel⟩, by decide⟩
def mX0_takeThing  (a1 : Int32) (a2 : Int32) (a3 : Int32) (M : Mem) : Mem := (upm (upm (upm M 26 3 a1) 26 4 a2) 26 5 a3)
set_option maxRecDepth 100000 in
theorem ctX0_takeThing   (a1 : Int32) (a2 : Int32) (a3 : Int32) (M : Mem) : CT mtX0_takeThing 0 [.ref 26, .int a1, .int a2, .int a3] M (none, mX0_takeThing a1 a2 a3 M) := by
  refine CT.of (by decide) rfl (Nat.le_of_ble_eq_true rfl) ?_
  show AWP (GV mtX0_takeThing 0 M (mX0_takeThing a1 a2 a3 M)) mtX0_takeThing 0 [(0, .ref 26), (1, .int a1), (2, .int a2), (3, .int a3)] [] M
  unfold mX0_takeThing
  refine r_aload_n MF.bs dX0_takeThing_0 rfl 0 rfl ?_
  refine r_iload_n MF.bs dX0_takeThing_1 rfl 1 rfl ?_
  refine r_putI MF.bs dX0_takeThing_2 rfl rfl 3 (by decide) wd_195 rfl rfl rfl rfl rfl ?_
  refine r_aload_n MF.bs dX0_takeThing_5 rfl 0 rfl ?_
  refine r_iload_n MF.bs dX0_takeThing_6 rfl 2 rfl ?_
  refine r_putI MF.bs dX0_takeThing_7 rfl rfl 4 (by decide) wd_196 rfl rfl rfl rfl rfl ?_
  refine r_aload_n MF.bs dX0_takeThing_10 rfl 0 rfl ?_
  refine r_iload_n MF.bs dX0_takeThing_11 rfl 3 rfl ?_
  refine r_putI MF.bs dX0_takeThing_12 rfl rfl 5 (by decide) wd_197 rfl rfl rfl rfl rfl ?_
  exact r_vret dX0_takeThing_15 rfl
abbrev mtX0_bodyOf : MT := (RX0, yX0_bodyOf, cX0_bodyOf, 3, (some .int))
theorem miX0_bodyOf : MV mtX0_bodyOf 1 := ⟨wd_834, ⟨wd_833, wd_26⟩, wd_83, ⟨by decide, by decide, by decide +kernel⟩, by decide⟩
def mX0_bodyOf  (a1 : Int32) (M : Mem) : Int32 := (if (mX5_isWithin (((M 26 3) * 4) + a1) 0 ((24 : Int32) - 1)) = true then (st_3 (((M 26 3) * 4) + a1)) else 0)
def PX0_bodyOf  (a1 : Int32) (M : Mem) : Prop := ((mX5_isWithin (((M 26 3) * 4) + a1) 0 ((24 : Int32) - 1)) = true → vp_in (((M 26 3) * 4) + a1) 24)
set_option maxRecDepth 100000 in
theorem ctX0_bodyOf   (a1 : Int32) (M : Mem) (hp : PX0_bodyOf a1 M) : CT mtX0_bodyOf 1 [.ref 26, .int a1] M (some (.int (mX0_bodyOf a1 M)), M) := by
  refine CT.of (by decide) rfl (Nat.le_of_ble_eq_true rfl) ?_
  show AWP (GI mtX0_bodyOf 1 M M (mX0_bodyOf a1 M)) mtX0_bodyOf 0 [(0, .ref 26), (1, .int a1)] [] M
  unfold mX0_bodyOf
  unfold PX0_bodyOf at hp
  refine r_aload_n MF.bs dX0_bodyOf_0 rfl 0 rfl ?_
  refine r_getI MF.bs dX0_bodyOf_1 rfl rfl 3 (by decide) wd_195 rfl ?_
  refine r_iconst MF.bs dX0_bodyOf_4 (v := 4) (by decide) ?_
  refine r_imul MF.bs dX0_bodyOf_5 ?_
  refine r_iload_n MF.bs dX0_bodyOf_6 rfl 1 rfl ?_
  refine r_iadd MF.bs dX0_bodyOf_7 ?_
  refine r_istore_n MF.bs (lv' := [(2, .int (((M 26 3) * 4) + a1)), (0, .ref 26), (1, .int a1)]) dX0_bodyOf_8 rfl (by decide) rfl ?_
  refine r_iload_n MF.bs dX0_bodyOf_9 rfl 0 rfl ?_
  refine r_iconst MF.bs dX0_bodyOf_10 (v := 0) (by decide) ?_
  refine r_gets MF.bs (i := 3) dX0_bodyOf_11 rfl wd_835 ?_
  refine r_tlen MF.bs dX0_bodyOf_14 (v := 24) rfl (by decide) ?_
  refine r_iconst MF.bs dX0_bodyOf_15 (v := 1) (by decide) ?_
  refine r_isub MF.bs dX0_bodyOf_16 ?_
  refine r_callSN_v MF.bs (st := []) dX0_bodyOf_17 (ctX5_isWithin (((M 26 3) * 4) + a1) 0 ((24 : Int32) - 1) M) miX5_isWithin nw_14 rfl (by decide) rfl (Nat.le_of_ble_eq_true rfl) ?_
  refine r_ite (GI mtX0_bodyOf 1 M M) (fun h_1 => ?_) (fun h_1 => ?_)
  · have hp := hp h_1
    refine r_if_eq_f MF.bs (tgt := 31) dX0_bodyOf_20 (by decide) (b2i_1 h_1) ?_
    have hq_2 := hp
    refine r_gets MF.bs (i := 3) dX0_bodyOf_23 rfl wd_835 ?_
    refine r_iload_n MF.bs dX0_bodyOf_26 rfl 0 rfl ?_
    refine r_tiald MF.bs dX0_bodyOf_27 rfl hq_2 ?_
    refine r_goto MF.bs dX0_bodyOf_28 (tgt := 32) (by decide) ?_
    exact r_iret dX0_bodyOf_32 rfl
  · refine r_if_eq_t MF.bs (tgt := 31) dX0_bodyOf_20 (by decide) (b2i_0 h_1) ?_
    refine r_iconst MF.bs dX0_bodyOf_31 (v := 0) (by decide) ?_
    exact r_iret dX0_bodyOf_32 rfl
abbrev mtX0_partedBy : MT := (RX0, yX0_partedBy, cX0_partedBy, 3, (some .int))
theorem miX0_partedBy : MV mtX0_partedBy 2 := ⟨wd_848, ⟨wd_847, wd_28⟩, wd_83, ⟨by decide, by decide, by decide +kernel⟩, by decide⟩
def mX0_partedBy  (a1 : Int32) (a2 : Int32) (M : Mem) : Int32 × Mem := (if a2 = 0 then (0, (upm M 26 2 1)) else ((a1 / a2), M))
def PX0_partedBy  (a1 : Int32) (a2 : Int32) (M : Mem) : Prop := (¬ a2 = 0 → ¬ a2 = 0)
set_option maxRecDepth 100000 in
theorem ctX0_partedBy   (a1 : Int32) (a2 : Int32) (M : Mem) (hp : PX0_partedBy a1 a2 M) : CT mtX0_partedBy 0 [.ref 26, .int a1, .int a2] M (some (.int ((mX0_partedBy a1 a2 M).1)), (mX0_partedBy a1 a2 M).2) := by
  refine CT.of (by decide) rfl (Nat.le_of_ble_eq_true rfl) ?_
  show AWP (GIM mtX0_partedBy 0 M (mX0_partedBy a1 a2 M)) mtX0_partedBy 0 [(0, .ref 26), (1, .int a1), (2, .int a2)] [] M
  unfold mX0_partedBy
  unfold PX0_partedBy at hp
  refine r_iload_n MF.bs dX0_partedBy_0 rfl 2 rfl ?_
  refine r_ite (GIM mtX0_partedBy 0 M) (fun h_1 => ?_) (fun h_1 => ?_)
  · refine r_if_ne_f MF.bs (tgt := 11) dX0_partedBy_1 (by decide) h_1 ?_
    refine r_aload_n MF.bs dX0_partedBy_4 rfl 0 rfl ?_
    refine r_iconst MF.bs dX0_partedBy_5 (v := 1) (by decide) ?_
    refine r_putI MF.bs dX0_partedBy_6 rfl rfl 2 (by decide) wd_193 rfl rfl rfl rfl rfl ?_
    refine r_iconst MF.bs dX0_partedBy_9 (v := 0) (by decide) ?_
    exact r_iret dX0_partedBy_10 rfl
  · have hp := hp h_1
    refine r_if_ne_t MF.bs (tgt := 11) dX0_partedBy_1 (by decide) h_1 ?_
    have hq_2 := hp
    refine r_iload_n MF.bs dX0_partedBy_11 rfl 1 rfl ?_
    refine r_iload_n MF.bs dX0_partedBy_12 rfl 2 rfl ?_
    refine r_idiv MF.bs dX0_partedBy_13 hq_2 ?_
    exact r_iret dX0_partedBy_14 rfl
abbrev mtX0_note : MT := (RX0, yX0_note, cX0_note, 2, none)
theorem miX0_note : MV mtX0_note 1 := ⟨wd_844, ⟨wd_843, wd_27⟩, wd_83, ⟨by decide, by decide, by decide +kernel⟩, by decide⟩
def mX0_note  (a1 : Int32) (M : Mem) : Mem := (if 30 ≤ (M 26 1) then M else (upm (upm M 27 (M 26 1).toNatClampNeg a1) 26 1 (((upm M 27 (M 26 1).toNatClampNeg a1) 26 1) + 1)))
def PX0_note  (a1 : Int32) (M : Mem) : Prop := (¬ 30 ≤ (M 26 1) → vp_in (M 26 1) 30)
set_option maxRecDepth 100000 in
theorem ctX0_note   (a1 : Int32) (M : Mem) (hp : PX0_note a1 M) : CT mtX0_note 0 [.ref 26, .int a1] M (none, mX0_note a1 M) := by
  refine CT.of (by decide) rfl (Nat.le_of_ble_eq_true rfl) ?_
  show AWP (GV mtX0_note 0 M (mX0_note a1 M)) mtX0_note 0 [(0, .ref 26), (1, .int a1)] [] M
  unfold mX0_note
  unfold PX0_note at hp
  refine r_aload_n MF.bs dX0_note_0 rfl 0 rfl ?_
  refine r_getI MF.bs dX0_note_1 rfl rfl 1 (by decide) wd_191 rfl ?_
  refine r_bipush MF.bs dX0_note_4 (v := 30) (by decide) ?_
  refine r_ite (GV mtX0_note 0 M) (fun h_1 => ?_) (fun h_1 => ?_)
  · refine r_icmp_ge_t MF.bs (tgt := 29) dX0_note_6 (by decide) h_1 ?_
    exact r_vret dX0_note_29 rfl
  · have hp := hp h_1
    refine r_icmp_ge_f MF.bs (tgt := 29) dX0_note_6 (by decide) h_1 ?_
    have hq_2 := hp
    refine r_aload_n MF.bs dX0_note_9 rfl 0 rfl ?_
    refine r_getR MF.bs dX0_note_10 rfl rfl 0 (by decide) wd_189 rfl ?_
    refine r_aload_n MF.bs dX0_note_13 rfl 0 rfl ?_
    refine r_getI MF.bs dX0_note_14 rfl rfl 1 (by decide) wd_191 rfl ?_
    refine r_iload_n MF.bs dX0_note_17 rfl 1 rfl ?_
    refine r_iastore MF.bs dX0_note_18 rfl hq_2 ?_
    refine r_aload_n MF.bs dX0_note_19 rfl 0 rfl ?_
    refine r_dup MF.bs dX0_note_20 rfl ?_
    refine r_getI MF.bs dX0_note_21 rfl rfl 1 (by decide) wd_191 rfl ?_
    refine r_iconst MF.bs dX0_note_24 (v := 1) (by decide) ?_
    refine r_iadd MF.bs dX0_note_25 ?_
    refine r_putI MF.bs dX0_note_26 rfl rfl 1 (by decide) wd_191 rfl rfl rfl rfl rfl ?_
    exact r_vret dX0_note_29 rfl
abbrev mtX0_run : MT := (RX0, yX0_run, cX0_run, 5, (some .int))
theorem miX0_run : MS mtX0_run 4 := ⟨wd_840, wd_839, wd_83, ⟨by decide, by decide, by decide +kernel⟩, by decide⟩
def mX0_run_270   (kfR : Int32 → Int32 → Int32 → Mem → Int32 × Mem) (k0 : Int32) (M : Mem) : Int32 × Mem := ((k0 - ((M 26 5) * 3)), M)
def PX0_run_270   (kfR : Int32 → Int32 → Int32 → Mem → Int32 × Mem) (kPR : Int32 → Int32 → Int32 → Mem → Prop) (k0 : Int32) (M : Mem) : Prop := True
set_option maxRecDepth 100000 in
theorem cX0_run_270    (n : Nat) (kfR : Int32 → Int32 → Int32 → Mem → Int32 × Mem) (kPR : Int32 → Int32 → Int32 → Mem → Prop) (hkR : ∀ (a1 a2 a3 : Int32) (M : Mem), kPR a1 a2 a3 M → CT mtX0_run (n + 2) [.ref 26, .int a1, .int a2, .int a3] M (some (.int (kfR a1 a2 a3 M).1), (kfR a1 a2 a3 M).2))  (M0 : Mem) (k0 : Int32) (M : Mem) (hp : PX0_run_270 kfR kPR k0 M) : AWP (GIM mtX0_run (n + 3) M0 (mX0_run_270 kfR k0 M)) mtX0_run 270 [(0, .ref 26)] [.int k0] M := by
  unfold mX0_run_270
  unfold PX0_run_270 at hp
  refine r_aload_n MF.bs dX0_run_270 rfl 0 rfl ?_
  refine r_getI MF.bs dX0_run_271 rfl rfl 5 (by decide) wd_197 rfl ?_
  refine r_iconst MF.bs dX0_run_274 (v := 3) (by decide) ?_
  refine r_imul MF.bs dX0_run_275 ?_
  refine r_isub MF.bs dX0_run_276 ?_
  exact r_iret dX0_run_277 rfl
def mX0_run_305   (kfR : Int32 → Int32 → Int32 → Mem → Int32 × Mem) (k0 : Int32) (M : Mem) : Int32 × Mem := ((k0 ^^^ 130), M)
def PX0_run_305   (kfR : Int32 → Int32 → Int32 → Mem → Int32 × Mem) (kPR : Int32 → Int32 → Int32 → Mem → Prop) (k0 : Int32) (M : Mem) : Prop := True
set_option maxRecDepth 100000 in
theorem cX0_run_305    (n : Nat) (kfR : Int32 → Int32 → Int32 → Mem → Int32 × Mem) (kPR : Int32 → Int32 → Int32 → Mem → Prop) (hkR : ∀ (a1 a2 a3 : Int32) (M : Mem), kPR a1 a2 a3 M → CT mtX0_run (n + 2) [.ref 26, .int a1, .int a2, .int a3] M (some (.int (kfR a1 a2 a3 M).1), (kfR a1 a2 a3 M).2))  (M0 : Mem) (k0 : Int32) (M : Mem) (hp : PX0_run_305 kfR kPR k0 M) : AWP (GIM mtX0_run (n + 3) M0 (mX0_run_305 kfR k0 M)) mtX0_run 305 [] [.int k0] M := by
  unfold mX0_run_305
  unfold PX0_run_305 at hp
  refine r_sipush MF.bs dX0_run_305 (v := 130) (by decide) ?_
  refine r_ixor MF.bs dX0_run_308 ?_
  exact r_iret dX0_run_309 rfl
def mX0_run_319   (kfR : Int32 → Int32 → Int32 → Mem → Int32 × Mem) (k0 : Int32) (M : Mem) : Int32 × Mem := ((k0 + 2), M)
def PX0_run_319   (kfR : Int32 → Int32 → Int32 → Mem → Int32 × Mem) (kPR : Int32 → Int32 → Int32 → Mem → Prop) (k0 : Int32) (M : Mem) : Prop := True
set_option maxRecDepth 100000 in
theorem cX0_run_319    (n : Nat) (kfR : Int32 → Int32 → Int32 → Mem → Int32 × Mem) (kPR : Int32 → Int32 → Int32 → Mem → Prop) (hkR : ∀ (a1 a2 a3 : Int32) (M : Mem), kPR a1 a2 a3 M → CT mtX0_run (n + 2) [.ref 26, .int a1, .int a2, .int a3] M (some (.int (kfR a1 a2 a3 M).1), (kfR a1 a2 a3 M).2))  (M0 : Mem) (k0 : Int32) (M : Mem) (hp : PX0_run_319 kfR kPR k0 M) : AWP (GIM mtX0_run (n + 3) M0 (mX0_run_319 kfR k0 M)) mtX0_run 319 [] [.int k0] M := by
  unfold mX0_run_319
  unfold PX0_run_319 at hp
  refine r_iconst MF.bs dX0_run_319 (v := 2) (by decide) ?_
  refine r_iadd MF.bs dX0_run_320 ?_
  exact r_iret dX0_run_321 rfl
def mX0_run_332   (kfR : Int32 → Int32 → Int32 → Mem → Int32 × Mem) (k0 : Int32) (k1 : Int32) (M : Mem) : Int32 × Mem := ((k1 - k0), M)
def PX0_run_332   (kfR : Int32 → Int32 → Int32 → Mem → Int32 × Mem) (kPR : Int32 → Int32 → Int32 → Mem → Prop) (k0 : Int32) (k1 : Int32) (M : Mem) : Prop := True
set_option maxRecDepth 100000 in
theorem cX0_run_332    (n : Nat) (kfR : Int32 → Int32 → Int32 → Mem → Int32 × Mem) (kPR : Int32 → Int32 → Int32 → Mem → Prop) (hkR : ∀ (a1 a2 a3 : Int32) (M : Mem), kPR a1 a2 a3 M → CT mtX0_run (n + 2) [.ref 26, .int a1, .int a2, .int a3] M (some (.int (kfR a1 a2 a3 M).1), (kfR a1 a2 a3 M).2))  (M0 : Mem) (k0 : Int32) (k1 : Int32) (M : Mem) (hp : PX0_run_332 kfR kPR k0 k1 M) : AWP (GIM mtX0_run (n + 3) M0 (mX0_run_332 kfR k0 k1 M)) mtX0_run 332 [] [.int k0, .int k1] M := by
  unfold mX0_run_332
  unfold PX0_run_332 at hp
  refine r_isub MF.bs dX0_run_332 ?_
  exact r_iret dX0_run_333 rfl
def mX0_run_358   (kfR : Int32 → Int32 → Int32 → Mem → Int32 × Mem) (k0 : Int32) (k1 : Int32) (M : Mem) : Int32 × Mem := ((k1 - k0), M)
def PX0_run_358   (kfR : Int32 → Int32 → Int32 → Mem → Int32 × Mem) (kPR : Int32 → Int32 → Int32 → Mem → Prop) (k0 : Int32) (k1 : Int32) (M : Mem) : Prop := True
set_option maxRecDepth 100000 in
theorem cX0_run_358    (n : Nat) (kfR : Int32 → Int32 → Int32 → Mem → Int32 × Mem) (kPR : Int32 → Int32 → Int32 → Mem → Prop) (hkR : ∀ (a1 a2 a3 : Int32) (M : Mem), kPR a1 a2 a3 M → CT mtX0_run (n + 2) [.ref 26, .int a1, .int a2, .int a3] M (some (.int (kfR a1 a2 a3 M).1), (kfR a1 a2 a3 M).2))  (M0 : Mem) (k0 : Int32) (k1 : Int32) (M : Mem) (hp : PX0_run_358 kfR kPR k0 k1 M) : AWP (GIM mtX0_run (n + 3) M0 (mX0_run_358 kfR k0 k1 M)) mtX0_run 358 [] [.int k0, .int k1] M := by
  unfold mX0_run_358
  unfold PX0_run_358 at hp
  refine r_isub MF.bs dX0_run_358 ?_
  exact r_iret dX0_run_359 rfl
def mX0_run_343   (kfR : Int32 → Int32 → Int32 → Mem → Int32 × Mem) (v4 : Int32) (k0 : Int32) (M : Mem) : Int32 × Mem := (mX0_run_358 kfR ((kfR (mX0_bodyOf 2 M) (M 26 4) v4 M).1) k0 ((kfR (mX0_bodyOf 2 M) (M 26 4) v4 M).2))
def PX0_run_343   (kfR : Int32 → Int32 → Int32 → Mem → Int32 × Mem) (kPR : Int32 → Int32 → Int32 → Mem → Prop) (v4 : Int32) (k0 : Int32) (M : Mem) : Prop := PX0_bodyOf 2 M ∧ (kPR (mX0_bodyOf 2 M) (M 26 4) v4 M ∧ (PX0_run_358 kfR kPR ((kfR (mX0_bodyOf 2 M) (M 26 4) v4 M).1) k0 ((kfR (mX0_bodyOf 2 M) (M 26 4) v4 M).2)))
set_option maxRecDepth 100000 in
theorem cX0_run_343    (n : Nat) (kfR : Int32 → Int32 → Int32 → Mem → Int32 × Mem) (kPR : Int32 → Int32 → Int32 → Mem → Prop) (hkR : ∀ (a1 a2 a3 : Int32) (M : Mem), kPR a1 a2 a3 M → CT mtX0_run (n + 2) [.ref 26, .int a1, .int a2, .int a3] M (some (.int (kfR a1 a2 a3 M).1), (kfR a1 a2 a3 M).2))  (M0 : Mem) (v4 : Int32) (k0 : Int32) (M : Mem) (hp : PX0_run_343 kfR kPR v4 k0 M) : AWP (GIM mtX0_run (n + 3) M0 (mX0_run_343 kfR v4 k0 M)) mtX0_run 343 [(0, .ref 26), (4, .int v4)] [.int k0] M := by
  unfold mX0_run_343
  unfold PX0_run_343 at hp
  obtain ⟨hq_70, hp⟩ := hp
  obtain ⟨hq_71, hp⟩ := hp
  refine r_aload_n MF.bs dX0_run_343 rfl 0 rfl ?_
  refine r_aload_n MF.bs dX0_run_344 rfl 0 rfl ?_
  refine r_iconst MF.bs dX0_run_345 (v := 2) (by decide) ?_
  refine r_callV_v MF.bs (st := [.ref 26, .int k0]) dX0_run_346 (ctX0_bodyOf 2 M hq_70) miX0_bodyOf wd_831 rfl (by omega) rfl (Nat.le_of_ble_eq_true rfl) rfl rfl rfl ?_
  refine r_aload_n MF.bs dX0_run_349 rfl 0 rfl ?_
  refine r_getI MF.bs dX0_run_350 rfl rfl 4 (by decide) wd_196 rfl ?_
  refine r_iload MF.bs dX0_run_353 1 rfl ?_
  refine r_callS_v MF.bs (st := [.int k0]) dX0_run_355 (hkR (mX0_bodyOf 2 M) (M 26 4) v4 M hq_71) miX0_run wd_838 rfl (by omega) rfl (Nat.le_of_ble_eq_true rfl) ?_
  refine r_sub [] [] rfl ?_
  exact cX0_run_358 n kfR kPR hkR M0 ((kfR (mX0_bodyOf 2 M) (M 26 4) v4 M).1) k0 ((kfR (mX0_bodyOf 2 M) (M 26 4) v4 M).2) hp
def mX0_run_369   (kfR : Int32 → Int32 → Int32 → Mem → Int32 × Mem) (k0 : Int32) (M : Mem) : Int32 × Mem := ((k0 + 6), M)
def PX0_run_369   (kfR : Int32 → Int32 → Int32 → Mem → Int32 × Mem) (kPR : Int32 → Int32 → Int32 → Mem → Prop) (k0 : Int32) (M : Mem) : Prop := True
set_option maxRecDepth 100000 in
theorem cX0_run_369    (n : Nat) (kfR : Int32 → Int32 → Int32 → Mem → Int32 × Mem) (kPR : Int32 → Int32 → Int32 → Mem → Prop) (hkR : ∀ (a1 a2 a3 : Int32) (M : Mem), kPR a1 a2 a3 M → CT mtX0_run (n + 2) [.ref 26, .int a1, .int a2, .int a3] M (some (.int (kfR a1 a2 a3 M).1), (kfR a1 a2 a3 M).2))  (M0 : Mem) (k0 : Int32) (M : Mem) (hp : PX0_run_369 kfR kPR k0 M) : AWP (GIM mtX0_run (n + 3) M0 (mX0_run_369 kfR k0 M)) mtX0_run 369 [] [.int k0] M := by
  unfold mX0_run_369
  unfold PX0_run_369 at hp
  refine r_bipush MF.bs dX0_run_369 (v := 6) (by decide) ?_
  refine r_iadd MF.bs dX0_run_371 ?_
  exact r_iret dX0_run_372 rfl
def mX0_run_397   (kfR : Int32 → Int32 → Int32 → Mem → Int32 × Mem) (k0 : Int32) (k1 : Int32) (M : Mem) : Int32 × Mem := ((k1 ^^^ k0), M)
def PX0_run_397   (kfR : Int32 → Int32 → Int32 → Mem → Int32 × Mem) (kPR : Int32 → Int32 → Int32 → Mem → Prop) (k0 : Int32) (k1 : Int32) (M : Mem) : Prop := True
set_option maxRecDepth 100000 in
theorem cX0_run_397    (n : Nat) (kfR : Int32 → Int32 → Int32 → Mem → Int32 × Mem) (kPR : Int32 → Int32 → Int32 → Mem → Prop) (hkR : ∀ (a1 a2 a3 : Int32) (M : Mem), kPR a1 a2 a3 M → CT mtX0_run (n + 2) [.ref 26, .int a1, .int a2, .int a3] M (some (.int (kfR a1 a2 a3 M).1), (kfR a1 a2 a3 M).2))  (M0 : Mem) (k0 : Int32) (k1 : Int32) (M : Mem) (hp : PX0_run_397 kfR kPR k0 k1 M) : AWP (GIM mtX0_run (n + 3) M0 (mX0_run_397 kfR k0 k1 M)) mtX0_run 397 [] [.int k0, .int k1] M := by
  unfold mX0_run_397
  unfold PX0_run_397 at hp
  refine r_ixor MF.bs dX0_run_397 ?_
  exact r_iret dX0_run_398 rfl
def mX0_run_382   (kfR : Int32 → Int32 → Int32 → Mem → Int32 × Mem) (v4 : Int32) (k0 : Int32) (M : Mem) : Int32 × Mem := (mX0_run_397 kfR ((kfR (mX0_bodyOf 0 M) (M 26 5) v4 M).1) k0 ((kfR (mX0_bodyOf 0 M) (M 26 5) v4 M).2))
def PX0_run_382   (kfR : Int32 → Int32 → Int32 → Mem → Int32 × Mem) (kPR : Int32 → Int32 → Int32 → Mem → Prop) (v4 : Int32) (k0 : Int32) (M : Mem) : Prop := PX0_bodyOf 0 M ∧ (kPR (mX0_bodyOf 0 M) (M 26 5) v4 M ∧ (PX0_run_397 kfR kPR ((kfR (mX0_bodyOf 0 M) (M 26 5) v4 M).1) k0 ((kfR (mX0_bodyOf 0 M) (M 26 5) v4 M).2)))
set_option maxRecDepth 100000 in
theorem cX0_run_382    (n : Nat) (kfR : Int32 → Int32 → Int32 → Mem → Int32 × Mem) (kPR : Int32 → Int32 → Int32 → Mem → Prop) (hkR : ∀ (a1 a2 a3 : Int32) (M : Mem), kPR a1 a2 a3 M → CT mtX0_run (n + 2) [.ref 26, .int a1, .int a2, .int a3] M (some (.int (kfR a1 a2 a3 M).1), (kfR a1 a2 a3 M).2))  (M0 : Mem) (v4 : Int32) (k0 : Int32) (M : Mem) (hp : PX0_run_382 kfR kPR v4 k0 M) : AWP (GIM mtX0_run (n + 3) M0 (mX0_run_382 kfR v4 k0 M)) mtX0_run 382 [(0, .ref 26), (4, .int v4)] [.int k0] M := by
  unfold mX0_run_382
  unfold PX0_run_382 at hp
  obtain ⟨hq_72, hp⟩ := hp
  obtain ⟨hq_73, hp⟩ := hp
  refine r_aload_n MF.bs dX0_run_382 rfl 0 rfl ?_
  refine r_aload_n MF.bs dX0_run_383 rfl 0 rfl ?_
  refine r_iconst MF.bs dX0_run_384 (v := 0) (by decide) ?_
  refine r_callV_v MF.bs (st := [.ref 26, .int k0]) dX0_run_385 (ctX0_bodyOf 0 M hq_72) miX0_bodyOf wd_831 rfl (by omega) rfl (Nat.le_of_ble_eq_true rfl) rfl rfl rfl ?_
  refine r_aload_n MF.bs dX0_run_388 rfl 0 rfl ?_
  refine r_getI MF.bs dX0_run_389 rfl rfl 5 (by decide) wd_197 rfl ?_
  refine r_iload MF.bs dX0_run_392 1 rfl ?_
  refine r_callS_v MF.bs (st := [.int k0]) dX0_run_394 (hkR (mX0_bodyOf 0 M) (M 26 5) v4 M hq_73) miX0_run wd_838 rfl (by omega) rfl (Nat.le_of_ble_eq_true rfl) ?_
  refine r_sub [] [] rfl ?_
  exact cX0_run_397 n kfR kPR hkR M0 ((kfR (mX0_bodyOf 0 M) (M 26 5) v4 M).1) k0 ((kfR (mX0_bodyOf 0 M) (M 26 5) v4 M).2) hp
def mX0_run_413   (kfR : Int32 → Int32 → Int32 → Mem → Int32 × Mem) (k0 : Int32) (M : Mem) : Int32 × Mem := ((k0 * 2), M)
def PX0_run_413   (kfR : Int32 → Int32 → Int32 → Mem → Int32 × Mem) (kPR : Int32 → Int32 → Int32 → Mem → Prop) (k0 : Int32) (M : Mem) : Prop := True
set_option maxRecDepth 100000 in
theorem cX0_run_413    (n : Nat) (kfR : Int32 → Int32 → Int32 → Mem → Int32 × Mem) (kPR : Int32 → Int32 → Int32 → Mem → Prop) (hkR : ∀ (a1 a2 a3 : Int32) (M : Mem), kPR a1 a2 a3 M → CT mtX0_run (n + 2) [.ref 26, .int a1, .int a2, .int a3] M (some (.int (kfR a1 a2 a3 M).1), (kfR a1 a2 a3 M).2))  (M0 : Mem) (k0 : Int32) (M : Mem) (hp : PX0_run_413 kfR kPR k0 M) : AWP (GIM mtX0_run (n + 3) M0 (mX0_run_413 kfR k0 M)) mtX0_run 413 [] [.int k0] M := by
  unfold mX0_run_413
  unfold PX0_run_413 at hp
  refine r_iconst MF.bs dX0_run_413 (v := 2) (by decide) ?_
  refine r_imul MF.bs dX0_run_414 ?_
  exact r_iret dX0_run_415 rfl
def mX0_run_425   (kfR : Int32 → Int32 → Int32 → Mem → Int32 × Mem) (k0 : Int32) (M : Mem) : Int32 × Mem := ((k0 + (M 26 4)), M)
def PX0_run_425   (kfR : Int32 → Int32 → Int32 → Mem → Int32 × Mem) (kPR : Int32 → Int32 → Int32 → Mem → Prop) (k0 : Int32) (M : Mem) : Prop := True
set_option maxRecDepth 100000 in
theorem cX0_run_425    (n : Nat) (kfR : Int32 → Int32 → Int32 → Mem → Int32 × Mem) (kPR : Int32 → Int32 → Int32 → Mem → Prop) (hkR : ∀ (a1 a2 a3 : Int32) (M : Mem), kPR a1 a2 a3 M → CT mtX0_run (n + 2) [.ref 26, .int a1, .int a2, .int a3] M (some (.int (kfR a1 a2 a3 M).1), (kfR a1 a2 a3 M).2))  (M0 : Mem) (k0 : Int32) (M : Mem) (hp : PX0_run_425 kfR kPR k0 M) : AWP (GIM mtX0_run (n + 3) M0 (mX0_run_425 kfR k0 M)) mtX0_run 425 [(0, .ref 26)] [.int k0] M := by
  unfold mX0_run_425
  unfold PX0_run_425 at hp
  refine r_aload_n MF.bs dX0_run_425 rfl 0 rfl ?_
  refine r_getI MF.bs dX0_run_426 rfl rfl 4 (by decide) wd_196 rfl ?_
  refine r_iadd MF.bs dX0_run_429 ?_
  exact r_iret dX0_run_430 rfl
def mX0_run_440   (kfR : Int32 → Int32 → Int32 → Mem → Int32 × Mem) (k0 : Int32) (M : Mem) : Int32 × Mem := ((k0 * 3), M)
def PX0_run_440   (kfR : Int32 → Int32 → Int32 → Mem → Int32 × Mem) (kPR : Int32 → Int32 → Int32 → Mem → Prop) (k0 : Int32) (M : Mem) : Prop := True
set_option maxRecDepth 100000 in
theorem cX0_run_440    (n : Nat) (kfR : Int32 → Int32 → Int32 → Mem → Int32 × Mem) (kPR : Int32 → Int32 → Int32 → Mem → Prop) (hkR : ∀ (a1 a2 a3 : Int32) (M : Mem), kPR a1 a2 a3 M → CT mtX0_run (n + 2) [.ref 26, .int a1, .int a2, .int a3] M (some (.int (kfR a1 a2 a3 M).1), (kfR a1 a2 a3 M).2))  (M0 : Mem) (k0 : Int32) (M : Mem) (hp : PX0_run_440 kfR kPR k0 M) : AWP (GIM mtX0_run (n + 3) M0 (mX0_run_440 kfR k0 M)) mtX0_run 440 [] [.int k0] M := by
  unfold mX0_run_440
  unfold PX0_run_440 at hp
  refine r_iconst MF.bs dX0_run_440 (v := 3) (by decide) ?_
  refine r_imul MF.bs dX0_run_441 ?_
  exact r_iret dX0_run_442 rfl
def mX0_run_467   (kfR : Int32 → Int32 → Int32 → Mem → Int32 × Mem) (k0 : Int32) (k1 : Int32) (M : Mem) : Int32 × Mem := ((k1 + k0), M)
def PX0_run_467   (kfR : Int32 → Int32 → Int32 → Mem → Int32 × Mem) (kPR : Int32 → Int32 → Int32 → Mem → Prop) (k0 : Int32) (k1 : Int32) (M : Mem) : Prop := True
set_option maxRecDepth 100000 in
theorem cX0_run_467    (n : Nat) (kfR : Int32 → Int32 → Int32 → Mem → Int32 × Mem) (kPR : Int32 → Int32 → Int32 → Mem → Prop) (hkR : ∀ (a1 a2 a3 : Int32) (M : Mem), kPR a1 a2 a3 M → CT mtX0_run (n + 2) [.ref 26, .int a1, .int a2, .int a3] M (some (.int (kfR a1 a2 a3 M).1), (kfR a1 a2 a3 M).2))  (M0 : Mem) (k0 : Int32) (k1 : Int32) (M : Mem) (hp : PX0_run_467 kfR kPR k0 k1 M) : AWP (GIM mtX0_run (n + 3) M0 (mX0_run_467 kfR k0 k1 M)) mtX0_run 467 [] [.int k0, .int k1] M := by
  unfold mX0_run_467
  unfold PX0_run_467 at hp
  refine r_iadd MF.bs dX0_run_467 ?_
  exact r_iret dX0_run_468 rfl
def mX0_run_452   (kfR : Int32 → Int32 → Int32 → Mem → Int32 × Mem) (v4 : Int32) (k0 : Int32) (M : Mem) : Int32 × Mem := (mX0_run_467 kfR ((kfR (mX0_bodyOf 0 M) (M 26 4) v4 M).1) k0 ((kfR (mX0_bodyOf 0 M) (M 26 4) v4 M).2))
def PX0_run_452   (kfR : Int32 → Int32 → Int32 → Mem → Int32 × Mem) (kPR : Int32 → Int32 → Int32 → Mem → Prop) (v4 : Int32) (k0 : Int32) (M : Mem) : Prop := PX0_bodyOf 0 M ∧ (kPR (mX0_bodyOf 0 M) (M 26 4) v4 M ∧ (PX0_run_467 kfR kPR ((kfR (mX0_bodyOf 0 M) (M 26 4) v4 M).1) k0 ((kfR (mX0_bodyOf 0 M) (M 26 4) v4 M).2)))
set_option maxRecDepth 100000 in
theorem cX0_run_452    (n : Nat) (kfR : Int32 → Int32 → Int32 → Mem → Int32 × Mem) (kPR : Int32 → Int32 → Int32 → Mem → Prop) (hkR : ∀ (a1 a2 a3 : Int32) (M : Mem), kPR a1 a2 a3 M → CT mtX0_run (n + 2) [.ref 26, .int a1, .int a2, .int a3] M (some (.int (kfR a1 a2 a3 M).1), (kfR a1 a2 a3 M).2))  (M0 : Mem) (v4 : Int32) (k0 : Int32) (M : Mem) (hp : PX0_run_452 kfR kPR v4 k0 M) : AWP (GIM mtX0_run (n + 3) M0 (mX0_run_452 kfR v4 k0 M)) mtX0_run 452 [(0, .ref 26), (4, .int v4)] [.int k0] M := by
  unfold mX0_run_452
  unfold PX0_run_452 at hp
  obtain ⟨hq_74, hp⟩ := hp
  obtain ⟨hq_75, hp⟩ := hp
  refine r_aload_n MF.bs dX0_run_452 rfl 0 rfl ?_
  refine r_aload_n MF.bs dX0_run_453 rfl 0 rfl ?_
  refine r_iconst MF.bs dX0_run_454 (v := 0) (by decide) ?_
  refine r_callV_v MF.bs (st := [.ref 26, .int k0]) dX0_run_455 (ctX0_bodyOf 0 M hq_74) miX0_bodyOf wd_831 rfl (by omega) rfl (Nat.le_of_ble_eq_true rfl) rfl rfl rfl ?_
  refine r_aload_n MF.bs dX0_run_458 rfl 0 rfl ?_
  refine r_getI MF.bs dX0_run_459 rfl rfl 4 (by decide) wd_196 rfl ?_
  refine r_iload MF.bs dX0_run_462 1 rfl ?_
  refine r_callS_v MF.bs (st := [.int k0]) dX0_run_464 (hkR (mX0_bodyOf 0 M) (M 26 4) v4 M hq_75) miX0_run wd_838 rfl (by omega) rfl (Nat.le_of_ble_eq_true rfl) ?_
  refine r_sub [] [] rfl ?_
  exact cX0_run_467 n kfR kPR hkR M0 ((kfR (mX0_bodyOf 0 M) (M 26 4) v4 M).1) k0 ((kfR (mX0_bodyOf 0 M) (M 26 4) v4 M).2) hp
def mX0_run_20   (kfR : Int32 → Int32 → Int32 → Mem → Int32 × Mem) (v1 : Int32) (v2 : Int32) (v3 : Int32) (M : Mem) : Int32 × Mem := (if v1 = 10 then (((v2 * 9) + (M 26 4)), M) else (if v1 = 11 then (mX0_run_270 kfR ((kfR (mX0_bodyOf 0 M) v2 (v3 + 1) M).1) ((kfR (mX0_bodyOf 0 M) v2 (v3 + 1) M).2)) else (if v1 = 12 then ((mX0_partedBy v2 ((M 26 5) - (M 26 4)) M).1, (mX0_partedBy v2 ((M 26 5) - (M 26 4)) M).2) else (if v1 = 13 then (mX0_run_305 kfR ((kfR (mX0_bodyOf 1 M) v2 (v3 + 1) M).1) ((kfR (mX0_bodyOf 1 M) v2 (v3 + 1) M).2)) else (if v1 = 14 then (0, M) else (if v1 = 15 then (0, M) else (if v1 = 16 then (0, M) else (if v1 = 17 then (0, M) else (if v1 = 18 then (0, M) else (if v1 = 19 then (0, M) else (if v1 = 20 then (mX0_run_319 kfR ((kfR 11 v2 (v3 + 1) M).1) ((kfR 11 v2 (v3 + 1) M).2)) else (if v1 = 21 then (0, M) else (if v1 = 22 then (0, M) else (if v1 = 23 then (0, M) else (if v1 = 24 then (0, M) else (if v1 = 25 then (0, M) else (if v1 = 26 then (0, M) else (if v1 = 27 then (0, M) else (if v1 = 28 then (0, M) else (if v1 = 29 then (0, M) else (if v1 = 30 then (mX0_run_332 kfR ((kfR 10 v2 (v3 + 1) M).1) 0 ((kfR 10 v2 (v3 + 1) M).2)) else (if v1 = 31 then (mX0_run_343 kfR (v3 + 1) ((kfR 13 v2 (v3 + 1) M).1) ((kfR 13 v2 (v3 + 1) M).2)) else (if v1 = 32 then (0, M) else (if v1 = 33 then (0, M) else (if v1 = 34 then (0, M) else (if v1 = 35 then (0, M) else (if v1 = 36 then (0, M) else (if v1 = 37 then (0, M) else (if v1 = 38 then (0, M) else (if v1 = 39 then (0, M) else (if v1 = 40 then (mX0_run_369 kfR ((kfR 30 v2 (v3 + 1) M).1) ((kfR 30 v2 (v3 + 1) M).2)) else (if v1 = 41 then (mX0_run_382 kfR (v3 + 1) ((kfR 11 v2 (v3 + 1) M).1) ((kfR 11 v2 (v3 + 1) M).2)) else (if v1 = 42 then (0, M) else (if v1 = 43 then (0, M) else (if v1 = 44 then (0, M) else (if v1 = 45 then (0, M) else (if v1 = 46 then (0, M) else (if v1 = 47 then (0, M) else (if v1 = 48 then (0, M) else (if v1 = 49 then (0, M) else (if v1 = 50 then (mX0_run_413 kfR ((kfR 12 (v2 - (M 26 5)) (v3 + 1) M).1) ((kfR 12 (v2 - (M 26 5)) (v3 + 1) M).2)) else (if v1 = 51 then (mX0_run_425 kfR ((kfR 10 v2 (v3 + 1) M).1) ((kfR 10 v2 (v3 + 1) M).2)) else (if v1 = 52 then (0, M) else (if v1 = 53 then (0, M) else (if v1 = 54 then (0, M) else (if v1 = 55 then (0, M) else (if v1 = 56 then (0, M) else (if v1 = 57 then (0, M) else (if v1 = 58 then (0, M) else (if v1 = 59 then (0, M) else (if v1 = 60 then (mX0_run_440 kfR ((kfR 13 v2 (v3 + 1) M).1) ((kfR 13 v2 (v3 + 1) M).2)) else (if v1 = 61 then (mX0_run_452 kfR (v3 + 1) ((kfR 12 v2 (v3 + 1) M).1) ((kfR 12 v2 (v3 + 1) M).2)) else (0, M)))))))))))))))))))))))))))))))))))))))))))))))))))))
def PX0_run_20   (kfR : Int32 → Int32 → Int32 → Mem → Int32 × Mem) (kPR : Int32 → Int32 → Int32 → Mem → Prop) (v1 : Int32) (v2 : Int32) (v3 : Int32) (M : Mem) : Prop := (¬ v1 = 10 → ((v1 = 11 → PX0_bodyOf 0 M ∧ (kPR (mX0_bodyOf 0 M) v2 (v3 + 1) M ∧ (PX0_run_270 kfR kPR ((kfR (mX0_bodyOf 0 M) v2 (v3 + 1) M).1) ((kfR (mX0_bodyOf 0 M) v2 (v3 + 1) M).2)))) ∧ (¬ v1 = 11 → ((v1 = 12 → PX0_partedBy v2 ((M 26 5) - (M 26 4)) M) ∧ (¬ v1 = 12 → ((v1 = 13 → PX0_bodyOf 1 M ∧ (kPR (mX0_bodyOf 1 M) v2 (v3 + 1) M ∧ (PX0_run_305 kfR kPR ((kfR (mX0_bodyOf 1 M) v2 (v3 + 1) M).1) ((kfR (mX0_bodyOf 1 M) v2 (v3 + 1) M).2)))) ∧ (¬ v1 = 13 → (¬ v1 = 14 → (¬ v1 = 15 → (¬ v1 = 16 → (¬ v1 = 17 → (¬ v1 = 18 → (¬ v1 = 19 → ((v1 = 20 → kPR 11 v2 (v3 + 1) M ∧ (PX0_run_319 kfR kPR ((kfR 11 v2 (v3 + 1) M).1) ((kfR 11 v2 (v3 + 1) M).2))) ∧ (¬ v1 = 20 → (¬ v1 = 21 → (¬ v1 = 22 → (¬ v1 = 23 → (¬ v1 = 24 → (¬ v1 = 25 → (¬ v1 = 26 → (¬ v1 = 27 → (¬ v1 = 28 → (¬ v1 = 29 → ((v1 = 30 → kPR 10 v2 (v3 + 1) M ∧ (PX0_run_332 kfR kPR ((kfR 10 v2 (v3 + 1) M).1) 0 ((kfR 10 v2 (v3 + 1) M).2))) ∧ (¬ v1 = 30 → ((v1 = 31 → kPR 13 v2 (v3 + 1) M ∧ (PX0_run_343 kfR kPR (v3 + 1) ((kfR 13 v2 (v3 + 1) M).1) ((kfR 13 v2 (v3 + 1) M).2))) ∧ (¬ v1 = 31 → (¬ v1 = 32 → (¬ v1 = 33 → (¬ v1 = 34 → (¬ v1 = 35 → (¬ v1 = 36 → (¬ v1 = 37 → (¬ v1 = 38 → (¬ v1 = 39 → ((v1 = 40 → kPR 30 v2 (v3 + 1) M ∧ (PX0_run_369 kfR kPR ((kfR 30 v2 (v3 + 1) M).1) ((kfR 30 v2 (v3 + 1) M).2))) ∧ (¬ v1 = 40 → ((v1 = 41 → kPR 11 v2 (v3 + 1) M ∧ (PX0_run_382 kfR kPR (v3 + 1) ((kfR 11 v2 (v3 + 1) M).1) ((kfR 11 v2 (v3 + 1) M).2))) ∧ (¬ v1 = 41 → (¬ v1 = 42 → (¬ v1 = 43 → (¬ v1 = 44 → (¬ v1 = 45 → (¬ v1 = 46 → (¬ v1 = 47 → (¬ v1 = 48 → (¬ v1 = 49 → ((v1 = 50 → kPR 12 (v2 - (M 26 5)) (v3 + 1) M ∧ (PX0_run_413 kfR kPR ((kfR 12 (v2 - (M 26 5)) (v3 + 1) M).1) ((kfR 12 (v2 - (M 26 5)) (v3 + 1) M).2))) ∧ (¬ v1 = 50 → ((v1 = 51 → kPR 10 v2 (v3 + 1) M ∧ (PX0_run_425 kfR kPR ((kfR 10 v2 (v3 + 1) M).1) ((kfR 10 v2 (v3 + 1) M).2))) ∧ (¬ v1 = 51 → (¬ v1 = 52 → (¬ v1 = 53 → (¬ v1 = 54 → (¬ v1 = 55 → (¬ v1 = 56 → (¬ v1 = 57 → (¬ v1 = 58 → (¬ v1 = 59 → ((v1 = 60 → kPR 13 v2 (v3 + 1) M ∧ (PX0_run_440 kfR kPR ((kfR 13 v2 (v3 + 1) M).1) ((kfR 13 v2 (v3 + 1) M).2))) ∧ (¬ v1 = 60 → (v1 = 61 → kPR 12 v2 (v3 + 1) M ∧ (PX0_run_452 kfR kPR (v3 + 1) ((kfR 12 v2 (v3 + 1) M).1) ((kfR 12 v2 (v3 + 1) M).2)))))))))))))))))))))))))))))))))))))))))))))))))))))))))))))))))
set_option maxRecDepth 100000 in
theorem cX0_run_20    (n : Nat) (kfR : Int32 → Int32 → Int32 → Mem → Int32 × Mem) (kPR : Int32 → Int32 → Int32 → Mem → Prop) (hkR : ∀ (a1 a2 a3 : Int32) (M : Mem), kPR a1 a2 a3 M → CT mtX0_run (n + 2) [.ref 26, .int a1, .int a2, .int a3] M (some (.int (kfR a1 a2 a3 M).1), (kfR a1 a2 a3 M).2))  (M0 : Mem) (v1 : Int32) (v2 : Int32) (v3 : Int32) (M : Mem) (hp : PX0_run_20 kfR kPR v1 v2 v3 M) : AWP (GIM mtX0_run (n + 3) M0 (mX0_run_20 kfR v1 v2 v3 M)) mtX0_run 20 [(0, .ref 26), (1, .int v1), (2, .int v2), (3, .int v3)] [] M := by
  unfold mX0_run_20
  unfold PX0_run_20 at hp
  refine r_iload_n MF.bs dX0_run_20 rfl 3 rfl ?_
  refine r_iconst MF.bs dX0_run_21 (v := 1) (by decide) ?_
  refine r_iadd MF.bs dX0_run_22 ?_
  refine r_istore MF.bs (lv' := [(4, .int (v3 + 1)), (0, .ref 26), (1, .int v1), (2, .int v2), (3, .int v3)]) dX0_run_23 (by decide) rfl ?_
  refine r_iload_n MF.bs dX0_run_25 rfl 2 rfl ?_
  refine r_ite (GIM mtX0_run (n + 3) M0) (fun h_4 => ?_) (fun h_4 => ?_)
  · refine r_tsw_in MF.bs (tgt := 248) dX0_run_26 h_4 (by decide) (by decide) rfl (by decide) ?_
    refine r_iload_n MF.bs dX0_run_248 rfl 3 rfl ?_
    refine r_bipush MF.bs dX0_run_249 (v := 9) (by decide) ?_
    refine r_imul MF.bs dX0_run_251 ?_
    refine r_aload_n MF.bs dX0_run_252 rfl 1 rfl ?_
    refine r_getI MF.bs dX0_run_253 rfl rfl 4 (by decide) wd_196 rfl ?_
    refine r_iadd MF.bs dX0_run_256 ?_
    exact r_iret dX0_run_257 rfl
  · have hp := hp h_4
    refine r_ite (GIM mtX0_run (n + 3) M0) (fun h_5 => ?_) (fun h_5 => ?_)
    · have hp := hp.1 h_5
      refine r_tsw_in MF.bs (tgt := 258) dX0_run_26 h_5 (by decide) (by decide) rfl (by decide) ?_
      obtain ⟨hq_6, hp⟩ := hp
      obtain ⟨hq_7, hp⟩ := hp
      refine r_aload_n MF.bs dX0_run_258 rfl 1 rfl ?_
      refine r_aload_n MF.bs dX0_run_259 rfl 1 rfl ?_
      refine r_iconst MF.bs dX0_run_260 (v := 0) (by decide) ?_
      refine r_callV_v MF.bs (st := [.ref 26]) dX0_run_261 (ctX0_bodyOf 0 M hq_6) miX0_bodyOf wd_831 rfl (by omega) rfl (Nat.le_of_ble_eq_true rfl) rfl rfl rfl ?_
      refine r_iload_n MF.bs dX0_run_264 rfl 3 rfl ?_
      refine r_iload MF.bs dX0_run_265 0 rfl ?_
      refine r_callS_v MF.bs (st := []) dX0_run_267 (hkR (mX0_bodyOf 0 M) v2 (v3 + 1) M hq_7) miX0_run wd_838 rfl (by omega) rfl (Nat.le_of_ble_eq_true rfl) ?_
      refine r_sub [(0, .ref 26)] [1] rfl ?_
      exact cX0_run_270 n kfR kPR hkR M0 ((kfR (mX0_bodyOf 0 M) v2 (v3 + 1) M).1) ((kfR (mX0_bodyOf 0 M) v2 (v3 + 1) M).2) hp
    · have hp := hp.2 h_5
      refine r_ite (GIM mtX0_run (n + 3) M0) (fun h_8 => ?_) (fun h_8 => ?_)
      · have hp := hp.1 h_8
        refine r_tsw_in MF.bs (tgt := 278) dX0_run_26 h_8 (by decide) (by decide) rfl (by decide) ?_
        have hq_9 := hp
        refine r_aload_n MF.bs dX0_run_278 rfl 1 rfl ?_
        refine r_iload_n MF.bs dX0_run_279 rfl 3 rfl ?_
        refine r_aload_n MF.bs dX0_run_280 rfl 1 rfl ?_
        refine r_getI MF.bs dX0_run_281 rfl rfl 5 (by decide) wd_197 rfl ?_
        refine r_aload_n MF.bs dX0_run_284 rfl 1 rfl ?_
        refine r_getI MF.bs dX0_run_285 rfl rfl 4 (by decide) wd_196 rfl ?_
        refine r_isub MF.bs dX0_run_288 ?_
        refine r_callV_v MF.bs (st := []) dX0_run_289 (ctX0_partedBy v2 ((M 26 5) - (M 26 4)) M hq_9) miX0_partedBy wd_845 rfl (by omega) rfl (Nat.le_of_ble_eq_true rfl) rfl rfl rfl ?_
        exact r_iret dX0_run_292 rfl
      · have hp := hp.2 h_8
        refine r_ite (GIM mtX0_run (n + 3) M0) (fun h_10 => ?_) (fun h_10 => ?_)
        · have hp := hp.1 h_10
          refine r_tsw_in MF.bs (tgt := 293) dX0_run_26 h_10 (by decide) (by decide) rfl (by decide) ?_
          obtain ⟨hq_11, hp⟩ := hp
          obtain ⟨hq_12, hp⟩ := hp
          refine r_aload_n MF.bs dX0_run_293 rfl 1 rfl ?_
          refine r_aload_n MF.bs dX0_run_294 rfl 1 rfl ?_
          refine r_iconst MF.bs dX0_run_295 (v := 1) (by decide) ?_
          refine r_callV_v MF.bs (st := [.ref 26]) dX0_run_296 (ctX0_bodyOf 1 M hq_11) miX0_bodyOf wd_831 rfl (by omega) rfl (Nat.le_of_ble_eq_true rfl) rfl rfl rfl ?_
          refine r_iload_n MF.bs dX0_run_299 rfl 3 rfl ?_
          refine r_iload MF.bs dX0_run_300 0 rfl ?_
          refine r_callS_v MF.bs (st := []) dX0_run_302 (hkR (mX0_bodyOf 1 M) v2 (v3 + 1) M hq_12) miX0_run wd_838 rfl (by omega) rfl (Nat.le_of_ble_eq_true rfl) ?_
          refine r_sub [] [] rfl ?_
          exact cX0_run_305 n kfR kPR hkR M0 ((kfR (mX0_bodyOf 1 M) v2 (v3 + 1) M).1) ((kfR (mX0_bodyOf 1 M) v2 (v3 + 1) M).2) hp
        · have hp := hp.2 h_10
          refine r_ite (GIM mtX0_run (n + 3) M0) (fun h_13 => ?_) (fun h_13 => ?_)
          · refine r_tsw_in MF.bs (tgt := 469) dX0_run_26 h_13 (by decide) (by decide) rfl (by decide) ?_
            refine r_iconst MF.bs dX0_run_469 (v := 0) (by decide) ?_
            exact r_iret dX0_run_470 rfl
          · have hp := hp h_13
            refine r_ite (GIM mtX0_run (n + 3) M0) (fun h_14 => ?_) (fun h_14 => ?_)
            · refine r_tsw_in MF.bs (tgt := 469) dX0_run_26 h_14 (by decide) (by decide) rfl (by decide) ?_
              refine r_iconst MF.bs dX0_run_469 (v := 0) (by decide) ?_
              exact r_iret dX0_run_470 rfl
            · have hp := hp h_14
              refine r_ite (GIM mtX0_run (n + 3) M0) (fun h_15 => ?_) (fun h_15 => ?_)
              · refine r_tsw_in MF.bs (tgt := 469) dX0_run_26 h_15 (by decide) (by decide) rfl (by decide) ?_
                refine r_iconst MF.bs dX0_run_469 (v := 0) (by decide) ?_
                exact r_iret dX0_run_470 rfl
              · have hp := hp h_15
                refine r_ite (GIM mtX0_run (n + 3) M0) (fun h_16 => ?_) (fun h_16 => ?_)
                · refine r_tsw_in MF.bs (tgt := 469) dX0_run_26 h_16 (by decide) (by decide) rfl (by decide) ?_
                  refine r_iconst MF.bs dX0_run_469 (v := 0) (by decide) ?_
                  exact r_iret dX0_run_470 rfl
                · have hp := hp h_16
                  refine r_ite (GIM mtX0_run (n + 3) M0) (fun h_17 => ?_) (fun h_17 => ?_)
                  · refine r_tsw_in MF.bs (tgt := 469) dX0_run_26 h_17 (by decide) (by decide) rfl (by decide) ?_
                    refine r_iconst MF.bs dX0_run_469 (v := 0) (by decide) ?_
                    exact r_iret dX0_run_470 rfl
                  · have hp := hp h_17
                    refine r_ite (GIM mtX0_run (n + 3) M0) (fun h_18 => ?_) (fun h_18 => ?_)
                    · refine r_tsw_in MF.bs (tgt := 469) dX0_run_26 h_18 (by decide) (by decide) rfl (by decide) ?_
                      refine r_iconst MF.bs dX0_run_469 (v := 0) (by decide) ?_
                      exact r_iret dX0_run_470 rfl
                    · have hp := hp h_18
                      refine r_ite (GIM mtX0_run (n + 3) M0) (fun h_19 => ?_) (fun h_19 => ?_)
                      · have hp := hp.1 h_19
                        refine r_tsw_in MF.bs (tgt := 310) dX0_run_26 h_19 (by decide) (by decide) rfl (by decide) ?_
                        obtain ⟨hq_20, hp⟩ := hp
                        refine r_aload_n MF.bs dX0_run_310 rfl 1 rfl ?_
                        refine r_bipush MF.bs dX0_run_311 (v := 11) (by decide) ?_
                        refine r_iload_n MF.bs dX0_run_313 rfl 3 rfl ?_
                        refine r_iload MF.bs dX0_run_314 0 rfl ?_
                        refine r_callS_v MF.bs (st := []) dX0_run_316 (hkR 11 v2 (v3 + 1) M hq_20) miX0_run wd_838 rfl (by omega) rfl (Nat.le_of_ble_eq_true rfl) ?_
                        refine r_sub [] [] rfl ?_
                        exact cX0_run_319 n kfR kPR hkR M0 ((kfR 11 v2 (v3 + 1) M).1) ((kfR 11 v2 (v3 + 1) M).2) hp
                      · have hp := hp.2 h_19
                        refine r_ite (GIM mtX0_run (n + 3) M0) (fun h_21 => ?_) (fun h_21 => ?_)
                        · refine r_tsw_in MF.bs (tgt := 469) dX0_run_26 h_21 (by decide) (by decide) rfl (by decide) ?_
                          refine r_iconst MF.bs dX0_run_469 (v := 0) (by decide) ?_
                          exact r_iret dX0_run_470 rfl
                        · have hp := hp h_21
                          refine r_ite (GIM mtX0_run (n + 3) M0) (fun h_22 => ?_) (fun h_22 => ?_)
                          · refine r_tsw_in MF.bs (tgt := 469) dX0_run_26 h_22 (by decide) (by decide) rfl (by decide) ?_
                            refine r_iconst MF.bs dX0_run_469 (v := 0) (by decide) ?_
                            exact r_iret dX0_run_470 rfl
                          · have hp := hp h_22
                            refine r_ite (GIM mtX0_run (n + 3) M0) (fun h_23 => ?_) (fun h_23 => ?_)
                            · refine r_tsw_in MF.bs (tgt := 469) dX0_run_26 h_23 (by decide) (by decide) rfl (by decide) ?_
                              refine r_iconst MF.bs dX0_run_469 (v := 0) (by decide) ?_
                              exact r_iret dX0_run_470 rfl
                            · have hp := hp h_23
                              refine r_ite (GIM mtX0_run (n + 3) M0) (fun h_24 => ?_) (fun h_24 => ?_)
                              · refine r_tsw_in MF.bs (tgt := 469) dX0_run_26 h_24 (by decide) (by decide) rfl (by decide) ?_
                                refine r_iconst MF.bs dX0_run_469 (v := 0) (by decide) ?_
                                exact r_iret dX0_run_470 rfl
                              · have hp := hp h_24
                                refine r_ite (GIM mtX0_run (n + 3) M0) (fun h_25 => ?_) (fun h_25 => ?_)
                                · refine r_tsw_in MF.bs (tgt := 469) dX0_run_26 h_25 (by decide) (by decide) rfl (by decide) ?_
                                  refine r_iconst MF.bs dX0_run_469 (v := 0) (by decide) ?_
                                  exact r_iret dX0_run_470 rfl
                                · have hp := hp h_25
                                  refine r_ite (GIM mtX0_run (n + 3) M0) (fun h_26 => ?_) (fun h_26 => ?_)
                                  · refine r_tsw_in MF.bs (tgt := 469) dX0_run_26 h_26 (by decide) (by decide) rfl (by decide) ?_
                                    refine r_iconst MF.bs dX0_run_469 (v := 0) (by decide) ?_
                                    exact r_iret dX0_run_470 rfl
                                  · have hp := hp h_26
                                    refine r_ite (GIM mtX0_run (n + 3) M0) (fun h_27 => ?_) (fun h_27 => ?_)
                                    · refine r_tsw_in MF.bs (tgt := 469) dX0_run_26 h_27 (by decide) (by decide) rfl (by decide) ?_
                                      refine r_iconst MF.bs dX0_run_469 (v := 0) (by decide) ?_
                                      exact r_iret dX0_run_470 rfl
                                    · have hp := hp h_27
                                      refine r_ite (GIM mtX0_run (n + 3) M0) (fun h_28 => ?_) (fun h_28 => ?_)
                                      · refine r_tsw_in MF.bs (tgt := 469) dX0_run_26 h_28 (by decide) (by decide) rfl (by decide) ?_
                                        refine r_iconst MF.bs dX0_run_469 (v := 0) (by decide) ?_
                                        exact r_iret dX0_run_470 rfl
                                      · have hp := hp h_28
                                        refine r_ite (GIM mtX0_run (n + 3) M0) (fun h_29 => ?_) (fun h_29 => ?_)
                                        · refine r_tsw_in MF.bs (tgt := 469) dX0_run_26 h_29 (by decide) (by decide) rfl (by decide) ?_
                                          refine r_iconst MF.bs dX0_run_469 (v := 0) (by decide) ?_
                                          exact r_iret dX0_run_470 rfl
                                        · have hp := hp h_29
                                          refine r_ite (GIM mtX0_run (n + 3) M0) (fun h_30 => ?_) (fun h_30 => ?_)
                                          · have hp := hp.1 h_30
                                            refine r_tsw_in MF.bs (tgt := 322) dX0_run_26 h_30 (by decide) (by decide) rfl (by decide) ?_
                                            obtain ⟨hq_31, hp⟩ := hp
                                            refine r_iconst MF.bs dX0_run_322 (v := 0) (by decide) ?_
                                            refine r_aload_n MF.bs dX0_run_323 rfl 1 rfl ?_
                                            refine r_bipush MF.bs dX0_run_324 (v := 10) (by decide) ?_
                                            refine r_iload_n MF.bs dX0_run_326 rfl 3 rfl ?_
                                            refine r_iload MF.bs dX0_run_327 0 rfl ?_
                                            refine r_callS_v MF.bs (st := [.int 0]) dX0_run_329 (hkR 10 v2 (v3 + 1) M hq_31) miX0_run wd_838 rfl (by omega) rfl (Nat.le_of_ble_eq_true rfl) ?_
                                            refine r_sub [] [] rfl ?_
                                            exact cX0_run_332 n kfR kPR hkR M0 ((kfR 10 v2 (v3 + 1) M).1) 0 ((kfR 10 v2 (v3 + 1) M).2) hp
                                          · have hp := hp.2 h_30
                                            refine r_ite (GIM mtX0_run (n + 3) M0) (fun h_32 => ?_) (fun h_32 => ?_)
                                            · have hp := hp.1 h_32
                                              refine r_tsw_in MF.bs (tgt := 334) dX0_run_26 h_32 (by decide) (by decide) rfl (by decide) ?_
                                              obtain ⟨hq_33, hp⟩ := hp
                                              refine r_aload_n MF.bs dX0_run_334 rfl 1 rfl ?_
                                              refine r_bipush MF.bs dX0_run_335 (v := 13) (by decide) ?_
                                              refine r_iload_n MF.bs dX0_run_337 rfl 3 rfl ?_
                                              refine r_iload MF.bs dX0_run_338 0 rfl ?_
                                              refine r_callS_v MF.bs (st := []) dX0_run_340 (hkR 13 v2 (v3 + 1) M hq_33) miX0_run wd_838 rfl (by omega) rfl (Nat.le_of_ble_eq_true rfl) ?_
                                              refine r_sub [(0, .ref 26), (4, .int (v3 + 1))] [1, 0] rfl ?_
                                              exact cX0_run_343 n kfR kPR hkR M0 (v3 + 1) ((kfR 13 v2 (v3 + 1) M).1) ((kfR 13 v2 (v3 + 1) M).2) hp
                                            · have hp := hp.2 h_32
                                              refine r_ite (GIM mtX0_run (n + 3) M0) (fun h_34 => ?_) (fun h_34 => ?_)
                                              · refine r_tsw_in MF.bs (tgt := 469) dX0_run_26 h_34 (by decide) (by decide) rfl (by decide) ?_
                                                refine r_iconst MF.bs dX0_run_469 (v := 0) (by decide) ?_
                                                exact r_iret dX0_run_470 rfl
                                              · have hp := hp h_34
                                                refine r_ite (GIM mtX0_run (n + 3) M0) (fun h_35 => ?_) (fun h_35 => ?_)
                                                · refine r_tsw_in MF.bs (tgt := 469) dX0_run_26 h_35 (by decide) (by decide) rfl (by decide) ?_
                                                  refine r_iconst MF.bs dX0_run_469 (v := 0) (by decide) ?_
                                                  exact r_iret dX0_run_470 rfl
                                                · have hp := hp h_35
                                                  refine r_ite (GIM mtX0_run (n + 3) M0) (fun h_36 => ?_) (fun h_36 => ?_)
                                                  · refine r_tsw_in MF.bs (tgt := 469) dX0_run_26 h_36 (by decide) (by decide) rfl (by decide) ?_
                                                    refine r_iconst MF.bs dX0_run_469 (v := 0) (by decide) ?_
                                                    exact r_iret dX0_run_470 rfl
                                                  · have hp := hp h_36
                                                    refine r_ite (GIM mtX0_run (n + 3) M0) (fun h_37 => ?_) (fun h_37 => ?_)
                                                    · refine r_tsw_in MF.bs (tgt := 469) dX0_run_26 h_37 (by decide) (by decide) rfl (by decide) ?_
                                                      refine r_iconst MF.bs dX0_run_469 (v := 0) (by decide) ?_
                                                      exact r_iret dX0_run_470 rfl
                                                    · have hp := hp h_37
                                                      refine r_ite (GIM mtX0_run (n + 3) M0) (fun h_38 => ?_) (fun h_38 => ?_)
                                                      · refine r_tsw_in MF.bs (tgt := 469) dX0_run_26 h_38 (by decide) (by decide) rfl (by decide) ?_
                                                        refine r_iconst MF.bs dX0_run_469 (v := 0) (by decide) ?_
                                                        exact r_iret dX0_run_470 rfl
                                                      · have hp := hp h_38
                                                        refine r_ite (GIM mtX0_run (n + 3) M0) (fun h_39 => ?_) (fun h_39 => ?_)
                                                        · refine r_tsw_in MF.bs (tgt := 469) dX0_run_26 h_39 (by decide) (by decide) rfl (by decide) ?_
                                                          refine r_iconst MF.bs dX0_run_469 (v := 0) (by decide) ?_
                                                          exact r_iret dX0_run_470 rfl
                                                        · have hp := hp h_39
                                                          refine r_ite (GIM mtX0_run (n + 3) M0) (fun h_40 => ?_) (fun h_40 => ?_)
                                                          · refine r_tsw_in MF.bs (tgt := 469) dX0_run_26 h_40 (by decide) (by decide) rfl (by decide) ?_
                                                            refine r_iconst MF.bs dX0_run_469 (v := 0) (by decide) ?_
                                                            exact r_iret dX0_run_470 rfl
                                                          · have hp := hp h_40
                                                            refine r_ite (GIM mtX0_run (n + 3) M0) (fun h_41 => ?_) (fun h_41 => ?_)
                                                            · refine r_tsw_in MF.bs (tgt := 469) dX0_run_26 h_41 (by decide) (by decide) rfl (by decide) ?_
                                                              refine r_iconst MF.bs dX0_run_469 (v := 0) (by decide) ?_
                                                              exact r_iret dX0_run_470 rfl
                                                            · have hp := hp h_41
                                                              refine r_ite (GIM mtX0_run (n + 3) M0) (fun h_42 => ?_) (fun h_42 => ?_)
                                                              · have hp := hp.1 h_42
                                                                refine r_tsw_in MF.bs (tgt := 360) dX0_run_26 h_42 (by decide) (by decide) rfl (by decide) ?_
                                                                obtain ⟨hq_43, hp⟩ := hp
                                                                refine r_aload_n MF.bs dX0_run_360 rfl 1 rfl ?_
                                                                refine r_bipush MF.bs dX0_run_361 (v := 30) (by decide) ?_
                                                                refine r_iload_n MF.bs dX0_run_363 rfl 3 rfl ?_
                                                                refine r_iload MF.bs dX0_run_364 0 rfl ?_
                                                                refine r_callS_v MF.bs (st := []) dX0_run_366 (hkR 30 v2 (v3 + 1) M hq_43) miX0_run wd_838 rfl (by omega) rfl (Nat.le_of_ble_eq_true rfl) ?_
                                                                refine r_sub [] [] rfl ?_
                                                                exact cX0_run_369 n kfR kPR hkR M0 ((kfR 30 v2 (v3 + 1) M).1) ((kfR 30 v2 (v3 + 1) M).2) hp
                                                              · have hp := hp.2 h_42
                                                                refine r_ite (GIM mtX0_run (n + 3) M0) (fun h_44 => ?_) (fun h_44 => ?_)
                                                                · have hp := hp.1 h_44
                                                                  refine r_tsw_in MF.bs (tgt := 373) dX0_run_26 h_44 (by decide) (by decide) rfl (by decide) ?_
                                                                  obtain ⟨hq_45, hp⟩ := hp
                                                                  refine r_aload_n MF.bs dX0_run_373 rfl 1 rfl ?_
                                                                  refine r_bipush MF.bs dX0_run_374 (v := 11) (by decide) ?_
                                                                  refine r_iload_n MF.bs dX0_run_376 rfl 3 rfl ?_
                                                                  refine r_iload MF.bs dX0_run_377 0 rfl ?_
                                                                  refine r_callS_v MF.bs (st := []) dX0_run_379 (hkR 11 v2 (v3 + 1) M hq_45) miX0_run wd_838 rfl (by omega) rfl (Nat.le_of_ble_eq_true rfl) ?_
                                                                  refine r_sub [(0, .ref 26), (4, .int (v3 + 1))] [1, 0] rfl ?_
                                                                  exact cX0_run_382 n kfR kPR hkR M0 (v3 + 1) ((kfR 11 v2 (v3 + 1) M).1) ((kfR 11 v2 (v3 + 1) M).2) hp
                                                                · have hp := hp.2 h_44
                                                                  refine r_ite (GIM mtX0_run (n + 3) M0) (fun h_46 => ?_) (fun h_46 => ?_)
                                                                  · refine r_tsw_in MF.bs (tgt := 469) dX0_run_26 h_46 (by decide) (by decide) rfl (by decide) ?_
                                                                    refine r_iconst MF.bs dX0_run_469 (v := 0) (by decide) ?_
                                                                    exact r_iret dX0_run_470 rfl
                                                                  · have hp := hp h_46
                                                                    refine r_ite (GIM mtX0_run (n + 3) M0) (fun h_47 => ?_) (fun h_47 => ?_)
                                                                    · refine r_tsw_in MF.bs (tgt := 469) dX0_run_26 h_47 (by decide) (by decide) rfl (by decide) ?_
                                                                      refine r_iconst MF.bs dX0_run_469 (v := 0) (by decide) ?_
                                                                      exact r_iret dX0_run_470 rfl
                                                                    · have hp := hp h_47
                                                                      refine r_ite (GIM mtX0_run (n + 3) M0) (fun h_48 => ?_) (fun h_48 => ?_)
                                                                      · refine r_tsw_in MF.bs (tgt := 469) dX0_run_26 h_48 (by decide) (by decide) rfl (by decide) ?_
                                                                        refine r_iconst MF.bs dX0_run_469 (v := 0) (by decide) ?_
                                                                        exact r_iret dX0_run_470 rfl
                                                                      · have hp := hp h_48
                                                                        refine r_ite (GIM mtX0_run (n + 3) M0) (fun h_49 => ?_) (fun h_49 => ?_)
                                                                        · refine r_tsw_in MF.bs (tgt := 469) dX0_run_26 h_49 (by decide) (by decide) rfl (by decide) ?_
                                                                          refine r_iconst MF.bs dX0_run_469 (v := 0) (by decide) ?_
                                                                          exact r_iret dX0_run_470 rfl
                                                                        · have hp := hp h_49
                                                                          refine r_ite (GIM mtX0_run (n + 3) M0) (fun h_50 => ?_) (fun h_50 => ?_)
                                                                          · refine r_tsw_in MF.bs (tgt := 469) dX0_run_26 h_50 (by decide) (by decide) rfl (by decide) ?_
                                                                            refine r_iconst MF.bs dX0_run_469 (v := 0) (by decide) ?_
                                                                            exact r_iret dX0_run_470 rfl
                                                                          · have hp := hp h_50
                                                                            refine r_ite (GIM mtX0_run (n + 3) M0) (fun h_51 => ?_) (fun h_51 => ?_)
                                                                            · refine r_tsw_in MF.bs (tgt := 469) dX0_run_26 h_51 (by decide) (by decide) rfl (by decide) ?_
                                                                              refine r_iconst MF.bs dX0_run_469 (v := 0) (by decide) ?_
                                                                              exact r_iret dX0_run_470 rfl
                                                                            · have hp := hp h_51
                                                                              refine r_ite (GIM mtX0_run (n + 3) M0) (fun h_52 => ?_) (fun h_52 => ?_)
                                                                              · refine r_tsw_in MF.bs (tgt := 469) dX0_run_26 h_52 (by decide) (by decide) rfl (by decide) ?_
                                                                                refine r_iconst MF.bs dX0_run_469 (v := 0) (by decide) ?_
                                                                                exact r_iret dX0_run_470 rfl
                                                                              · have hp := hp h_52
                                                                                refine r_ite (GIM mtX0_run (n + 3) M0) (fun h_53 => ?_) (fun h_53 => ?_)
                                                                                · refine r_tsw_in MF.bs (tgt := 469) dX0_run_26 h_53 (by decide) (by decide) rfl (by decide) ?_
                                                                                  refine r_iconst MF.bs dX0_run_469 (v := 0) (by decide) ?_
                                                                                  exact r_iret dX0_run_470 rfl
                                                                                · have hp := hp h_53
                                                                                  refine r_ite (GIM mtX0_run (n + 3) M0) (fun h_54 => ?_) (fun h_54 => ?_)
                                                                                  · have hp := hp.1 h_54
                                                                                    refine r_tsw_in MF.bs (tgt := 399) dX0_run_26 h_54 (by decide) (by decide) rfl (by decide) ?_
                                                                                    obtain ⟨hq_55, hp⟩ := hp
                                                                                    refine r_aload_n MF.bs dX0_run_399 rfl 1 rfl ?_
                                                                                    refine r_bipush MF.bs dX0_run_400 (v := 12) (by decide) ?_
                                                                                    refine r_iload_n MF.bs dX0_run_402 rfl 3 rfl ?_
                                                                                    refine r_aload_n MF.bs dX0_run_403 rfl 1 rfl ?_
                                                                                    refine r_getI MF.bs dX0_run_404 rfl rfl 5 (by decide) wd_197 rfl ?_
                                                                                    refine r_isub MF.bs dX0_run_407 ?_
                                                                                    refine r_iload MF.bs dX0_run_408 0 rfl ?_
                                                                                    refine r_callS_v MF.bs (st := []) dX0_run_410 (hkR 12 (v2 - (M 26 5)) (v3 + 1) M hq_55) miX0_run wd_838 rfl (by omega) rfl (Nat.le_of_ble_eq_true rfl) ?_
                                                                                    refine r_sub [] [] rfl ?_
                                                                                    exact cX0_run_413 n kfR kPR hkR M0 ((kfR 12 (v2 - (M 26 5)) (v3 + 1) M).1) ((kfR 12 (v2 - (M 26 5)) (v3 + 1) M).2) hp
                                                                                  · have hp := hp.2 h_54
                                                                                    refine r_ite (GIM mtX0_run (n + 3) M0) (fun h_56 => ?_) (fun h_56 => ?_)
                                                                                    · have hp := hp.1 h_56
                                                                                      refine r_tsw_in MF.bs (tgt := 416) dX0_run_26 h_56 (by decide) (by decide) rfl (by decide) ?_
                                                                                      obtain ⟨hq_57, hp⟩ := hp
                                                                                      refine r_aload_n MF.bs dX0_run_416 rfl 1 rfl ?_
                                                                                      refine r_bipush MF.bs dX0_run_417 (v := 10) (by decide) ?_
                                                                                      refine r_iload_n MF.bs dX0_run_419 rfl 3 rfl ?_
                                                                                      refine r_iload MF.bs dX0_run_420 0 rfl ?_
                                                                                      refine r_callS_v MF.bs (st := []) dX0_run_422 (hkR 10 v2 (v3 + 1) M hq_57) miX0_run wd_838 rfl (by omega) rfl (Nat.le_of_ble_eq_true rfl) ?_
                                                                                      refine r_sub [(0, .ref 26)] [1] rfl ?_
                                                                                      exact cX0_run_425 n kfR kPR hkR M0 ((kfR 10 v2 (v3 + 1) M).1) ((kfR 10 v2 (v3 + 1) M).2) hp
                                                                                    · have hp := hp.2 h_56
                                                                                      refine r_ite (GIM mtX0_run (n + 3) M0) (fun h_58 => ?_) (fun h_58 => ?_)
                                                                                      · refine r_tsw_in MF.bs (tgt := 469) dX0_run_26 h_58 (by decide) (by decide) rfl (by decide) ?_
                                                                                        refine r_iconst MF.bs dX0_run_469 (v := 0) (by decide) ?_
                                                                                        exact r_iret dX0_run_470 rfl
                                                                                      · have hp := hp h_58
                                                                                        refine r_ite (GIM mtX0_run (n + 3) M0) (fun h_59 => ?_) (fun h_59 => ?_)
                                                                                        · refine r_tsw_in MF.bs (tgt := 469) dX0_run_26 h_59 (by decide) (by decide) rfl (by decide) ?_
                                                                                          refine r_iconst MF.bs dX0_run_469 (v := 0) (by decide) ?_
                                                                                          exact r_iret dX0_run_470 rfl
                                                                                        · have hp := hp h_59
                                                                                          refine r_ite (GIM mtX0_run (n + 3) M0) (fun h_60 => ?_) (fun h_60 => ?_)
                                                                                          · refine r_tsw_in MF.bs (tgt := 469) dX0_run_26 h_60 (by decide) (by decide) rfl (by decide) ?_
                                                                                            refine r_iconst MF.bs dX0_run_469 (v := 0) (by decide) ?_
                                                                                            exact r_iret dX0_run_470 rfl
                                                                                          · have hp := hp h_60
                                                                                            refine r_ite (GIM mtX0_run (n + 3) M0) (fun h_61 => ?_) (fun h_61 => ?_)
                                                                                            · refine r_tsw_in MF.bs (tgt := 469) dX0_run_26 h_61 (by decide) (by decide) rfl (by decide) ?_
                                                                                              refine r_iconst MF.bs dX0_run_469 (v := 0) (by decide) ?_
                                                                                              exact r_iret dX0_run_470 rfl
                                                                                            · have hp := hp h_61
                                                                                              refine r_ite (GIM mtX0_run (n + 3) M0) (fun h_62 => ?_) (fun h_62 => ?_)
                                                                                              · refine r_tsw_in MF.bs (tgt := 469) dX0_run_26 h_62 (by decide) (by decide) rfl (by decide) ?_
                                                                                                refine r_iconst MF.bs dX0_run_469 (v := 0) (by decide) ?_
                                                                                                exact r_iret dX0_run_470 rfl
                                                                                              · have hp := hp h_62
                                                                                                refine r_ite (GIM mtX0_run (n + 3) M0) (fun h_63 => ?_) (fun h_63 => ?_)
                                                                                                · refine r_tsw_in MF.bs (tgt := 469) dX0_run_26 h_63 (by decide) (by decide) rfl (by decide) ?_
                                                                                                  refine r_iconst MF.bs dX0_run_469 (v := 0) (by decide) ?_
                                                                                                  exact r_iret dX0_run_470 rfl
                                                                                                · have hp := hp h_63
                                                                                                  refine r_ite (GIM mtX0_run (n + 3) M0) (fun h_64 => ?_) (fun h_64 => ?_)
                                                                                                  · refine r_tsw_in MF.bs (tgt := 469) dX0_run_26 h_64 (by decide) (by decide) rfl (by decide) ?_
                                                                                                    refine r_iconst MF.bs dX0_run_469 (v := 0) (by decide) ?_
                                                                                                    exact r_iret dX0_run_470 rfl
                                                                                                  · have hp := hp h_64
                                                                                                    refine r_ite (GIM mtX0_run (n + 3) M0) (fun h_65 => ?_) (fun h_65 => ?_)
                                                                                                    · refine r_tsw_in MF.bs (tgt := 469) dX0_run_26 h_65 (by decide) (by decide) rfl (by decide) ?_
                                                                                                      refine r_iconst MF.bs dX0_run_469 (v := 0) (by decide) ?_
                                                                                                      exact r_iret dX0_run_470 rfl
                                                                                                    · have hp := hp h_65
                                                                                                      refine r_ite (GIM mtX0_run (n + 3) M0) (fun h_66 => ?_) (fun h_66 => ?_)
                                                                                                      · have hp := hp.1 h_66
                                                                                                        refine r_tsw_in MF.bs (tgt := 431) dX0_run_26 h_66 (by decide) (by decide) rfl (by decide) ?_
                                                                                                        obtain ⟨hq_67, hp⟩ := hp
                                                                                                        refine r_aload_n MF.bs dX0_run_431 rfl 1 rfl ?_
                                                                                                        refine r_bipush MF.bs dX0_run_432 (v := 13) (by decide) ?_
                                                                                                        refine r_iload_n MF.bs dX0_run_434 rfl 3 rfl ?_
                                                                                                        refine r_iload MF.bs dX0_run_435 0 rfl ?_
                                                                                                        refine r_callS_v MF.bs (st := []) dX0_run_437 (hkR 13 v2 (v3 + 1) M hq_67) miX0_run wd_838 rfl (by omega) rfl (Nat.le_of_ble_eq_true rfl) ?_
                                                                                                        refine r_sub [] [] rfl ?_
                                                                                                        exact cX0_run_440 n kfR kPR hkR M0 ((kfR 13 v2 (v3 + 1) M).1) ((kfR 13 v2 (v3 + 1) M).2) hp
                                                                                                      · have hp := hp.2 h_66
                                                                                                        refine r_ite (GIM mtX0_run (n + 3) M0) (fun h_68 => ?_) (fun h_68 => ?_)
                                                                                                        · have hp := hp h_68
                                                                                                          refine r_tsw_in MF.bs (tgt := 443) dX0_run_26 h_68 (by decide) (by decide) rfl (by decide) ?_
                                                                                                          obtain ⟨hq_69, hp⟩ := hp
                                                                                                          refine r_aload_n MF.bs dX0_run_443 rfl 1 rfl ?_
                                                                                                          refine r_bipush MF.bs dX0_run_444 (v := 12) (by decide) ?_
                                                                                                          refine r_iload_n MF.bs dX0_run_446 rfl 3 rfl ?_
                                                                                                          refine r_iload MF.bs dX0_run_447 0 rfl ?_
                                                                                                          refine r_callS_v MF.bs (st := []) dX0_run_449 (hkR 12 v2 (v3 + 1) M hq_69) miX0_run wd_838 rfl (by omega) rfl (Nat.le_of_ble_eq_true rfl) ?_
                                                                                                          refine r_sub [(0, .ref 26), (4, .int (v3 + 1))] [1, 0] rfl ?_
                                                                                                          exact cX0_run_452 n kfR kPR hkR M0 (v3 + 1) ((kfR 12 v2 (v3 + 1) M).1) ((kfR 12 v2 (v3 + 1) M).2) hp
                                                                                                        · refine r_tsw_out MF.bs (tgt := 469) dX0_run_26 (by have e0 := lv_neT (a := 10) h_4 (by decide); have e1 := lv_neT (a := 11) h_5 (by decide); have e2 := lv_neT (a := 12) h_8 (by decide); have e3 := lv_neT (a := 13) h_10 (by decide); have e4 := lv_neT (a := 14) h_13 (by decide); have e5 := lv_neT (a := 15) h_14 (by decide); have e6 := lv_neT (a := 16) h_15 (by decide); have e7 := lv_neT (a := 17) h_16 (by decide); have e8 := lv_neT (a := 18) h_17 (by decide); have e9 := lv_neT (a := 19) h_18 (by decide); have e10 := lv_neT (a := 20) h_19 (by decide); have e11 := lv_neT (a := 21) h_21 (by decide); have e12 := lv_neT (a := 22) h_22 (by decide); have e13 := lv_neT (a := 23) h_23 (by decide); have e14 := lv_neT (a := 24) h_24 (by decide); have e15 := lv_neT (a := 25) h_25 (by decide); have e16 := lv_neT (a := 26) h_26 (by decide); have e17 := lv_neT (a := 27) h_27 (by decide); have e18 := lv_neT (a := 28) h_28 (by decide); have e19 := lv_neT (a := 29) h_29 (by decide); have e20 := lv_neT (a := 30) h_30 (by decide); have e21 := lv_neT (a := 31) h_32 (by decide); have e22 := lv_neT (a := 32) h_34 (by decide); have e23 := lv_neT (a := 33) h_35 (by decide); have e24 := lv_neT (a := 34) h_36 (by decide); have e25 := lv_neT (a := 35) h_37 (by decide); have e26 := lv_neT (a := 36) h_38 (by decide); have e27 := lv_neT (a := 37) h_39 (by decide); have e28 := lv_neT (a := 38) h_40 (by decide); have e29 := lv_neT (a := 39) h_41 (by decide); have e30 := lv_neT (a := 40) h_42 (by decide); have e31 := lv_neT (a := 41) h_44 (by decide); have e32 := lv_neT (a := 42) h_46 (by decide); have e33 := lv_neT (a := 43) h_47 (by decide); have e34 := lv_neT (a := 44) h_48 (by decide); have e35 := lv_neT (a := 45) h_49 (by decide); have e36 := lv_neT (a := 46) h_50 (by decide); have e37 := lv_neT (a := 47) h_51 (by decide); have e38 := lv_neT (a := 48) h_52 (by decide); have e39 := lv_neT (a := 49) h_53 (by decide); have e40 := lv_neT (a := 50) h_54 (by decide); have e41 := lv_neT (a := 51) h_56 (by decide); have e42 := lv_neT (a := 52) h_58 (by decide); have e43 := lv_neT (a := 53) h_59 (by decide); have e44 := lv_neT (a := 54) h_60 (by decide); have e45 := lv_neT (a := 55) h_61 (by decide); have e46 := lv_neT (a := 56) h_62 (by decide); have e47 := lv_neT (a := 57) h_63 (by decide); have e48 := lv_neT (a := 58) h_64 (by decide); have e49 := lv_neT (a := 59) h_65 (by decide); have e50 := lv_neT (a := 60) h_66 (by decide); have e51 := lv_neT (a := 61) h_68 (by decide); omega) (by decide) ?_
                                                                                                          refine r_iconst MF.bs dX0_run_469 (v := 0) (by decide) ?_
                                                                                                          exact r_iret dX0_run_470 rfl
def mX0_run : Nat → Int32 → Int32 → Int32 → Mem → Int32 × Mem
  | 0, _, _, _, M => (0, M)
  | n + 1, a1, a2, a3, M => (if (M 26 2) = 0 then (if a3 ≤ 40 then (mX0_run_20 (mX0_run n) a1 a2 a3 (mX0_note a1 M)) else (0, M)) else (0, M))
def PX0_run : Nat → Int32 → Int32 → Int32 → Mem → Prop
  | 0, _, _, _, _ => False
  | n + 1, a1, a2, a3, M => ((M 26 2) = 0 → (a3 ≤ 40 → PX0_note a1 M ∧ (PX0_run_20 (mX0_run n) (PX0_run n) a1 a2 a3 (mX0_note a1 M))))
set_option maxRecDepth 100000 in
theorem ctX0_run : ∀ (n : Nat) (a1 a2 a3 : Int32) (M : Mem), PX0_run n a1 a2 a3 M → CT mtX0_run (n + 2) [.ref 26, .int a1, .int a2, .int a3] M (some (.int (mX0_run n a1 a2 a3 M).1), (mX0_run n a1 a2 a3 M).2) := by
  intro n
  induction n with
  | zero =>
    intro a1 a2 a3 M hp
    exact hp.elim
  | succ n ih =>
    intro a1 a2 a3 M hp
    refine CT.of (by decide) rfl (Nat.le_of_ble_eq_true rfl) ?_
    show AWP (GIM mtX0_run (n + 3) M (mX0_run (n + 1) a1 a2 a3 M)) mtX0_run 0 [(0, .ref 26), (1, .int a1), (2, .int a2), (3, .int a3)] [] M
    rw [mX0_run]
    rw [PX0_run] at hp
    refine r_aload_n MF.bs dX0_run_0 rfl 0 rfl ?_
    refine r_getI MF.bs dX0_run_1 rfl rfl 2 (by decide) wd_193 rfl ?_
    refine r_ite (GIM mtX0_run (n + 3) M) (fun h_1 => ?_) (fun h_1 => ?_)
    · have hp := hp h_1
      refine r_if_ne_f MF.bs (tgt := 13) dX0_run_4 (by decide) h_1 ?_
      refine r_iload_n MF.bs dX0_run_7 rfl 3 rfl ?_
      refine r_bipush MF.bs dX0_run_8 (v := 40) (by decide) ?_
      refine r_ite (GIM mtX0_run (n + 3) M) (fun h_2 => ?_) (fun h_2 => ?_)
      · have hp := hp h_2
        refine r_icmp_le_t MF.bs (tgt := 15) dX0_run_10 (by decide) h_2 ?_
        obtain ⟨hq_3, hp⟩ := hp
        refine r_aload_n MF.bs dX0_run_15 rfl 0 rfl ?_
        refine r_iload_n MF.bs dX0_run_16 rfl 1 rfl ?_
        refine r_callV_n MF.bs (st := []) dX0_run_17 (ctX0_note a1 M hq_3) miX0_note wd_841 rfl (by omega) rfl (Nat.le_of_ble_eq_true rfl) rfl rfl rfl ?_
        exact cX0_run_20 n (mX0_run n) (PX0_run n) ih M a1 a2 a3 (mX0_note a1 M) hp
      · refine r_icmp_le_f MF.bs (tgt := 15) dX0_run_10 (by decide) h_2 ?_
        refine r_iconst MF.bs dX0_run_13 (v := 0) (by decide) ?_
        exact r_iret dX0_run_14 rfl
    · refine r_if_ne_t MF.bs (tgt := 13) dX0_run_4 (by decide) h_1 ?_
      refine r_iconst MF.bs dX0_run_13 (v := 0) (by decide) ?_
      exact r_iret dX0_run_14 rfl
abbrev mtX0_perform : MT := (RX0, yX0_perform, cX0_perform, 3, (some .int))
theorem miX0_perform : MV mtX0_perform 2 := ⟨wd_830, ⟨wd_828, wd_829⟩, wd_83, ⟨by decide, by decide, by decide +kernel⟩, by decide⟩
def mX0_perform  (a1 : Int32) (a2 : Int32) (M : Mem) : Int32 × Mem := ((mX0_run 60 (mX0_bodyOf a1 (upm M 26 2 0)) a2 0 (upm M 26 2 0)).1, (mX0_run 60 (mX0_bodyOf a1 (upm M 26 2 0)) a2 0 (upm M 26 2 0)).2)
def PX0_perform  (a1 : Int32) (a2 : Int32) (M : Mem) : Prop := PX0_bodyOf a1 (upm M 26 2 0) ∧ (PX0_run 60 (mX0_bodyOf a1 (upm M 26 2 0)) a2 0 (upm M 26 2 0))
set_option maxRecDepth 100000 in
theorem ctX0_perform   (a1 : Int32) (a2 : Int32) (M : Mem) (hp : PX0_perform a1 a2 M) : CT mtX0_perform 63 [.ref 26, .int a1, .int a2] M (some (.int ((mX0_perform a1 a2 M).1)), (mX0_perform a1 a2 M).2) := by
  refine CT.of (by decide) rfl (Nat.le_of_ble_eq_true rfl) ?_
  show AWP (GIM mtX0_perform 63 M (mX0_perform a1 a2 M)) mtX0_perform 0 [(0, .ref 26), (1, .int a1), (2, .int a2)] [] M
  unfold mX0_perform
  unfold PX0_perform at hp
  obtain ⟨hq_1, hp⟩ := hp
  have hq_2 := hp
  refine r_aload_n MF.bs dX0_perform_0 rfl 0 rfl ?_
  refine r_iconst MF.bs dX0_perform_1 (v := 0) (by decide) ?_
  refine r_putI MF.bs dX0_perform_2 rfl rfl 2 (by decide) wd_193 rfl rfl rfl rfl rfl ?_
  refine r_aload_n MF.bs dX0_perform_5 rfl 0 rfl ?_
  refine r_aload_n MF.bs dX0_perform_6 rfl 0 rfl ?_
  refine r_iload_n MF.bs dX0_perform_7 rfl 1 rfl ?_
  refine r_callV_v MF.bs (st := [.ref 26]) dX0_perform_8 (ctX0_bodyOf a1 (upm M 26 2 0) hq_1) miX0_bodyOf wd_831 rfl (by decide) rfl (Nat.le_of_ble_eq_true rfl) rfl rfl rfl ?_
  refine r_iload_n MF.bs dX0_perform_11 rfl 2 rfl ?_
  refine r_iconst MF.bs dX0_perform_12 (v := 0) (by decide) ?_
  refine r_callS_v MF.bs (st := []) dX0_perform_13 (ctX0_run 60 (mX0_bodyOf a1 (upm M 26 2 0)) a2 0 (upm M 26 2 0) hq_2) miX0_run wd_838 rfl (by decide) rfl (Nat.le_of_ble_eq_true rfl) ?_
  exact r_iret dX0_perform_16 rfl
