abbrev mtX5_feed : MT := (RX5, yX5_feed, cX5_feed, 4, (some .int))
theorem miX5_feed : MV mtX5_feed 2 := ⟨wd_302, ⟨wd_300, wd_301⟩, wd_79, ⟨by decide, by decide, by decide +kernel⟩, by decide⟩
def mX5_feed_21   (k0 : Int32) (M : Mem) : Int32 × Mem := (if k0 = 0 then ((-2), M) else ((M 22 1), M))
def PX5_feed_21   (k0 : Int32) (M : Mem) : Prop := True
set_option maxRecDepth 100000 in
theorem cX5_feed_21    (M0 : Mem) (k0 : Int32) (M : Mem) (hp : PX5_feed_21 k0 M) : AWP (GIM mtX5_feed 1 M0 (mX5_feed_21 k0 M)) mtX5_feed 21 [(0, .ref 0)] [.int k0] M := by
  unfold mX5_feed_21
  unfold PX5_feed_21 at hp
  refine r_ite (GIM mtX5_feed 1 M0) (fun h_3 => ?_) (fun h_3 => ?_)
  · refine r_if_eq_t MF.bs (tgt := 34) dX5_feed_21 (by decide) h_3 ?_
    refine r_bipush MF.bs dX5_feed_34 (v := -2) (by decide) ?_
    exact r_iret dX5_feed_36 rfl
  · refine r_if_eq_f MF.bs (tgt := 34) dX5_feed_21 (by decide) h_3 ?_
    refine r_aload_n MF.bs dX5_feed_24 rfl 0 rfl ?_
    refine r_getR MF.bs dX5_feed_25 rfl rfl 3 (by decide) wd_256 rfl ?_
    refine r_getI MF.bs dX5_feed_28 rfl rfl 1 (by decide) wd_167 rfl ?_
    refine r_goto MF.bs dX5_feed_31 (tgt := 36) (by decide) ?_
    exact r_iret dX5_feed_36 rfl
def mX5_feed  (a1 : Int64) (a3 : Int32) (M : Mem) : Int32 × Mem := (if (mX5_isWithin a3 1 8) = true then (mX5_feed_21 (b2i ((mX3_takeBytes a1 a3 M).1)) ((mX3_takeBytes a1 a3 M).2)) else ((-1), M))
def PX5_feed  (a1 : Int64) (a3 : Int32) (M : Mem) : Prop := ((mX5_isWithin a3 1 8) = true → PX3_takeBytes a1 a3 M ∧ (PX5_feed_21 (b2i ((mX3_takeBytes a1 a3 M).1)) ((mX3_takeBytes a1 a3 M).2)))
set_option maxRecDepth 100000 in
theorem ctX5_feed   (a1 : Int64) (a3 : Int32) (M : Mem) (hp : PX5_feed a1 a3 M) : CT mtX5_feed 1 [.ref 0, .long a1, .int a3] M (some (.int ((mX5_feed a1 a3 M).1)), (mX5_feed a1 a3 M).2) := by
  refine CT.of (by decide) rfl (Nat.le_of_ble_eq_true rfl) ?_
  show AWP (GIM mtX5_feed 1 M (mX5_feed a1 a3 M)) mtX5_feed 0 [(0, .ref 0), (1, .long a1), (3, .int a3)] [] M
  unfold mX5_feed
  unfold PX5_feed at hp
  refine r_iload_n MF.bs dX5_feed_0 rfl 2 rfl ?_
  refine r_iconst MF.bs dX5_feed_1 (v := 1) (by decide) ?_
  refine r_bipush MF.bs dX5_feed_2 (v := 8) (by decide) ?_
  refine r_callS_v MF.bs (st := []) dX5_feed_4 (ctX5_isWithin a3 1 8 M) miX5_isWithin wd_303 rfl (by decide) rfl (Nat.le_of_ble_eq_true rfl) ?_
  refine r_ite (GIM mtX5_feed 1 M) (fun h_1 => ?_) (fun h_1 => ?_)
  · have hp := hp h_1
    refine r_if_ne_t MF.bs (tgt := 12) dX5_feed_7 (by decide) (b2i_1 h_1) ?_
    obtain ⟨hq_2, hp⟩ := hp
    refine r_aload_n MF.bs dX5_feed_12 rfl 0 rfl ?_
    refine r_getR MF.bs dX5_feed_13 rfl rfl 3 (by decide) wd_256 rfl ?_
    refine r_lload_n MF.bs dX5_feed_16 rfl 1 rfl ?_
    refine r_iload_n MF.bs dX5_feed_17 rfl 2 rfl ?_
    refine r_callV_v MF.bs (st := []) dX5_feed_18 (ctX3_takeBytes a1 a3 M hq_2) miX3_takeBytes wd_306 rfl (by decide) rfl (Nat.le_of_ble_eq_true rfl) rfl rfl rfl ?_
    refine r_sub [(0, .ref 0)] [0] rfl ?_
    exact cX5_feed_21 M (b2i ((mX3_takeBytes a1 a3 M).1)) ((mX3_takeBytes a1 a3 M).2) hp
  · refine r_if_ne_f MF.bs (tgt := 12) dX5_feed_7 (by decide) (b2i_0 h_1) ?_
    refine r_iconst MF.bs dX5_feed_10 (v := -1) (by decide) ?_
    exact r_iret dX5_feed_11 rfl
abbrev mtX5_city : MT := (RX5, yX5_city, cX5_city, 2, (some .int))
theorem miX5_city : MV mtX5_city 0 := ⟨wd_313, ⟨wd_311, wd_312⟩, wd_79, ⟨by decide, by decide, by decide +kernel⟩, by decide⟩
def mX5_city_61   (M : Mem) : Int32 × Mem := (((upm M 0 13 0) 1 6), (upm M 0 13 0))
def PX5_city_61   (M : Mem) : Prop := True
set_option maxRecDepth 100000 in
theorem cX5_city_61    (M0 : Mem) (M : Mem) (hp : PX5_city_61 M) : AWP (GIM mtX5_city 9 M0 (mX5_city_61 M)) mtX5_city 61 [(0, .ref 0)] [] M := by
  unfold mX5_city_61
  unfold PX5_city_61 at hp
  refine r_aload_n MF.bs dX5_city_61 rfl 0 rfl ?_
  refine r_iconst MF.bs dX5_city_62 (v := 0) (by decide) ?_
  refine r_putI MF.bs dX5_city_63 rfl rfl 13 (by decide) wd_266 rfl rfl rfl rfl rfl ?_
  refine r_aload_n MF.bs dX5_city_66 rfl 0 rfl ?_
  refine r_getR MF.bs dX5_city_67 rfl rfl 0 (by decide) wd_253 rfl ?_
  refine r_getI MF.bs dX5_city_70 rfl rfl 6 (by decide) wd_128 rfl ?_
  exact r_iret dX5_city_73 rfl
def mX5_city_32   (k0 : Int32) (M : Mem) : Int32 × Mem := (if k0 < 0 then (mX5_city_61 (mX4_become 1 15 (upm M 22 1 0))) else (((-100) - k0), (upm M 22 1 0)))
def PX5_city_32   (k0 : Int32) (M : Mem) : Prop := (k0 < 0 → PX4_become 1 15 (upm M 22 1 0) ∧ (PX5_city_61 (mX4_become 1 15 (upm M 22 1 0))))
set_option maxRecDepth 100000 in
theorem cX5_city_32    (M0 : Mem) (k0 : Int32) (M : Mem) (hp : PX5_city_32 k0 M) : AWP (GIM mtX5_city 9 M0 (mX5_city_32 k0 M)) mtX5_city 32 [(0, .ref 0)] [.int k0] M := by
  unfold mX5_city_32
  unfold PX5_city_32 at hp
  refine r_istore_n MF.bs (lv' := [(1, .int k0), (0, .ref 0)]) dX5_city_32 rfl (by decide) rfl ?_
  refine r_aload_n MF.bs dX5_city_33 rfl 1 rfl ?_
  refine r_getR MF.bs dX5_city_34 rfl rfl 3 (by decide) wd_256 rfl ?_
  refine r_iconst MF.bs dX5_city_37 (v := 0) (by decide) ?_
  refine r_putI MF.bs dX5_city_38 rfl rfl 1 (by decide) wd_167 rfl rfl rfl rfl rfl ?_
  refine r_iload_n MF.bs dX5_city_41 rfl 0 rfl ?_
  refine r_ite (GIM mtX5_city 9 M0) (fun h_3 => ?_) (fun h_3 => ?_)
  · have hp := hp h_3
    refine r_if_lt_t MF.bs (tgt := 50) dX5_city_42 (by decide) h_3 ?_
    obtain ⟨hq_4, hp⟩ := hp
    refine r_aload_n MF.bs dX5_city_50 rfl 1 rfl ?_
    refine r_getR MF.bs dX5_city_51 rfl rfl 0 (by decide) wd_253 rfl ?_
    refine r_aload_n MF.bs dX5_city_54 rfl 1 rfl ?_
    refine r_getR MF.bs dX5_city_55 rfl rfl 2 (by decide) wd_255 rfl ?_
    refine r_callV_n MF.bs (st := []) dX5_city_58 (ctX4_become 1 15 (Or.inl rfl) (Or.inr (Or.inr rfl)) (upm M 22 1 0) hq_4) miX4_become wd_454 rfl (by decide) rfl (Nat.le_of_ble_eq_true rfl) rfl rfl rfl ?_
    refine r_sub [(0, .ref 0)] [1] rfl ?_
    exact cX5_city_61 M0 (mX4_become 1 15 (upm M 22 1 0)) hp
  · refine r_if_lt_f MF.bs (tgt := 50) dX5_city_42 (by decide) h_3 ?_
    refine r_bipush MF.bs dX5_city_45 (v := -100) (by decide) ?_
    refine r_iload_n MF.bs dX5_city_47 rfl 0 rfl ?_
    refine r_isub MF.bs dX5_city_48 ?_
    exact r_iret dX5_city_49 rfl
def mX5_city_7   (M : Mem) : Int32 × Mem := (mX5_city_32 ((mX3_tell 15 (upm M 15 9 (M 1 9))).1) ((mX3_tell 15 (upm M 15 9 (M 1 9))).2))
def PX5_city_7   (M : Mem) : Prop := PX3_tell 15 (upm M 15 9 (M 1 9)) ∧ (PX5_city_32 ((mX3_tell 15 (upm M 15 9 (M 1 9))).1) ((mX3_tell 15 (upm M 15 9 (M 1 9))).2))
set_option maxRecDepth 100000 in
theorem cX5_city_7    (M0 : Mem) (M : Mem) (hp : PX5_city_7 M) : AWP (GIM mtX5_city 9 M0 (mX5_city_7 M)) mtX5_city 7 [(0, .ref 0)] [] M := by
  unfold mX5_city_7
  unfold PX5_city_7 at hp
  obtain ⟨hq_2, hp⟩ := hp
  refine r_aload_n MF.bs dX5_city_7 rfl 0 rfl ?_
  refine r_getR MF.bs dX5_city_8 rfl rfl 2 (by decide) wd_255 rfl ?_
  refine r_aload_n MF.bs dX5_city_11 rfl 0 rfl ?_
  refine r_getR MF.bs dX5_city_12 rfl rfl 0 (by decide) wd_253 rfl ?_
  refine r_getI MF.bs dX5_city_15 rfl rfl 9 (by decide) wd_136 rfl ?_
  refine r_putI MF.bs dX5_city_18 rfl rfl 9 (by decide) wd_136 rfl rfl rfl rfl rfl ?_
  refine r_aload_n MF.bs dX5_city_21 rfl 0 rfl ?_
  refine r_getR MF.bs dX5_city_22 rfl rfl 3 (by decide) wd_256 rfl ?_
  refine r_aload_n MF.bs dX5_city_25 rfl 0 rfl ?_
  refine r_getR MF.bs dX5_city_26 rfl rfl 2 (by decide) wd_255 rfl ?_
  refine r_callV_v MF.bs (st := []) dX5_city_29 (ctX3_tell 15 (Or.inr (Or.inr rfl)) (upm M 15 9 (M 1 9)) hq_2) miX3_tell wd_321 rfl (by decide) rfl (Nat.le_of_ble_eq_true rfl) rfl rfl rfl ?_
  exact cX5_city_32 M0 ((mX3_tell 15 (upm M 15 9 (M 1 9))).1) ((mX3_tell 15 (upm M 15 9 (M 1 9))).2) hp
def mX5_city  (M : Mem) : Int32 × Mem := (mX5_city_7 (mX4_clear 15 M))
def PX5_city  (M : Mem) : Prop := PX4_clear 15 M ∧ (PX5_city_7 (mX4_clear 15 M))
set_option maxRecDepth 100000 in
theorem ctX5_city   (M : Mem) (hp : PX5_city M) : CT mtX5_city 9 [.ref 0] M (some (.int ((mX5_city M).1)), (mX5_city M).2) := by
  refine CT.of (by decide) rfl (Nat.le_of_ble_eq_true rfl) ?_
  show AWP (GIM mtX5_city 9 M (mX5_city M)) mtX5_city 0 [(0, .ref 0)] [] M
  unfold mX5_city
  unfold PX5_city at hp
  obtain ⟨hq_1, hp⟩ := hp
  refine r_aload_n MF.bs dX5_city_0 rfl 0 rfl ?_
  refine r_getR MF.bs dX5_city_1 rfl rfl 2 (by decide) wd_255 rfl ?_
  refine r_callV_n MF.bs (st := []) dX5_city_4 (ctX4_clear 15 (Or.inr (Or.inr rfl)) M hq_1) miX4_clear wd_314 rfl (by decide) rfl (Nat.le_of_ble_eq_true rfl) rfl rfl rfl ?_
  exact cX5_city_7 M (mX4_clear 15 M) hp
abbrev mtX5_isLaw : MT := (RX5, yX5_isLaw, cX5_isLaw, 1, (some .boolean))
theorem miX5_isLaw : MS mtX5_isLaw 1 := ⟨wd_465, wd_464, wd_79, ⟨by decide, by decide, by decide +kernel⟩, by decide⟩
def mX5_isLaw  (a0 : Int32) : Bool := (mX5_isWithin a0 0 3)
set_option maxRecDepth 100000 in
theorem ctX5_isLaw   (a0 : Int32) (M : Mem) : CT mtX5_isLaw 1 [.int a0] M (some (.int (b2i (mX5_isLaw a0))), M) := by
  refine CT.of (by decide) rfl (Nat.le_of_ble_eq_true rfl) ?_
  show AWP (GB mtX5_isLaw 1 M M (mX5_isLaw a0)) mtX5_isLaw 0 [(0, .int a0)] [] M
  unfold mX5_isLaw
  refine r_iload_n MF.bs dX5_isLaw_0 rfl 0 rfl ?_
  refine r_iconst MF.bs dX5_isLaw_1 (v := 0) (by decide) ?_
  refine r_iconst MF.bs dX5_isLaw_2 (v := 3) (by decide) ?_
  refine r_callS_v MF.bs (st := []) dX5_isLaw_3 (ctX5_isWithin a0 0 3 M) miX5_isWithin wd_303 rfl (by decide) rfl (Nat.le_of_ble_eq_true rfl) ?_
  exact r_zret dX5_isLaw_6 rfl (b2i_nar _)
abbrev mtX5_set : MT := (RX5, yX5_set, cX5_set, 4, (some .int))
theorem miX5_set : MV mtX5_set 2 := ⟨wd_462, ⟨wd_460, wd_461⟩, wd_79, ⟨by decide, by decide, by decide +kernel⟩, by decide⟩
def mX5_set  (a1 : Int32) (a2 : Int32) (M : Mem) : Int32 × Mem := (if (mX5_isLaw a1) = true then (if (mX5_isWithin a2 (st_1 a1) (st_2 a1)) = true then ((M 2 a1.toNatClampNeg), (upm M 2 a1.toNatClampNeg a2)) else ((-1), M)) else ((-1), M))
def PX5_set  (a1 : Int32) (a2 : Int32) (M : Mem) : Prop := ((mX5_isLaw a1) = true → vp_in a1 4 ∧ (vp_in a1 4 ∧ (((mX5_isWithin a2 (st_1 a1) (st_2 a1)) = true → vp_in a1 4 ∧ (vp_in a1 4)))))
set_option maxRecDepth 100000 in
theorem ctX5_set   (a1 : Int32) (a2 : Int32) (M : Mem) (hp : PX5_set a1 a2 M) : CT mtX5_set 2 [.ref 0, .int a1, .int a2] M (some (.int ((mX5_set a1 a2 M).1)), (mX5_set a1 a2 M).2) := by
  refine CT.of (by decide) rfl (Nat.le_of_ble_eq_true rfl) ?_
  show AWP (GIM mtX5_set 2 M (mX5_set a1 a2 M)) mtX5_set 0 [(0, .ref 0), (1, .int a1), (2, .int a2)] [] M
  unfold mX5_set
  unfold PX5_set at hp
  refine r_iload_n MF.bs dX5_set_0 rfl 1 rfl ?_
  refine r_callS_v MF.bs (st := []) dX5_set_1 (ctX5_isLaw a1 M) miX5_isLaw wd_463 rfl (by decide) rfl (Nat.le_of_ble_eq_true rfl) ?_
  refine r_ite (GIM mtX5_set 2 M) (fun h_1 => ?_) (fun h_1 => ?_)
  · have hp := hp h_1
    refine r_if_eq_f MF.bs (tgt := 24) dX5_set_4 (by decide) (b2i_1 h_1) ?_
    obtain ⟨hq_2, hp⟩ := hp
    obtain ⟨hq_3, hp⟩ := hp
    refine r_iload_n MF.bs dX5_set_7 rfl 2 rfl ?_
    refine r_gets MF.bs (i := 1) dX5_set_8 rfl wd_466 ?_
    refine r_iload_n MF.bs dX5_set_11 rfl 1 rfl ?_
    refine r_tiald MF.bs dX5_set_12 rfl hq_2 ?_
    refine r_gets MF.bs (i := 2) dX5_set_13 rfl wd_467 ?_
    refine r_iload_n MF.bs dX5_set_16 rfl 1 rfl ?_
    refine r_tiald MF.bs dX5_set_17 rfl hq_3 ?_
    refine r_callS_v MF.bs (st := []) dX5_set_18 (ctX5_isWithin a2 (st_1 a1) (st_2 a1) M) miX5_isWithin wd_303 rfl (by decide) rfl (Nat.le_of_ble_eq_true rfl) ?_
    refine r_ite (GIM mtX5_set 2 M) (fun h_4 => ?_) (fun h_4 => ?_)
    · have hp := hp h_4
      refine r_if_ne_t MF.bs (tgt := 26) dX5_set_21 (by decide) (b2i_1 h_4) ?_
      obtain ⟨hq_5, hp⟩ := hp
      have hq_6 := hp
      refine r_aload_n MF.bs dX5_set_26 rfl 0 rfl ?_
      refine r_getR MF.bs dX5_set_27 rfl rfl 0 (by decide) wd_253 rfl ?_
      refine r_getR MF.bs dX5_set_30 rfl rfl 0 (by decide) wd_114 rfl ?_
      refine r_iload_n MF.bs dX5_set_33 rfl 1 rfl ?_
      refine r_iaload MF.bs dX5_set_34 rfl hq_5 ?_
      refine r_istore_n MF.bs (lv' := [(3, .int (M 2 a1.toNatClampNeg)), (0, .ref 0), (1, .int a1), (2, .int a2)]) dX5_set_35 rfl (by decide) rfl ?_
      refine r_aload_n MF.bs dX5_set_36 rfl 1 rfl ?_
      refine r_getR MF.bs dX5_set_37 rfl rfl 0 (by decide) wd_253 rfl ?_
      refine r_getR MF.bs dX5_set_40 rfl rfl 0 (by decide) wd_114 rfl ?_
      refine r_iload_n MF.bs dX5_set_43 rfl 2 rfl ?_
      refine r_iload_n MF.bs dX5_set_44 rfl 3 rfl ?_
      refine r_iastore MF.bs dX5_set_45 rfl hq_6 ?_
      refine r_iload_n MF.bs dX5_set_46 rfl 0 rfl ?_
      exact r_iret dX5_set_47 rfl
    · refine r_if_ne_f MF.bs (tgt := 26) dX5_set_21 (by decide) (b2i_0 h_4) ?_
      refine r_iconst MF.bs dX5_set_24 (v := -1) (by decide) ?_
      exact r_iret dX5_set_25 rfl
  · refine r_if_eq_t MF.bs (tgt := 24) dX5_set_4 (by decide) (b2i_0 h_1) ?_
    refine r_iconst MF.bs dX5_set_24 (v := -1) (by decide) ?_
    exact r_iret dX5_set_25 rfl
abbrev mtX5_lawOf : MT := (RX5, yX5_lawOf, cX5_lawOf, 2, (some .int))
theorem miX5_lawOf : MV mtX5_lawOf 1 := ⟨wd_471, ⟨wd_469, wd_470⟩, wd_79, ⟨by decide, by decide, by decide +kernel⟩, by decide⟩
def mX5_lawOf  (a1 : Int32) (M : Mem) : Int32 := (if (mX5_isLaw a1) = true then (M 2 a1.toNatClampNeg) else (-1))
def PX5_lawOf  (a1 : Int32) (M : Mem) : Prop := ((mX5_isLaw a1) = true → vp_in a1 4)
set_option maxRecDepth 100000 in
theorem ctX5_lawOf   (a1 : Int32) (M : Mem) (hp : PX5_lawOf a1 M) : CT mtX5_lawOf 2 [.ref 0, .int a1] M (some (.int (mX5_lawOf a1 M)), M) := by
  refine CT.of (by decide) rfl (Nat.le_of_ble_eq_true rfl) ?_
  show AWP (GI mtX5_lawOf 2 M M (mX5_lawOf a1 M)) mtX5_lawOf 0 [(0, .ref 0), (1, .int a1)] [] M
  unfold mX5_lawOf
  unfold PX5_lawOf at hp
  refine r_iload_n MF.bs dX5_lawOf_0 rfl 1 rfl ?_
  refine r_callS_v MF.bs (st := []) dX5_lawOf_1 (ctX5_isLaw a1 M) miX5_isLaw wd_463 rfl (by decide) rfl (Nat.le_of_ble_eq_true rfl) ?_
  refine r_ite (GI mtX5_lawOf 2 M M) (fun h_1 => ?_) (fun h_1 => ?_)
  · have hp := hp h_1
    refine r_if_eq_f MF.bs (tgt := 19) dX5_lawOf_4 (by decide) (b2i_1 h_1) ?_
    have hq_2 := hp
    refine r_aload_n MF.bs dX5_lawOf_7 rfl 0 rfl ?_
    refine r_getR MF.bs dX5_lawOf_8 rfl rfl 0 (by decide) wd_253 rfl ?_
    refine r_getR MF.bs dX5_lawOf_11 rfl rfl 0 (by decide) wd_114 rfl ?_
    refine r_iload_n MF.bs dX5_lawOf_14 rfl 1 rfl ?_
    refine r_iaload MF.bs dX5_lawOf_15 rfl hq_2 ?_
    refine r_goto MF.bs dX5_lawOf_16 (tgt := 20) (by decide) ?_
    exact r_iret dX5_lawOf_20 rfl
  · refine r_if_eq_t MF.bs (tgt := 19) dX5_lawOf_4 (by decide) (b2i_0 h_1) ?_
    refine r_iconst MF.bs dX5_lawOf_19 (v := -1) (by decide) ?_
    exact r_iret dX5_lawOf_20 rfl
abbrev mtX5_isKind : MT := (RX5, yX5_isKind, cX5_isKind, 1, (some .boolean))
theorem miX5_isKind : MS mtX5_isKind 1 := ⟨wd_478, wd_477, wd_79, ⟨by decide, by decide, by decide +kernel⟩, by decide⟩
def mX5_isKind  (a0 : Int32) : Bool := (mX5_isWithin a0 0 5)
set_option maxRecDepth 100000 in
theorem ctX5_isKind   (a0 : Int32) (M : Mem) : CT mtX5_isKind 1 [.int a0] M (some (.int (b2i (mX5_isKind a0))), M) := by
  refine CT.of (by decide) rfl (Nat.le_of_ble_eq_true rfl) ?_
  show AWP (GB mtX5_isKind 1 M M (mX5_isKind a0)) mtX5_isKind 0 [(0, .int a0)] [] M
  unfold mX5_isKind
  refine r_iload_n MF.bs dX5_isKind_0 rfl 0 rfl ?_
  refine r_iconst MF.bs dX5_isKind_1 (v := 0) (by decide) ?_
  refine r_iconst MF.bs dX5_isKind_2 (v := 5) (by decide) ?_
  refine r_callS_v MF.bs (st := []) dX5_isKind_3 (ctX5_isWithin a0 0 5 M) miX5_isWithin wd_303 rfl (by decide) rfl (Nat.le_of_ble_eq_true rfl) ?_
  exact r_zret dX5_isKind_6 rfl (b2i_nar _)
abbrev mtX5_isForce : MT := (RX5, yX5_isForce, cX5_isForce, 1, (some .boolean))
theorem miX5_isForce : MS mtX5_isForce 1 := ⟨wd_481, wd_480, wd_79, ⟨by decide, by decide, by decide +kernel⟩, by decide⟩
def mX5_isForce  (a0 : Int32) : Bool := (mX5_isWithin a0 0 9)
set_option maxRecDepth 100000 in
theorem ctX5_isForce   (a0 : Int32) (M : Mem) : CT mtX5_isForce 1 [.int a0] M (some (.int (b2i (mX5_isForce a0))), M) := by
  refine CT.of (by decide) rfl (Nat.le_of_ble_eq_true rfl) ?_
  show AWP (GB mtX5_isForce 1 M M (mX5_isForce a0)) mtX5_isForce 0 [(0, .int a0)] [] M
  unfold mX5_isForce
  refine r_iload_n MF.bs dX5_isForce_0 rfl 0 rfl ?_
  refine r_iconst MF.bs dX5_isForce_1 (v := 0) (by decide) ?_
  refine r_bipush MF.bs dX5_isForce_2 (v := 9) (by decide) ?_
  refine r_callS_v MF.bs (st := []) dX5_isForce_4 (ctX5_isWithin a0 0 9 M) miX5_isWithin wd_303 rfl (by decide) rfl (Nat.le_of_ble_eq_true rfl) ?_
  exact r_zret dX5_isForce_7 rfl (b2i_nar _)
abbrev mtX5_isHouse : MT := (RX5, yX5_isHouse, cX5_isHouse, 1, (some .boolean))
theorem miX5_isHouse : MS mtX5_isHouse 1 := ⟨wd_484, wd_483, wd_79, ⟨by decide, by decide, by decide +kernel⟩, by decide⟩
def mX5_isHouse  (a0 : Int32) : Bool := (mX5_isWithin a0 0 15)
set_option maxRecDepth 100000 in
theorem ctX5_isHouse   (a0 : Int32) (M : Mem) : CT mtX5_isHouse 1 [.int a0] M (some (.int (b2i (mX5_isHouse a0))), M) := by
  refine CT.of (by decide) rfl (Nat.le_of_ble_eq_true rfl) ?_
  show AWP (GB mtX5_isHouse 1 M M (mX5_isHouse a0)) mtX5_isHouse 0 [(0, .int a0)] [] M
  unfold mX5_isHouse
  refine r_iload_n MF.bs dX5_isHouse_0 rfl 0 rfl ?_
  refine r_iconst MF.bs dX5_isHouse_1 (v := 0) (by decide) ?_
  refine r_bipush MF.bs dX5_isHouse_2 (v := 15) (by decide) ?_
  refine r_callS_v MF.bs (st := []) dX5_isHouse_4 (ctX5_isWithin a0 0 15 M) miX5_isWithin wd_303 rfl (by decide) rfl (Nat.le_of_ble_eq_true rfl) ?_
  exact r_zret dX5_isHouse_7 rfl (b2i_nar _)
abbrev mtX5_air : MT := (RX5, yX5_air, cX5_air, 5, (some .int))
theorem miX5_air : MV mtX5_air 4 := ⟨wd_475, ⟨wd_473, wd_474⟩, wd_79, ⟨by decide, by decide, by decide +kernel⟩, by decide⟩
def mX5_air_43   (k0 : Int32) (M : Mem) : Int32 × Mem := (if k0 = 0 then ((-2), M) else (((M 1 6) - 1), M))
def PX5_air_43   (k0 : Int32) (M : Mem) : Prop := True
set_option maxRecDepth 100000 in
theorem cX5_air_43    (M0 : Mem) (k0 : Int32) (M : Mem) (hp : PX5_air_43 k0 M) : AWP (GIM mtX5_air 2 M0 (mX5_air_43 k0 M)) mtX5_air 43 [(0, .ref 0)] [.int k0] M := by
  unfold mX5_air_43
  unfold PX5_air_43 at hp
  refine r_ite (GIM mtX5_air 2 M0) (fun h_6 => ?_) (fun h_6 => ?_)
  · refine r_if_eq_t MF.bs (tgt := 58) dX5_air_43 (by decide) h_6 ?_
    refine r_bipush MF.bs dX5_air_58 (v := -2) (by decide) ?_
    exact r_iret dX5_air_60 rfl
  · refine r_if_eq_f MF.bs (tgt := 58) dX5_air_43 (by decide) h_6 ?_
    refine r_aload_n MF.bs dX5_air_46 rfl 0 rfl ?_
    refine r_getR MF.bs dX5_air_47 rfl rfl 0 (by decide) wd_253 rfl ?_
    refine r_getI MF.bs dX5_air_50 rfl rfl 6 (by decide) wd_128 rfl ?_
    refine r_iconst MF.bs dX5_air_53 (v := 1) (by decide) ?_
    refine r_isub MF.bs dX5_air_54 ?_
    refine r_goto MF.bs dX5_air_55 (tgt := 60) (by decide) ?_
    exact r_iret dX5_air_60 rfl
def mX5_air  (a1 : Int32) (a2 : Int32) (a3 : Int32) (a4 : Int32) (M : Mem) : Int32 × Mem := (if (mX5_isKind a1) = true then (if (mX5_isForce a2) = true then (if (mX5_isHouse a3) = true then (if (mX5_isHouse a4) = true then (mX5_air_43 (b2i ((mX4_add 1 a1 a2 a3 a4 M).1)) ((mX4_add 1 a1 a2 a3 a4 M).2)) else ((-1), M)) else ((-1), M)) else ((-1), M)) else ((-1), M))
def PX5_air  (a1 : Int32) (a2 : Int32) (a3 : Int32) (a4 : Int32) (M : Mem) : Prop := ((mX5_isKind a1) = true → ((mX5_isForce a2) = true → ((mX5_isHouse a3) = true → ((mX5_isHouse a4) = true → PX4_add 1 a1 a2 a3 a4 M ∧ (PX5_air_43 (b2i ((mX4_add 1 a1 a2 a3 a4 M).1)) ((mX4_add 1 a1 a2 a3 a4 M).2))))))
set_option maxRecDepth 100000 in
theorem ctX5_air   (a1 : Int32) (a2 : Int32) (a3 : Int32) (a4 : Int32) (M : Mem) (hp : PX5_air a1 a2 a3 a4 M) : CT mtX5_air 2 [.ref 0, .int a1, .int a2, .int a3, .int a4] M (some (.int ((mX5_air a1 a2 a3 a4 M).1)), (mX5_air a1 a2 a3 a4 M).2) := by
  refine CT.of (by decide) rfl (Nat.le_of_ble_eq_true rfl) ?_
  show AWP (GIM mtX5_air 2 M (mX5_air a1 a2 a3 a4 M)) mtX5_air 0 [(0, .ref 0), (1, .int a1), (2, .int a2), (3, .int a3), (4, .int a4)] [] M
  unfold mX5_air
  unfold PX5_air at hp
  refine r_iload_n MF.bs dX5_air_0 rfl 1 rfl ?_
  refine r_callS_v MF.bs (st := []) dX5_air_1 (ctX5_isKind a1 M) miX5_isKind wd_476 rfl (by decide) rfl (Nat.le_of_ble_eq_true rfl) ?_
  refine r_ite (GIM mtX5_air 2 M) (fun h_1 => ?_) (fun h_1 => ?_)
  · have hp := hp h_1
    refine r_if_eq_f MF.bs (tgt := 29) dX5_air_4 (by decide) (b2i_1 h_1) ?_
    refine r_iload_n MF.bs dX5_air_7 rfl 2 rfl ?_
    refine r_callS_v MF.bs (st := []) dX5_air_8 (ctX5_isForce a2 M) miX5_isForce wd_479 rfl (by decide) rfl (Nat.le_of_ble_eq_true rfl) ?_
    refine r_ite (GIM mtX5_air 2 M) (fun h_2 => ?_) (fun h_2 => ?_)
    · have hp := hp h_2
      refine r_if_eq_f MF.bs (tgt := 29) dX5_air_11 (by decide) (b2i_1 h_2) ?_
      refine r_iload_n MF.bs dX5_air_14 rfl 3 rfl ?_
      refine r_callS_v MF.bs (st := []) dX5_air_15 (ctX5_isHouse a3 M) miX5_isHouse wd_482 rfl (by decide) rfl (Nat.le_of_ble_eq_true rfl) ?_
      refine r_ite (GIM mtX5_air 2 M) (fun h_3 => ?_) (fun h_3 => ?_)
      · have hp := hp h_3
        refine r_if_eq_f MF.bs (tgt := 29) dX5_air_18 (by decide) (b2i_1 h_3) ?_
        refine r_iload MF.bs dX5_air_21 4 rfl ?_
        refine r_callS_v MF.bs (st := []) dX5_air_23 (ctX5_isHouse a4 M) miX5_isHouse wd_482 rfl (by decide) rfl (Nat.le_of_ble_eq_true rfl) ?_
        refine r_ite (GIM mtX5_air 2 M) (fun h_4 => ?_) (fun h_4 => ?_)
        · have hp := hp h_4
          refine r_if_ne_t MF.bs (tgt := 31) dX5_air_26 (by decide) (b2i_1 h_4) ?_
          obtain ⟨hq_5, hp⟩ := hp
          refine r_aload_n MF.bs dX5_air_31 rfl 0 rfl ?_
          refine r_getR MF.bs dX5_air_32 rfl rfl 0 (by decide) wd_253 rfl ?_
          refine r_iload_n MF.bs dX5_air_35 rfl 1 rfl ?_
          refine r_iload_n MF.bs dX5_air_36 rfl 2 rfl ?_
          refine r_iload_n MF.bs dX5_air_37 rfl 3 rfl ?_
          refine r_iload MF.bs dX5_air_38 4 rfl ?_
          refine r_callV_v MF.bs (st := []) dX5_air_40 (ctX4_add 1 (Or.inl rfl) a1 a2 a3 a4 M hq_5) miX4_add wd_485 rfl (by decide) rfl (Nat.le_of_ble_eq_true rfl) rfl rfl rfl ?_
          refine r_sub [(0, .ref 0)] [0] rfl ?_
          exact cX5_air_43 M (b2i ((mX4_add 1 a1 a2 a3 a4 M).1)) ((mX4_add 1 a1 a2 a3 a4 M).2) hp
        · refine r_if_ne_f MF.bs (tgt := 31) dX5_air_26 (by decide) (b2i_0 h_4) ?_
          refine r_iconst MF.bs dX5_air_29 (v := -1) (by decide) ?_
          exact r_iret dX5_air_30 rfl
      · refine r_if_eq_t MF.bs (tgt := 29) dX5_air_18 (by decide) (b2i_0 h_3) ?_
        refine r_iconst MF.bs dX5_air_29 (v := -1) (by decide) ?_
        exact r_iret dX5_air_30 rfl
    · refine r_if_eq_t MF.bs (tgt := 29) dX5_air_11 (by decide) (b2i_0 h_2) ?_
      refine r_iconst MF.bs dX5_air_29 (v := -1) (by decide) ?_
      exact r_iret dX5_air_30 rfl
  · refine r_if_eq_t MF.bs (tgt := 29) dX5_air_4 (by decide) (b2i_0 h_1) ?_
    refine r_iconst MF.bs dX5_air_29 (v := -1) (by decide) ?_
    exact r_iret dX5_air_30 rfl
abbrev mtX5_of : MT := (RX5, yX5_of, cX5_of, 3, (some .int))
theorem miX5_of : MV mtX5_of 2 := ⟨wd_489, ⟨wd_487, wd_488⟩, wd_79, ⟨by decide, by decide, by decide +kernel⟩, by decide⟩
def mX5_of  (a1 : Int32) (a2 : Int32) (M : Mem) : Int32 := (if (mX4_has 1 a1 M) = true then (if a2 = 0 then (M 4 a1.toNatClampNeg) else (if a2 = 1 then (M 5 a1.toNatClampNeg) else (if a2 = 2 then (M 6 a1.toNatClampNeg) else (if a2 = 3 then (M 7 a1.toNatClampNeg) else (if a2 = 4 then (mX4_goes 1 a1 M) else (if a2 = 5 then (1000 + (mX4_wets 1 a1 M)) else (-1))))))) else (-1))
def PX5_of  (a1 : Int32) (a2 : Int32) (M : Mem) : Prop := ((mX4_has 1 a1 M) = true → ((a2 = 0 → vp_in a1 8) ∧ (¬ a2 = 0 → ((a2 = 1 → vp_in a1 8) ∧ (¬ a2 = 1 → ((a2 = 2 → vp_in a1 8) ∧ (¬ a2 = 2 → ((a2 = 3 → vp_in a1 8) ∧ (¬ a2 = 3 → ((a2 = 4 → PX4_goes 1 a1 M) ∧ (¬ a2 = 4 → (a2 = 5 → PX4_wets 1 a1 M))))))))))))
set_option maxRecDepth 100000 in
theorem ctX5_of   (a1 : Int32) (a2 : Int32) (M : Mem) (hp : PX5_of a1 a2 M) : CT mtX5_of 4 [.ref 0, .int a1, .int a2] M (some (.int (mX5_of a1 a2 M)), M) := by
  refine CT.of (by decide) rfl (Nat.le_of_ble_eq_true rfl) ?_
  show AWP (GI mtX5_of 4 M M (mX5_of a1 a2 M)) mtX5_of 0 [(0, .ref 0), (1, .int a1), (2, .int a2)] [] M
  unfold mX5_of
  unfold PX5_of at hp
  refine r_aload_n MF.bs dX5_of_0 rfl 0 rfl ?_
  refine r_getR MF.bs dX5_of_1 rfl rfl 0 (by decide) wd_253 rfl ?_
  refine r_iload_n MF.bs dX5_of_4 rfl 1 rfl ?_
  refine r_callV_v MF.bs (st := []) dX5_of_5 (ctX4_has 1 (Or.inl rfl) a1 M) miX4_has wd_490 rfl (by decide) rfl (Nat.le_of_ble_eq_true rfl) rfl rfl rfl ?_
  refine r_ite (GI mtX5_of 4 M M) (fun h_1 => ?_) (fun h_1 => ?_)
  · have hp := hp h_1
    refine r_if_ne_t MF.bs (tgt := 13) dX5_of_8 (by decide) (b2i_1 h_1) ?_
    refine r_iload_n MF.bs dX5_of_13 rfl 2 rfl ?_
    refine r_ite (GI mtX5_of 4 M M) (fun h_2 => ?_) (fun h_2 => ?_)
    · have hp := hp.1 h_2
      refine r_tsw_in MF.bs (tgt := 52) dX5_of_14 h_2 (by decide) (by decide) rfl (by decide) ?_
      have hq_3 := hp
      refine r_aload_n MF.bs dX5_of_52 rfl 0 rfl ?_
      refine r_getR MF.bs dX5_of_53 rfl rfl 0 (by decide) wd_253 rfl ?_
      refine r_getR MF.bs dX5_of_56 rfl rfl 2 (by decide) wd_120 rfl ?_
      refine r_iload_n MF.bs dX5_of_59 rfl 1 rfl ?_
      refine r_iaload MF.bs dX5_of_60 rfl hq_3 ?_
      exact r_iret dX5_of_61 rfl
    · have hp := hp.2 h_2
      refine r_ite (GI mtX5_of 4 M M) (fun h_4 => ?_) (fun h_4 => ?_)
      · have hp := hp.1 h_4
        refine r_tsw_in MF.bs (tgt := 62) dX5_of_14 h_4 (by decide) (by decide) rfl (by decide) ?_
        have hq_5 := hp
        refine r_aload_n MF.bs dX5_of_62 rfl 0 rfl ?_
        refine r_getR MF.bs dX5_of_63 rfl rfl 0 (by decide) wd_253 rfl ?_
        refine r_getR MF.bs dX5_of_66 rfl rfl 3 (by decide) wd_122 rfl ?_
        refine r_iload_n MF.bs dX5_of_69 rfl 1 rfl ?_
        refine r_iaload MF.bs dX5_of_70 rfl hq_5 ?_
        exact r_iret dX5_of_71 rfl
      · have hp := hp.2 h_4
        refine r_ite (GI mtX5_of 4 M M) (fun h_6 => ?_) (fun h_6 => ?_)
        · have hp := hp.1 h_6
          refine r_tsw_in MF.bs (tgt := 72) dX5_of_14 h_6 (by decide) (by decide) rfl (by decide) ?_
          have hq_7 := hp
          refine r_aload_n MF.bs dX5_of_72 rfl 0 rfl ?_
          refine r_getR MF.bs dX5_of_73 rfl rfl 0 (by decide) wd_253 rfl ?_
          refine r_getR MF.bs dX5_of_76 rfl rfl 4 (by decide) wd_124 rfl ?_
          refine r_iload_n MF.bs dX5_of_79 rfl 1 rfl ?_
          refine r_iaload MF.bs dX5_of_80 rfl hq_7 ?_
          exact r_iret dX5_of_81 rfl
        · have hp := hp.2 h_6
          refine r_ite (GI mtX5_of 4 M M) (fun h_8 => ?_) (fun h_8 => ?_)
          · have hp := hp.1 h_8
            refine r_tsw_in MF.bs (tgt := 82) dX5_of_14 h_8 (by decide) (by decide) rfl (by decide) ?_
            have hq_9 := hp
            refine r_aload_n MF.bs dX5_of_82 rfl 0 rfl ?_
            refine r_getR MF.bs dX5_of_83 rfl rfl 0 (by decide) wd_253 rfl ?_
            refine r_getR MF.bs dX5_of_86 rfl rfl 5 (by decide) wd_126 rfl ?_
            refine r_iload_n MF.bs dX5_of_89 rfl 1 rfl ?_
            refine r_iaload MF.bs dX5_of_90 rfl hq_9 ?_
            exact r_iret dX5_of_91 rfl
          · have hp := hp.2 h_8
            refine r_ite (GI mtX5_of 4 M M) (fun h_10 => ?_) (fun h_10 => ?_)
            · have hp := hp.1 h_10
              refine r_tsw_in MF.bs (tgt := 92) dX5_of_14 h_10 (by decide) (by decide) rfl (by decide) ?_
              have hq_11 := hp
              refine r_aload_n MF.bs dX5_of_92 rfl 0 rfl ?_
              refine r_getR MF.bs dX5_of_93 rfl rfl 0 (by decide) wd_253 rfl ?_
              refine r_iload_n MF.bs dX5_of_96 rfl 1 rfl ?_
              refine r_callV_v MF.bs (st := []) dX5_of_97 (ctX4_goes 1 (Or.inl rfl) a1 M hq_11) miX4_goes wd_495 rfl (by decide) rfl (Nat.le_of_ble_eq_true rfl) rfl rfl rfl ?_
              exact r_iret dX5_of_100 rfl
            · have hp := hp.2 h_10
              refine r_ite (GI mtX5_of 4 M M) (fun h_12 => ?_) (fun h_12 => ?_)
              · have hp := hp h_12
                refine r_tsw_in MF.bs (tgt := 101) dX5_of_14 h_12 (by decide) (by decide) rfl (by decide) ?_
                have hq_13 := hp
                refine r_sipush MF.bs dX5_of_101 (v := 1000) (by decide) ?_
                refine r_aload_n MF.bs dX5_of_104 rfl 0 rfl ?_
                refine r_getR MF.bs dX5_of_105 rfl rfl 0 (by decide) wd_253 rfl ?_
                refine r_iload_n MF.bs dX5_of_108 rfl 1 rfl ?_
                refine r_callV_v MF.bs (st := [.int 1000]) dX5_of_109 (ctX4_wets 1 (Or.inl rfl) a1 M hq_13) miX4_wets wd_519 rfl (by decide) rfl (Nat.le_of_ble_eq_true rfl) rfl rfl rfl ?_
                refine r_iadd MF.bs dX5_of_112 ?_
                exact r_iret dX5_of_113 rfl
              · refine r_tsw_out MF.bs (tgt := 114) dX5_of_14 (by have e0 := lv_neT (a := 0) h_2 (by decide); have e1 := lv_neT (a := 1) h_4 (by decide); have e2 := lv_neT (a := 2) h_6 (by decide); have e3 := lv_neT (a := 3) h_8 (by decide); have e4 := lv_neT (a := 4) h_10 (by decide); have e5 := lv_neT (a := 5) h_12 (by decide); omega) (by decide) ?_
                refine r_iconst MF.bs dX5_of_114 (v := -1) (by decide) ?_
                exact r_iret dX5_of_115 rfl
  · refine r_if_ne_f MF.bs (tgt := 13) dX5_of_8 (by decide) (b2i_0 h_1) ?_
    refine r_iconst MF.bs dX5_of_11 (v := -1) (by decide) ?_
    exact r_iret dX5_of_12 rfl
abbrev mtX5_mind : MT := (RX5, yX5_mind, cX5_mind, 5, (some .int))
theorem miX5_mind : MV mtX5_mind 3 := ⟨wd_526, ⟨wd_524, wd_525⟩, wd_79, ⟨by decide, by decide, by decide +kernel⟩, by decide⟩
def mX5_mind  (a1 : Int32) (a2 : Int32) (a3 : Int32) (M : Mem) : Int32 × Mem := (if (mX4_has 1 a1 M) = true then (if (mX5_isKind a2) = true then (if (mX5_isForce a3) = true then ((M 4 a1.toNatClampNeg), (upm (upm M 4 a1.toNatClampNeg a2) 5 a1.toNatClampNeg a3)) else ((-1), M)) else ((-1), M)) else ((-1), M))
def PX5_mind  (a1 : Int32) (a2 : Int32) (a3 : Int32) (M : Mem) : Prop := ((mX4_has 1 a1 M) = true → ((mX5_isKind a2) = true → ((mX5_isForce a3) = true → vp_in a1 8 ∧ (vp_in a1 8 ∧ (vp_in a1 8)))))
set_option maxRecDepth 100000 in
theorem ctX5_mind   (a1 : Int32) (a2 : Int32) (a3 : Int32) (M : Mem) (hp : PX5_mind a1 a2 a3 M) : CT mtX5_mind 2 [.ref 0, .int a1, .int a2, .int a3] M (some (.int ((mX5_mind a1 a2 a3 M).1)), (mX5_mind a1 a2 a3 M).2) := by
  refine CT.of (by decide) rfl (Nat.le_of_ble_eq_true rfl) ?_
  show AWP (GIM mtX5_mind 2 M (mX5_mind a1 a2 a3 M)) mtX5_mind 0 [(0, .ref 0), (1, .int a1), (2, .int a2), (3, .int a3)] [] M
  unfold mX5_mind
  unfold PX5_mind at hp
  refine r_aload_n MF.bs dX5_mind_0 rfl 0 rfl ?_
  refine r_getR MF.bs dX5_mind_1 rfl rfl 0 (by decide) wd_253 rfl ?_
  refine r_iload_n MF.bs dX5_mind_4 rfl 1 rfl ?_
  refine r_callV_v MF.bs (st := []) dX5_mind_5 (ctX4_has 1 (Or.inl rfl) a1 M) miX4_has wd_490 rfl (by decide) rfl (Nat.le_of_ble_eq_true rfl) rfl rfl rfl ?_
  refine r_ite (GIM mtX5_mind 2 M) (fun h_1 => ?_) (fun h_1 => ?_)
  · have hp := hp h_1
    refine r_if_eq_f MF.bs (tgt := 25) dX5_mind_8 (by decide) (b2i_1 h_1) ?_
    refine r_iload_n MF.bs dX5_mind_11 rfl 2 rfl ?_
    refine r_callS_v MF.bs (st := []) dX5_mind_12 (ctX5_isKind a2 M) miX5_isKind wd_476 rfl (by decide) rfl (Nat.le_of_ble_eq_true rfl) ?_
    refine r_ite (GIM mtX5_mind 2 M) (fun h_2 => ?_) (fun h_2 => ?_)
    · have hp := hp h_2
      refine r_if_eq_f MF.bs (tgt := 25) dX5_mind_15 (by decide) (b2i_1 h_2) ?_
      refine r_iload_n MF.bs dX5_mind_18 rfl 3 rfl ?_
      refine r_callS_v MF.bs (st := []) dX5_mind_19 (ctX5_isForce a3 M) miX5_isForce wd_479 rfl (by decide) rfl (Nat.le_of_ble_eq_true rfl) ?_
      refine r_ite (GIM mtX5_mind 2 M) (fun h_3 => ?_) (fun h_3 => ?_)
      · have hp := hp h_3
        refine r_if_ne_t MF.bs (tgt := 27) dX5_mind_22 (by decide) (b2i_1 h_3) ?_
        obtain ⟨hq_4, hp⟩ := hp
        obtain ⟨hq_5, hp⟩ := hp
        have hq_6 := hp
        refine r_aload_n MF.bs dX5_mind_27 rfl 0 rfl ?_
        refine r_getR MF.bs dX5_mind_28 rfl rfl 0 (by decide) wd_253 rfl ?_
        refine r_getR MF.bs dX5_mind_31 rfl rfl 2 (by decide) wd_120 rfl ?_
        refine r_iload_n MF.bs dX5_mind_34 rfl 1 rfl ?_
        refine r_iaload MF.bs dX5_mind_35 rfl hq_4 ?_
        refine r_istore MF.bs (lv' := [(4, .int (M 4 a1.toNatClampNeg)), (0, .ref 0), (1, .int a1), (2, .int a2), (3, .int a3)]) dX5_mind_36 (by decide) rfl ?_
        refine r_aload_n MF.bs dX5_mind_38 rfl 1 rfl ?_
        refine r_getR MF.bs dX5_mind_39 rfl rfl 0 (by decide) wd_253 rfl ?_
        refine r_getR MF.bs dX5_mind_42 rfl rfl 2 (by decide) wd_120 rfl ?_
        refine r_iload_n MF.bs dX5_mind_45 rfl 2 rfl ?_
        refine r_iload_n MF.bs dX5_mind_46 rfl 3 rfl ?_
        refine r_iastore MF.bs dX5_mind_47 rfl hq_5 ?_
        refine r_aload_n MF.bs dX5_mind_48 rfl 1 rfl ?_
        refine r_getR MF.bs dX5_mind_49 rfl rfl 0 (by decide) wd_253 rfl ?_
        refine r_getR MF.bs dX5_mind_52 rfl rfl 3 (by decide) wd_122 rfl ?_
        refine r_iload_n MF.bs dX5_mind_55 rfl 2 rfl ?_
        refine r_iload_n MF.bs dX5_mind_56 rfl 4 rfl ?_
        refine r_iastore MF.bs dX5_mind_57 rfl hq_6 ?_
        refine r_iload MF.bs dX5_mind_58 0 rfl ?_
        exact r_iret dX5_mind_60 rfl
      · refine r_if_ne_f MF.bs (tgt := 27) dX5_mind_22 (by decide) (b2i_0 h_3) ?_
        refine r_iconst MF.bs dX5_mind_25 (v := -1) (by decide) ?_
        exact r_iret dX5_mind_26 rfl
    · refine r_if_eq_t MF.bs (tgt := 25) dX5_mind_15 (by decide) (b2i_0 h_2) ?_
      refine r_iconst MF.bs dX5_mind_25 (v := -1) (by decide) ?_
      exact r_iret dX5_mind_26 rfl
  · refine r_if_eq_t MF.bs (tgt := 25) dX5_mind_8 (by decide) (b2i_0 h_1) ?_
    refine r_iconst MF.bs dX5_mind_25 (v := -1) (by decide) ?_
    exact r_iret dX5_mind_26 rfl
abbrev mtX5_bring : MT := (RX5, yX5_bring, cX5_bring, 4, (some .int))
theorem miX5_bring : MV mtX5_bring 2 := ⟨wd_530, ⟨wd_528, wd_529⟩, wd_79, ⟨by decide, by decide, by decide +kernel⟩, by decide⟩
def mX5_bring  (a1 : Int32) (a2 : Int32) (M : Mem) : Int32 × Mem := (if (mX4_has 1 a1 M) = true then (if (mX5_isHouse a2) = true then ((M 7 a1.toNatClampNeg), (upm M 7 a1.toNatClampNeg a2)) else ((-1), M)) else ((-1), M))
def PX5_bring  (a1 : Int32) (a2 : Int32) (M : Mem) : Prop := ((mX4_has 1 a1 M) = true → ((mX5_isHouse a2) = true → vp_in a1 8 ∧ (vp_in a1 8)))
set_option maxRecDepth 100000 in
theorem ctX5_bring   (a1 : Int32) (a2 : Int32) (M : Mem) (hp : PX5_bring a1 a2 M) : CT mtX5_bring 2 [.ref 0, .int a1, .int a2] M (some (.int ((mX5_bring a1 a2 M).1)), (mX5_bring a1 a2 M).2) := by
  refine CT.of (by decide) rfl (Nat.le_of_ble_eq_true rfl) ?_
  show AWP (GIM mtX5_bring 2 M (mX5_bring a1 a2 M)) mtX5_bring 0 [(0, .ref 0), (1, .int a1), (2, .int a2)] [] M
  unfold mX5_bring
  unfold PX5_bring at hp
  refine r_aload_n MF.bs dX5_bring_0 rfl 0 rfl ?_
  refine r_getR MF.bs dX5_bring_1 rfl rfl 0 (by decide) wd_253 rfl ?_
  refine r_iload_n MF.bs dX5_bring_4 rfl 1 rfl ?_
  refine r_callV_v MF.bs (st := []) dX5_bring_5 (ctX4_has 1 (Or.inl rfl) a1 M) miX4_has wd_490 rfl (by decide) rfl (Nat.le_of_ble_eq_true rfl) rfl rfl rfl ?_
  refine r_ite (GIM mtX5_bring 2 M) (fun h_1 => ?_) (fun h_1 => ?_)
  · have hp := hp h_1
    refine r_if_eq_f MF.bs (tgt := 18) dX5_bring_8 (by decide) (b2i_1 h_1) ?_
    refine r_iload_n MF.bs dX5_bring_11 rfl 2 rfl ?_
    refine r_callS_v MF.bs (st := []) dX5_bring_12 (ctX5_isHouse a2 M) miX5_isHouse wd_482 rfl (by decide) rfl (Nat.le_of_ble_eq_true rfl) ?_
    refine r_ite (GIM mtX5_bring 2 M) (fun h_2 => ?_) (fun h_2 => ?_)
    · have hp := hp h_2
      refine r_if_ne_t MF.bs (tgt := 20) dX5_bring_15 (by decide) (b2i_1 h_2) ?_
      obtain ⟨hq_3, hp⟩ := hp
      have hq_4 := hp
      refine r_aload_n MF.bs dX5_bring_20 rfl 0 rfl ?_
      refine r_getR MF.bs dX5_bring_21 rfl rfl 0 (by decide) wd_253 rfl ?_
      refine r_getR MF.bs dX5_bring_24 rfl rfl 5 (by decide) wd_126 rfl ?_
      refine r_iload_n MF.bs dX5_bring_27 rfl 1 rfl ?_
      refine r_iaload MF.bs dX5_bring_28 rfl hq_3 ?_
      refine r_istore_n MF.bs (lv' := [(3, .int (M 7 a1.toNatClampNeg)), (0, .ref 0), (1, .int a1), (2, .int a2)]) dX5_bring_29 rfl (by decide) rfl ?_
      refine r_aload_n MF.bs dX5_bring_30 rfl 1 rfl ?_
      refine r_getR MF.bs dX5_bring_31 rfl rfl 0 (by decide) wd_253 rfl ?_
      refine r_getR MF.bs dX5_bring_34 rfl rfl 5 (by decide) wd_126 rfl ?_
      refine r_iload_n MF.bs dX5_bring_37 rfl 2 rfl ?_
      refine r_iload_n MF.bs dX5_bring_38 rfl 3 rfl ?_
      refine r_iastore MF.bs dX5_bring_39 rfl hq_4 ?_
      refine r_iload_n MF.bs dX5_bring_40 rfl 0 rfl ?_
      exact r_iret dX5_bring_41 rfl
    · refine r_if_ne_f MF.bs (tgt := 20) dX5_bring_15 (by decide) (b2i_0 h_2) ?_
      refine r_iconst MF.bs dX5_bring_18 (v := -1) (by decide) ?_
      exact r_iret dX5_bring_19 rfl
  · refine r_if_eq_t MF.bs (tgt := 18) dX5_bring_8 (by decide) (b2i_0 h_1) ?_
    refine r_iconst MF.bs dX5_bring_18 (v := -1) (by decide) ?_
    exact r_iret dX5_bring_19 rfl
abbrev mtX5_send : MT := (RX5, yX5_send, cX5_send, 4, (some .int))
theorem miX5_send : MV mtX5_send 2 := ⟨wd_534, ⟨wd_532, wd_533⟩, wd_79, ⟨by decide, by decide, by decide +kernel⟩, by decide⟩
def mX5_send  (a1 : Int32) (a2 : Int32) (M : Mem) : Int32 × Mem := (if (mX4_has 1 a1 M) = true then (if (mX5_isHouse a2) = true then ((M 6 a1.toNatClampNeg), (upm M 6 a1.toNatClampNeg a2)) else ((-1), M)) else ((-1), M))
def PX5_send  (a1 : Int32) (a2 : Int32) (M : Mem) : Prop := ((mX4_has 1 a1 M) = true → ((mX5_isHouse a2) = true → vp_in a1 8 ∧ (vp_in a1 8)))
set_option maxRecDepth 100000 in
theorem ctX5_send   (a1 : Int32) (a2 : Int32) (M : Mem) (hp : PX5_send a1 a2 M) : CT mtX5_send 2 [.ref 0, .int a1, .int a2] M (some (.int ((mX5_send a1 a2 M).1)), (mX5_send a1 a2 M).2) := by
  refine CT.of (by decide) rfl (Nat.le_of_ble_eq_true rfl) ?_
  show AWP (GIM mtX5_send 2 M (mX5_send a1 a2 M)) mtX5_send 0 [(0, .ref 0), (1, .int a1), (2, .int a2)] [] M
  unfold mX5_send
  unfold PX5_send at hp
  refine r_aload_n MF.bs dX5_send_0 rfl 0 rfl ?_
  refine r_getR MF.bs dX5_send_1 rfl rfl 0 (by decide) wd_253 rfl ?_
  refine r_iload_n MF.bs dX5_send_4 rfl 1 rfl ?_
  refine r_callV_v MF.bs (st := []) dX5_send_5 (ctX4_has 1 (Or.inl rfl) a1 M) miX4_has wd_490 rfl (by decide) rfl (Nat.le_of_ble_eq_true rfl) rfl rfl rfl ?_
  refine r_ite (GIM mtX5_send 2 M) (fun h_1 => ?_) (fun h_1 => ?_)
  · have hp := hp h_1
    refine r_if_eq_f MF.bs (tgt := 18) dX5_send_8 (by decide) (b2i_1 h_1) ?_
    refine r_iload_n MF.bs dX5_send_11 rfl 2 rfl ?_
    refine r_callS_v MF.bs (st := []) dX5_send_12 (ctX5_isHouse a2 M) miX5_isHouse wd_482 rfl (by decide) rfl (Nat.le_of_ble_eq_true rfl) ?_
    refine r_ite (GIM mtX5_send 2 M) (fun h_2 => ?_) (fun h_2 => ?_)
    · have hp := hp h_2
      refine r_if_ne_t MF.bs (tgt := 20) dX5_send_15 (by decide) (b2i_1 h_2) ?_
      obtain ⟨hq_3, hp⟩ := hp
      have hq_4 := hp
      refine r_aload_n MF.bs dX5_send_20 rfl 0 rfl ?_
      refine r_getR MF.bs dX5_send_21 rfl rfl 0 (by decide) wd_253 rfl ?_
      refine r_getR MF.bs dX5_send_24 rfl rfl 4 (by decide) wd_124 rfl ?_
      refine r_iload_n MF.bs dX5_send_27 rfl 1 rfl ?_
      refine r_iaload MF.bs dX5_send_28 rfl hq_3 ?_
      refine r_istore_n MF.bs (lv' := [(3, .int (M 6 a1.toNatClampNeg)), (0, .ref 0), (1, .int a1), (2, .int a2)]) dX5_send_29 rfl (by decide) rfl ?_
      refine r_aload_n MF.bs dX5_send_30 rfl 1 rfl ?_
      refine r_getR MF.bs dX5_send_31 rfl rfl 0 (by decide) wd_253 rfl ?_
      refine r_getR MF.bs dX5_send_34 rfl rfl 4 (by decide) wd_124 rfl ?_
      refine r_iload_n MF.bs dX5_send_37 rfl 2 rfl ?_
      refine r_iload_n MF.bs dX5_send_38 rfl 3 rfl ?_
      refine r_iastore MF.bs dX5_send_39 rfl hq_4 ?_
      refine r_iload_n MF.bs dX5_send_40 rfl 0 rfl ?_
      exact r_iret dX5_send_41 rfl
    · refine r_if_ne_f MF.bs (tgt := 20) dX5_send_15 (by decide) (b2i_0 h_2) ?_
      refine r_iconst MF.bs dX5_send_18 (v := -1) (by decide) ?_
      exact r_iret dX5_send_19 rfl
  · refine r_if_eq_t MF.bs (tgt := 18) dX5_send_8 (by decide) (b2i_0 h_1) ?_
    refine r_iconst MF.bs dX5_send_18 (v := -1) (by decide) ?_
    exact r_iret dX5_send_19 rfl
abbrev mtX5_blow : MT := (RX5, yX5_blow, cX5_blow, 3, (some .int))
theorem miX5_blow : MV mtX5_blow 1 := ⟨wd_538, ⟨wd_536, wd_537⟩, wd_79, ⟨by decide, by decide, by decide +kernel⟩, by decide⟩
def mX5_blow  (a1 : Int32) (M : Mem) : Int32 × Mem := (if (mX5_isWithin a1 0 3) = true then ((M 1 8), (upm M 1 8 a1)) else ((-1), M))
set_option maxRecDepth 100000 in
theorem ctX5_blow   (a1 : Int32) (M : Mem) : CT mtX5_blow 1 [.ref 0, .int a1] M (some (.int ((mX5_blow a1 M).1)), (mX5_blow a1 M).2) := by
  refine CT.of (by decide) rfl (Nat.le_of_ble_eq_true rfl) ?_
  show AWP (GIM mtX5_blow 1 M (mX5_blow a1 M)) mtX5_blow 0 [(0, .ref 0), (1, .int a1)] [] M
  unfold mX5_blow
  refine r_iload_n MF.bs dX5_blow_0 rfl 1 rfl ?_
  refine r_iconst MF.bs dX5_blow_1 (v := 0) (by decide) ?_
  refine r_iconst MF.bs dX5_blow_2 (v := 3) (by decide) ?_
  refine r_callS_v MF.bs (st := []) dX5_blow_3 (ctX5_isWithin a1 0 3 M) miX5_isWithin wd_303 rfl (by decide) rfl (Nat.le_of_ble_eq_true rfl) ?_
  refine r_ite (GIM mtX5_blow 1 M) (fun h_1 => ?_) (fun h_1 => ?_)
  · refine r_if_ne_t MF.bs (tgt := 11) dX5_blow_6 (by decide) (b2i_1 h_1) ?_
    refine r_aload_n MF.bs dX5_blow_11 rfl 0 rfl ?_
    refine r_getR MF.bs dX5_blow_12 rfl rfl 0 (by decide) wd_253 rfl ?_
    refine r_getI MF.bs dX5_blow_15 rfl rfl 8 (by decide) wd_134 rfl ?_
    refine r_istore_n MF.bs (lv' := [(2, .int (M 1 8)), (0, .ref 0), (1, .int a1)]) dX5_blow_18 rfl (by decide) rfl ?_
    refine r_aload_n MF.bs dX5_blow_19 rfl 1 rfl ?_
    refine r_getR MF.bs dX5_blow_20 rfl rfl 0 (by decide) wd_253 rfl ?_
    refine r_iload_n MF.bs dX5_blow_23 rfl 2 rfl ?_
    refine r_putI MF.bs dX5_blow_24 rfl rfl 8 (by decide) wd_134 rfl rfl rfl rfl rfl ?_
    refine r_iload_n MF.bs dX5_blow_27 rfl 0 rfl ?_
    exact r_iret dX5_blow_28 rfl
  · refine r_if_ne_f MF.bs (tgt := 11) dX5_blow_6 (by decide) (b2i_0 h_1) ?_
    refine r_iconst MF.bs dX5_blow_9 (v := -1) (by decide) ?_
    exact r_iret dX5_blow_10 rfl
abbrev mtX5_pour : MT := (RX5, yX5_pour, cX5_pour, 4, (some .int))
theorem miX5_pour : MV mtX5_pour 2 := ⟨wd_542, ⟨wd_540, wd_541⟩, wd_79, ⟨by decide, by decide, by decide +kernel⟩, by decide⟩
def mX5_pour  (a1 : Int32) (a2 : Int32) (M : Mem) : Int32 × Mem := (if (mX5_isHouse a1) = true then (if (mX5_isWithin a2 0 99) = true then ((M 3 a1.toNatClampNeg), (upm M 3 a1.toNatClampNeg a2)) else ((-1), M)) else ((-1), M))
def PX5_pour  (a1 : Int32) (a2 : Int32) (M : Mem) : Prop := ((mX5_isHouse a1) = true → ((mX5_isWithin a2 0 99) = true → vp_in a1 16 ∧ (vp_in a1 16)))
set_option maxRecDepth 100000 in
theorem ctX5_pour   (a1 : Int32) (a2 : Int32) (M : Mem) (hp : PX5_pour a1 a2 M) : CT mtX5_pour 2 [.ref 0, .int a1, .int a2] M (some (.int ((mX5_pour a1 a2 M).1)), (mX5_pour a1 a2 M).2) := by
  refine CT.of (by decide) rfl (Nat.le_of_ble_eq_true rfl) ?_
  show AWP (GIM mtX5_pour 2 M (mX5_pour a1 a2 M)) mtX5_pour 0 [(0, .ref 0), (1, .int a1), (2, .int a2)] [] M
  unfold mX5_pour
  unfold PX5_pour at hp
  refine r_iload_n MF.bs dX5_pour_0 rfl 1 rfl ?_
  refine r_callS_v MF.bs (st := []) dX5_pour_1 (ctX5_isHouse a1 M) miX5_isHouse wd_482 rfl (by decide) rfl (Nat.le_of_ble_eq_true rfl) ?_
  refine r_ite (GIM mtX5_pour 2 M) (fun h_1 => ?_) (fun h_1 => ?_)
  · have hp := hp h_1
    refine r_if_eq_f MF.bs (tgt := 17) dX5_pour_4 (by decide) (b2i_1 h_1) ?_
    refine r_iload_n MF.bs dX5_pour_7 rfl 2 rfl ?_
    refine r_iconst MF.bs dX5_pour_8 (v := 0) (by decide) ?_
    refine r_bipush MF.bs dX5_pour_9 (v := 99) (by decide) ?_
    refine r_callS_v MF.bs (st := []) dX5_pour_11 (ctX5_isWithin a2 0 99 M) miX5_isWithin wd_303 rfl (by decide) rfl (Nat.le_of_ble_eq_true rfl) ?_
    refine r_ite (GIM mtX5_pour 2 M) (fun h_2 => ?_) (fun h_2 => ?_)
    · have hp := hp h_2
      refine r_if_ne_t MF.bs (tgt := 19) dX5_pour_14 (by decide) (b2i_1 h_2) ?_
      obtain ⟨hq_3, hp⟩ := hp
      have hq_4 := hp
      refine r_aload_n MF.bs dX5_pour_19 rfl 0 rfl ?_
      refine r_getR MF.bs dX5_pour_20 rfl rfl 0 (by decide) wd_253 rfl ?_
      refine r_getR MF.bs dX5_pour_23 rfl rfl 1 (by decide) wd_118 rfl ?_
      refine r_iload_n MF.bs dX5_pour_26 rfl 1 rfl ?_
      refine r_iaload MF.bs dX5_pour_27 rfl hq_3 ?_
      refine r_istore_n MF.bs (lv' := [(3, .int (M 3 a1.toNatClampNeg)), (0, .ref 0), (1, .int a1), (2, .int a2)]) dX5_pour_28 rfl (by decide) rfl ?_
      refine r_aload_n MF.bs dX5_pour_29 rfl 1 rfl ?_
      refine r_getR MF.bs dX5_pour_30 rfl rfl 0 (by decide) wd_253 rfl ?_
      refine r_getR MF.bs dX5_pour_33 rfl rfl 1 (by decide) wd_118 rfl ?_
      refine r_iload_n MF.bs dX5_pour_36 rfl 2 rfl ?_
      refine r_iload_n MF.bs dX5_pour_37 rfl 3 rfl ?_
      refine r_iastore MF.bs dX5_pour_38 rfl hq_4 ?_
      refine r_iload_n MF.bs dX5_pour_39 rfl 0 rfl ?_
      exact r_iret dX5_pour_40 rfl
    · refine r_if_ne_f MF.bs (tgt := 19) dX5_pour_14 (by decide) (b2i_0 h_2) ?_
      refine r_iconst MF.bs dX5_pour_17 (v := -1) (by decide) ?_
      exact r_iret dX5_pour_18 rfl
  · refine r_if_eq_t MF.bs (tgt := 17) dX5_pour_4 (by decide) (b2i_0 h_1) ?_
    refine r_iconst MF.bs dX5_pour_17 (v := -1) (by decide) ?_
    exact r_iret dX5_pour_18 rfl
abbrev mtX5_house : MT := (RX5, yX5_house, cX5_house, 3, (some .int))
theorem miX5_house : MV mtX5_house 2 := ⟨wd_546, ⟨wd_544, wd_545⟩, wd_79, ⟨by decide, by decide, by decide +kernel⟩, by decide⟩
def mX5_house  (a1 : Int32) (a2 : Int32) (M : Mem) : Int32 := (if (mX5_isHouse a1) = true then (if a2 = 0 then (M 3 a1.toNatClampNeg) else (if a2 = 1 then (mX4_airsAt 1 a1 M) else (-1))) else (-1))
def PX5_house  (a1 : Int32) (a2 : Int32) (M : Mem) : Prop := ((mX5_isHouse a1) = true → ((a2 = 0 → vp_in a1 16) ∧ (¬ a2 = 0 → (a2 = 1 → PX4_airsAt 1 a1 M))))
set_option maxRecDepth 100000 in
theorem ctX5_house   (a1 : Int32) (a2 : Int32) (M : Mem) (hp : PX5_house a1 a2 M) : CT mtX5_house 2 [.ref 0, .int a1, .int a2] M (some (.int (mX5_house a1 a2 M)), M) := by
  refine CT.of (by decide) rfl (Nat.le_of_ble_eq_true rfl) ?_
  show AWP (GI mtX5_house 2 M M (mX5_house a1 a2 M)) mtX5_house 0 [(0, .ref 0), (1, .int a1), (2, .int a2)] [] M
  unfold mX5_house
  unfold PX5_house at hp
  refine r_iload_n MF.bs dX5_house_0 rfl 1 rfl ?_
  refine r_callS_v MF.bs (st := []) dX5_house_1 (ctX5_isHouse a1 M) miX5_isHouse wd_482 rfl (by decide) rfl (Nat.le_of_ble_eq_true rfl) ?_
  refine r_ite (GI mtX5_house 2 M M) (fun h_1 => ?_) (fun h_1 => ?_)
  · have hp := hp h_1
    refine r_if_ne_t MF.bs (tgt := 9) dX5_house_4 (by decide) (b2i_1 h_1) ?_
    refine r_iload_n MF.bs dX5_house_9 rfl 2 rfl ?_
    refine r_ite (GI mtX5_house 2 M M) (fun h_2 => ?_) (fun h_2 => ?_)
    · have hp := hp.1 h_2
      refine r_lsw MF.bs (off := 26) (tgt := 36) dX5_house_10 (by decide) (by rw [h_2]; try rfl) (by decide) ?_
      have hq_3 := hp
      refine r_aload_n MF.bs dX5_house_36 rfl 0 rfl ?_
      refine r_getR MF.bs dX5_house_37 rfl rfl 0 (by decide) wd_253 rfl ?_
      refine r_getR MF.bs dX5_house_40 rfl rfl 1 (by decide) wd_118 rfl ?_
      refine r_iload_n MF.bs dX5_house_43 rfl 1 rfl ?_
      refine r_iaload MF.bs dX5_house_44 rfl hq_3 ?_
      exact r_iret dX5_house_45 rfl
    · have hp := hp.2 h_2
      refine r_ite (GI mtX5_house 2 M M) (fun h_4 => ?_) (fun h_4 => ?_)
      · have hp := hp h_4
        refine r_lsw MF.bs (off := 36) (tgt := 46) dX5_house_10 (by decide) (by rw [h_4]; try rfl) (by decide) ?_
        have hq_5 := hp
        refine r_aload_n MF.bs dX5_house_46 rfl 0 rfl ?_
        refine r_getR MF.bs dX5_house_47 rfl rfl 0 (by decide) wd_253 rfl ?_
        refine r_iload_n MF.bs dX5_house_50 rfl 1 rfl ?_
        refine r_callV_v MF.bs (st := []) dX5_house_51 (ctX4_airsAt 1 (Or.inl rfl) a1 M hq_5) miX4_airsAt wd_547 rfl (by decide) rfl (Nat.le_of_ble_eq_true rfl) rfl rfl rfl ?_
        exact r_iret dX5_house_54 rfl
      · refine r_lsw MF.bs (off := 45) (tgt := 55) dX5_house_10 (by decide) ((lv_osw h_2 (by decide)).trans ((lv_osw h_4 (by decide)).trans (rfl))) (by decide) ?_
        refine r_iconst MF.bs dX5_house_55 (v := -1) (by decide) ?_
        exact r_iret dX5_house_56 rfl
  · refine r_if_ne_f MF.bs (tgt := 9) dX5_house_4 (by decide) (b2i_0 h_1) ?_
    refine r_iconst MF.bs dX5_house_7 (v := -1) (by decide) ?_
    exact r_iret dX5_house_8 rfl
abbrev mtJ6_bitCount_0f7a4 : MT := (RJ6, yJ6_bitCount_0f7a4, cJ6_bitCount_0f7a4, 1, (some .int))
theorem miJ6_bitCount_0f7a4 : MS mtJ6_bitCount_0f7a4 1 := ⟨wd_580, wd_579, wd_93, ⟨by decide, by decide, by decide +kernel⟩, by decide⟩
def mJ6_bitCount_0f7a4  (a0 : Int32) : Int32 := ((((((((a0 - ((((a0 : Int32).toUInt32 >>> ((1 : Int32).toUInt32 &&& Int32.toUInt32 31)).toInt32) &&& 1431655765)) &&& 858993459) + (((((a0 - ((((a0 : Int32).toUInt32 >>> ((1 : Int32).toUInt32 &&& Int32.toUInt32 31)).toInt32) &&& 1431655765)) : Int32).toUInt32 >>> ((2 : Int32).toUInt32 &&& Int32.toUInt32 31)).toInt32) &&& 858993459)) + ((((((a0 - ((((a0 : Int32).toUInt32 >>> ((1 : Int32).toUInt32 &&& Int32.toUInt32 31)).toInt32) &&& 1431655765)) &&& 858993459) + (((((a0 - ((((a0 : Int32).toUInt32 >>> ((1 : Int32).toUInt32 &&& Int32.toUInt32 31)).toInt32) &&& 1431655765)) : Int32).toUInt32 >>> ((2 : Int32).toUInt32 &&& Int32.toUInt32 31)).toInt32) &&& 858993459)) : Int32).toUInt32 >>> ((4 : Int32).toUInt32 &&& Int32.toUInt32 31)).toInt32)) &&& 252645135) + ((((((((a0 - ((((a0 : Int32).toUInt32 >>> ((1 : Int32).toUInt32 &&& Int32.toUInt32 31)).toInt32) &&& 1431655765)) &&& 858993459) + (((((a0 - ((((a0 : Int32).toUInt32 >>> ((1 : Int32).toUInt32 &&& Int32.toUInt32 31)).toInt32) &&& 1431655765)) : Int32).toUInt32 >>> ((2 : Int32).toUInt32 &&& Int32.toUInt32 31)).toInt32) &&& 858993459)) + ((((((a0 - ((((a0 : Int32).toUInt32 >>> ((1 : Int32).toUInt32 &&& Int32.toUInt32 31)).toInt32) &&& 1431655765)) &&& 858993459) + (((((a0 - ((((a0 : Int32).toUInt32 >>> ((1 : Int32).toUInt32 &&& Int32.toUInt32 31)).toInt32) &&& 1431655765)) : Int32).toUInt32 >>> ((2 : Int32).toUInt32 &&& Int32.toUInt32 31)).toInt32) &&& 858993459)) : Int32).toUInt32 >>> ((4 : Int32).toUInt32 &&& Int32.toUInt32 31)).toInt32)) &&& 252645135) : Int32).toUInt32 >>> ((8 : Int32).toUInt32 &&& Int32.toUInt32 31)).toInt32)) + (((((((((a0 - ((((a0 : Int32).toUInt32 >>> ((1 : Int32).toUInt32 &&& Int32.toUInt32 31)).toInt32) &&& 1431655765)) &&& 858993459) + (((((a0 - ((((a0 : Int32).toUInt32 >>> ((1 : Int32).toUInt32 &&& Int32.toUInt32 31)).toInt32) &&& 1431655765)) : Int32).toUInt32 >>> ((2 : Int32).toUInt32 &&& Int32.toUInt32 31)).toInt32) &&& 858993459)) + ((((((a0 - ((((a0 : Int32).toUInt32 >>> ((1 : Int32).toUInt32 &&& Int32.toUInt32 31)).toInt32) &&& 1431655765)) &&& 858993459) + (((((a0 - ((((a0 : Int32).toUInt32 >>> ((1 : Int32).toUInt32 &&& Int32.toUInt32 31)).toInt32) &&& 1431655765)) : Int32).toUInt32 >>> ((2 : Int32).toUInt32 &&& Int32.toUInt32 31)).toInt32) &&& 858993459)) : Int32).toUInt32 >>> ((4 : Int32).toUInt32 &&& Int32.toUInt32 31)).toInt32)) &&& 252645135) + ((((((((a0 - ((((a0 : Int32).toUInt32 >>> ((1 : Int32).toUInt32 &&& Int32.toUInt32 31)).toInt32) &&& 1431655765)) &&& 858993459) + (((((a0 - ((((a0 : Int32).toUInt32 >>> ((1 : Int32).toUInt32 &&& Int32.toUInt32 31)).toInt32) &&& 1431655765)) : Int32).toUInt32 >>> ((2 : Int32).toUInt32 &&& Int32.toUInt32 31)).toInt32) &&& 858993459)) + ((((((a0 - ((((a0 : Int32).toUInt32 >>> ((1 : Int32).toUInt32 &&& Int32.toUInt32 31)).toInt32) &&& 1431655765)) &&& 858993459) + (((((a0 - ((((a0 : Int32).toUInt32 >>> ((1 : Int32).toUInt32 &&& Int32.toUInt32 31)).toInt32) &&& 1431655765)) : Int32).toUInt32 >>> ((2 : Int32).toUInt32 &&& Int32.toUInt32 31)).toInt32) &&& 858993459)) : Int32).toUInt32 >>> ((4 : Int32).toUInt32 &&& Int32.toUInt32 31)).toInt32)) &&& 252645135) : Int32).toUInt32 >>> ((8 : Int32).toUInt32 &&& Int32.toUInt32 31)).toInt32)) : Int32).toUInt32 >>> ((16 : Int32).toUInt32 &&& Int32.toUInt32 31)).toInt32)) &&& 63)
set_option maxRecDepth 100000 in
theorem ctJ6_bitCount_0f7a4   (a0 : Int32) (M : Mem) : CT mtJ6_bitCount_0f7a4 0 [.int a0] M (some (.int (mJ6_bitCount_0f7a4 a0)), M) := by
  refine CT.of (by decide) rfl (Nat.le_of_ble_eq_true rfl) ?_
  show AWP (GI mtJ6_bitCount_0f7a4 0 M M (mJ6_bitCount_0f7a4 a0)) mtJ6_bitCount_0f7a4 0 [(0, .int a0)] [] M
  unfold mJ6_bitCount_0f7a4
  refine r_iload_n MF.bs dJ6_bitCount_0f7a4_0 rfl 0 rfl ?_
  refine r_iload_n MF.bs dJ6_bitCount_0f7a4_1 rfl 0 rfl ?_
  refine r_iconst MF.bs dJ6_bitCount_0f7a4_2 (v := 1) (by decide) ?_
  refine r_iushr MF.bs dJ6_bitCount_0f7a4_3 ?_
  refine r_ldcw MF.bs (v := 1431655765) dJ6_bitCount_0f7a4_4 wd_581 ?_
  refine r_iand MF.bs dJ6_bitCount_0f7a4_7 ?_
  refine r_isub MF.bs dJ6_bitCount_0f7a4_8 ?_
  refine r_istore_n MF.bs (lv' := [(0, .int (a0 - ((((a0 : Int32).toUInt32 >>> ((1 : Int32).toUInt32 &&& Int32.toUInt32 31)).toInt32) &&& 1431655765)))]) dJ6_bitCount_0f7a4_9 rfl (by decide) rfl ?_
  refine r_iload_n MF.bs dJ6_bitCount_0f7a4_10 rfl 0 rfl ?_
  refine r_ldcw MF.bs (v := 858993459) dJ6_bitCount_0f7a4_11 wd_582 ?_
  refine r_iand MF.bs dJ6_bitCount_0f7a4_14 ?_
  refine r_iload_n MF.bs dJ6_bitCount_0f7a4_15 rfl 0 rfl ?_
  refine r_iconst MF.bs dJ6_bitCount_0f7a4_16 (v := 2) (by decide) ?_
  refine r_iushr MF.bs dJ6_bitCount_0f7a4_17 ?_
  refine r_ldcw MF.bs (v := 858993459) dJ6_bitCount_0f7a4_18 wd_582 ?_
  refine r_iand MF.bs dJ6_bitCount_0f7a4_21 ?_
  refine r_iadd MF.bs dJ6_bitCount_0f7a4_22 ?_
  refine r_istore_n MF.bs (lv' := [(0, .int (((a0 - ((((a0 : Int32).toUInt32 >>> ((1 : Int32).toUInt32 &&& Int32.toUInt32 31)).toInt32) &&& 1431655765)) &&& 858993459) + (((((a0 - ((((a0 : Int32).toUInt32 >>> ((1 : Int32).toUInt32 &&& Int32.toUInt32 31)).toInt32) &&& 1431655765)) : Int32).toUInt32 >>> ((2 : Int32).toUInt32 &&& Int32.toUInt32 31)).toInt32) &&& 858993459)))]) dJ6_bitCount_0f7a4_23 rfl (by decide) rfl ?_
  refine r_iload_n MF.bs dJ6_bitCount_0f7a4_24 rfl 0 rfl ?_
  refine r_iload_n MF.bs dJ6_bitCount_0f7a4_25 rfl 0 rfl ?_
  refine r_iconst MF.bs dJ6_bitCount_0f7a4_26 (v := 4) (by decide) ?_
  refine r_iushr MF.bs dJ6_bitCount_0f7a4_27 ?_
  refine r_iadd MF.bs dJ6_bitCount_0f7a4_28 ?_
  refine r_ldcw MF.bs (v := 252645135) dJ6_bitCount_0f7a4_29 wd_583 ?_
  refine r_iand MF.bs dJ6_bitCount_0f7a4_32 ?_
  refine r_istore_n MF.bs (lv' := [(0, .int (((((a0 - ((((a0 : Int32).toUInt32 >>> ((1 : Int32).toUInt32 &&& Int32.toUInt32 31)).toInt32) &&& 1431655765)) &&& 858993459) + (((((a0 - ((((a0 : Int32).toUInt32 >>> ((1 : Int32).toUInt32 &&& Int32.toUInt32 31)).toInt32) &&& 1431655765)) : Int32).toUInt32 >>> ((2 : Int32).toUInt32 &&& Int32.toUInt32 31)).toInt32) &&& 858993459)) + ((((((a0 - ((((a0 : Int32).toUInt32 >>> ((1 : Int32).toUInt32 &&& Int32.toUInt32 31)).toInt32) &&& 1431655765)) &&& 858993459) + (((((a0 - ((((a0 : Int32).toUInt32 >>> ((1 : Int32).toUInt32 &&& Int32.toUInt32 31)).toInt32) &&& 1431655765)) : Int32).toUInt32 >>> ((2 : Int32).toUInt32 &&& Int32.toUInt32 31)).toInt32) &&& 858993459)) : Int32).toUInt32 >>> ((4 : Int32).toUInt32 &&& Int32.toUInt32 31)).toInt32)) &&& 252645135))]) dJ6_bitCount_0f7a4_33 rfl (by decide) rfl ?_
  refine r_iload_n MF.bs dJ6_bitCount_0f7a4_34 rfl 0 rfl ?_
  refine r_iload_n MF.bs dJ6_bitCount_0f7a4_35 rfl 0 rfl ?_
  refine r_bipush MF.bs dJ6_bitCount_0f7a4_36 (v := 8) (by decide) ?_
  refine r_iushr MF.bs dJ6_bitCount_0f7a4_38 ?_
  refine r_iadd MF.bs dJ6_bitCount_0f7a4_39 ?_
  refine r_istore_n MF.bs (lv' := [(0, .int ((((((a0 - ((((a0 : Int32).toUInt32 >>> ((1 : Int32).toUInt32 &&& Int32.toUInt32 31)).toInt32) &&& 1431655765)) &&& 858993459) + (((((a0 - ((((a0 : Int32).toUInt32 >>> ((1 : Int32).toUInt32 &&& Int32.toUInt32 31)).toInt32) &&& 1431655765)) : Int32).toUInt32 >>> ((2 : Int32).toUInt32 &&& Int32.toUInt32 31)).toInt32) &&& 858993459)) + ((((((a0 - ((((a0 : Int32).toUInt32 >>> ((1 : Int32).toUInt32 &&& Int32.toUInt32 31)).toInt32) &&& 1431655765)) &&& 858993459) + (((((a0 - ((((a0 : Int32).toUInt32 >>> ((1 : Int32).toUInt32 &&& Int32.toUInt32 31)).toInt32) &&& 1431655765)) : Int32).toUInt32 >>> ((2 : Int32).toUInt32 &&& Int32.toUInt32 31)).toInt32) &&& 858993459)) : Int32).toUInt32 >>> ((4 : Int32).toUInt32 &&& Int32.toUInt32 31)).toInt32)) &&& 252645135) + ((((((((a0 - ((((a0 : Int32).toUInt32 >>> ((1 : Int32).toUInt32 &&& Int32.toUInt32 31)).toInt32) &&& 1431655765)) &&& 858993459) + (((((a0 - ((((a0 : Int32).toUInt32 >>> ((1 : Int32).toUInt32 &&& Int32.toUInt32 31)).toInt32) &&& 1431655765)) : Int32).toUInt32 >>> ((2 : Int32).toUInt32 &&& Int32.toUInt32 31)).toInt32) &&& 858993459)) + ((((((a0 - ((((a0 : Int32).toUInt32 >>> ((1 : Int32).toUInt32 &&& Int32.toUInt32 31)).toInt32) &&& 1431655765)) &&& 858993459) + (((((a0 - ((((a0 : Int32).toUInt32 >>> ((1 : Int32).toUInt32 &&& Int32.toUInt32 31)).toInt32) &&& 1431655765)) : Int32).toUInt32 >>> ((2 : Int32).toUInt32 &&& Int32.toUInt32 31)).toInt32) &&& 858993459)) : Int32).toUInt32 >>> ((4 : Int32).toUInt32 &&& Int32.toUInt32 31)).toInt32)) &&& 252645135) : Int32).toUInt32 >>> ((8 : Int32).toUInt32 &&& Int32.toUInt32 31)).toInt32)))]) dJ6_bitCount_0f7a4_40 rfl (by decide) rfl ?_
  refine r_iload_n MF.bs dJ6_bitCount_0f7a4_41 rfl 0 rfl ?_
  refine r_iload_n MF.bs dJ6_bitCount_0f7a4_42 rfl 0 rfl ?_
  refine r_bipush MF.bs dJ6_bitCount_0f7a4_43 (v := 16) (by decide) ?_
  refine r_iushr MF.bs dJ6_bitCount_0f7a4_45 ?_
  refine r_iadd MF.bs dJ6_bitCount_0f7a4_46 ?_
  refine r_istore_n MF.bs (lv' := [(0, .int (((((((a0 - ((((a0 : Int32).toUInt32 >>> ((1 : Int32).toUInt32 &&& Int32.toUInt32 31)).toInt32) &&& 1431655765)) &&& 858993459) + (((((a0 - ((((a0 : Int32).toUInt32 >>> ((1 : Int32).toUInt32 &&& Int32.toUInt32 31)).toInt32) &&& 1431655765)) : Int32).toUInt32 >>> ((2 : Int32).toUInt32 &&& Int32.toUInt32 31)).toInt32) &&& 858993459)) + ((((((a0 - ((((a0 : Int32).toUInt32 >>> ((1 : Int32).toUInt32 &&& Int32.toUInt32 31)).toInt32) &&& 1431655765)) &&& 858993459) + (((((a0 - ((((a0 : Int32).toUInt32 >>> ((1 : Int32).toUInt32 &&& Int32.toUInt32 31)).toInt32) &&& 1431655765)) : Int32).toUInt32 >>> ((2 : Int32).toUInt32 &&& Int32.toUInt32 31)).toInt32) &&& 858993459)) : Int32).toUInt32 >>> ((4 : Int32).toUInt32 &&& Int32.toUInt32 31)).toInt32)) &&& 252645135) + ((((((((a0 - ((((a0 : Int32).toUInt32 >>> ((1 : Int32).toUInt32 &&& Int32.toUInt32 31)).toInt32) &&& 1431655765)) &&& 858993459) + (((((a0 - ((((a0 : Int32).toUInt32 >>> ((1 : Int32).toUInt32 &&& Int32.toUInt32 31)).toInt32) &&& 1431655765)) : Int32).toUInt32 >>> ((2 : Int32).toUInt32 &&& Int32.toUInt32 31)).toInt32) &&& 858993459)) + ((((((a0 - ((((a0 : Int32).toUInt32 >>> ((1 : Int32).toUInt32 &&& Int32.toUInt32 31)).toInt32) &&& 1431655765)) &&& 858993459) + (((((a0 - ((((a0 : Int32).toUInt32 >>> ((1 : Int32).toUInt32 &&& Int32.toUInt32 31)).toInt32) &&& 1431655765)) : Int32).toUInt32 >>> ((2 : Int32).toUInt32 &&& Int32.toUInt32 31)).toInt32) &&& 858993459)) : Int32).toUInt32 >>> ((4 : Int32).toUInt32 &&& Int32.toUInt32 31)).toInt32)) &&& 252645135) : Int32).toUInt32 >>> ((8 : Int32).toUInt32 &&& Int32.toUInt32 31)).toInt32)) + (((((((((a0 - ((((a0 : Int32).toUInt32 >>> ((1 : Int32).toUInt32 &&& Int32.toUInt32 31)).toInt32) &&& 1431655765)) &&& 858993459) + (((((a0 - ((((a0 : Int32).toUInt32 >>> ((1 : Int32).toUInt32 &&& Int32.toUInt32 31)).toInt32) &&& 1431655765)) : Int32).toUInt32 >>> ((2 : Int32).toUInt32 &&& Int32.toUInt32 31)).toInt32) &&& 858993459)) + ((((((a0 - ((((a0 : Int32).toUInt32 >>> ((1 : Int32).toUInt32 &&& Int32.toUInt32 31)).toInt32) &&& 1431655765)) &&& 858993459) + (((((a0 - ((((a0 : Int32).toUInt32 >>> ((1 : Int32).toUInt32 &&& Int32.toUInt32 31)).toInt32) &&& 1431655765)) : Int32).toUInt32 >>> ((2 : Int32).toUInt32 &&& Int32.toUInt32 31)).toInt32) &&& 858993459)) : Int32).toUInt32 >>> ((4 : Int32).toUInt32 &&& Int32.toUInt32 31)).toInt32)) &&& 252645135) + ((((((((a0 - ((((a0 : Int32).toUInt32 >>> ((1 : Int32).toUInt32 &&& Int32.toUInt32 31)).toInt32) &&& 1431655765)) &&& 858993459) + (((((a0 - ((((a0 : Int32).toUInt32 >>> ((1 : Int32).toUInt32 &&& Int32.toUInt32 31)).toInt32) &&& 1431655765)) : Int32).toUInt32 >>> ((2 : Int32).toUInt32 &&& Int32.toUInt32 31)).toInt32) &&& 858993459)) + ((((((a0 - ((((a0 : Int32).toUInt32 >>> ((1 : Int32).toUInt32 &&& Int32.toUInt32 31)).toInt32) &&& 1431655765)) &&& 858993459) + (((((a0 - ((((a0 : Int32).toUInt32 >>> ((1 : Int32).toUInt32 &&& Int32.toUInt32 31)).toInt32) &&& 1431655765)) : Int32).toUInt32 >>> ((2 : Int32).toUInt32 &&& Int32.toUInt32 31)).toInt32) &&& 858993459)) : Int32).toUInt32 >>> ((4 : Int32).toUInt32 &&& Int32.toUInt32 31)).toInt32)) &&& 252645135) : Int32).toUInt32 >>> ((8 : Int32).toUInt32 &&& Int32.toUInt32 31)).toInt32)) : Int32).toUInt32 >>> ((16 : Int32).toUInt32 &&& Int32.toUInt32 31)).toInt32)))]) dJ6_bitCount_0f7a4_47 rfl (by decide) rfl ?_
  refine r_iload_n MF.bs dJ6_bitCount_0f7a4_48 rfl 0 rfl ?_
  refine r_bipush MF.bs dJ6_bitCount_0f7a4_49 (v := 63) (by decide) ?_
  refine r_iand MF.bs dJ6_bitCount_0f7a4_51 ?_
  exact r_iret dJ6_bitCount_0f7a4_52 rfl
abbrev mtX5_steps : MT := (RX5, yX5_steps, cX5_steps, 3, (some .int))
theorem miX5_steps : MV mtX5_steps 1 := ⟨wd_554, ⟨wd_552, wd_553⟩, wd_79, ⟨by decide, by decide, by decide +kernel⟩, by decide⟩
def mX5_steps_26   (kf14 : Int32 → Int32 → Mem → Int32 × Mem) (v1 : Int32) (v2 : Int32) (M : Mem) : Int32 × Mem := (kf14 v1 (v2 + 1) M)
def PX5_steps_26   (kP14 : Int32 → Int32 → Mem → Prop) (v1 : Int32) (v2 : Int32) (M : Mem) : Prop := kP14 v1 (v2 + 1) M
set_option maxRecDepth 100000 in
theorem cX5_steps_26    (M0 : Mem) (kf14 : Int32 → Int32 → Mem → Int32 × Mem) (kP14 : Int32 → Int32 → Mem → Prop) (hk14 : ∀ (v1 : Int32) (v2 : Int32) (M : Mem), kP14 v1 v2 M → AWP (GIM mtX5_steps 5 M0 (kf14 v1 v2 M)) mtX5_steps 14 [(0, .ref 0), (1, .int v1), (2, .int v2)] [] M) (v1 : Int32) (v2 : Int32) (M : Mem) (hp : PX5_steps_26 kP14 v1 v2 M) : AWP (GIM mtX5_steps 5 M0 (mX5_steps_26 kf14 v1 v2 M)) mtX5_steps 26 [(0, .ref 0), (1, .int v1), (2, .int v2)] [] M := by
  unfold mX5_steps_26
  unfold PX5_steps_26 at hp
  refine r_iinc MF.bs (v := (v2 + 1)) (lv' := [(2, .int (v2 + 1)), (0, .ref 0), (1, .int v1)]) dX5_steps_26 2 rfl rfl (by decide) rfl ?_
  refine r_goto MF.bs dX5_steps_29 (tgt := 14) (by decide) ?_
  refine r_sub [(0, .ref 0), (1, .int v1), (2, .int (v2 + 1))] [1, 2, 0] rfl ?_
  exact hk14 v1 (v2 + 1) M hp
def mX5_steps_14   : Nat → Int32 → Int32 → Mem → Int32 × Mem
  | 0, _, _, M => (0, M)
  | n + 1, v1, v2, M => (if v1 ≤ v2 then ((mJ6_bitCount_0f7a4 (mX4_airsAtErrands 1 M)), M) else (mX5_steps_26 (mX5_steps_14 n) v1 v2 (mX4_takeStep 1 M)))
def PX5_steps_14   : Nat → Int32 → Int32 → Mem → Prop
  | 0, _, _, _ => False
  | n + 1, v1, v2, M => ((v1 ≤ v2 → PX4_airsAtErrands 1 M) ∧ (¬ v1 ≤ v2 → PX4_takeStep 1 M ∧ (PX5_steps_26 (PX5_steps_14 n) v1 v2 (mX4_takeStep 1 M))))
set_option maxRecDepth 100000 in
theorem cX5_steps_14    (M0 : Mem) : ∀ (n : Nat) (v1 : Int32) (v2 : Int32) (M : Mem), PX5_steps_14 n v1 v2 M → AWP (GIM mtX5_steps 5 M0 (mX5_steps_14 n v1 v2 M)) mtX5_steps 14 [(0, .ref 0), (1, .int v1), (2, .int v2)] [] M := by
  intro n
  induction n with
  | zero =>
    intro v1 v2 M hp
    exact hp.elim
  | succ n ih =>
    intro v1 v2 M hp
    rw [mX5_steps_14]
    rw [PX5_steps_14] at hp
    refine r_iload_n MF.bs dX5_steps_14 rfl 2 rfl ?_
    refine r_iload_n MF.bs dX5_steps_15 rfl 1 rfl ?_
    refine r_ite (GIM mtX5_steps 5 M0) (fun h_2 => ?_) (fun h_2 => ?_)
    · have hp := hp.1 h_2
      refine r_icmp_ge_t MF.bs (tgt := 32) dX5_steps_16 (by decide) h_2 ?_
      have hq_3 := hp
      refine r_aload_n MF.bs dX5_steps_32 rfl 0 rfl ?_
      refine r_getR MF.bs dX5_steps_33 rfl rfl 0 (by decide) wd_253 rfl ?_
      refine r_callV_v MF.bs (st := []) dX5_steps_36 (ctX4_airsAtErrands 1 (Or.inl rfl) M hq_3) miX4_airsAtErrands wd_574 rfl (by decide) rfl (Nat.le_of_ble_eq_true rfl) rfl rfl rfl ?_
      refine r_callS_v MF.bs (st := []) dX5_steps_39 (ctJ6_bitCount_0f7a4 (mX4_airsAtErrands 1 M) M) miJ6_bitCount_0f7a4 wd_578 rfl (by decide) rfl (Nat.le_of_ble_eq_true rfl) ?_
      exact r_iret dX5_steps_42 rfl
    · have hp := hp.2 h_2
      refine r_icmp_ge_f MF.bs (tgt := 32) dX5_steps_16 (by decide) h_2 ?_
      obtain ⟨hq_4, hp⟩ := hp
      refine r_aload_n MF.bs dX5_steps_19 rfl 0 rfl ?_
      refine r_getR MF.bs dX5_steps_20 rfl rfl 0 (by decide) wd_253 rfl ?_
      refine r_callV_n MF.bs (st := []) dX5_steps_23 (ctX4_takeStep 1 (Or.inl rfl) M hq_4) miX4_takeStep wd_555 rfl (by decide) rfl (Nat.le_of_ble_eq_true rfl) rfl rfl rfl ?_
      exact cX5_steps_26 M0 (mX5_steps_14 n) (PX5_steps_14 n) ih v1 v2 (mX4_takeStep 1 M) hp
def mX5_steps  (a1 : Int32) (M : Mem) : Int32 × Mem := (if (mX5_isWithin a1 1 60) = true then (mX5_steps_14 400 a1 0 M) else ((-1), M))
def PX5_steps  (a1 : Int32) (M : Mem) : Prop := ((mX5_isWithin a1 1 60) = true → PX5_steps_14 400 a1 0 M)
set_option maxRecDepth 100000 in
theorem ctX5_steps   (a1 : Int32) (M : Mem) (hp : PX5_steps a1 M) : CT mtX5_steps 5 [.ref 0, .int a1] M (some (.int ((mX5_steps a1 M).1)), (mX5_steps a1 M).2) := by
  refine CT.of (by decide) rfl (Nat.le_of_ble_eq_true rfl) ?_
  show AWP (GIM mtX5_steps 5 M (mX5_steps a1 M)) mtX5_steps 0 [(0, .ref 0), (1, .int a1)] [] M
  unfold mX5_steps
  unfold PX5_steps at hp
  refine r_iload_n MF.bs dX5_steps_0 rfl 1 rfl ?_
  refine r_iconst MF.bs dX5_steps_1 (v := 1) (by decide) ?_
  refine r_bipush MF.bs dX5_steps_2 (v := 60) (by decide) ?_
  refine r_callS_v MF.bs (st := []) dX5_steps_4 (ctX5_isWithin a1 1 60 M) miX5_isWithin wd_303 rfl (by decide) rfl (Nat.le_of_ble_eq_true rfl) ?_
  refine r_ite (GIM mtX5_steps 5 M) (fun h_1 => ?_) (fun h_1 => ?_)
  · have hp := hp h_1
    refine r_if_ne_t MF.bs (tgt := 12) dX5_steps_7 (by decide) (b2i_1 h_1) ?_
    refine r_iconst MF.bs dX5_steps_12 (v := 0) (by decide) ?_
    refine r_istore_n MF.bs (lv' := [(2, .int 0), (0, .ref 0), (1, .int a1)]) dX5_steps_13 rfl (by decide) rfl ?_
    refine r_sub [(0, .ref 0), (1, .int a1), (2, .int 0)] [1, 2, 0] rfl ?_
    exact cX5_steps_14 M 400 a1 0 M hp
  · refine r_if_ne_f MF.bs (tgt := 12) dX5_steps_7 (by decide) (b2i_0 h_1) ?_
    refine r_iconst MF.bs dX5_steps_10 (v := -1) (by decide) ?_
    exact r_iret dX5_steps_11 rfl
abbrev mtX5_seed : MT := (RX5, yX5_seed, cX5_seed, 3, (some .int))
theorem miX5_seed : MV mtX5_seed 1 := ⟨wd_587, ⟨wd_585, wd_586⟩, wd_79, ⟨by decide, by decide, by decide +kernel⟩, by decide⟩
def mX5_seed  (a1 : Int32) (M : Mem) : Int32 × Mem := ((M 1 9), (upm M 1 9 a1))
set_option maxRecDepth 100000 in
theorem ctX5_seed   (a1 : Int32) (M : Mem) : CT mtX5_seed 0 [.ref 0, .int a1] M (some (.int ((mX5_seed a1 M).1)), (mX5_seed a1 M).2) := by
  refine CT.of (by decide) rfl (Nat.le_of_ble_eq_true rfl) ?_
  show AWP (GIM mtX5_seed 0 M (mX5_seed a1 M)) mtX5_seed 0 [(0, .ref 0), (1, .int a1)] [] M
  unfold mX5_seed
  refine r_aload_n MF.bs dX5_seed_0 rfl 0 rfl ?_
  refine r_getR MF.bs dX5_seed_1 rfl rfl 0 (by decide) wd_253 rfl ?_
  refine r_getI MF.bs dX5_seed_4 rfl rfl 9 (by decide) wd_136 rfl ?_
  refine r_istore_n MF.bs (lv' := [(2, .int (M 1 9)), (0, .ref 0), (1, .int a1)]) dX5_seed_7 rfl (by decide) rfl ?_
  refine r_aload_n MF.bs dX5_seed_8 rfl 1 rfl ?_
  refine r_getR MF.bs dX5_seed_9 rfl rfl 0 (by decide) wd_253 rfl ?_
  refine r_iload_n MF.bs dX5_seed_12 rfl 2 rfl ?_
  refine r_putI MF.bs dX5_seed_13 rfl rfl 9 (by decide) wd_136 rfl rfl rfl rfl rfl ?_
  refine r_iload_n MF.bs dX5_seed_16 rfl 0 rfl ?_
  exact r_iret dX5_seed_17 rfl
abbrev mtX5_step : MT := (RX5, yX5_step, cX5_step, 1, (some .int))
theorem miX5_step : MV mtX5_step 0 := ⟨wd_591, ⟨wd_589, wd_590⟩, wd_79, ⟨by decide, by decide, by decide +kernel⟩, by decide⟩
def mX5_step_7   (M : Mem) : Int32 × Mem := ((mJ6_bitCount_0f7a4 (mX4_airsAtErrands 1 M)), M)
def PX5_step_7   (M : Mem) : Prop := PX4_airsAtErrands 1 M
set_option maxRecDepth 100000 in
theorem cX5_step_7    (M0 : Mem) (M : Mem) (hp : PX5_step_7 M) : AWP (GIM mtX5_step 6 M0 (mX5_step_7 M)) mtX5_step 7 [(0, .ref 0)] [] M := by
  unfold mX5_step_7
  unfold PX5_step_7 at hp
  have hq_2 := hp
  refine r_aload_n MF.bs dX5_step_7 rfl 0 rfl ?_
  refine r_getR MF.bs dX5_step_8 rfl rfl 0 (by decide) wd_253 rfl ?_
  refine r_callV_v MF.bs (st := []) dX5_step_11 (ctX4_airsAtErrands 1 (Or.inl rfl) M hq_2) miX4_airsAtErrands wd_574 rfl (by decide) rfl (Nat.le_of_ble_eq_true rfl) rfl rfl rfl ?_
  refine r_callS_v MF.bs (st := []) dX5_step_14 (ctJ6_bitCount_0f7a4 (mX4_airsAtErrands 1 M) M) miJ6_bitCount_0f7a4 wd_578 rfl (by decide) rfl (Nat.le_of_ble_eq_true rfl) ?_
  exact r_iret dX5_step_17 rfl
def mX5_step  (M : Mem) : Int32 × Mem := (mX5_step_7 (mX4_takeStepByDraws 1 M))
def PX5_step  (M : Mem) : Prop := PX4_takeStepByDraws 1 M ∧ (PX5_step_7 (mX4_takeStepByDraws 1 M))
set_option maxRecDepth 100000 in
theorem ctX5_step   (M : Mem) (hp : PX5_step M) : CT mtX5_step 6 [.ref 0] M (some (.int ((mX5_step M).1)), (mX5_step M).2) := by
  refine CT.of (by decide) rfl (Nat.le_of_ble_eq_true rfl) ?_
  show AWP (GIM mtX5_step 6 M (mX5_step M)) mtX5_step 0 [(0, .ref 0)] [] M
  unfold mX5_step
  unfold PX5_step at hp
  obtain ⟨hq_1, hp⟩ := hp
  refine r_aload_n MF.bs dX5_step_0 rfl 0 rfl ?_
  refine r_getR MF.bs dX5_step_1 rfl rfl 0 (by decide) wd_253 rfl ?_
  refine r_callV_n MF.bs (st := []) dX5_step_4 (ctX4_takeStepByDraws 1 (Or.inl rfl) M hq_1) miX4_takeStepByDraws wd_592 rfl (by decide) rfl (Nat.le_of_ble_eq_true rfl) rfl rfl rfl ?_
  exact cX5_step_7 M (mX4_takeStepByDraws 1 M) hp
abbrev mtX5_blown : MT := (RX5, yX5_blown, cX5_blown, 5, (some .int))
theorem miX5_blown : MV mtX5_blown 1 := ⟨wd_605, ⟨wd_603, wd_604⟩, wd_79, ⟨by decide, by decide, by decide +kernel⟩, by decide⟩
def mX5_blown_118   (kf61 : Int32 → Int32 → Int32 → Int32 → Mem → Int32 × Mem) (v1 : Int32) (v2 : Int32) (v3 : Int32) (v4 : Int32) (M : Mem) : Int32 × Mem := (kf61 v1 v2 v3 (v4 + 1) M)
def PX5_blown_118   (kP61 : Int32 → Int32 → Int32 → Int32 → Mem → Prop) (v1 : Int32) (v2 : Int32) (v3 : Int32) (v4 : Int32) (M : Mem) : Prop := kP61 v1 v2 v3 (v4 + 1) M
set_option maxRecDepth 100000 in
theorem cX5_blown_118    (M0 : Mem) (kf61 : Int32 → Int32 → Int32 → Int32 → Mem → Int32 × Mem) (kP61 : Int32 → Int32 → Int32 → Int32 → Mem → Prop) (hk61 : ∀ (v1 : Int32) (v2 : Int32) (v3 : Int32) (v4 : Int32) (M : Mem), kP61 v1 v2 v3 v4 M → AWP (GIM mtX5_blown 6 M0 (kf61 v1 v2 v3 v4 M)) mtX5_blown 61 [(0, .ref 0), (1, .int v1), (2, .int v2), (3, .int v3), (4, .int v4)] [] M) (v1 : Int32) (v2 : Int32) (v3 : Int32) (v4 : Int32) (M : Mem) (hp : PX5_blown_118 kP61 v1 v2 v3 v4 M) : AWP (GIM mtX5_blown 6 M0 (mX5_blown_118 kf61 v1 v2 v3 v4 M)) mtX5_blown 118 [(0, .ref 0), (1, .int v1), (2, .int v2), (3, .int v3), (4, .int v4)] [] M := by
  unfold mX5_blown_118
  unfold PX5_blown_118 at hp
  refine r_iinc MF.bs (v := (v4 + 1)) (lv' := [(4, .int (v4 + 1)), (0, .ref 0), (1, .int v1), (2, .int v2), (3, .int v3)]) dX5_blown_118 4 rfl rfl (by decide) rfl ?_
  refine r_goto MF.bs dX5_blown_121 (tgt := 61) (by decide) ?_
  refine r_sub [(0, .ref 0), (1, .int v1), (2, .int v2), (3, .int v3), (4, .int (v4 + 1))] [1, 2, 3, 4, 0] rfl ?_
  exact hk61 v1 v2 v3 (v4 + 1) M hp
def mX5_blown_93   (kf61 : Int32 → Int32 → Int32 → Int32 → Mem → Int32 × Mem) (v1 : Int32) (v3 : Int32) (v4 : Int32) (M : Mem) : Int32 × Mem := (if (mX4_standsOtherwise 15 31 8 M) = true then (mX5_blown_118 kf61 v1 (M 15 9) (v3 + 1) v4 M) else (mX5_blown_118 kf61 v1 (M 15 9) v3 v4 M))
def PX5_blown_93   (kP61 : Int32 → Int32 → Int32 → Int32 → Mem → Prop) (v1 : Int32) (v3 : Int32) (v4 : Int32) (M : Mem) : Prop := PX4_standsOtherwise 15 31 8 M ∧ ((((mX4_standsOtherwise 15 31 8 M) = true → PX5_blown_118 kP61 v1 (M 15 9) (v3 + 1) v4 M) ∧ (¬ (mX4_standsOtherwise 15 31 8 M) = true → PX5_blown_118 kP61 v1 (M 15 9) v3 v4 M)))
set_option maxRecDepth 100000 in
theorem cX5_blown_93    (M0 : Mem) (kf61 : Int32 → Int32 → Int32 → Int32 → Mem → Int32 × Mem) (kP61 : Int32 → Int32 → Int32 → Int32 → Mem → Prop) (hk61 : ∀ (v1 : Int32) (v2 : Int32) (v3 : Int32) (v4 : Int32) (M : Mem), kP61 v1 v2 v3 v4 M → AWP (GIM mtX5_blown 6 M0 (kf61 v1 v2 v3 v4 M)) mtX5_blown 61 [(0, .ref 0), (1, .int v1), (2, .int v2), (3, .int v3), (4, .int v4)] [] M) (v1 : Int32) (v3 : Int32) (v4 : Int32) (M : Mem) (hp : PX5_blown_93 kP61 v1 v3 v4 M) : AWP (GIM mtX5_blown 6 M0 (mX5_blown_93 kf61 v1 v3 v4 M)) mtX5_blown 93 [(0, .ref 0), (1, .int v1), (3, .int v3), (4, .int v4)] [] M := by
  unfold mX5_blown_93
  unfold PX5_blown_93 at hp
  obtain ⟨hq_7, hp⟩ := hp
  refine r_aload_n MF.bs dX5_blown_93 rfl 0 rfl ?_
  refine r_getR MF.bs dX5_blown_94 rfl rfl 2 (by decide) wd_255 rfl ?_
  refine r_getI MF.bs dX5_blown_97 rfl rfl 9 (by decide) wd_136 rfl ?_
  refine r_istore_n MF.bs (lv' := [(2, .int (M 15 9)), (0, .ref 0), (1, .int v1), (3, .int v3), (4, .int v4)]) dX5_blown_100 rfl (by decide) rfl ?_
  refine r_aload_n MF.bs dX5_blown_101 rfl 1 rfl ?_
  refine r_getR MF.bs dX5_blown_102 rfl rfl 2 (by decide) wd_255 rfl ?_
  refine r_aload_n MF.bs dX5_blown_105 rfl 1 rfl ?_
  refine r_getR MF.bs dX5_blown_106 rfl rfl 10 (by decide) wd_263 rfl ?_
  refine r_callV_v MF.bs (st := []) dX5_blown_109 (ctX4_standsOtherwise 15 31 8 (Or.inr (Or.inr rfl)) rfl M hq_7) miX4_standsOtherwise wd_607 rfl (by decide) rfl (Nat.le_of_ble_eq_true rfl) rfl rfl rfl ?_
  refine r_ite (GIM mtX5_blown 6 M0) (fun h_8 => ?_) (fun h_8 => ?_)
  · have hp := hp.1 h_8
    refine r_if_eq_f MF.bs (tgt := 118) dX5_blown_112 (by decide) (b2i_1 h_8) ?_
    refine r_iinc MF.bs (v := (v3 + 1)) (lv' := [(3, .int (v3 + 1)), (2, .int (M 15 9)), (0, .ref 0), (1, .int v1), (4, .int v4)]) dX5_blown_115 3 rfl rfl (by decide) rfl ?_
    refine r_sub [(0, .ref 0), (1, .int v1), (2, .int (M 15 9)), (3, .int (v3 + 1)), (4, .int v4)] [2, 3, 1, 0, 4] rfl ?_
    exact cX5_blown_118 M0 kf61 kP61 hk61 v1 (M 15 9) (v3 + 1) v4 M hp
  · have hp := hp.2 h_8
    refine r_if_eq_t MF.bs (tgt := 118) dX5_blown_112 (by decide) (b2i_0 h_8) ?_
    refine r_sub [(0, .ref 0), (1, .int v1), (2, .int (M 15 9)), (3, .int v3), (4, .int v4)] [1, 2, 0, 3, 4] rfl ?_
    exact cX5_blown_118 M0 kf61 kP61 hk61 v1 (M 15 9) v3 v4 M hp
def mX5_blown_78   (kf61 : Int32 → Int32 → Int32 → Int32 → Mem → Int32 × Mem) (v1 : Int32) (v2 : Int32) (v3 : Int32) (v4 : Int32) (M : Mem) : Int32 × Mem := (mX5_blown_93 kf61 v1 v3 v4 (mX4_takeStepByDraws 15 (upm M 15 9 v2)))
def PX5_blown_78   (kP61 : Int32 → Int32 → Int32 → Int32 → Mem → Prop) (v1 : Int32) (v2 : Int32) (v3 : Int32) (v4 : Int32) (M : Mem) : Prop := PX4_takeStepByDraws 15 (upm M 15 9 v2) ∧ (PX5_blown_93 kP61 v1 v3 v4 (mX4_takeStepByDraws 15 (upm M 15 9 v2)))
set_option maxRecDepth 100000 in
theorem cX5_blown_78    (M0 : Mem) (kf61 : Int32 → Int32 → Int32 → Int32 → Mem → Int32 × Mem) (kP61 : Int32 → Int32 → Int32 → Int32 → Mem → Prop) (hk61 : ∀ (v1 : Int32) (v2 : Int32) (v3 : Int32) (v4 : Int32) (M : Mem), kP61 v1 v2 v3 v4 M → AWP (GIM mtX5_blown 6 M0 (kf61 v1 v2 v3 v4 M)) mtX5_blown 61 [(0, .ref 0), (1, .int v1), (2, .int v2), (3, .int v3), (4, .int v4)] [] M) (v1 : Int32) (v2 : Int32) (v3 : Int32) (v4 : Int32) (M : Mem) (hp : PX5_blown_78 kP61 v1 v2 v3 v4 M) : AWP (GIM mtX5_blown 6 M0 (mX5_blown_78 kf61 v1 v2 v3 v4 M)) mtX5_blown 78 [(0, .ref 0), (1, .int v1), (2, .int v2), (3, .int v3), (4, .int v4)] [] M := by
  unfold mX5_blown_78
  unfold PX5_blown_78 at hp
  obtain ⟨hq_6, hp⟩ := hp
  refine r_aload_n MF.bs dX5_blown_78 rfl 0 rfl ?_
  refine r_getR MF.bs dX5_blown_79 rfl rfl 2 (by decide) wd_255 rfl ?_
  refine r_iload_n MF.bs dX5_blown_82 rfl 2 rfl ?_
  refine r_putI MF.bs dX5_blown_83 rfl rfl 9 (by decide) wd_136 rfl rfl rfl rfl rfl ?_
  refine r_aload_n MF.bs dX5_blown_86 rfl 0 rfl ?_
  refine r_getR MF.bs dX5_blown_87 rfl rfl 2 (by decide) wd_255 rfl ?_
  refine r_callV_n MF.bs (st := []) dX5_blown_90 (ctX4_takeStepByDraws 15 (Or.inr (Or.inr rfl)) (upm M 15 9 v2) hq_6) miX4_takeStepByDraws wd_592 rfl (by decide) rfl (Nat.le_of_ble_eq_true rfl) rfl rfl rfl ?_
  refine r_sub [(0, .ref 0), (1, .int v1), (3, .int v3), (4, .int v4)] [0, 1, 3, 4] rfl ?_
  exact cX5_blown_93 M0 kf61 kP61 hk61 v1 v3 v4 (mX4_takeStepByDraws 15 (upm M 15 9 v2)) hp
def mX5_blown_61   : Nat → Int32 → Int32 → Int32 → Int32 → Mem → Int32 × Mem
  | 0, _, _, _, _, M => (0, M)
  | n + 1, v1, v2, v3, v4, M => (if v1 ≤ v4 then (v3, M) else (mX5_blown_78 (mX5_blown_61 n) v1 v2 v3 v4 (mX4_become 15 1 M)))
def PX5_blown_61   : Nat → Int32 → Int32 → Int32 → Int32 → Mem → Prop
  | 0, _, _, _, _, _ => False
  | n + 1, v1, v2, v3, v4, M => (¬ v1 ≤ v4 → PX4_become 15 1 M ∧ (PX5_blown_78 (PX5_blown_61 n) v1 v2 v3 v4 (mX4_become 15 1 M)))
set_option maxRecDepth 100000 in
theorem cX5_blown_61    (M0 : Mem) : ∀ (n : Nat) (v1 : Int32) (v2 : Int32) (v3 : Int32) (v4 : Int32) (M : Mem), PX5_blown_61 n v1 v2 v3 v4 M → AWP (GIM mtX5_blown 6 M0 (mX5_blown_61 n v1 v2 v3 v4 M)) mtX5_blown 61 [(0, .ref 0), (1, .int v1), (2, .int v2), (3, .int v3), (4, .int v4)] [] M := by
  intro n
  induction n with
  | zero =>
    intro v1 v2 v3 v4 M hp
    exact hp.elim
  | succ n ih =>
    intro v1 v2 v3 v4 M hp
    rw [mX5_blown_61]
    rw [PX5_blown_61] at hp
    refine r_iload MF.bs dX5_blown_61 4 rfl ?_
    refine r_iload_n MF.bs dX5_blown_63 rfl 1 rfl ?_
    refine r_ite (GIM mtX5_blown 6 M0) (fun h_4 => ?_) (fun h_4 => ?_)
    · refine r_icmp_ge_t MF.bs (tgt := 124) dX5_blown_64 (by decide) h_4 ?_
      refine r_iload_n MF.bs dX5_blown_124 rfl 3 rfl ?_
      exact r_iret dX5_blown_125 rfl
    · have hp := hp h_4
      refine r_icmp_ge_f MF.bs (tgt := 124) dX5_blown_64 (by decide) h_4 ?_
      obtain ⟨hq_5, hp⟩ := hp
      refine r_aload_n MF.bs dX5_blown_67 rfl 0 rfl ?_
      refine r_getR MF.bs dX5_blown_68 rfl rfl 2 (by decide) wd_255 rfl ?_
      refine r_aload_n MF.bs dX5_blown_71 rfl 0 rfl ?_
      refine r_getR MF.bs dX5_blown_72 rfl rfl 0 (by decide) wd_253 rfl ?_
      refine r_callV_n MF.bs (st := []) dX5_blown_75 (ctX4_become 15 1 (Or.inr (Or.inr rfl)) (Or.inl rfl) M hq_5) miX4_become wd_454 rfl (by decide) rfl (Nat.le_of_ble_eq_true rfl) rfl rfl rfl ?_
      exact cX5_blown_78 M0 (mX5_blown_61 n) (PX5_blown_61 n) ih v1 v2 v3 v4 (mX4_become 15 1 M) hp
def mX5_blown_30   (v1 : Int32) (M : Mem) : Int32 × Mem := (mX5_blown_61 400 v1 ((upr M 31 (va_cpy (M 21) (M 31) 0 0 8)) 1 9) 0 0 (upr M 31 (va_cpy (M 21) (M 31) 0 0 8)))
def PX5_blown_30   (v1 : Int32) (M : Mem) : Prop := PX5_blown_61 400 v1 ((upr M 31 (va_cpy (M 21) (M 31) 0 0 8)) 1 9) 0 0 (upr M 31 (va_cpy (M 21) (M 31) 0 0 8))
set_option maxRecDepth 100000 in
theorem cX5_blown_30    (M0 : Mem) (v1 : Int32) (M : Mem) (hp : PX5_blown_30 v1 M) : AWP (GIM mtX5_blown 6 M0 (mX5_blown_30 v1 M)) mtX5_blown 30 [(0, .ref 0), (1, .int v1)] [] M := by
  unfold mX5_blown_30
  unfold PX5_blown_30 at hp
  refine r_aload_n MF.bs dX5_blown_30 rfl 0 rfl ?_
  refine r_getR MF.bs dX5_blown_31 rfl rfl 2 (by decide) wd_255 rfl ?_
  refine r_getR MF.bs dX5_blown_34 rfl rfl 5 (by decide) wd_126 rfl ?_
  refine r_iconst MF.bs dX5_blown_37 (v := 0) (by decide) ?_
  refine r_aload_n MF.bs dX5_blown_38 rfl 0 rfl ?_
  refine r_getR MF.bs dX5_blown_39 rfl rfl 10 (by decide) wd_263 rfl ?_
  refine r_iconst MF.bs dX5_blown_42 (v := 0) (by decide) ?_
  refine r_bipush MF.bs dX5_blown_43 (v := 8) (by decide) ?_
  refine r_copy MF.bs dX5_blown_45 wd_606 (n := 8) rfl rfl (by decide) (by decide) (by decide) (Nat.le_of_ble_eq_true rfl) (by decide) ?_
  refine r_aload_n MF.bs dX5_blown_48 rfl 0 rfl ?_
  refine r_getR MF.bs dX5_blown_49 rfl rfl 0 (by decide) wd_253 rfl ?_
  refine r_getI MF.bs dX5_blown_52 rfl rfl 9 (by decide) wd_136 rfl ?_
  refine r_istore_n MF.bs (lv' := [(2, .int ((upr M 31 (va_cpy (M 21) (M 31) 0 0 8)) 1 9)), (0, .ref 0), (1, .int v1)]) dX5_blown_55 rfl (by decide) rfl ?_
  refine r_iconst MF.bs dX5_blown_56 (v := 0) (by decide) ?_
  refine r_istore_n MF.bs (lv' := [(3, .int 0), (2, .int ((upr M 31 (va_cpy (M 21) (M 31) 0 0 8)) 1 9)), (0, .ref 0), (1, .int v1)]) dX5_blown_57 rfl (by decide) rfl ?_
  refine r_iconst MF.bs dX5_blown_58 (v := 0) (by decide) ?_
  refine r_istore MF.bs (lv' := [(4, .int 0), (3, .int 0), (2, .int ((upr M 31 (va_cpy (M 21) (M 31) 0 0 8)) 1 9)), (0, .ref 0), (1, .int v1)]) dX5_blown_59 (by decide) rfl ?_
  refine r_sub [(0, .ref 0), (1, .int v1), (2, .int ((upr M 31 (va_cpy (M 21) (M 31) 0 0 8)) 1 9)), (3, .int 0), (4, .int 0)] [3, 4, 2, 1, 0] rfl ?_
  exact cX5_blown_61 M0 400 v1 ((upr M 31 (va_cpy (M 21) (M 31) 0 0 8)) 1 9) 0 0 (upr M 31 (va_cpy (M 21) (M 31) 0 0 8)) hp
def mX5_blown_23   (v1 : Int32) (M : Mem) : Int32 × Mem := (mX5_blown_30 v1 (mX4_takeStep 15 M))
def PX5_blown_23   (v1 : Int32) (M : Mem) : Prop := PX4_takeStep 15 M ∧ (PX5_blown_30 v1 (mX4_takeStep 15 M))
set_option maxRecDepth 100000 in
theorem cX5_blown_23    (M0 : Mem) (v1 : Int32) (M : Mem) (hp : PX5_blown_23 v1 M) : AWP (GIM mtX5_blown 6 M0 (mX5_blown_23 v1 M)) mtX5_blown 23 [(0, .ref 0), (1, .int v1)] [] M := by
  unfold mX5_blown_23
  unfold PX5_blown_23 at hp
  obtain ⟨hq_3, hp⟩ := hp
  refine r_aload_n MF.bs dX5_blown_23 rfl 0 rfl ?_
  refine r_getR MF.bs dX5_blown_24 rfl rfl 2 (by decide) wd_255 rfl ?_
  refine r_callV_n MF.bs (st := []) dX5_blown_27 (ctX4_takeStep 15 (Or.inr (Or.inr rfl)) M hq_3) miX4_takeStep wd_555 rfl (by decide) rfl (Nat.le_of_ble_eq_true rfl) rfl rfl rfl ?_
  exact cX5_blown_30 M0 v1 (mX4_takeStep 15 M) hp
def mX5_blown  (a1 : Int32) (M : Mem) : Int32 × Mem := (if (mX5_isWithin a1 1 30) = true then (mX5_blown_23 a1 (mX4_become 15 1 M)) else ((-1), M))
def PX5_blown  (a1 : Int32) (M : Mem) : Prop := ((mX5_isWithin a1 1 30) = true → PX4_become 15 1 M ∧ (PX5_blown_23 a1 (mX4_become 15 1 M)))
set_option maxRecDepth 100000 in
theorem ctX5_blown   (a1 : Int32) (M : Mem) (hp : PX5_blown a1 M) : CT mtX5_blown 6 [.ref 0, .int a1] M (some (.int ((mX5_blown a1 M).1)), (mX5_blown a1 M).2) := by
  refine CT.of (by decide) rfl (Nat.le_of_ble_eq_true rfl) ?_
  show AWP (GIM mtX5_blown 6 M (mX5_blown a1 M)) mtX5_blown 0 [(0, .ref 0), (1, .int a1)] [] M
  unfold mX5_blown
  unfold PX5_blown at hp
  refine r_iload_n MF.bs dX5_blown_0 rfl 1 rfl ?_
  refine r_iconst MF.bs dX5_blown_1 (v := 1) (by decide) ?_
  refine r_bipush MF.bs dX5_blown_2 (v := 30) (by decide) ?_
  refine r_callS_v MF.bs (st := []) dX5_blown_4 (ctX5_isWithin a1 1 30 M) miX5_isWithin wd_303 rfl (by decide) rfl (Nat.le_of_ble_eq_true rfl) ?_
  refine r_ite (GIM mtX5_blown 6 M) (fun h_1 => ?_) (fun h_1 => ?_)
  · have hp := hp h_1
    refine r_if_ne_t MF.bs (tgt := 12) dX5_blown_7 (by decide) (b2i_1 h_1) ?_
    obtain ⟨hq_2, hp⟩ := hp
    refine r_aload_n MF.bs dX5_blown_12 rfl 0 rfl ?_
    refine r_getR MF.bs dX5_blown_13 rfl rfl 2 (by decide) wd_255 rfl ?_
    refine r_aload_n MF.bs dX5_blown_16 rfl 0 rfl ?_
    refine r_getR MF.bs dX5_blown_17 rfl rfl 0 (by decide) wd_253 rfl ?_
    refine r_callV_n MF.bs (st := []) dX5_blown_20 (ctX4_become 15 1 (Or.inr (Or.inr rfl)) (Or.inl rfl) M hq_2) miX4_become wd_454 rfl (by decide) rfl (Nat.le_of_ble_eq_true rfl) rfl rfl rfl ?_
    exact cX5_blown_23 M a1 (mX4_become 15 1 M) hp
  · refine r_if_ne_f MF.bs (tgt := 12) dX5_blown_7 (by decide) (b2i_0 h_1) ?_
    refine r_iconst MF.bs dX5_blown_10 (v := -1) (by decide) ?_
    exact r_iret dX5_blown_11 rfl
abbrev mtX5_state : MT := (RX5, yX5_state, cX5_state, 2, (some .int))
theorem miX5_state : MV mtX5_state 1 := ⟨wd_614, ⟨wd_612, wd_613⟩, wd_79, ⟨by decide, by decide, by decide +kernel⟩, by decide⟩
def mX5_state  (a1 : Int32) (M : Mem) : Int32 := (if a1 = 0 then (M 1 7) else (if a1 = 1 then (M 1 8) else (if a1 = 2 then (mX4_wetTogether 1 M) else (if a1 = 3 then (mX4_housesWithAirs 1 M) else (if a1 = 4 then (mX4_airsAtErrands 1 M) else (if a1 = 5 then (mX4_housesWetBy 1 (M 2 1) M) else (-1)))))))
def PX5_state  (a1 : Int32) (M : Mem) : Prop := (¬ a1 = 0 → (¬ a1 = 1 → ((a1 = 2 → PX4_wetTogether 1 M) ∧ (¬ a1 = 2 → ((a1 = 3 → PX4_housesWithAirs 1 M) ∧ (¬ a1 = 3 → ((a1 = 4 → PX4_airsAtErrands 1 M) ∧ (¬ a1 = 4 → (a1 = 5 → PX4_housesWetBy 1 (M 2 1) M)))))))))
set_option maxRecDepth 100000 in
theorem ctX5_state   (a1 : Int32) (M : Mem) (hp : PX5_state a1 M) : CT mtX5_state 1 [.ref 0, .int a1] M (some (.int (mX5_state a1 M)), M) := by
  refine CT.of (by decide) rfl (Nat.le_of_ble_eq_true rfl) ?_
  show AWP (GI mtX5_state 1 M M (mX5_state a1 M)) mtX5_state 0 [(0, .ref 0), (1, .int a1)] [] M
  unfold mX5_state
  unfold PX5_state at hp
  refine r_iload_n MF.bs dX5_state_0 rfl 1 rfl ?_
  refine r_ite (GI mtX5_state 1 M M) (fun h_1 => ?_) (fun h_1 => ?_)
  · refine r_tsw_in MF.bs (tgt := 40) dX5_state_1 h_1 (by decide) (by decide) rfl (by decide) ?_
    refine r_aload_n MF.bs dX5_state_40 rfl 0 rfl ?_
    refine r_getR MF.bs dX5_state_41 rfl rfl 0 (by decide) wd_253 rfl ?_
    refine r_getI MF.bs dX5_state_44 rfl rfl 7 (by decide) wd_131 rfl ?_
    exact r_iret dX5_state_47 rfl
  · have hp := hp h_1
    refine r_ite (GI mtX5_state 1 M M) (fun h_2 => ?_) (fun h_2 => ?_)
    · refine r_tsw_in MF.bs (tgt := 48) dX5_state_1 h_2 (by decide) (by decide) rfl (by decide) ?_
      refine r_aload_n MF.bs dX5_state_48 rfl 0 rfl ?_
      refine r_getR MF.bs dX5_state_49 rfl rfl 0 (by decide) wd_253 rfl ?_
      refine r_getI MF.bs dX5_state_52 rfl rfl 8 (by decide) wd_134 rfl ?_
      exact r_iret dX5_state_55 rfl
    · have hp := hp h_2
      refine r_ite (GI mtX5_state 1 M M) (fun h_3 => ?_) (fun h_3 => ?_)
      · have hp := hp.1 h_3
        refine r_tsw_in MF.bs (tgt := 56) dX5_state_1 h_3 (by decide) (by decide) rfl (by decide) ?_
        have hq_4 := hp
        refine r_aload_n MF.bs dX5_state_56 rfl 0 rfl ?_
        refine r_getR MF.bs dX5_state_57 rfl rfl 0 (by decide) wd_253 rfl ?_
        refine r_callV_v MF.bs (st := []) dX5_state_60 (ctX4_wetTogether 1 (Or.inl rfl) M hq_4) miX4_wetTogether wd_615 rfl (by decide) rfl (Nat.le_of_ble_eq_true rfl) rfl rfl rfl ?_
        exact r_iret dX5_state_63 rfl
      · have hp := hp.2 h_3
        refine r_ite (GI mtX5_state 1 M M) (fun h_5 => ?_) (fun h_5 => ?_)
        · have hp := hp.1 h_5
          refine r_tsw_in MF.bs (tgt := 64) dX5_state_1 h_5 (by decide) (by decide) rfl (by decide) ?_
          have hq_6 := hp
          refine r_aload_n MF.bs dX5_state_64 rfl 0 rfl ?_
          refine r_getR MF.bs dX5_state_65 rfl rfl 0 (by decide) wd_253 rfl ?_
          refine r_callV_v MF.bs (st := []) dX5_state_68 (ctX4_housesWithAirs 1 (Or.inl rfl) M hq_6) miX4_housesWithAirs wd_619 rfl (by decide) rfl (Nat.le_of_ble_eq_true rfl) rfl rfl rfl ?_
          exact r_iret dX5_state_71 rfl
        · have hp := hp.2 h_5
          refine r_ite (GI mtX5_state 1 M M) (fun h_7 => ?_) (fun h_7 => ?_)
          · have hp := hp.1 h_7
            refine r_tsw_in MF.bs (tgt := 72) dX5_state_1 h_7 (by decide) (by decide) rfl (by decide) ?_
            have hq_8 := hp
            refine r_aload_n MF.bs dX5_state_72 rfl 0 rfl ?_
            refine r_getR MF.bs dX5_state_73 rfl rfl 0 (by decide) wd_253 rfl ?_
            refine r_callV_v MF.bs (st := []) dX5_state_76 (ctX4_airsAtErrands 1 (Or.inl rfl) M hq_8) miX4_airsAtErrands wd_574 rfl (by decide) rfl (Nat.le_of_ble_eq_true rfl) rfl rfl rfl ?_
            exact r_iret dX5_state_79 rfl
          · have hp := hp.2 h_7
            refine r_ite (GI mtX5_state 1 M M) (fun h_9 => ?_) (fun h_9 => ?_)
            · have hp := hp h_9
              refine r_tsw_in MF.bs (tgt := 80) dX5_state_1 h_9 (by decide) (by decide) rfl (by decide) ?_
              have hq_10 := hp
              refine r_aload_n MF.bs dX5_state_80 rfl 0 rfl ?_
              refine r_getR MF.bs dX5_state_81 rfl rfl 0 (by decide) wd_253 rfl ?_
              refine r_aload_n MF.bs dX5_state_84 rfl 0 rfl ?_
              refine r_getR MF.bs dX5_state_85 rfl rfl 0 (by decide) wd_253 rfl ?_
              refine r_getR MF.bs dX5_state_88 rfl rfl 0 (by decide) wd_114 rfl ?_
              refine r_iconst MF.bs dX5_state_91 (v := 1) (by decide) ?_
              refine r_ialoadL MF.bs dX5_state_92 rfl (vin_l (by decide) (by decide)) (k9 := 1) (by decide) ?_
              refine r_callV_v MF.bs (st := []) dX5_state_93 (ctX4_housesWetBy 1 (Or.inl rfl) (M 2 1) M hq_10) miX4_housesWetBy wd_623 rfl (by decide) rfl (Nat.le_of_ble_eq_true rfl) rfl rfl rfl ?_
              exact r_iret dX5_state_96 rfl
            · refine r_tsw_out MF.bs (tgt := 97) dX5_state_1 (by have e0 := lv_neT (a := 0) h_1 (by decide); have e1 := lv_neT (a := 1) h_2 (by decide); have e2 := lv_neT (a := 2) h_3 (by decide); have e3 := lv_neT (a := 3) h_5 (by decide); have e4 := lv_neT (a := 4) h_7 (by decide); have e5 := lv_neT (a := 5) h_9 (by decide); omega) (by decide) ?_
              refine r_iconst MF.bs dX5_state_97 (v := -1) (by decide) ?_
              exact r_iret dX5_state_98 rfl
abbrev mtX5_tryWalk : MT := (RX5, yX5_tryWalk, cX5_tryWalk, 4, none)
theorem miX5_tryWalk : MV mtX5_tryWalk 3 := ⟨wd_634, ⟨wd_633, wd_18⟩, wd_79, ⟨by decide, by decide, by decide +kernel⟩, by decide⟩
def mX5_tryWalk_11 (p3 : Nat) (n3 : Nat)  (v1 : Int32) (v2 : Int32) (M : Mem) : Mem := (mX4_walk 15 p3 n3 v1 v2 M)
def PX5_tryWalk_11 (p3 : Nat) (n3 : Nat)  (v1 : Int32) (v2 : Int32) (M : Mem) : Prop := PX4_walk 15 p3 n3 v1 v2 M
set_option maxRecDepth 100000 in
theorem cX5_tryWalk_11 (p3 : Nat) (n3 : Nat) (h3 : SH[p3]? = some (.inr (.inl n3)))  (M0 : Mem) (v1 : Int32) (v2 : Int32) (M : Mem) (hp : PX5_tryWalk_11 p3 n3 v1 v2 M) : AWP (GV mtX5_tryWalk 5 M0 (mX5_tryWalk_11 p3 n3 v1 v2 M)) mtX5_tryWalk 11 [(0, .ref 0), (1, .int v1), (2, .int v2), (3, .ref p3)] [] M := by
  unfold mX5_tryWalk_11
  unfold PX5_tryWalk_11 at hp
  have hq_2 := hp
  refine r_aload_n MF.bs dX5_tryWalk_11 rfl 0 rfl ?_
  refine r_getR MF.bs dX5_tryWalk_12 rfl rfl 2 (by decide) wd_255 rfl ?_
  refine r_iload_n MF.bs dX5_tryWalk_15 rfl 1 rfl ?_
  refine r_iload_n MF.bs dX5_tryWalk_16 rfl 2 rfl ?_
  refine r_aload_n MF.bs dX5_tryWalk_17 rfl 3 rfl ?_
  refine r_callV_n MF.bs (st := []) dX5_tryWalk_18 (ctX4_walk 15 p3 n3 (Or.inr (Or.inr rfl)) h3 v1 v2 M hq_2) miX4_walk wd_635 rfl (by decide) rfl (Nat.le_of_ble_eq_true rfl) rfl rfl rfl ?_
  exact r_vret dX5_tryWalk_21 rfl
def mX5_tryWalk (p3 : Nat) (n3 : Nat) (a1 : Int32) (a2 : Int32) (M : Mem) : Mem := (mX5_tryWalk_11 p3 n3 a1 a2 (mX4_become 15 1 M))
def PX5_tryWalk (p3 : Nat) (n3 : Nat) (a1 : Int32) (a2 : Int32) (M : Mem) : Prop := PX4_become 15 1 M ∧ (PX5_tryWalk_11 p3 n3 a1 a2 (mX4_become 15 1 M))
set_option maxRecDepth 100000 in
theorem ctX5_tryWalk (p3 : Nat) (n3 : Nat) (h3 : SH[p3]? = some (.inr (.inl n3))) (a1 : Int32) (a2 : Int32) (M : Mem) (hp : PX5_tryWalk p3 n3 a1 a2 M) : CT mtX5_tryWalk 5 [.ref 0, .int a1, .int a2, .ref p3] M (none, mX5_tryWalk p3 n3 a1 a2 M) := by
  refine CT.of (by decide) rfl (Nat.le_of_ble_eq_true rfl) ?_
  show AWP (GV mtX5_tryWalk 5 M (mX5_tryWalk p3 n3 a1 a2 M)) mtX5_tryWalk 0 [(0, .ref 0), (1, .int a1), (2, .int a2), (3, .ref p3)] [] M
  unfold mX5_tryWalk
  unfold PX5_tryWalk at hp
  obtain ⟨hq_1, hp⟩ := hp
  refine r_aload_n MF.bs dX5_tryWalk_0 rfl 0 rfl ?_
  refine r_getR MF.bs dX5_tryWalk_1 rfl rfl 2 (by decide) wd_255 rfl ?_
  refine r_aload_n MF.bs dX5_tryWalk_4 rfl 0 rfl ?_
  refine r_getR MF.bs dX5_tryWalk_5 rfl rfl 0 (by decide) wd_253 rfl ?_
  refine r_callV_n MF.bs (st := []) dX5_tryWalk_8 (ctX4_become 15 1 (Or.inr (Or.inr rfl)) (Or.inl rfl) M hq_1) miX4_become wd_454 rfl (by decide) rfl (Nat.le_of_ble_eq_true rfl) rfl rfl rfl ?_
  exact cX5_tryWalk_11 p3 n3 h3 M a1 a2 (mX4_become 15 1 M) hp
abbrev mtX5_where : MT := (RX5, yX5_where, cX5_where, 3, (some .int))
theorem miX5_where : MV mtX5_where 2 := ⟨wd_630, ⟨wd_628, wd_629⟩, wd_79, ⟨by decide, by decide, by decide +kernel⟩, by decide⟩
def mX5_where_33   (v2 : Int32) (M : Mem) : Int32 × Mem := ((M 29 v2.toNatClampNeg), M)
def PX5_where_33   (v2 : Int32) (M : Mem) : Prop := vp_in v2 61
set_option maxRecDepth 100000 in
theorem cX5_where_33    (M0 : Mem) (v2 : Int32) (M : Mem) (hp : PX5_where_33 v2 M) : AWP (GIM mtX5_where 6 M0 (mX5_where_33 v2 M)) mtX5_where 33 [(0, .ref 0), (2, .int v2)] [] M := by
  unfold mX5_where_33
  unfold PX5_where_33 at hp
  have hq_4 := hp
  refine r_aload_n MF.bs dX5_where_33 rfl 0 rfl ?_
  refine r_getR MF.bs dX5_where_34 rfl rfl 8 (by decide) wd_261 rfl ?_
  refine r_iload_n MF.bs dX5_where_37 rfl 1 rfl ?_
  refine r_iaload MF.bs dX5_where_38 rfl hq_4 ?_
  exact r_iret dX5_where_39 rfl
def mX5_where  (a1 : Int32) (a2 : Int32) (M : Mem) : Int32 × Mem := (if (mX4_has 1 a1 M) = true then (if (mX5_isWithin a2 0 60) = true then (mX5_where_33 a2 (mX5_tryWalk 29 61 a1 a2 M)) else ((-1), M)) else ((-1), M))
def PX5_where  (a1 : Int32) (a2 : Int32) (M : Mem) : Prop := ((mX4_has 1 a1 M) = true → ((mX5_isWithin a2 0 60) = true → PX5_tryWalk 29 61 a1 a2 M ∧ (PX5_where_33 a2 (mX5_tryWalk 29 61 a1 a2 M))))
set_option maxRecDepth 100000 in
theorem ctX5_where   (a1 : Int32) (a2 : Int32) (M : Mem) (hp : PX5_where a1 a2 M) : CT mtX5_where 6 [.ref 0, .int a1, .int a2] M (some (.int ((mX5_where a1 a2 M).1)), (mX5_where a1 a2 M).2) := by
  refine CT.of (by decide) rfl (Nat.le_of_ble_eq_true rfl) ?_
  show AWP (GIM mtX5_where 6 M (mX5_where a1 a2 M)) mtX5_where 0 [(0, .ref 0), (1, .int a1), (2, .int a2)] [] M
  unfold mX5_where
  unfold PX5_where at hp
  refine r_aload_n MF.bs dX5_where_0 rfl 0 rfl ?_
  refine r_getR MF.bs dX5_where_1 rfl rfl 0 (by decide) wd_253 rfl ?_
  refine r_iload_n MF.bs dX5_where_4 rfl 1 rfl ?_
  refine r_callV_v MF.bs (st := []) dX5_where_5 (ctX4_has 1 (Or.inl rfl) a1 M) miX4_has wd_490 rfl (by decide) rfl (Nat.le_of_ble_eq_true rfl) rfl rfl rfl ?_
  refine r_ite (GIM mtX5_where 6 M) (fun h_1 => ?_) (fun h_1 => ?_)
  · have hp := hp h_1
    refine r_if_eq_f MF.bs (tgt := 21) dX5_where_8 (by decide) (b2i_1 h_1) ?_
    refine r_iload_n MF.bs dX5_where_11 rfl 2 rfl ?_
    refine r_iconst MF.bs dX5_where_12 (v := 0) (by decide) ?_
    refine r_bipush MF.bs dX5_where_13 (v := 60) (by decide) ?_
    refine r_callS_v MF.bs (st := []) dX5_where_15 (ctX5_isWithin a2 0 60 M) miX5_isWithin wd_303 rfl (by decide) rfl (Nat.le_of_ble_eq_true rfl) ?_
    refine r_ite (GIM mtX5_where 6 M) (fun h_2 => ?_) (fun h_2 => ?_)
    · have hp := hp h_2
      refine r_if_ne_t MF.bs (tgt := 23) dX5_where_18 (by decide) (b2i_1 h_2) ?_
      obtain ⟨hq_3, hp⟩ := hp
      refine r_aload_n MF.bs dX5_where_23 rfl 0 rfl ?_
      refine r_iload_n MF.bs dX5_where_24 rfl 1 rfl ?_
      refine r_iload_n MF.bs dX5_where_25 rfl 2 rfl ?_
      refine r_aload_n MF.bs dX5_where_26 rfl 0 rfl ?_
      refine r_getR MF.bs dX5_where_27 rfl rfl 8 (by decide) wd_261 rfl ?_
      refine r_callV_n MF.bs (st := []) dX5_where_30 (ctX5_tryWalk 29 61 rfl a1 a2 M hq_3) miX5_tryWalk wd_631 rfl (by decide) rfl (Nat.le_of_ble_eq_true rfl) rfl rfl rfl ?_
      refine r_sub [(0, .ref 0), (2, .int a2)] [0, 2] rfl ?_
      exact cX5_where_33 M a2 (mX5_tryWalk 29 61 a1 a2 M) hp
    · refine r_if_ne_f MF.bs (tgt := 23) dX5_where_18 (by decide) (b2i_0 h_2) ?_
      refine r_iconst MF.bs dX5_where_21 (v := -1) (by decide) ?_
      exact r_iret dX5_where_22 rfl
  · refine r_if_eq_t MF.bs (tgt := 21) dX5_where_8 (by decide) (b2i_0 h_1) ?_
    refine r_iconst MF.bs dX5_where_21 (v := -1) (by decide) ?_
    exact r_iret dX5_where_22 rfl
abbrev mtX5_stops : MT := (RX5, yX5_stops, cX5_stops, 3, (some .int))
theorem miX5_stops : MV mtX5_stops 1 := ⟨wd_642, ⟨wd_640, wd_641⟩, wd_79, ⟨by decide, by decide, by decide +kernel⟩, by decide⟩
def mX5_stops_26   : Nat → Int32 → Int32 → Mem → Int32 × Mem
  | 0, _, _, M => (0, M)
  | n + 1, v1, v2, M => (if 60 < v2 then ((-3), M) else (if (M 29 v2.toNatClampNeg) = (M 6 v1.toNatClampNeg) then (v2, M) else (mX5_stops_26 n v1 (v2 + 1) M)))
def PX5_stops_26   : Nat → Int32 → Int32 → Mem → Prop
  | 0, _, _, _ => False
  | n + 1, v1, v2, M => (¬ 60 < v2 → vp_in v2 61 ∧ (vp_in v1 8 ∧ ((¬ (M 29 v2.toNatClampNeg) = (M 6 v1.toNatClampNeg) → PX5_stops_26 n v1 (v2 + 1) M))))
set_option maxRecDepth 100000 in
theorem cX5_stops_26    (M0 : Mem) : ∀ (n : Nat) (v1 : Int32) (v2 : Int32) (M : Mem), PX5_stops_26 n v1 v2 M → AWP (GIM mtX5_stops 6 M0 (mX5_stops_26 n v1 v2 M)) mtX5_stops 26 [(0, .ref 0), (1, .int v1), (2, .int v2)] [] M := by
  intro n
  induction n with
  | zero =>
    intro v1 v2 M hp
    exact hp.elim
  | succ n ih =>
    intro v1 v2 M hp
    rw [mX5_stops_26]
    rw [PX5_stops_26] at hp
    refine r_iload_n MF.bs dX5_stops_26 rfl 2 rfl ?_
    refine r_bipush MF.bs dX5_stops_27 (v := 60) (by decide) ?_
    refine r_ite (GIM mtX5_stops 6 M0) (fun h_3 => ?_) (fun h_3 => ?_)
    · refine r_icmp_gt_t MF.bs (tgt := 58) dX5_stops_29 (by decide) h_3 ?_
      refine r_bipush MF.bs dX5_stops_58 (v := -3) (by decide) ?_
      exact r_iret dX5_stops_60 rfl
    · have hp := hp h_3
      refine r_icmp_gt_f MF.bs (tgt := 58) dX5_stops_29 (by decide) h_3 ?_
      obtain ⟨hq_4, hp⟩ := hp
      obtain ⟨hq_5, hp⟩ := hp
      refine r_aload_n MF.bs dX5_stops_32 rfl 0 rfl ?_
      refine r_getR MF.bs dX5_stops_33 rfl rfl 8 (by decide) wd_261 rfl ?_
      refine r_iload_n MF.bs dX5_stops_36 rfl 2 rfl ?_
      refine r_iaload MF.bs dX5_stops_37 rfl hq_4 ?_
      refine r_aload_n MF.bs dX5_stops_38 rfl 0 rfl ?_
      refine r_getR MF.bs dX5_stops_39 rfl rfl 0 (by decide) wd_253 rfl ?_
      refine r_getR MF.bs dX5_stops_42 rfl rfl 4 (by decide) wd_124 rfl ?_
      refine r_iload_n MF.bs dX5_stops_45 rfl 1 rfl ?_
      refine r_iaload MF.bs dX5_stops_46 rfl hq_5 ?_
      refine r_ite (GIM mtX5_stops 6 M0) (fun h_6 => ?_) (fun h_6 => ?_)
      · refine r_icmp_ne_f MF.bs (tgt := 52) dX5_stops_47 (by decide) h_6 ?_
        refine r_iload_n MF.bs dX5_stops_50 rfl 2 rfl ?_
        exact r_iret dX5_stops_51 rfl
      · have hp := hp h_6
        refine r_icmp_ne_t MF.bs (tgt := 52) dX5_stops_47 (by decide) h_6 ?_
        refine r_iinc MF.bs (v := (v2 + 1)) (lv' := [(2, .int (v2 + 1)), (0, .ref 0), (1, .int v1)]) dX5_stops_52 2 rfl rfl (by decide) rfl ?_
        refine r_goto MF.bs dX5_stops_55 (tgt := 26) (by decide) ?_
        refine r_sub [(0, .ref 0), (1, .int v1), (2, .int (v2 + 1))] [1, 2, 0] rfl ?_
        exact ih v1 (v2 + 1) M hp
def mX5_stops_24   (v1 : Int32) (M : Mem) : Int32 × Mem := (mX5_stops_26 400 v1 0 M)
def PX5_stops_24   (v1 : Int32) (M : Mem) : Prop := PX5_stops_26 400 v1 0 M
set_option maxRecDepth 100000 in
theorem cX5_stops_24    (M0 : Mem) (v1 : Int32) (M : Mem) (hp : PX5_stops_24 v1 M) : AWP (GIM mtX5_stops 6 M0 (mX5_stops_24 v1 M)) mtX5_stops 24 [(0, .ref 0), (1, .int v1)] [] M := by
  unfold mX5_stops_24
  unfold PX5_stops_24 at hp
  refine r_iconst MF.bs dX5_stops_24 (v := 0) (by decide) ?_
  refine r_istore_n MF.bs (lv' := [(2, .int 0), (0, .ref 0), (1, .int v1)]) dX5_stops_25 rfl (by decide) rfl ?_
  refine r_sub [(0, .ref 0), (1, .int v1), (2, .int 0)] [1, 2, 0] rfl ?_
  exact cX5_stops_26 M0 400 v1 0 M hp
def mX5_stops  (a1 : Int32) (M : Mem) : Int32 × Mem := (if (mX4_has 1 a1 M) = true then (mX5_stops_24 a1 (mX5_tryWalk 29 61 a1 60 M)) else ((-1), M))
def PX5_stops  (a1 : Int32) (M : Mem) : Prop := ((mX4_has 1 a1 M) = true → PX5_tryWalk 29 61 a1 60 M ∧ (PX5_stops_24 a1 (mX5_tryWalk 29 61 a1 60 M)))
set_option maxRecDepth 100000 in
theorem ctX5_stops   (a1 : Int32) (M : Mem) (hp : PX5_stops a1 M) : CT mtX5_stops 6 [.ref 0, .int a1] M (some (.int ((mX5_stops a1 M).1)), (mX5_stops a1 M).2) := by
  refine CT.of (by decide) rfl (Nat.le_of_ble_eq_true rfl) ?_
  show AWP (GIM mtX5_stops 6 M (mX5_stops a1 M)) mtX5_stops 0 [(0, .ref 0), (1, .int a1)] [] M
  unfold mX5_stops
  unfold PX5_stops at hp
  refine r_aload_n MF.bs dX5_stops_0 rfl 0 rfl ?_
  refine r_getR MF.bs dX5_stops_1 rfl rfl 0 (by decide) wd_253 rfl ?_
  refine r_iload_n MF.bs dX5_stops_4 rfl 1 rfl ?_
  refine r_callV_v MF.bs (st := []) dX5_stops_5 (ctX4_has 1 (Or.inl rfl) a1 M) miX4_has wd_490 rfl (by decide) rfl (Nat.le_of_ble_eq_true rfl) rfl rfl rfl ?_
  refine r_ite (GIM mtX5_stops 6 M) (fun h_1 => ?_) (fun h_1 => ?_)
  · have hp := hp h_1
    refine r_if_ne_t MF.bs (tgt := 13) dX5_stops_8 (by decide) (b2i_1 h_1) ?_
    obtain ⟨hq_2, hp⟩ := hp
    refine r_aload_n MF.bs dX5_stops_13 rfl 0 rfl ?_
    refine r_iload_n MF.bs dX5_stops_14 rfl 1 rfl ?_
    refine r_bipush MF.bs dX5_stops_15 (v := 60) (by decide) ?_
    refine r_aload_n MF.bs dX5_stops_17 rfl 0 rfl ?_
    refine r_getR MF.bs dX5_stops_18 rfl rfl 8 (by decide) wd_261 rfl ?_
    refine r_callV_n MF.bs (st := []) dX5_stops_21 (ctX5_tryWalk 29 61 rfl a1 60 M hq_2) miX5_tryWalk wd_631 rfl (by decide) rfl (Nat.le_of_ble_eq_true rfl) rfl rfl rfl ?_
    exact cX5_stops_24 M a1 (mX5_tryWalk 29 61 a1 60 M) hp
  · refine r_if_ne_f MF.bs (tgt := 13) dX5_stops_8 (by decide) (b2i_0 h_1) ?_
    refine r_iconst MF.bs dX5_stops_11 (v := -1) (by decide) ?_
    exact r_iret dX5_stops_12 rfl
abbrev mtX5_meets : MT := (RX5, yX5_meets, cX5_meets, 4, (some .int))
theorem miX5_meets : MV mtX5_meets 2 := ⟨wd_646, ⟨wd_644, wd_645⟩, wd_79, ⟨by decide, by decide, by decide +kernel⟩, by decide⟩
def mX5_meets_53   : Nat → Int32 → Mem → Int32 × Mem
  | 0, _, M => (0, M)
  | n + 1, v3, M => (if 60 < v3 then ((-3), M) else (if (M 29 v3.toNatClampNeg) = (M 30 v3.toNatClampNeg) then (v3, M) else (mX5_meets_53 n (v3 + 1) M)))
def PX5_meets_53   : Nat → Int32 → Mem → Prop
  | 0, _, _ => False
  | n + 1, v3, M => (¬ 60 < v3 → vp_in v3 61 ∧ (vp_in v3 61 ∧ ((¬ (M 29 v3.toNatClampNeg) = (M 30 v3.toNatClampNeg) → PX5_meets_53 n (v3 + 1) M))))
set_option maxRecDepth 100000 in
theorem cX5_meets_53    (M0 : Mem) : ∀ (n : Nat) (v3 : Int32) (M : Mem), PX5_meets_53 n v3 M → AWP (GIM mtX5_meets 6 M0 (mX5_meets_53 n v3 M)) mtX5_meets 53 [(0, .ref 0), (3, .int v3)] [] M := by
  intro n
  induction n with
  | zero =>
    intro v3 M hp
    exact hp.elim
  | succ n ih =>
    intro v3 M hp
    rw [mX5_meets_53]
    rw [PX5_meets_53] at hp
    refine r_iload_n MF.bs dX5_meets_53 rfl 1 rfl ?_
    refine r_bipush MF.bs dX5_meets_54 (v := 60) (by decide) ?_
    refine r_ite (GIM mtX5_meets 6 M0) (fun h_6 => ?_) (fun h_6 => ?_)
    · refine r_icmp_gt_t MF.bs (tgt := 82) dX5_meets_56 (by decide) h_6 ?_
      refine r_bipush MF.bs dX5_meets_82 (v := -3) (by decide) ?_
      exact r_iret dX5_meets_84 rfl
    · have hp := hp h_6
      refine r_icmp_gt_f MF.bs (tgt := 82) dX5_meets_56 (by decide) h_6 ?_
      obtain ⟨hq_7, hp⟩ := hp
      obtain ⟨hq_8, hp⟩ := hp
      refine r_aload_n MF.bs dX5_meets_59 rfl 0 rfl ?_
      refine r_getR MF.bs dX5_meets_60 rfl rfl 8 (by decide) wd_261 rfl ?_
      refine r_iload_n MF.bs dX5_meets_63 rfl 1 rfl ?_
      refine r_iaload MF.bs dX5_meets_64 rfl hq_7 ?_
      refine r_aload_n MF.bs dX5_meets_65 rfl 0 rfl ?_
      refine r_getR MF.bs dX5_meets_66 rfl rfl 9 (by decide) wd_262 rfl ?_
      refine r_iload_n MF.bs dX5_meets_69 rfl 1 rfl ?_
      refine r_iaload MF.bs dX5_meets_70 rfl hq_8 ?_
      refine r_ite (GIM mtX5_meets 6 M0) (fun h_9 => ?_) (fun h_9 => ?_)
      · refine r_icmp_ne_f MF.bs (tgt := 76) dX5_meets_71 (by decide) h_9 ?_
        refine r_iload_n MF.bs dX5_meets_74 rfl 1 rfl ?_
        exact r_iret dX5_meets_75 rfl
      · have hp := hp h_9
        refine r_icmp_ne_t MF.bs (tgt := 76) dX5_meets_71 (by decide) h_9 ?_
        refine r_iinc MF.bs (v := (v3 + 1)) (lv' := [(3, .int (v3 + 1)), (0, .ref 0)]) dX5_meets_76 1 rfl rfl (by decide) rfl ?_
        refine r_goto MF.bs dX5_meets_79 (tgt := 53) (by decide) ?_
        refine r_sub [(0, .ref 0), (3, .int (v3 + 1))] [1, 0] rfl ?_
        exact ih (v3 + 1) M hp
def mX5_meets_51   (M : Mem) : Int32 × Mem := (mX5_meets_53 400 0 M)
def PX5_meets_51   (M : Mem) : Prop := PX5_meets_53 400 0 M
set_option maxRecDepth 100000 in
theorem cX5_meets_51    (M0 : Mem) (M : Mem) (hp : PX5_meets_51 M) : AWP (GIM mtX5_meets 6 M0 (mX5_meets_51 M)) mtX5_meets 51 [(0, .ref 0)] [] M := by
  unfold mX5_meets_51
  unfold PX5_meets_51 at hp
  refine r_iconst MF.bs dX5_meets_51 (v := 0) (by decide) ?_
  refine r_istore_n MF.bs (lv' := [(3, .int 0), (0, .ref 0)]) dX5_meets_52 rfl (by decide) rfl ?_
  refine r_sub [(0, .ref 0), (3, .int 0)] [1, 0] rfl ?_
  exact cX5_meets_53 M0 400 0 M hp
def mX5_meets_40   (v2 : Int32) (M : Mem) : Int32 × Mem := (mX5_meets_51 (mX5_tryWalk 30 61 v2 60 M))
def PX5_meets_40   (v2 : Int32) (M : Mem) : Prop := PX5_tryWalk 30 61 v2 60 M ∧ (PX5_meets_51 (mX5_tryWalk 30 61 v2 60 M))
set_option maxRecDepth 100000 in
theorem cX5_meets_40    (M0 : Mem) (v2 : Int32) (M : Mem) (hp : PX5_meets_40 v2 M) : AWP (GIM mtX5_meets 6 M0 (mX5_meets_40 v2 M)) mtX5_meets 40 [(0, .ref 0), (2, .int v2)] [] M := by
  unfold mX5_meets_40
  unfold PX5_meets_40 at hp
  obtain ⟨hq_5, hp⟩ := hp
  refine r_aload_n MF.bs dX5_meets_40 rfl 0 rfl ?_
  refine r_iload_n MF.bs dX5_meets_41 rfl 1 rfl ?_
  refine r_bipush MF.bs dX5_meets_42 (v := 60) (by decide) ?_
  refine r_aload_n MF.bs dX5_meets_44 rfl 0 rfl ?_
  refine r_getR MF.bs dX5_meets_45 rfl rfl 9 (by decide) wd_262 rfl ?_
  refine r_callV_n MF.bs (st := []) dX5_meets_48 (ctX5_tryWalk 30 61 rfl v2 60 M hq_5) miX5_tryWalk wd_631 rfl (by decide) rfl (Nat.le_of_ble_eq_true rfl) rfl rfl rfl ?_
  refine r_sub [(0, .ref 0)] [0] rfl ?_
  exact cX5_meets_51 M0 (mX5_tryWalk 30 61 v2 60 M) hp
def mX5_meets  (a1 : Int32) (a2 : Int32) (M : Mem) : Int32 × Mem := (if (mX4_has 1 a1 M) = true then (if (mX4_has 1 a2 M) = true then (if a1 = a2 then ((-1), M) else (mX5_meets_40 a2 (mX5_tryWalk 29 61 a1 60 M))) else ((-1), M)) else ((-1), M))
def PX5_meets  (a1 : Int32) (a2 : Int32) (M : Mem) : Prop := ((mX4_has 1 a1 M) = true → ((mX4_has 1 a2 M) = true → (¬ a1 = a2 → PX5_tryWalk 29 61 a1 60 M ∧ (PX5_meets_40 a2 (mX5_tryWalk 29 61 a1 60 M)))))
set_option maxRecDepth 100000 in
theorem ctX5_meets   (a1 : Int32) (a2 : Int32) (M : Mem) (hp : PX5_meets a1 a2 M) : CT mtX5_meets 6 [.ref 0, .int a1, .int a2] M (some (.int ((mX5_meets a1 a2 M).1)), (mX5_meets a1 a2 M).2) := by
  refine CT.of (by decide) rfl (Nat.le_of_ble_eq_true rfl) ?_
  show AWP (GIM mtX5_meets 6 M (mX5_meets a1 a2 M)) mtX5_meets 0 [(0, .ref 0), (1, .int a1), (2, .int a2)] [] M
  unfold mX5_meets
  unfold PX5_meets at hp
  refine r_aload_n MF.bs dX5_meets_0 rfl 0 rfl ?_
  refine r_getR MF.bs dX5_meets_1 rfl rfl 0 (by decide) wd_253 rfl ?_
  refine r_iload_n MF.bs dX5_meets_4 rfl 1 rfl ?_
  refine r_callV_v MF.bs (st := []) dX5_meets_5 (ctX4_has 1 (Or.inl rfl) a1 M) miX4_has wd_490 rfl (by decide) rfl (Nat.le_of_ble_eq_true rfl) rfl rfl rfl ?_
  refine r_ite (GIM mtX5_meets 6 M) (fun h_1 => ?_) (fun h_1 => ?_)
  · have hp := hp h_1
    refine r_if_eq_f MF.bs (tgt := 27) dX5_meets_8 (by decide) (b2i_1 h_1) ?_
    refine r_aload_n MF.bs dX5_meets_11 rfl 0 rfl ?_
    refine r_getR MF.bs dX5_meets_12 rfl rfl 0 (by decide) wd_253 rfl ?_
    refine r_iload_n MF.bs dX5_meets_15 rfl 2 rfl ?_
    refine r_callV_v MF.bs (st := []) dX5_meets_16 (ctX4_has 1 (Or.inl rfl) a2 M) miX4_has wd_490 rfl (by decide) rfl (Nat.le_of_ble_eq_true rfl) rfl rfl rfl ?_
    refine r_ite (GIM mtX5_meets 6 M) (fun h_2 => ?_) (fun h_2 => ?_)
    · have hp := hp h_2
      refine r_if_eq_f MF.bs (tgt := 27) dX5_meets_19 (by decide) (b2i_1 h_2) ?_
      refine r_iload_n MF.bs dX5_meets_22 rfl 1 rfl ?_
      refine r_iload_n MF.bs dX5_meets_23 rfl 2 rfl ?_
      refine r_ite (GIM mtX5_meets 6 M) (fun h_3 => ?_) (fun h_3 => ?_)
      · refine r_icmp_ne_f MF.bs (tgt := 29) dX5_meets_24 (by decide) h_3 ?_
        refine r_iconst MF.bs dX5_meets_27 (v := -1) (by decide) ?_
        exact r_iret dX5_meets_28 rfl
      · have hp := hp h_3
        refine r_icmp_ne_t MF.bs (tgt := 29) dX5_meets_24 (by decide) h_3 ?_
        obtain ⟨hq_4, hp⟩ := hp
        refine r_aload_n MF.bs dX5_meets_29 rfl 0 rfl ?_
        refine r_iload_n MF.bs dX5_meets_30 rfl 1 rfl ?_
        refine r_bipush MF.bs dX5_meets_31 (v := 60) (by decide) ?_
        refine r_aload_n MF.bs dX5_meets_33 rfl 0 rfl ?_
        refine r_getR MF.bs dX5_meets_34 rfl rfl 8 (by decide) wd_261 rfl ?_
        refine r_callV_n MF.bs (st := []) dX5_meets_37 (ctX5_tryWalk 29 61 rfl a1 60 M hq_4) miX5_tryWalk wd_631 rfl (by decide) rfl (Nat.le_of_ble_eq_true rfl) rfl rfl rfl ?_
        refine r_sub [(0, .ref 0), (2, .int a2)] [0, 2] rfl ?_
        exact cX5_meets_40 M a2 (mX5_tryWalk 29 61 a1 60 M) hp
    · refine r_if_eq_t MF.bs (tgt := 27) dX5_meets_19 (by decide) (b2i_0 h_2) ?_
      refine r_iconst MF.bs dX5_meets_27 (v := -1) (by decide) ?_
      exact r_iret dX5_meets_28 rfl
  · refine r_if_eq_t MF.bs (tgt := 27) dX5_meets_8 (by decide) (b2i_0 h_1) ?_
    refine r_iconst MF.bs dX5_meets_27 (v := -1) (by decide) ?_
    exact r_iret dX5_meets_28 rfl
abbrev mtX5_told : MT := (RX5, yX5_told, cX5_told, 3, (some .int))
theorem miX5_told : MV mtX5_told 1 := ⟨wd_650, ⟨wd_648, wd_649⟩, wd_79, ⟨by decide, by decide, by decide +kernel⟩, by decide⟩
def mX5_told_61   : Nat → Int32 → Mem → Int32 × Mem
  | 0, _, M => (0, M)
  | n + 1, v2, M => (if 60 < v2 then ((-3), M) else (if (M 29 v2.toNatClampNeg) = (M 30 v2.toNatClampNeg) then (mX5_told_61 n (v2 + 1) M) else (v2, M)))
def PX5_told_61   : Nat → Int32 → Mem → Prop
  | 0, _, _ => False
  | n + 1, v2, M => (¬ 60 < v2 → vp_in v2 61 ∧ (vp_in v2 61 ∧ (((M 29 v2.toNatClampNeg) = (M 30 v2.toNatClampNeg) → PX5_told_61 n (v2 + 1) M))))
set_option maxRecDepth 100000 in
theorem cX5_told_61    (M0 : Mem) : ∀ (n : Nat) (v2 : Int32) (M : Mem), PX5_told_61 n v2 M → AWP (GIM mtX5_told 6 M0 (mX5_told_61 n v2 M)) mtX5_told 61 [(0, .ref 0), (2, .int v2)] [] M := by
  intro n
  induction n with
  | zero =>
    intro v2 M hp
    exact hp.elim
  | succ n ih =>
    intro v2 M hp
    rw [mX5_told_61]
    rw [PX5_told_61] at hp
    refine r_iload_n MF.bs dX5_told_61 rfl 1 rfl ?_
    refine r_bipush MF.bs dX5_told_62 (v := 60) (by decide) ?_
    refine r_ite (GIM mtX5_told 6 M0) (fun h_6 => ?_) (fun h_6 => ?_)
    · refine r_icmp_gt_t MF.bs (tgt := 90) dX5_told_64 (by decide) h_6 ?_
      refine r_bipush MF.bs dX5_told_90 (v := -3) (by decide) ?_
      exact r_iret dX5_told_92 rfl
    · have hp := hp h_6
      refine r_icmp_gt_f MF.bs (tgt := 90) dX5_told_64 (by decide) h_6 ?_
      obtain ⟨hq_7, hp⟩ := hp
      obtain ⟨hq_8, hp⟩ := hp
      refine r_aload_n MF.bs dX5_told_67 rfl 0 rfl ?_
      refine r_getR MF.bs dX5_told_68 rfl rfl 8 (by decide) wd_261 rfl ?_
      refine r_iload_n MF.bs dX5_told_71 rfl 1 rfl ?_
      refine r_iaload MF.bs dX5_told_72 rfl hq_7 ?_
      refine r_aload_n MF.bs dX5_told_73 rfl 0 rfl ?_
      refine r_getR MF.bs dX5_told_74 rfl rfl 9 (by decide) wd_262 rfl ?_
      refine r_iload_n MF.bs dX5_told_77 rfl 1 rfl ?_
      refine r_iaload MF.bs dX5_told_78 rfl hq_8 ?_
      refine r_ite (GIM mtX5_told 6 M0) (fun h_9 => ?_) (fun h_9 => ?_)
      · have hp := hp h_9
        refine r_icmp_eq_t MF.bs (tgt := 84) dX5_told_79 (by decide) h_9 ?_
        refine r_iinc MF.bs (v := (v2 + 1)) (lv' := [(2, .int (v2 + 1)), (0, .ref 0)]) dX5_told_84 1 rfl rfl (by decide) rfl ?_
        refine r_goto MF.bs dX5_told_87 (tgt := 61) (by decide) ?_
        refine r_sub [(0, .ref 0), (2, .int (v2 + 1))] [1, 0] rfl ?_
        exact ih (v2 + 1) M hp
      · refine r_icmp_eq_f MF.bs (tgt := 84) dX5_told_79 (by decide) h_9 ?_
        refine r_iload_n MF.bs dX5_told_82 rfl 1 rfl ?_
        exact r_iret dX5_told_83 rfl
def mX5_told_59   (M : Mem) : Int32 × Mem := (mX5_told_61 400 0 M)
def PX5_told_59   (M : Mem) : Prop := PX5_told_61 400 0 M
set_option maxRecDepth 100000 in
theorem cX5_told_59    (M0 : Mem) (M : Mem) (hp : PX5_told_59 M) : AWP (GIM mtX5_told 6 M0 (mX5_told_59 M)) mtX5_told 59 [(0, .ref 0)] [] M := by
  unfold mX5_told_59
  unfold PX5_told_59 at hp
  refine r_iconst MF.bs dX5_told_59 (v := 0) (by decide) ?_
  refine r_istore_n MF.bs (lv' := [(2, .int 0), (0, .ref 0)]) dX5_told_60 rfl (by decide) rfl ?_
  refine r_sub [(0, .ref 0), (2, .int 0)] [1, 0] rfl ?_
  exact cX5_told_61 M0 400 0 M hp
def mX5_told_35   (v1 : Int32) (M : Mem) : Int32 × Mem := (mX5_told_59 (mX4_walk 15 30 61 v1 60 (upm M 18 v1.toNatClampNeg 0)))
def PX5_told_35   (v1 : Int32) (M : Mem) : Prop := vp_in v1 8 ∧ (PX4_walk 15 30 61 v1 60 (upm M 18 v1.toNatClampNeg 0) ∧ (PX5_told_59 (mX4_walk 15 30 61 v1 60 (upm M 18 v1.toNatClampNeg 0))))
set_option maxRecDepth 100000 in
theorem cX5_told_35    (M0 : Mem) (v1 : Int32) (M : Mem) (hp : PX5_told_35 v1 M) : AWP (GIM mtX5_told 6 M0 (mX5_told_35 v1 M)) mtX5_told 35 [(0, .ref 0), (1, .int v1)] [] M := by
  unfold mX5_told_35
  unfold PX5_told_35 at hp
  obtain ⟨hq_4, hp⟩ := hp
  obtain ⟨hq_5, hp⟩ := hp
  refine r_aload_n MF.bs dX5_told_35 rfl 0 rfl ?_
  refine r_getR MF.bs dX5_told_36 rfl rfl 2 (by decide) wd_255 rfl ?_
  refine r_getR MF.bs dX5_told_39 rfl rfl 2 (by decide) wd_120 rfl ?_
  refine r_iload_n MF.bs dX5_told_42 rfl 1 rfl ?_
  refine r_iconst MF.bs dX5_told_43 (v := 0) (by decide) ?_
  refine r_iastore MF.bs dX5_told_44 rfl hq_4 ?_
  refine r_aload_n MF.bs dX5_told_45 rfl 0 rfl ?_
  refine r_getR MF.bs dX5_told_46 rfl rfl 2 (by decide) wd_255 rfl ?_
  refine r_iload_n MF.bs dX5_told_49 rfl 1 rfl ?_
  refine r_bipush MF.bs dX5_told_50 (v := 60) (by decide) ?_
  refine r_aload_n MF.bs dX5_told_52 rfl 0 rfl ?_
  refine r_getR MF.bs dX5_told_53 rfl rfl 9 (by decide) wd_262 rfl ?_
  refine r_callV_n MF.bs (st := []) dX5_told_56 (ctX4_walk 15 30 61 (Or.inr (Or.inr rfl)) rfl v1 60 (upm M 18 v1.toNatClampNeg 0) hq_5) miX4_walk wd_635 rfl (by decide) rfl (Nat.le_of_ble_eq_true rfl) rfl rfl rfl ?_
  refine r_sub [(0, .ref 0)] [0] rfl ?_
  exact cX5_told_59 M0 (mX4_walk 15 30 61 v1 60 (upm M 18 v1.toNatClampNeg 0)) hp
def mX5_told_24   (v1 : Int32) (M : Mem) : Int32 × Mem := (mX5_told_35 v1 (mX4_become 15 1 M))
def PX5_told_24   (v1 : Int32) (M : Mem) : Prop := PX4_become 15 1 M ∧ (PX5_told_35 v1 (mX4_become 15 1 M))
set_option maxRecDepth 100000 in
theorem cX5_told_24    (M0 : Mem) (v1 : Int32) (M : Mem) (hp : PX5_told_24 v1 M) : AWP (GIM mtX5_told 6 M0 (mX5_told_24 v1 M)) mtX5_told 24 [(0, .ref 0), (1, .int v1)] [] M := by
  unfold mX5_told_24
  unfold PX5_told_24 at hp
  obtain ⟨hq_3, hp⟩ := hp
  refine r_aload_n MF.bs dX5_told_24 rfl 0 rfl ?_
  refine r_getR MF.bs dX5_told_25 rfl rfl 2 (by decide) wd_255 rfl ?_
  refine r_aload_n MF.bs dX5_told_28 rfl 0 rfl ?_
  refine r_getR MF.bs dX5_told_29 rfl rfl 0 (by decide) wd_253 rfl ?_
  refine r_callV_n MF.bs (st := []) dX5_told_32 (ctX4_become 15 1 (Or.inr (Or.inr rfl)) (Or.inl rfl) M hq_3) miX4_become wd_454 rfl (by decide) rfl (Nat.le_of_ble_eq_true rfl) rfl rfl rfl ?_
  exact cX5_told_35 M0 v1 (mX4_become 15 1 M) hp
def mX5_told  (a1 : Int32) (M : Mem) : Int32 × Mem := (if (mX4_has 1 a1 M) = true then (mX5_told_24 a1 (mX5_tryWalk 29 61 a1 60 M)) else ((-1), M))
def PX5_told  (a1 : Int32) (M : Mem) : Prop := ((mX4_has 1 a1 M) = true → PX5_tryWalk 29 61 a1 60 M ∧ (PX5_told_24 a1 (mX5_tryWalk 29 61 a1 60 M)))
set_option maxRecDepth 100000 in
theorem ctX5_told   (a1 : Int32) (M : Mem) (hp : PX5_told a1 M) : CT mtX5_told 6 [.ref 0, .int a1] M (some (.int ((mX5_told a1 M).1)), (mX5_told a1 M).2) := by
  refine CT.of (by decide) rfl (Nat.le_of_ble_eq_true rfl) ?_
  show AWP (GIM mtX5_told 6 M (mX5_told a1 M)) mtX5_told 0 [(0, .ref 0), (1, .int a1)] [] M
  unfold mX5_told
  unfold PX5_told at hp
  refine r_aload_n MF.bs dX5_told_0 rfl 0 rfl ?_
  refine r_getR MF.bs dX5_told_1 rfl rfl 0 (by decide) wd_253 rfl ?_
  refine r_iload_n MF.bs dX5_told_4 rfl 1 rfl ?_
  refine r_callV_v MF.bs (st := []) dX5_told_5 (ctX4_has 1 (Or.inl rfl) a1 M) miX4_has wd_490 rfl (by decide) rfl (Nat.le_of_ble_eq_true rfl) rfl rfl rfl ?_
  refine r_ite (GIM mtX5_told 6 M) (fun h_1 => ?_) (fun h_1 => ?_)
  · have hp := hp h_1
    refine r_if_ne_t MF.bs (tgt := 13) dX5_told_8 (by decide) (b2i_1 h_1) ?_
    obtain ⟨hq_2, hp⟩ := hp
    refine r_aload_n MF.bs dX5_told_13 rfl 0 rfl ?_
    refine r_iload_n MF.bs dX5_told_14 rfl 1 rfl ?_
    refine r_bipush MF.bs dX5_told_15 (v := 60) (by decide) ?_
    refine r_aload_n MF.bs dX5_told_17 rfl 0 rfl ?_
    refine r_getR MF.bs dX5_told_18 rfl rfl 8 (by decide) wd_261 rfl ?_
    refine r_callV_n MF.bs (st := []) dX5_told_21 (ctX5_tryWalk 29 61 rfl a1 60 M hq_2) miX5_tryWalk wd_631 rfl (by decide) rfl (Nat.le_of_ble_eq_true rfl) rfl rfl rfl ?_
    exact cX5_told_24 M a1 (mX5_tryWalk 29 61 a1 60 M) hp
  · refine r_if_ne_f MF.bs (tgt := 13) dX5_told_8 (by decide) (b2i_0 h_1) ?_
    refine r_iconst MF.bs dX5_told_11 (v := -1) (by decide) ?_
    exact r_iret dX5_told_12 rfl
abbrev mtX5_offOfTried : MT := (RX5, yX5_offOfTried, cX5_offOfTried, 3, (some .int))
theorem miX5_offOfTried : MV mtX5_offOfTried 2 := ⟨wd_658, ⟨wd_657, wd_19⟩, wd_79, ⟨by decide, by decide, by decide +kernel⟩, by decide⟩
def mX5_offOfTried_13   (v1 : Int32) (v2 : Int32) (M : Mem) : Int32 × Mem := ((mX5_apart (M 29 v2.toNatClampNeg) (M 6 v1.toNatClampNeg)), M)
def PX5_offOfTried_13   (v1 : Int32) (v2 : Int32) (M : Mem) : Prop := vp_in v2 61 ∧ (vp_in v1 8)
set_option maxRecDepth 100000 in
theorem cX5_offOfTried_13    (M0 : Mem) (v1 : Int32) (v2 : Int32) (M : Mem) (hp : PX5_offOfTried_13 v1 v2 M) : AWP (GIM mtX5_offOfTried 5 M0 (mX5_offOfTried_13 v1 v2 M)) mtX5_offOfTried 13 [(0, .ref 0), (1, .int v1), (2, .int v2)] [] M := by
  unfold mX5_offOfTried_13
  unfold PX5_offOfTried_13 at hp
  obtain ⟨hq_2, hp⟩ := hp
  have hq_3 := hp
  refine r_aload_n MF.bs dX5_offOfTried_13 rfl 0 rfl ?_
  refine r_getR MF.bs dX5_offOfTried_14 rfl rfl 8 (by decide) wd_261 rfl ?_
  refine r_iload_n MF.bs dX5_offOfTried_17 rfl 2 rfl ?_
  refine r_iaload MF.bs dX5_offOfTried_18 rfl hq_2 ?_
  refine r_aload_n MF.bs dX5_offOfTried_19 rfl 0 rfl ?_
  refine r_getR MF.bs dX5_offOfTried_20 rfl rfl 0 (by decide) wd_253 rfl ?_
  refine r_getR MF.bs dX5_offOfTried_23 rfl rfl 4 (by decide) wd_124 rfl ?_
  refine r_iload_n MF.bs dX5_offOfTried_26 rfl 1 rfl ?_
  refine r_iaload MF.bs dX5_offOfTried_27 rfl hq_3 ?_
  refine r_callS_v MF.bs (st := []) dX5_offOfTried_28 (ctX5_apart (M 29 v2.toNatClampNeg) (M 6 v1.toNatClampNeg) M) miX5_apart wd_659 rfl (by decide) rfl (Nat.le_of_ble_eq_true rfl) ?_
  exact r_iret dX5_offOfTried_31 rfl
def mX5_offOfTried  (a1 : Int32) (a2 : Int32) (M : Mem) : Int32 × Mem := (mX5_offOfTried_13 a1 a2 (mX4_walk 15 29 61 a1 a2 M))
def PX5_offOfTried  (a1 : Int32) (a2 : Int32) (M : Mem) : Prop := PX4_walk 15 29 61 a1 a2 M ∧ (PX5_offOfTried_13 a1 a2 (mX4_walk 15 29 61 a1 a2 M))
set_option maxRecDepth 100000 in
theorem ctX5_offOfTried   (a1 : Int32) (a2 : Int32) (M : Mem) (hp : PX5_offOfTried a1 a2 M) : CT mtX5_offOfTried 5 [.ref 0, .int a1, .int a2] M (some (.int ((mX5_offOfTried a1 a2 M).1)), (mX5_offOfTried a1 a2 M).2) := by
  refine CT.of (by decide) rfl (Nat.le_of_ble_eq_true rfl) ?_
  show AWP (GIM mtX5_offOfTried 5 M (mX5_offOfTried a1 a2 M)) mtX5_offOfTried 0 [(0, .ref 0), (1, .int a1), (2, .int a2)] [] M
  unfold mX5_offOfTried
  unfold PX5_offOfTried at hp
  obtain ⟨hq_1, hp⟩ := hp
  refine r_aload_n MF.bs dX5_offOfTried_0 rfl 0 rfl ?_
  refine r_getR MF.bs dX5_offOfTried_1 rfl rfl 2 (by decide) wd_255 rfl ?_
  refine r_iload_n MF.bs dX5_offOfTried_4 rfl 1 rfl ?_
  refine r_iload_n MF.bs dX5_offOfTried_5 rfl 2 rfl ?_
  refine r_aload_n MF.bs dX5_offOfTried_6 rfl 0 rfl ?_
  refine r_getR MF.bs dX5_offOfTried_7 rfl rfl 8 (by decide) wd_261 rfl ?_
  refine r_callV_n MF.bs (st := []) dX5_offOfTried_10 (ctX4_walk 15 29 61 (Or.inr (Or.inr rfl)) rfl a1 a2 M hq_1) miX4_walk wd_635 rfl (by decide) rfl (Nat.le_of_ble_eq_true rfl) rfl rfl rfl ?_
  exact cX5_offOfTried_13 M a1 a2 (mX4_walk 15 29 61 a1 a2 M) hp
abbrev mtX5_off : MT := (RX5, yX5_off, cX5_off, 3, (some .int))
theorem miX5_off : MV mtX5_off 2 := ⟨wd_654, ⟨wd_652, wd_653⟩, wd_79, ⟨by decide, by decide, by decide +kernel⟩, by decide⟩
def mX5_off_34   (v1 : Int32) (v2 : Int32) (M : Mem) : Int32 × Mem := ((mX5_offOfTried v1 v2 M).1, (mX5_offOfTried v1 v2 M).2)
def PX5_off_34   (v1 : Int32) (v2 : Int32) (M : Mem) : Prop := PX5_offOfTried v1 v2 M
set_option maxRecDepth 100000 in
theorem cX5_off_34    (M0 : Mem) (v1 : Int32) (v2 : Int32) (M : Mem) (hp : PX5_off_34 v1 v2 M) : AWP (GIM mtX5_off 6 M0 (mX5_off_34 v1 v2 M)) mtX5_off 34 [(0, .ref 0), (1, .int v1), (2, .int v2)] [] M := by
  unfold mX5_off_34
  unfold PX5_off_34 at hp
  have hq_4 := hp
  refine r_aload_n MF.bs dX5_off_34 rfl 0 rfl ?_
  refine r_iload_n MF.bs dX5_off_35 rfl 1 rfl ?_
  refine r_iload_n MF.bs dX5_off_36 rfl 2 rfl ?_
  refine r_callV_v MF.bs (st := []) dX5_off_37 (ctX5_offOfTried v1 v2 M hq_4) miX5_offOfTried wd_655 rfl (by decide) rfl (Nat.le_of_ble_eq_true rfl) rfl rfl rfl ?_
  exact r_iret dX5_off_40 rfl
def mX5_off  (a1 : Int32) (a2 : Int32) (M : Mem) : Int32 × Mem := (if (mX4_has 1 a1 M) = true then (if (mX5_isWithin a2 0 60) = true then (mX5_off_34 a1 a2 (mX4_become 15 1 M)) else ((-1), M)) else ((-1), M))
def PX5_off  (a1 : Int32) (a2 : Int32) (M : Mem) : Prop := ((mX4_has 1 a1 M) = true → ((mX5_isWithin a2 0 60) = true → PX4_become 15 1 M ∧ (PX5_off_34 a1 a2 (mX4_become 15 1 M))))
set_option maxRecDepth 100000 in
theorem ctX5_off   (a1 : Int32) (a2 : Int32) (M : Mem) (hp : PX5_off a1 a2 M) : CT mtX5_off 6 [.ref 0, .int a1, .int a2] M (some (.int ((mX5_off a1 a2 M).1)), (mX5_off a1 a2 M).2) := by
  refine CT.of (by decide) rfl (Nat.le_of_ble_eq_true rfl) ?_
  show AWP (GIM mtX5_off 6 M (mX5_off a1 a2 M)) mtX5_off 0 [(0, .ref 0), (1, .int a1), (2, .int a2)] [] M
  unfold mX5_off
  unfold PX5_off at hp
  refine r_aload_n MF.bs dX5_off_0 rfl 0 rfl ?_
  refine r_getR MF.bs dX5_off_1 rfl rfl 0 (by decide) wd_253 rfl ?_
  refine r_iload_n MF.bs dX5_off_4 rfl 1 rfl ?_
  refine r_callV_v MF.bs (st := []) dX5_off_5 (ctX4_has 1 (Or.inl rfl) a1 M) miX4_has wd_490 rfl (by decide) rfl (Nat.le_of_ble_eq_true rfl) rfl rfl rfl ?_
  refine r_ite (GIM mtX5_off 6 M) (fun h_1 => ?_) (fun h_1 => ?_)
  · have hp := hp h_1
    refine r_if_eq_f MF.bs (tgt := 21) dX5_off_8 (by decide) (b2i_1 h_1) ?_
    refine r_iload_n MF.bs dX5_off_11 rfl 2 rfl ?_
    refine r_iconst MF.bs dX5_off_12 (v := 0) (by decide) ?_
    refine r_bipush MF.bs dX5_off_13 (v := 60) (by decide) ?_
    refine r_callS_v MF.bs (st := []) dX5_off_15 (ctX5_isWithin a2 0 60 M) miX5_isWithin wd_303 rfl (by decide) rfl (Nat.le_of_ble_eq_true rfl) ?_
    refine r_ite (GIM mtX5_off 6 M) (fun h_2 => ?_) (fun h_2 => ?_)
    · have hp := hp h_2
      refine r_if_ne_t MF.bs (tgt := 23) dX5_off_18 (by decide) (b2i_1 h_2) ?_
      obtain ⟨hq_3, hp⟩ := hp
      refine r_aload_n MF.bs dX5_off_23 rfl 0 rfl ?_
      refine r_getR MF.bs dX5_off_24 rfl rfl 2 (by decide) wd_255 rfl ?_
      refine r_aload_n MF.bs dX5_off_27 rfl 0 rfl ?_
      refine r_getR MF.bs dX5_off_28 rfl rfl 0 (by decide) wd_253 rfl ?_
      refine r_callV_n MF.bs (st := []) dX5_off_31 (ctX4_become 15 1 (Or.inr (Or.inr rfl)) (Or.inl rfl) M hq_3) miX4_become wd_454 rfl (by decide) rfl (Nat.le_of_ble_eq_true rfl) rfl rfl rfl ?_
      exact cX5_off_34 M a1 a2 (mX4_become 15 1 M) hp
    · refine r_if_ne_f MF.bs (tgt := 23) dX5_off_18 (by decide) (b2i_0 h_2) ?_
      refine r_iconst MF.bs dX5_off_21 (v := -1) (by decide) ?_
      exact r_iret dX5_off_22 rfl
  · refine r_if_eq_t MF.bs (tgt := 21) dX5_off_8 (by decide) (b2i_0 h_1) ?_
    refine r_iconst MF.bs dX5_off_21 (v := -1) (by decide) ?_
    exact r_iret dX5_off_22 rfl
abbrev mtX5_windFor : MT := (RX5, yX5_windFor, cX5_windFor, 7, (some .int))
theorem miX5_windFor : MV mtX5_windFor 2 := ⟨wd_668, ⟨wd_666, wd_667⟩, wd_79, ⟨by decide, by decide, by decide +kernel⟩, by decide⟩
def mX5_windFor_80   (kf32 : Int32 → Int32 → Int32 → Int32 → Int32 → Mem → Int32 × Mem) (v1 : Int32) (v2 : Int32) (v3 : Int32) (v4 : Int32) (v5 : Int32) (M : Mem) : Int32 × Mem := (kf32 v1 v2 v3 v4 (v5 + 1) M)
def PX5_windFor_80   (kP32 : Int32 → Int32 → Int32 → Int32 → Int32 → Mem → Prop) (v1 : Int32) (v2 : Int32) (v3 : Int32) (v4 : Int32) (v5 : Int32) (M : Mem) : Prop := kP32 v1 v2 v3 v4 (v5 + 1) M
set_option maxRecDepth 100000 in
theorem cX5_windFor_80    (M0 : Mem) (kf32 : Int32 → Int32 → Int32 → Int32 → Int32 → Mem → Int32 × Mem) (kP32 : Int32 → Int32 → Int32 → Int32 → Int32 → Mem → Prop) (hk32 : ∀ (v1 : Int32) (v2 : Int32) (v3 : Int32) (v4 : Int32) (v5 : Int32) (M : Mem), kP32 v1 v2 v3 v4 v5 M → AWP (GIM mtX5_windFor 6 M0 (kf32 v1 v2 v3 v4 v5 M)) mtX5_windFor 32 [(0, .ref 0), (1, .int v1), (2, .int v2), (3, .int v3), (4, .int v4), (5, .int v5)] [] M) (v1 : Int32) (v2 : Int32) (v3 : Int32) (v4 : Int32) (v5 : Int32) (M : Mem) (hp : PX5_windFor_80 kP32 v1 v2 v3 v4 v5 M) : AWP (GIM mtX5_windFor 6 M0 (mX5_windFor_80 kf32 v1 v2 v3 v4 v5 M)) mtX5_windFor 80 [(0, .ref 0), (1, .int v1), (2, .int v2), (3, .int v3), (4, .int v4), (5, .int v5)] [] M := by
  unfold mX5_windFor_80
  unfold PX5_windFor_80 at hp
  refine r_iinc MF.bs (v := (v5 + 1)) (lv' := [(5, .int (v5 + 1)), (0, .ref 0), (1, .int v1), (2, .int v2), (3, .int v3), (4, .int v4)]) dX5_windFor_80 5 rfl rfl (by decide) rfl ?_
  refine r_goto MF.bs dX5_windFor_83 (tgt := 32) (by decide) ?_
  refine r_sub [(0, .ref 0), (1, .int v1), (2, .int v2), (3, .int v3), (4, .int v4), (5, .int (v5 + 1))] [1, 2, 3, 4, 5, 0] rfl ?_
  exact hk32 v1 v2 v3 v4 (v5 + 1) M hp
def mX5_windFor_64   (kf32 : Int32 → Int32 → Int32 → Int32 → Int32 → Mem → Int32 × Mem) (v1 : Int32) (v2 : Int32) (v3 : Int32) (v4 : Int32) (v5 : Int32) (k0 : Int32) (M : Mem) : Int32 × Mem := (if v4 ≤ k0 then (mX5_windFor_80 kf32 v1 v2 v3 v4 v5 M) else (mX5_windFor_80 kf32 v1 v2 v5 k0 v5 M))
def PX5_windFor_64   (kP32 : Int32 → Int32 → Int32 → Int32 → Int32 → Mem → Prop) (v1 : Int32) (v2 : Int32) (v3 : Int32) (v4 : Int32) (v5 : Int32) (k0 : Int32) (M : Mem) : Prop := ((v4 ≤ k0 → PX5_windFor_80 kP32 v1 v2 v3 v4 v5 M) ∧ (¬ v4 ≤ k0 → PX5_windFor_80 kP32 v1 v2 v5 k0 v5 M))
set_option maxRecDepth 100000 in
theorem cX5_windFor_64    (M0 : Mem) (kf32 : Int32 → Int32 → Int32 → Int32 → Int32 → Mem → Int32 × Mem) (kP32 : Int32 → Int32 → Int32 → Int32 → Int32 → Mem → Prop) (hk32 : ∀ (v1 : Int32) (v2 : Int32) (v3 : Int32) (v4 : Int32) (v5 : Int32) (M : Mem), kP32 v1 v2 v3 v4 v5 M → AWP (GIM mtX5_windFor 6 M0 (kf32 v1 v2 v3 v4 v5 M)) mtX5_windFor 32 [(0, .ref 0), (1, .int v1), (2, .int v2), (3, .int v3), (4, .int v4), (5, .int v5)] [] M) (v1 : Int32) (v2 : Int32) (v3 : Int32) (v4 : Int32) (v5 : Int32) (k0 : Int32) (M : Mem) (hp : PX5_windFor_64 kP32 v1 v2 v3 v4 v5 k0 M) : AWP (GIM mtX5_windFor 6 M0 (mX5_windFor_64 kf32 v1 v2 v3 v4 v5 k0 M)) mtX5_windFor 64 [(0, .ref 0), (1, .int v1), (2, .int v2), (3, .int v3), (4, .int v4), (5, .int v5)] [.int k0] M := by
  unfold mX5_windFor_64
  unfold PX5_windFor_64 at hp
  refine r_istore MF.bs (lv' := [(6, .int k0), (0, .ref 0), (1, .int v1), (2, .int v2), (3, .int v3), (4, .int v4), (5, .int v5)]) dX5_windFor_64 (by decide) rfl ?_
  refine r_iload MF.bs dX5_windFor_66 0 rfl ?_
  refine r_iload MF.bs dX5_windFor_68 5 rfl ?_
  refine r_ite (GIM mtX5_windFor 6 M0) (fun h_6 => ?_) (fun h_6 => ?_)
  · have hp := hp.1 h_6
    refine r_icmp_ge_t MF.bs (tgt := 80) dX5_windFor_70 (by decide) h_6 ?_
    refine r_sub [(0, .ref 0), (1, .int v1), (2, .int v2), (3, .int v3), (4, .int v4), (5, .int v5)] [1, 2, 3, 4, 5, 6] rfl ?_
    exact cX5_windFor_80 M0 kf32 kP32 hk32 v1 v2 v3 v4 v5 M hp
  · have hp := hp.2 h_6
    refine r_icmp_ge_f MF.bs (tgt := 80) dX5_windFor_70 (by decide) h_6 ?_
    refine r_iload MF.bs dX5_windFor_73 0 rfl ?_
    refine r_istore MF.bs (lv' := [(4, .int k0), (6, .int k0), (0, .ref 0), (1, .int v1), (2, .int v2), (3, .int v3), (5, .int v5)]) dX5_windFor_75 (by decide) rfl ?_
    refine r_iload MF.bs dX5_windFor_77 6 rfl ?_
    refine r_istore_n MF.bs (lv' := [(3, .int v5), (4, .int k0), (6, .int k0), (0, .ref 0), (1, .int v1), (2, .int v2), (5, .int v5)]) dX5_windFor_79 rfl (by decide) rfl ?_
    refine r_sub [(0, .ref 0), (1, .int v1), (2, .int v2), (3, .int v5), (4, .int k0), (5, .int v5)] [3, 4, 5, 0, 1, 6] rfl ?_
    exact cX5_windFor_80 M0 kf32 kP32 hk32 v1 v2 v5 k0 v5 M hp
def mX5_windFor_49   (kf32 : Int32 → Int32 → Int32 → Int32 → Int32 → Mem → Int32 × Mem) (v1 : Int32) (v2 : Int32) (v3 : Int32) (v4 : Int32) (v5 : Int32) (M : Mem) : Int32 × Mem := (mX5_windFor_64 kf32 v1 v2 v3 v4 v5 ((mX5_offOfTried v1 v2 (upm M 15 8 v5)).1) ((mX5_offOfTried v1 v2 (upm M 15 8 v5)).2))
def PX5_windFor_49   (kP32 : Int32 → Int32 → Int32 → Int32 → Int32 → Mem → Prop) (v1 : Int32) (v2 : Int32) (v3 : Int32) (v4 : Int32) (v5 : Int32) (M : Mem) : Prop := PX5_offOfTried v1 v2 (upm M 15 8 v5) ∧ (PX5_windFor_64 kP32 v1 v2 v3 v4 v5 ((mX5_offOfTried v1 v2 (upm M 15 8 v5)).1) ((mX5_offOfTried v1 v2 (upm M 15 8 v5)).2))
set_option maxRecDepth 100000 in
theorem cX5_windFor_49    (M0 : Mem) (kf32 : Int32 → Int32 → Int32 → Int32 → Int32 → Mem → Int32 × Mem) (kP32 : Int32 → Int32 → Int32 → Int32 → Int32 → Mem → Prop) (hk32 : ∀ (v1 : Int32) (v2 : Int32) (v3 : Int32) (v4 : Int32) (v5 : Int32) (M : Mem), kP32 v1 v2 v3 v4 v5 M → AWP (GIM mtX5_windFor 6 M0 (kf32 v1 v2 v3 v4 v5 M)) mtX5_windFor 32 [(0, .ref 0), (1, .int v1), (2, .int v2), (3, .int v3), (4, .int v4), (5, .int v5)] [] M) (v1 : Int32) (v2 : Int32) (v3 : Int32) (v4 : Int32) (v5 : Int32) (M : Mem) (hp : PX5_windFor_49 kP32 v1 v2 v3 v4 v5 M) : AWP (GIM mtX5_windFor 6 M0 (mX5_windFor_49 kf32 v1 v2 v3 v4 v5 M)) mtX5_windFor 49 [(0, .ref 0), (1, .int v1), (2, .int v2), (3, .int v3), (4, .int v4), (5, .int v5)] [] M := by
  unfold mX5_windFor_49
  unfold PX5_windFor_49 at hp
  obtain ⟨hq_5, hp⟩ := hp
  refine r_aload_n MF.bs dX5_windFor_49 rfl 0 rfl ?_
  refine r_getR MF.bs dX5_windFor_50 rfl rfl 2 (by decide) wd_255 rfl ?_
  refine r_iload MF.bs dX5_windFor_53 5 rfl ?_
  refine r_putI MF.bs dX5_windFor_55 rfl rfl 8 (by decide) wd_134 rfl rfl rfl rfl rfl ?_
  refine r_aload_n MF.bs dX5_windFor_58 rfl 0 rfl ?_
  refine r_iload_n MF.bs dX5_windFor_59 rfl 1 rfl ?_
  refine r_iload_n MF.bs dX5_windFor_60 rfl 2 rfl ?_
  refine r_callV_v MF.bs (st := []) dX5_windFor_61 (ctX5_offOfTried v1 v2 (upm M 15 8 v5) hq_5) miX5_offOfTried wd_655 rfl (by decide) rfl (Nat.le_of_ble_eq_true rfl) rfl rfl rfl ?_
  exact cX5_windFor_64 M0 kf32 kP32 hk32 v1 v2 v3 v4 v5 ((mX5_offOfTried v1 v2 (upm M 15 8 v5)).1) ((mX5_offOfTried v1 v2 (upm M 15 8 v5)).2) hp
def mX5_windFor_32   : Nat → Int32 → Int32 → Int32 → Int32 → Int32 → Mem → Int32 × Mem
  | 0, _, _, _, _, _, M => (0, M)
  | n + 1, v1, v2, v3, v4, v5, M => (if 4 ≤ v5 then (v3, M) else (mX5_windFor_49 (mX5_windFor_32 n) v1 v2 v3 v4 v5 (mX4_become 15 1 M)))
def PX5_windFor_32   : Nat → Int32 → Int32 → Int32 → Int32 → Int32 → Mem → Prop
  | 0, _, _, _, _, _, _ => False
  | n + 1, v1, v2, v3, v4, v5, M => (¬ 4 ≤ v5 → PX4_become 15 1 M ∧ (PX5_windFor_49 (PX5_windFor_32 n) v1 v2 v3 v4 v5 (mX4_become 15 1 M)))
set_option maxRecDepth 100000 in
theorem cX5_windFor_32    (M0 : Mem) : ∀ (n : Nat) (v1 : Int32) (v2 : Int32) (v3 : Int32) (v4 : Int32) (v5 : Int32) (M : Mem), PX5_windFor_32 n v1 v2 v3 v4 v5 M → AWP (GIM mtX5_windFor 6 M0 (mX5_windFor_32 n v1 v2 v3 v4 v5 M)) mtX5_windFor 32 [(0, .ref 0), (1, .int v1), (2, .int v2), (3, .int v3), (4, .int v4), (5, .int v5)] [] M := by
  intro n
  induction n with
  | zero =>
    intro v1 v2 v3 v4 v5 M hp
    exact hp.elim
  | succ n ih =>
    intro v1 v2 v3 v4 v5 M hp
    rw [mX5_windFor_32]
    rw [PX5_windFor_32] at hp
    refine r_iload MF.bs dX5_windFor_32 5 rfl ?_
    refine r_iconst MF.bs dX5_windFor_34 (v := 4) (by decide) ?_
    refine r_ite (GIM mtX5_windFor 6 M0) (fun h_3 => ?_) (fun h_3 => ?_)
    · refine r_icmp_ge_t MF.bs (tgt := 86) dX5_windFor_35 (by decide) h_3 ?_
      refine r_iload_n MF.bs dX5_windFor_86 rfl 3 rfl ?_
      exact r_iret dX5_windFor_87 rfl
    · have hp := hp h_3
      refine r_icmp_ge_f MF.bs (tgt := 86) dX5_windFor_35 (by decide) h_3 ?_
      obtain ⟨hq_4, hp⟩ := hp
      refine r_aload_n MF.bs dX5_windFor_38 rfl 0 rfl ?_
      refine r_getR MF.bs dX5_windFor_39 rfl rfl 2 (by decide) wd_255 rfl ?_
      refine r_aload_n MF.bs dX5_windFor_42 rfl 0 rfl ?_
      refine r_getR MF.bs dX5_windFor_43 rfl rfl 0 (by decide) wd_253 rfl ?_
      refine r_callV_n MF.bs (st := []) dX5_windFor_46 (ctX4_become 15 1 (Or.inr (Or.inr rfl)) (Or.inl rfl) M hq_4) miX4_become wd_454 rfl (by decide) rfl (Nat.le_of_ble_eq_true rfl) rfl rfl rfl ?_
      exact cX5_windFor_49 M0 (mX5_windFor_32 n) (PX5_windFor_32 n) ih v1 v2 v3 v4 v5 (mX4_become 15 1 M) hp
def mX5_windFor  (a1 : Int32) (a2 : Int32) (M : Mem) : Int32 × Mem := (if (mX4_has 1 a1 M) = true then (if (mX5_isWithin a2 1 30) = true then (mX5_windFor_32 400 a1 a2 0 16 0 M) else ((-1), M)) else ((-1), M))
def PX5_windFor  (a1 : Int32) (a2 : Int32) (M : Mem) : Prop := ((mX4_has 1 a1 M) = true → ((mX5_isWithin a2 1 30) = true → PX5_windFor_32 400 a1 a2 0 16 0 M))
set_option maxRecDepth 100000 in
theorem ctX5_windFor   (a1 : Int32) (a2 : Int32) (M : Mem) (hp : PX5_windFor a1 a2 M) : CT mtX5_windFor 6 [.ref 0, .int a1, .int a2] M (some (.int ((mX5_windFor a1 a2 M).1)), (mX5_windFor a1 a2 M).2) := by
  refine CT.of (by decide) rfl (Nat.le_of_ble_eq_true rfl) ?_
  show AWP (GIM mtX5_windFor 6 M (mX5_windFor a1 a2 M)) mtX5_windFor 0 [(0, .ref 0), (1, .int a1), (2, .int a2)] [] M
  unfold mX5_windFor
  unfold PX5_windFor at hp
  refine r_aload_n MF.bs dX5_windFor_0 rfl 0 rfl ?_
  refine r_getR MF.bs dX5_windFor_1 rfl rfl 0 (by decide) wd_253 rfl ?_
  refine r_iload_n MF.bs dX5_windFor_4 rfl 1 rfl ?_
  refine r_callV_v MF.bs (st := []) dX5_windFor_5 (ctX4_has 1 (Or.inl rfl) a1 M) miX4_has wd_490 rfl (by decide) rfl (Nat.le_of_ble_eq_true rfl) rfl rfl rfl ?_
  refine r_ite (GIM mtX5_windFor 6 M) (fun h_1 => ?_) (fun h_1 => ?_)
  · have hp := hp h_1
    refine r_if_eq_f MF.bs (tgt := 21) dX5_windFor_8 (by decide) (b2i_1 h_1) ?_
    refine r_iload_n MF.bs dX5_windFor_11 rfl 2 rfl ?_
    refine r_iconst MF.bs dX5_windFor_12 (v := 1) (by decide) ?_
    refine r_bipush MF.bs dX5_windFor_13 (v := 30) (by decide) ?_
    refine r_callS_v MF.bs (st := []) dX5_windFor_15 (ctX5_isWithin a2 1 30 M) miX5_isWithin wd_303 rfl (by decide) rfl (Nat.le_of_ble_eq_true rfl) ?_
    refine r_ite (GIM mtX5_windFor 6 M) (fun h_2 => ?_) (fun h_2 => ?_)
    · have hp := hp h_2
      refine r_if_ne_t MF.bs (tgt := 23) dX5_windFor_18 (by decide) (b2i_1 h_2) ?_
      refine r_iconst MF.bs dX5_windFor_23 (v := 0) (by decide) ?_
      refine r_istore_n MF.bs (lv' := [(3, .int 0), (0, .ref 0), (1, .int a1), (2, .int a2)]) dX5_windFor_24 rfl (by decide) rfl ?_
      refine r_bipush MF.bs dX5_windFor_25 (v := 16) (by decide) ?_
      refine r_istore MF.bs (lv' := [(4, .int 16), (3, .int 0), (0, .ref 0), (1, .int a1), (2, .int a2)]) dX5_windFor_27 (by decide) rfl ?_
      refine r_iconst MF.bs dX5_windFor_29 (v := 0) (by decide) ?_
      refine r_istore MF.bs (lv' := [(5, .int 0), (4, .int 16), (3, .int 0), (0, .ref 0), (1, .int a1), (2, .int a2)]) dX5_windFor_30 (by decide) rfl ?_
      refine r_sub [(0, .ref 0), (1, .int a1), (2, .int a2), (3, .int 0), (4, .int 16), (5, .int 0)] [3, 4, 5, 2, 1, 0] rfl ?_
      exact cX5_windFor_32 M 400 a1 a2 0 16 0 M hp
    · refine r_if_ne_f MF.bs (tgt := 23) dX5_windFor_18 (by decide) (b2i_0 h_2) ?_
      refine r_iconst MF.bs dX5_windFor_21 (v := -1) (by decide) ?_
      exact r_iret dX5_windFor_22 rfl
  · refine r_if_eq_t MF.bs (tgt := 21) dX5_windFor_8 (by decide) (b2i_0 h_1) ?_
    refine r_iconst MF.bs dX5_windFor_21 (v := -1) (by decide) ?_
    exact r_iret dX5_windFor_22 rfl
abbrev mtX5_kindFor : MT := (RX5, yX5_kindFor, cX5_kindFor, 7, (some .int))
theorem miX5_kindFor : MV mtX5_kindFor 2 := ⟨wd_672, ⟨wd_670, wd_671⟩, wd_79, ⟨by decide, by decide, by decide +kernel⟩, by decide⟩
def mX5_kindFor_83   (kf32 : Int32 → Int32 → Int32 → Int32 → Int32 → Mem → Int32 × Mem) (v1 : Int32) (v2 : Int32) (v3 : Int32) (v4 : Int32) (v5 : Int32) (M : Mem) : Int32 × Mem := (kf32 v1 v2 v3 v4 (v5 + 1) M)
def PX5_kindFor_83   (kP32 : Int32 → Int32 → Int32 → Int32 → Int32 → Mem → Prop) (v1 : Int32) (v2 : Int32) (v3 : Int32) (v4 : Int32) (v5 : Int32) (M : Mem) : Prop := kP32 v1 v2 v3 v4 (v5 + 1) M
set_option maxRecDepth 100000 in
theorem cX5_kindFor_83    (M0 : Mem) (kf32 : Int32 → Int32 → Int32 → Int32 → Int32 → Mem → Int32 × Mem) (kP32 : Int32 → Int32 → Int32 → Int32 → Int32 → Mem → Prop) (hk32 : ∀ (v1 : Int32) (v2 : Int32) (v3 : Int32) (v4 : Int32) (v5 : Int32) (M : Mem), kP32 v1 v2 v3 v4 v5 M → AWP (GIM mtX5_kindFor 6 M0 (kf32 v1 v2 v3 v4 v5 M)) mtX5_kindFor 32 [(0, .ref 0), (1, .int v1), (2, .int v2), (3, .int v3), (4, .int v4), (5, .int v5)] [] M) (v1 : Int32) (v2 : Int32) (v3 : Int32) (v4 : Int32) (v5 : Int32) (M : Mem) (hp : PX5_kindFor_83 kP32 v1 v2 v3 v4 v5 M) : AWP (GIM mtX5_kindFor 6 M0 (mX5_kindFor_83 kf32 v1 v2 v3 v4 v5 M)) mtX5_kindFor 83 [(0, .ref 0), (1, .int v1), (2, .int v2), (3, .int v3), (4, .int v4), (5, .int v5)] [] M := by
  unfold mX5_kindFor_83
  unfold PX5_kindFor_83 at hp
  refine r_iinc MF.bs (v := (v5 + 1)) (lv' := [(5, .int (v5 + 1)), (0, .ref 0), (1, .int v1), (2, .int v2), (3, .int v3), (4, .int v4)]) dX5_kindFor_83 5 rfl rfl (by decide) rfl ?_
  refine r_goto MF.bs dX5_kindFor_86 (tgt := 32) (by decide) ?_
  refine r_sub [(0, .ref 0), (1, .int v1), (2, .int v2), (3, .int v3), (4, .int v4), (5, .int (v5 + 1))] [1, 2, 3, 4, 5, 0] rfl ?_
  exact hk32 v1 v2 v3 v4 (v5 + 1) M hp
def mX5_kindFor_67   (kf32 : Int32 → Int32 → Int32 → Int32 → Int32 → Mem → Int32 × Mem) (v1 : Int32) (v2 : Int32) (v3 : Int32) (v4 : Int32) (v5 : Int32) (k0 : Int32) (M : Mem) : Int32 × Mem := (if v4 ≤ k0 then (mX5_kindFor_83 kf32 v1 v2 v3 v4 v5 M) else (mX5_kindFor_83 kf32 v1 v2 v5 k0 v5 M))
def PX5_kindFor_67   (kP32 : Int32 → Int32 → Int32 → Int32 → Int32 → Mem → Prop) (v1 : Int32) (v2 : Int32) (v3 : Int32) (v4 : Int32) (v5 : Int32) (k0 : Int32) (M : Mem) : Prop := ((v4 ≤ k0 → PX5_kindFor_83 kP32 v1 v2 v3 v4 v5 M) ∧ (¬ v4 ≤ k0 → PX5_kindFor_83 kP32 v1 v2 v5 k0 v5 M))
set_option maxRecDepth 100000 in
theorem cX5_kindFor_67    (M0 : Mem) (kf32 : Int32 → Int32 → Int32 → Int32 → Int32 → Mem → Int32 × Mem) (kP32 : Int32 → Int32 → Int32 → Int32 → Int32 → Mem → Prop) (hk32 : ∀ (v1 : Int32) (v2 : Int32) (v3 : Int32) (v4 : Int32) (v5 : Int32) (M : Mem), kP32 v1 v2 v3 v4 v5 M → AWP (GIM mtX5_kindFor 6 M0 (kf32 v1 v2 v3 v4 v5 M)) mtX5_kindFor 32 [(0, .ref 0), (1, .int v1), (2, .int v2), (3, .int v3), (4, .int v4), (5, .int v5)] [] M) (v1 : Int32) (v2 : Int32) (v3 : Int32) (v4 : Int32) (v5 : Int32) (k0 : Int32) (M : Mem) (hp : PX5_kindFor_67 kP32 v1 v2 v3 v4 v5 k0 M) : AWP (GIM mtX5_kindFor 6 M0 (mX5_kindFor_67 kf32 v1 v2 v3 v4 v5 k0 M)) mtX5_kindFor 67 [(0, .ref 0), (1, .int v1), (2, .int v2), (3, .int v3), (4, .int v4), (5, .int v5)] [.int k0] M := by
  unfold mX5_kindFor_67
  unfold PX5_kindFor_67 at hp
  refine r_istore MF.bs (lv' := [(6, .int k0), (0, .ref 0), (1, .int v1), (2, .int v2), (3, .int v3), (4, .int v4), (5, .int v5)]) dX5_kindFor_67 (by decide) rfl ?_
  refine r_iload MF.bs dX5_kindFor_69 0 rfl ?_
  refine r_iload MF.bs dX5_kindFor_71 5 rfl ?_
  refine r_ite (GIM mtX5_kindFor 6 M0) (fun h_7 => ?_) (fun h_7 => ?_)
  · have hp := hp.1 h_7
    refine r_icmp_ge_t MF.bs (tgt := 83) dX5_kindFor_73 (by decide) h_7 ?_
    refine r_sub [(0, .ref 0), (1, .int v1), (2, .int v2), (3, .int v3), (4, .int v4), (5, .int v5)] [1, 2, 3, 4, 5, 6] rfl ?_
    exact cX5_kindFor_83 M0 kf32 kP32 hk32 v1 v2 v3 v4 v5 M hp
  · have hp := hp.2 h_7
    refine r_icmp_ge_f MF.bs (tgt := 83) dX5_kindFor_73 (by decide) h_7 ?_
    refine r_iload MF.bs dX5_kindFor_76 0 rfl ?_
    refine r_istore MF.bs (lv' := [(4, .int k0), (6, .int k0), (0, .ref 0), (1, .int v1), (2, .int v2), (3, .int v3), (5, .int v5)]) dX5_kindFor_78 (by decide) rfl ?_
    refine r_iload MF.bs dX5_kindFor_80 6 rfl ?_
    refine r_istore_n MF.bs (lv' := [(3, .int v5), (4, .int k0), (6, .int k0), (0, .ref 0), (1, .int v1), (2, .int v2), (5, .int v5)]) dX5_kindFor_82 rfl (by decide) rfl ?_
    refine r_sub [(0, .ref 0), (1, .int v1), (2, .int v2), (3, .int v5), (4, .int k0), (5, .int v5)] [3, 4, 5, 0, 1, 6] rfl ?_
    exact cX5_kindFor_83 M0 kf32 kP32 hk32 v1 v2 v5 k0 v5 M hp
def mX5_kindFor_50   (kf32 : Int32 → Int32 → Int32 → Int32 → Int32 → Mem → Int32 × Mem) (v1 : Int32) (v2 : Int32) (v3 : Int32) (v4 : Int32) (v5 : Int32) (M : Mem) : Int32 × Mem := (mX5_kindFor_67 kf32 v1 v2 v3 v4 v5 ((mX5_offOfTried v1 v2 (upm M 18 v1.toNatClampNeg v5)).1) ((mX5_offOfTried v1 v2 (upm M 18 v1.toNatClampNeg v5)).2))
def PX5_kindFor_50   (kP32 : Int32 → Int32 → Int32 → Int32 → Int32 → Mem → Prop) (v1 : Int32) (v2 : Int32) (v3 : Int32) (v4 : Int32) (v5 : Int32) (M : Mem) : Prop := vp_in v1 8 ∧ (PX5_offOfTried v1 v2 (upm M 18 v1.toNatClampNeg v5) ∧ (PX5_kindFor_67 kP32 v1 v2 v3 v4 v5 ((mX5_offOfTried v1 v2 (upm M 18 v1.toNatClampNeg v5)).1) ((mX5_offOfTried v1 v2 (upm M 18 v1.toNatClampNeg v5)).2)))
set_option maxRecDepth 100000 in
theorem cX5_kindFor_50    (M0 : Mem) (kf32 : Int32 → Int32 → Int32 → Int32 → Int32 → Mem → Int32 × Mem) (kP32 : Int32 → Int32 → Int32 → Int32 → Int32 → Mem → Prop) (hk32 : ∀ (v1 : Int32) (v2 : Int32) (v3 : Int32) (v4 : Int32) (v5 : Int32) (M : Mem), kP32 v1 v2 v3 v4 v5 M → AWP (GIM mtX5_kindFor 6 M0 (kf32 v1 v2 v3 v4 v5 M)) mtX5_kindFor 32 [(0, .ref 0), (1, .int v1), (2, .int v2), (3, .int v3), (4, .int v4), (5, .int v5)] [] M) (v1 : Int32) (v2 : Int32) (v3 : Int32) (v4 : Int32) (v5 : Int32) (M : Mem) (hp : PX5_kindFor_50 kP32 v1 v2 v3 v4 v5 M) : AWP (GIM mtX5_kindFor 6 M0 (mX5_kindFor_50 kf32 v1 v2 v3 v4 v5 M)) mtX5_kindFor 50 [(0, .ref 0), (1, .int v1), (2, .int v2), (3, .int v3), (4, .int v4), (5, .int v5)] [] M := by
  unfold mX5_kindFor_50
  unfold PX5_kindFor_50 at hp
  obtain ⟨hq_5, hp⟩ := hp
  obtain ⟨hq_6, hp⟩ := hp
  refine r_aload_n MF.bs dX5_kindFor_50 rfl 0 rfl ?_
  refine r_getR MF.bs dX5_kindFor_51 rfl rfl 2 (by decide) wd_255 rfl ?_
  refine r_getR MF.bs dX5_kindFor_54 rfl rfl 2 (by decide) wd_120 rfl ?_
  refine r_iload_n MF.bs dX5_kindFor_57 rfl 1 rfl ?_
  refine r_iload MF.bs dX5_kindFor_58 5 rfl ?_
  refine r_iastore MF.bs dX5_kindFor_60 rfl hq_5 ?_
  refine r_aload_n MF.bs dX5_kindFor_61 rfl 0 rfl ?_
  refine r_iload_n MF.bs dX5_kindFor_62 rfl 1 rfl ?_
  refine r_iload_n MF.bs dX5_kindFor_63 rfl 2 rfl ?_
  refine r_callV_v MF.bs (st := []) dX5_kindFor_64 (ctX5_offOfTried v1 v2 (upm M 18 v1.toNatClampNeg v5) hq_6) miX5_offOfTried wd_655 rfl (by decide) rfl (Nat.le_of_ble_eq_true rfl) rfl rfl rfl ?_
  exact cX5_kindFor_67 M0 kf32 kP32 hk32 v1 v2 v3 v4 v5 ((mX5_offOfTried v1 v2 (upm M 18 v1.toNatClampNeg v5)).1) ((mX5_offOfTried v1 v2 (upm M 18 v1.toNatClampNeg v5)).2) hp
def mX5_kindFor_32   : Nat → Int32 → Int32 → Int32 → Int32 → Int32 → Mem → Int32 × Mem
  | 0, _, _, _, _, _, M => (0, M)
  | n + 1, v1, v2, v3, v4, v5, M => (if 6 ≤ v5 then (v3, M) else (mX5_kindFor_50 (mX5_kindFor_32 n) v1 v2 v3 v4 v5 (mX4_become 15 1 M)))
def PX5_kindFor_32   : Nat → Int32 → Int32 → Int32 → Int32 → Int32 → Mem → Prop
  | 0, _, _, _, _, _, _ => False
  | n + 1, v1, v2, v3, v4, v5, M => (¬ 6 ≤ v5 → PX4_become 15 1 M ∧ (PX5_kindFor_50 (PX5_kindFor_32 n) v1 v2 v3 v4 v5 (mX4_become 15 1 M)))
set_option maxRecDepth 100000 in
theorem cX5_kindFor_32    (M0 : Mem) : ∀ (n : Nat) (v1 : Int32) (v2 : Int32) (v3 : Int32) (v4 : Int32) (v5 : Int32) (M : Mem), PX5_kindFor_32 n v1 v2 v3 v4 v5 M → AWP (GIM mtX5_kindFor 6 M0 (mX5_kindFor_32 n v1 v2 v3 v4 v5 M)) mtX5_kindFor 32 [(0, .ref 0), (1, .int v1), (2, .int v2), (3, .int v3), (4, .int v4), (5, .int v5)] [] M := by
  intro n
  induction n with
  | zero =>
    intro v1 v2 v3 v4 v5 M hp
    exact hp.elim
  | succ n ih =>
    intro v1 v2 v3 v4 v5 M hp
    rw [mX5_kindFor_32]
    rw [PX5_kindFor_32] at hp
    refine r_iload MF.bs dX5_kindFor_32 5 rfl ?_
    refine r_bipush MF.bs dX5_kindFor_34 (v := 6) (by decide) ?_
    refine r_ite (GIM mtX5_kindFor 6 M0) (fun h_3 => ?_) (fun h_3 => ?_)
    · refine r_icmp_ge_t MF.bs (tgt := 89) dX5_kindFor_36 (by decide) h_3 ?_
      refine r_iload_n MF.bs dX5_kindFor_89 rfl 3 rfl ?_
      exact r_iret dX5_kindFor_90 rfl
    · have hp := hp h_3
      refine r_icmp_ge_f MF.bs (tgt := 89) dX5_kindFor_36 (by decide) h_3 ?_
      obtain ⟨hq_4, hp⟩ := hp
      refine r_aload_n MF.bs dX5_kindFor_39 rfl 0 rfl ?_
      refine r_getR MF.bs dX5_kindFor_40 rfl rfl 2 (by decide) wd_255 rfl ?_
      refine r_aload_n MF.bs dX5_kindFor_43 rfl 0 rfl ?_
      refine r_getR MF.bs dX5_kindFor_44 rfl rfl 0 (by decide) wd_253 rfl ?_
      refine r_callV_n MF.bs (st := []) dX5_kindFor_47 (ctX4_become 15 1 (Or.inr (Or.inr rfl)) (Or.inl rfl) M hq_4) miX4_become wd_454 rfl (by decide) rfl (Nat.le_of_ble_eq_true rfl) rfl rfl rfl ?_
      exact cX5_kindFor_50 M0 (mX5_kindFor_32 n) (PX5_kindFor_32 n) ih v1 v2 v3 v4 v5 (mX4_become 15 1 M) hp
def mX5_kindFor  (a1 : Int32) (a2 : Int32) (M : Mem) : Int32 × Mem := (if (mX4_has 1 a1 M) = true then (if (mX5_isWithin a2 1 30) = true then (mX5_kindFor_32 400 a1 a2 0 16 0 M) else ((-1), M)) else ((-1), M))
def PX5_kindFor  (a1 : Int32) (a2 : Int32) (M : Mem) : Prop := ((mX4_has 1 a1 M) = true → ((mX5_isWithin a2 1 30) = true → PX5_kindFor_32 400 a1 a2 0 16 0 M))
set_option maxRecDepth 100000 in
theorem ctX5_kindFor   (a1 : Int32) (a2 : Int32) (M : Mem) (hp : PX5_kindFor a1 a2 M) : CT mtX5_kindFor 6 [.ref 0, .int a1, .int a2] M (some (.int ((mX5_kindFor a1 a2 M).1)), (mX5_kindFor a1 a2 M).2) := by
  refine CT.of (by decide) rfl (Nat.le_of_ble_eq_true rfl) ?_
  show AWP (GIM mtX5_kindFor 6 M (mX5_kindFor a1 a2 M)) mtX5_kindFor 0 [(0, .ref 0), (1, .int a1), (2, .int a2)] [] M
  unfold mX5_kindFor
  unfold PX5_kindFor at hp
  refine r_aload_n MF.bs dX5_kindFor_0 rfl 0 rfl ?_
  refine r_getR MF.bs dX5_kindFor_1 rfl rfl 0 (by decide) wd_253 rfl ?_
  refine r_iload_n MF.bs dX5_kindFor_4 rfl 1 rfl ?_
  refine r_callV_v MF.bs (st := []) dX5_kindFor_5 (ctX4_has 1 (Or.inl rfl) a1 M) miX4_has wd_490 rfl (by decide) rfl (Nat.le_of_ble_eq_true rfl) rfl rfl rfl ?_
  refine r_ite (GIM mtX5_kindFor 6 M) (fun h_1 => ?_) (fun h_1 => ?_)
  · have hp := hp h_1
    refine r_if_eq_f MF.bs (tgt := 21) dX5_kindFor_8 (by decide) (b2i_1 h_1) ?_
    refine r_iload_n MF.bs dX5_kindFor_11 rfl 2 rfl ?_
    refine r_iconst MF.bs dX5_kindFor_12 (v := 1) (by decide) ?_
    refine r_bipush MF.bs dX5_kindFor_13 (v := 30) (by decide) ?_
    refine r_callS_v MF.bs (st := []) dX5_kindFor_15 (ctX5_isWithin a2 1 30 M) miX5_isWithin wd_303 rfl (by decide) rfl (Nat.le_of_ble_eq_true rfl) ?_
    refine r_ite (GIM mtX5_kindFor 6 M) (fun h_2 => ?_) (fun h_2 => ?_)
    · have hp := hp h_2
      refine r_if_ne_t MF.bs (tgt := 23) dX5_kindFor_18 (by decide) (b2i_1 h_2) ?_
      refine r_iconst MF.bs dX5_kindFor_23 (v := 0) (by decide) ?_
      refine r_istore_n MF.bs (lv' := [(3, .int 0), (0, .ref 0), (1, .int a1), (2, .int a2)]) dX5_kindFor_24 rfl (by decide) rfl ?_
      refine r_bipush MF.bs dX5_kindFor_25 (v := 16) (by decide) ?_
      refine r_istore MF.bs (lv' := [(4, .int 16), (3, .int 0), (0, .ref 0), (1, .int a1), (2, .int a2)]) dX5_kindFor_27 (by decide) rfl ?_
      refine r_iconst MF.bs dX5_kindFor_29 (v := 0) (by decide) ?_
      refine r_istore MF.bs (lv' := [(5, .int 0), (4, .int 16), (3, .int 0), (0, .ref 0), (1, .int a1), (2, .int a2)]) dX5_kindFor_30 (by decide) rfl ?_
      refine r_sub [(0, .ref 0), (1, .int a1), (2, .int a2), (3, .int 0), (4, .int 16), (5, .int 0)] [3, 4, 5, 2, 1, 0] rfl ?_
      exact cX5_kindFor_32 M 400 a1 a2 0 16 0 M hp
    · refine r_if_ne_f MF.bs (tgt := 23) dX5_kindFor_18 (by decide) (b2i_0 h_2) ?_
      refine r_iconst MF.bs dX5_kindFor_21 (v := -1) (by decide) ?_
      exact r_iret dX5_kindFor_22 rfl
  · refine r_if_eq_t MF.bs (tgt := 21) dX5_kindFor_8 (by decide) (b2i_0 h_1) ?_
    refine r_iconst MF.bs dX5_kindFor_21 (v := -1) (by decide) ?_
    exact r_iret dX5_kindFor_22 rfl
abbrev mtX5_fewestThatSee : MT := (RX5, yX5_fewestThatSee, cX5_fewestThatSee, 5, (some .int))
theorem miX5_fewestThatSee : MV mtX5_fewestThatSee 1 := ⟨wd_681, ⟨wd_680, wd_20⟩, wd_79, ⟨by decide, by decide, by decide +kernel⟩, by decide⟩
def mX5_fewestThatSee_26   (kf18 : Int32 → Int32 → Mem → Int32 × Mem) : Nat → Int32 → Int32 → Int32 → Mem → Int32 × Mem
  | 0, _, _, _, M => (0, M)
  | n + 1, v1, v2, v3, M => (if v1 < v3 then (kf18 v1 (v2 + 1) M) else (mX5_fewestThatSee_26 kf18 n v1 v2 (v3 + 1) (upm M 33 (v3 ||| (M 32 v2.toNatClampNeg)).toNatClampNeg (imin (M 33 (v3 ||| (M 32 v2.toNatClampNeg)).toNatClampNeg) ((M 33 v3.toNatClampNeg) + 1)))))
def PX5_fewestThatSee_26   (kP18 : Int32 → Int32 → Mem → Prop) : Nat → Int32 → Int32 → Int32 → Mem → Prop
  | 0, _, _, _, _ => False
  | n + 1, v1, v2, v3, M => ((v1 < v3 → kP18 v1 (v2 + 1) M) ∧ (¬ v1 < v3 → vp_in v2 16 ∧ (vp_in (v3 ||| (M 32 v2.toNatClampNeg)) 256 ∧ (vp_in v3 256 ∧ (vp_in (v3 ||| (M 32 v2.toNatClampNeg)) 256 ∧ (PX5_fewestThatSee_26 kP18 n v1 v2 (v3 + 1) (upm M 33 (v3 ||| (M 32 v2.toNatClampNeg)).toNatClampNeg (imin (M 33 (v3 ||| (M 32 v2.toNatClampNeg)).toNatClampNeg) ((M 33 v3.toNatClampNeg) + 1)))))))))
set_option maxRecDepth 100000 in
theorem cX5_fewestThatSee_26    (M0 : Mem) (kf18 : Int32 → Int32 → Mem → Int32 × Mem) (kP18 : Int32 → Int32 → Mem → Prop) (hk18 : ∀ (v1 : Int32) (v2 : Int32) (M : Mem), kP18 v1 v2 M → AWP (GIM mtX5_fewestThatSee 1 M0 (kf18 v1 v2 M)) mtX5_fewestThatSee 18 [(0, .ref 0), (1, .int v1), (2, .int v2)] [] M) : ∀ (n : Nat) (v1 : Int32) (v2 : Int32) (v3 : Int32) (M : Mem), PX5_fewestThatSee_26 kP18 n v1 v2 v3 M → AWP (GIM mtX5_fewestThatSee 1 M0 (mX5_fewestThatSee_26 kf18 n v1 v2 v3 M)) mtX5_fewestThatSee 26 [(0, .ref 0), (1, .int v1), (2, .int v2), (3, .int v3)] [] M := by
  intro n
  induction n with
  | zero =>
    intro v1 v2 v3 M hp
    exact hp.elim
  | succ n ih =>
    intro v1 v2 v3 M hp
    rw [mX5_fewestThatSee_26]
    rw [PX5_fewestThatSee_26] at hp
    refine r_iload_n MF.bs dX5_fewestThatSee_26 rfl 3 rfl ?_
    refine r_iload_n MF.bs dX5_fewestThatSee_27 rfl 1 rfl ?_
    refine r_ite (GIM mtX5_fewestThatSee 1 M0) (fun h_4 => ?_) (fun h_4 => ?_)
    · have hp := hp.1 h_4
      refine r_icmp_gt_t MF.bs (tgt := 72) dX5_fewestThatSee_28 (by decide) h_4 ?_
      refine r_iinc MF.bs (v := (v2 + 1)) (lv' := [(2, .int (v2 + 1)), (0, .ref 0), (1, .int v1), (3, .int v3)]) dX5_fewestThatSee_72 2 rfl rfl (by decide) rfl ?_
      refine r_goto MF.bs dX5_fewestThatSee_75 (tgt := 18) (by decide) ?_
      refine r_sub [(0, .ref 0), (1, .int v1), (2, .int (v2 + 1))] [1, 2, 0] rfl ?_
      exact hk18 v1 (v2 + 1) M hp
    · have hp := hp.2 h_4
      refine r_icmp_gt_f MF.bs (tgt := 72) dX5_fewestThatSee_28 (by decide) h_4 ?_
      obtain ⟨hq_5, hp⟩ := hp
      obtain ⟨hq_6, hp⟩ := hp
      obtain ⟨hq_7, hp⟩ := hp
      obtain ⟨hq_8, hp⟩ := hp
      refine r_iload_n MF.bs dX5_fewestThatSee_31 rfl 3 rfl ?_
      refine r_aload_n MF.bs dX5_fewestThatSee_32 rfl 0 rfl ?_
      refine r_getR MF.bs dX5_fewestThatSee_33 rfl rfl 11 (by decide) wd_264 rfl ?_
      refine r_iload_n MF.bs dX5_fewestThatSee_36 rfl 2 rfl ?_
      refine r_iaload MF.bs dX5_fewestThatSee_37 rfl hq_5 ?_
      refine r_ior MF.bs dX5_fewestThatSee_38 ?_
      refine r_istore MF.bs (lv' := [(4, .int (v3 ||| (M 32 v2.toNatClampNeg))), (0, .ref 0), (1, .int v1), (2, .int v2), (3, .int v3)]) dX5_fewestThatSee_39 (by decide) rfl ?_
      refine r_aload_n MF.bs dX5_fewestThatSee_41 rfl 1 rfl ?_
      refine r_getR MF.bs dX5_fewestThatSee_42 rfl rfl 12 (by decide) wd_265 rfl ?_
      refine r_iload MF.bs dX5_fewestThatSee_45 0 rfl ?_
      refine r_aload_n MF.bs dX5_fewestThatSee_47 rfl 1 rfl ?_
      refine r_getR MF.bs dX5_fewestThatSee_48 rfl rfl 12 (by decide) wd_265 rfl ?_
      refine r_iload MF.bs dX5_fewestThatSee_51 0 rfl ?_
      refine r_iaload MF.bs dX5_fewestThatSee_53 rfl hq_6 ?_
      refine r_aload_n MF.bs dX5_fewestThatSee_54 rfl 1 rfl ?_
      refine r_getR MF.bs dX5_fewestThatSee_55 rfl rfl 12 (by decide) wd_265 rfl ?_
      refine r_iload_n MF.bs dX5_fewestThatSee_58 rfl 4 rfl ?_
      refine r_iaload MF.bs dX5_fewestThatSee_59 rfl hq_7 ?_
      refine r_iconst MF.bs dX5_fewestThatSee_60 (v := 1) (by decide) ?_
      refine r_iadd MF.bs dX5_fewestThatSee_61 ?_
      refine r_mmin MF.bs (st := [.int (v3 ||| (M 32 v2.toNatClampNeg)), .ref 33]) dX5_fewestThatSee_62 wd_568 wd_569 wd_92 wd_570 (Nat.le_of_ble_eq_true rfl) (by decide) ?_
      refine r_iastore MF.bs dX5_fewestThatSee_65 rfl hq_8 ?_
      refine r_iinc MF.bs (v := (v3 + 1)) (lv' := [(3, .int (v3 + 1)), (4, .int (v3 ||| (M 32 v2.toNatClampNeg))), (0, .ref 0), (1, .int v1), (2, .int v2)]) dX5_fewestThatSee_66 4 rfl rfl (by decide) rfl ?_
      refine r_goto MF.bs dX5_fewestThatSee_69 (tgt := 26) (by decide) ?_
      refine r_sub [(0, .ref 0), (1, .int v1), (2, .int v2), (3, .int (v3 + 1))] [2, 3, 4, 0] rfl ?_
      exact ih v1 v2 (v3 + 1) (upm M 33 (v3 ||| (M 32 v2.toNatClampNeg)).toNatClampNeg (imin (M 33 (v3 ||| (M 32 v2.toNatClampNeg)).toNatClampNeg) ((M 33 v3.toNatClampNeg) + 1))) hp
def mX5_fewestThatSee_18   : Nat → Int32 → Int32 → Mem → Int32 × Mem
  | 0, _, _, M => (0, M)
  | n + 1, v1, v2, M => (if 16 ≤ v2 then ((M 33 v1.toNatClampNeg), M) else (mX5_fewestThatSee_26 (mX5_fewestThatSee_18 n) 400 v1 v2 0 M))
def PX5_fewestThatSee_18   : Nat → Int32 → Int32 → Mem → Prop
  | 0, _, _, _ => False
  | n + 1, v1, v2, M => ((16 ≤ v2 → vp_in v1 256) ∧ (¬ 16 ≤ v2 → PX5_fewestThatSee_26 (PX5_fewestThatSee_18 n) 400 v1 v2 0 M))
set_option maxRecDepth 100000 in
theorem cX5_fewestThatSee_18    (M0 : Mem) : ∀ (n : Nat) (v1 : Int32) (v2 : Int32) (M : Mem), PX5_fewestThatSee_18 n v1 v2 M → AWP (GIM mtX5_fewestThatSee 1 M0 (mX5_fewestThatSee_18 n v1 v2 M)) mtX5_fewestThatSee 18 [(0, .ref 0), (1, .int v1), (2, .int v2)] [] M := by
  intro n
  induction n with
  | zero =>
    intro v1 v2 M hp
    exact hp.elim
  | succ n ih =>
    intro v1 v2 M hp
    rw [mX5_fewestThatSee_18]
    rw [PX5_fewestThatSee_18] at hp
    refine r_iload_n MF.bs dX5_fewestThatSee_18 rfl 2 rfl ?_
    refine r_bipush MF.bs dX5_fewestThatSee_19 (v := 16) (by decide) ?_
    refine r_ite (GIM mtX5_fewestThatSee 1 M0) (fun h_2 => ?_) (fun h_2 => ?_)
    · have hp := hp.1 h_2
      refine r_icmp_ge_t MF.bs (tgt := 78) dX5_fewestThatSee_21 (by decide) h_2 ?_
      have hq_3 := hp
      refine r_aload_n MF.bs dX5_fewestThatSee_78 rfl 0 rfl ?_
      refine r_getR MF.bs dX5_fewestThatSee_79 rfl rfl 12 (by decide) wd_265 rfl ?_
      refine r_iload_n MF.bs dX5_fewestThatSee_82 rfl 1 rfl ?_
      refine r_iaload MF.bs dX5_fewestThatSee_83 rfl hq_3 ?_
      exact r_iret dX5_fewestThatSee_84 rfl
    · have hp := hp.2 h_2
      refine r_icmp_ge_f MF.bs (tgt := 78) dX5_fewestThatSee_21 (by decide) h_2 ?_
      refine r_iconst MF.bs dX5_fewestThatSee_24 (v := 0) (by decide) ?_
      refine r_istore_n MF.bs (lv' := [(3, .int 0), (0, .ref 0), (1, .int v1), (2, .int v2)]) dX5_fewestThatSee_25 rfl (by decide) rfl ?_
      refine r_sub [(0, .ref 0), (1, .int v1), (2, .int v2), (3, .int 0)] [1, 2, 3, 0] rfl ?_
      exact cX5_fewestThatSee_26 M0 (mX5_fewestThatSee_18 n) (PX5_fewestThatSee_18 n) ih 400 v1 v2 0 M hp
def mX5_fewestThatSee_9   (v1 : Int32) (M : Mem) : Int32 × Mem := (mX5_fewestThatSee_18 400 v1 0 (upm M 33 0 0))
def PX5_fewestThatSee_9   (v1 : Int32) (M : Mem) : Prop := PX5_fewestThatSee_18 400 v1 0 (upm M 33 0 0)
set_option maxRecDepth 100000 in
theorem cX5_fewestThatSee_9    (M0 : Mem) (v1 : Int32) (M : Mem) (hp : PX5_fewestThatSee_9 v1 M) : AWP (GIM mtX5_fewestThatSee 1 M0 (mX5_fewestThatSee_9 v1 M)) mtX5_fewestThatSee 9 [(0, .ref 0), (1, .int v1)] [] M := by
  unfold mX5_fewestThatSee_9
  unfold PX5_fewestThatSee_9 at hp
  refine r_aload_n MF.bs dX5_fewestThatSee_9 rfl 0 rfl ?_
  refine r_getR MF.bs dX5_fewestThatSee_10 rfl rfl 12 (by decide) wd_265 rfl ?_
  refine r_iconst MF.bs dX5_fewestThatSee_13 (v := 0) (by decide) ?_
  refine r_iconst MF.bs dX5_fewestThatSee_14 (v := 0) (by decide) ?_
  refine r_iastoreL MF.bs dX5_fewestThatSee_15 rfl (vin_l (by decide) (by decide)) (k9 := 0) (by decide) ?_
  refine r_iconst MF.bs dX5_fewestThatSee_16 (v := 0) (by decide) ?_
  refine r_istore_n MF.bs (lv' := [(2, .int 0), (0, .ref 0), (1, .int v1)]) dX5_fewestThatSee_17 rfl (by decide) rfl ?_
  refine r_sub [(0, .ref 0), (1, .int v1), (2, .int 0)] [1, 2, 0] rfl ?_
  exact cX5_fewestThatSee_18 M0 400 v1 0 (upm M 33 0 0) hp
def mX5_fewestThatSee  (a1 : Int32) (M : Mem) : Int32 × Mem := (mX5_fewestThatSee_9 a1 (mJ7_fill_53178 33 256 16 M))
def PX5_fewestThatSee  (a1 : Int32) (M : Mem) : Prop := PJ7_fill_53178 33 256 16 M ∧ (PX5_fewestThatSee_9 a1 (mJ7_fill_53178 33 256 16 M))
set_option maxRecDepth 100000 in
theorem ctX5_fewestThatSee   (a1 : Int32) (M : Mem) (hp : PX5_fewestThatSee a1 M) : CT mtX5_fewestThatSee 1 [.ref 0, .int a1] M (some (.int ((mX5_fewestThatSee a1 M).1)), (mX5_fewestThatSee a1 M).2) := by
  refine CT.of (by decide) rfl (Nat.le_of_ble_eq_true rfl) ?_
  show AWP (GIM mtX5_fewestThatSee 1 M (mX5_fewestThatSee a1 M)) mtX5_fewestThatSee 0 [(0, .ref 0), (1, .int a1)] [] M
  unfold mX5_fewestThatSee
  unfold PX5_fewestThatSee at hp
  obtain ⟨hq_1, hp⟩ := hp
  refine r_aload_n MF.bs dX5_fewestThatSee_0 rfl 0 rfl ?_
  refine r_getR MF.bs dX5_fewestThatSee_1 rfl rfl 12 (by decide) wd_265 rfl ?_
  refine r_bipush MF.bs dX5_fewestThatSee_4 (v := 16) (by decide) ?_
  refine r_callS_n MF.bs (st := []) dX5_fewestThatSee_6 (ctJ7_fill_53178 33 256 rfl 16 M hq_1) miJ7_fill_53178 wd_677 rfl (by decide) rfl (Nat.le_of_ble_eq_true rfl) ?_
  exact cX5_fewestThatSee_9 M a1 (mJ7_fill_53178 33 256 16 M) hp
abbrev mtX5_seen : MT := (RX5, yX5_seen, cX5_seen, 4, (some .int))
theorem miX5_seen : MV mtX5_seen 1 := ⟨wd_676, ⟨wd_674, wd_675⟩, wd_79, ⟨by decide, by decide, by decide +kernel⟩, by decide⟩
def mX5_seen_45   (kf22 : Int32 → Int32 → Mem → Int32 × Mem) : Nat → Int32 → Int32 → Int32 → Mem → Int32 × Mem
  | 0, _, _, _, M => (0, M)
  | n + 1, v1, v2, v3, M => (if v1 < v3 then (kf22 v1 (v2 + 1) M) else (mX5_seen_45 kf22 n v1 v2 (v3 + 1) (upm M 32 (M 29 v3.toNatClampNeg).toNatClampNeg ((M 32 (M 29 v3.toNatClampNeg).toNatClampNeg) ||| (1 <<< (v2 &&& 31))))))
def PX5_seen_45   (kP22 : Int32 → Int32 → Mem → Prop) : Nat → Int32 → Int32 → Int32 → Mem → Prop
  | 0, _, _, _, _ => False
  | n + 1, v1, v2, v3, M => ((v1 < v3 → kP22 v1 (v2 + 1) M) ∧ (¬ v1 < v3 → vp_in v3 61 ∧ (vp_in (M 29 v3.toNatClampNeg) 16 ∧ (vp_in (M 29 v3.toNatClampNeg) 16 ∧ (PX5_seen_45 kP22 n v1 v2 (v3 + 1) (upm M 32 (M 29 v3.toNatClampNeg).toNatClampNeg ((M 32 (M 29 v3.toNatClampNeg).toNatClampNeg) ||| (1 <<< (v2 &&& 31)))))))))
set_option maxRecDepth 100000 in
theorem cX5_seen_45    (M0 : Mem) (kf22 : Int32 → Int32 → Mem → Int32 × Mem) (kP22 : Int32 → Int32 → Mem → Prop) (hk22 : ∀ (v1 : Int32) (v2 : Int32) (M : Mem), kP22 v1 v2 M → AWP (GIM mtX5_seen 6 M0 (kf22 v1 v2 M)) mtX5_seen 22 [(0, .ref 0), (1, .int v1), (2, .int v2)] [] M) : ∀ (n : Nat) (v1 : Int32) (v2 : Int32) (v3 : Int32) (M : Mem), PX5_seen_45 kP22 n v1 v2 v3 M → AWP (GIM mtX5_seen 6 M0 (mX5_seen_45 kf22 n v1 v2 v3 M)) mtX5_seen 45 [(0, .ref 0), (1, .int v1), (2, .int v2), (3, .int v3)] [] M := by
  intro n
  induction n with
  | zero =>
    intro v1 v2 v3 M hp
    exact hp.elim
  | succ n ih =>
    intro v1 v2 v3 M hp
    rw [mX5_seen_45]
    rw [PX5_seen_45] at hp
    refine r_iload_n MF.bs dX5_seen_45 rfl 3 rfl ?_
    refine r_iload_n MF.bs dX5_seen_46 rfl 1 rfl ?_
    refine r_ite (GIM mtX5_seen 6 M0) (fun h_6 => ?_) (fun h_6 => ?_)
    · have hp := hp.1 h_6
      refine r_icmp_gt_t MF.bs (tgt := 73) dX5_seen_47 (by decide) h_6 ?_
      refine r_iinc MF.bs (v := (v2 + 1)) (lv' := [(2, .int (v2 + 1)), (0, .ref 0), (1, .int v1), (3, .int v3)]) dX5_seen_73 2 rfl rfl (by decide) rfl ?_
      refine r_goto MF.bs dX5_seen_76 (tgt := 22) (by decide) ?_
      refine r_sub [(0, .ref 0), (1, .int v1), (2, .int (v2 + 1))] [1, 2, 0] rfl ?_
      exact hk22 v1 (v2 + 1) M hp
    · have hp := hp.2 h_6
      refine r_icmp_gt_f MF.bs (tgt := 73) dX5_seen_47 (by decide) h_6 ?_
      obtain ⟨hq_7, hp⟩ := hp
      obtain ⟨hq_8, hp⟩ := hp
      obtain ⟨hq_9, hp⟩ := hp
      refine r_aload_n MF.bs dX5_seen_50 rfl 0 rfl ?_
      refine r_getR MF.bs dX5_seen_51 rfl rfl 11 (by decide) wd_264 rfl ?_
      refine r_aload_n MF.bs dX5_seen_54 rfl 0 rfl ?_
      refine r_getR MF.bs dX5_seen_55 rfl rfl 8 (by decide) wd_261 rfl ?_
      refine r_iload_n MF.bs dX5_seen_58 rfl 3 rfl ?_
      refine r_iaload MF.bs dX5_seen_59 rfl hq_7 ?_
      refine r_dup2 MF.bs dX5_seen_60 rfl rfl ?_
      refine r_iaload MF.bs dX5_seen_61 rfl hq_8 ?_
      refine r_iconst MF.bs dX5_seen_62 (v := 1) (by decide) ?_
      refine r_iload_n MF.bs dX5_seen_63 rfl 2 rfl ?_
      refine r_ishl MF.bs dX5_seen_64 ?_
      refine r_ior MF.bs dX5_seen_65 ?_
      refine r_iastore MF.bs dX5_seen_66 rfl hq_9 ?_
      refine r_iinc MF.bs (v := (v3 + 1)) (lv' := [(3, .int (v3 + 1)), (0, .ref 0), (1, .int v1), (2, .int v2)]) dX5_seen_67 3 rfl rfl (by decide) rfl ?_
      refine r_goto MF.bs dX5_seen_70 (tgt := 45) (by decide) ?_
      refine r_sub [(0, .ref 0), (1, .int v1), (2, .int v2), (3, .int (v3 + 1))] [1, 2, 3, 0] rfl ?_
      exact ih v1 v2 (v3 + 1) (upm M 32 (M 29 v3.toNatClampNeg).toNatClampNeg ((M 32 (M 29 v3.toNatClampNeg).toNatClampNeg) ||| (1 <<< (v2 &&& 31)))) hp
def mX5_seen_43   (kf22 : Int32 → Int32 → Mem → Int32 × Mem) (v1 : Int32) (v2 : Int32) (M : Mem) : Int32 × Mem := (mX5_seen_45 kf22 400 v1 v2 0 M)
def PX5_seen_43   (kP22 : Int32 → Int32 → Mem → Prop) (v1 : Int32) (v2 : Int32) (M : Mem) : Prop := PX5_seen_45 kP22 400 v1 v2 0 M
set_option maxRecDepth 100000 in
theorem cX5_seen_43    (M0 : Mem) (kf22 : Int32 → Int32 → Mem → Int32 × Mem) (kP22 : Int32 → Int32 → Mem → Prop) (hk22 : ∀ (v1 : Int32) (v2 : Int32) (M : Mem), kP22 v1 v2 M → AWP (GIM mtX5_seen 6 M0 (kf22 v1 v2 M)) mtX5_seen 22 [(0, .ref 0), (1, .int v1), (2, .int v2)] [] M) (v1 : Int32) (v2 : Int32) (M : Mem) (hp : PX5_seen_43 kP22 v1 v2 M) : AWP (GIM mtX5_seen 6 M0 (mX5_seen_43 kf22 v1 v2 M)) mtX5_seen 43 [(0, .ref 0), (1, .int v1), (2, .int v2)] [] M := by
  unfold mX5_seen_43
  unfold PX5_seen_43 at hp
  refine r_iconst MF.bs dX5_seen_43 (v := 0) (by decide) ?_
  refine r_istore_n MF.bs (lv' := [(3, .int 0), (0, .ref 0), (1, .int v1), (2, .int v2)]) dX5_seen_44 rfl (by decide) rfl ?_
  refine r_sub [(0, .ref 0), (1, .int v1), (2, .int v2), (3, .int 0)] [1, 2, 3, 0] rfl ?_
  exact cX5_seen_45 M0 kf22 kP22 hk22 400 v1 v2 0 M hp
def mX5_seen_22   : Nat → Int32 → Int32 → Mem → Int32 × Mem
  | 0, _, _, M => (0, M)
  | n + 1, v1, v2, M => (if (M 1 6) ≤ v2 then ((mX5_fewestThatSee ((1 <<< ((M 1 6) &&& 31)) - 1) M).1, (mX5_fewestThatSee ((1 <<< ((M 1 6) &&& 31)) - 1) M).2) else (mX5_seen_43 (mX5_seen_22 n) v1 v2 (mX5_tryWalk 29 61 v2 v1 M)))
def PX5_seen_22   : Nat → Int32 → Int32 → Mem → Prop
  | 0, _, _, _ => False
  | n + 1, v1, v2, M => (((M 1 6) ≤ v2 → PX5_fewestThatSee ((1 <<< ((M 1 6) &&& 31)) - 1) M) ∧ (¬ (M 1 6) ≤ v2 → PX5_tryWalk 29 61 v2 v1 M ∧ (PX5_seen_43 (PX5_seen_22 n) v1 v2 (mX5_tryWalk 29 61 v2 v1 M))))
set_option maxRecDepth 100000 in
theorem cX5_seen_22    (M0 : Mem) : ∀ (n : Nat) (v1 : Int32) (v2 : Int32) (M : Mem), PX5_seen_22 n v1 v2 M → AWP (GIM mtX5_seen 6 M0 (mX5_seen_22 n v1 v2 M)) mtX5_seen 22 [(0, .ref 0), (1, .int v1), (2, .int v2)] [] M := by
  intro n
  induction n with
  | zero =>
    intro v1 v2 M hp
    exact hp.elim
  | succ n ih =>
    intro v1 v2 M hp
    rw [mX5_seen_22]
    rw [PX5_seen_22] at hp
    refine r_iload_n MF.bs dX5_seen_22 rfl 2 rfl ?_
    refine r_aload_n MF.bs dX5_seen_23 rfl 0 rfl ?_
    refine r_getR MF.bs dX5_seen_24 rfl rfl 0 (by decide) wd_253 rfl ?_
    refine r_getI MF.bs dX5_seen_27 rfl rfl 6 (by decide) wd_128 rfl ?_
    refine r_ite (GIM mtX5_seen 6 M0) (fun h_3 => ?_) (fun h_3 => ?_)
    · have hp := hp.1 h_3
      refine r_icmp_ge_t MF.bs (tgt := 79) dX5_seen_30 (by decide) h_3 ?_
      have hq_4 := hp
      refine r_aload_n MF.bs dX5_seen_79 rfl 0 rfl ?_
      refine r_iconst MF.bs dX5_seen_80 (v := 1) (by decide) ?_
      refine r_aload_n MF.bs dX5_seen_81 rfl 0 rfl ?_
      refine r_getR MF.bs dX5_seen_82 rfl rfl 0 (by decide) wd_253 rfl ?_
      refine r_getI MF.bs dX5_seen_85 rfl rfl 6 (by decide) wd_128 rfl ?_
      refine r_ishl MF.bs dX5_seen_88 ?_
      refine r_iconst MF.bs dX5_seen_89 (v := 1) (by decide) ?_
      refine r_isub MF.bs dX5_seen_90 ?_
      refine r_callV_v MF.bs (st := []) dX5_seen_91 (ctX5_fewestThatSee ((1 <<< ((M 1 6) &&& 31)) - 1) M hq_4) miX5_fewestThatSee wd_678 rfl (by decide) rfl (Nat.le_of_ble_eq_true rfl) rfl rfl rfl ?_
      exact r_iret dX5_seen_94 rfl
    · have hp := hp.2 h_3
      refine r_icmp_ge_f MF.bs (tgt := 79) dX5_seen_30 (by decide) h_3 ?_
      obtain ⟨hq_5, hp⟩ := hp
      refine r_aload_n MF.bs dX5_seen_33 rfl 0 rfl ?_
      refine r_iload_n MF.bs dX5_seen_34 rfl 2 rfl ?_
      refine r_iload_n MF.bs dX5_seen_35 rfl 1 rfl ?_
      refine r_aload_n MF.bs dX5_seen_36 rfl 0 rfl ?_
      refine r_getR MF.bs dX5_seen_37 rfl rfl 8 (by decide) wd_261 rfl ?_
      refine r_callV_n MF.bs (st := []) dX5_seen_40 (ctX5_tryWalk 29 61 rfl v2 v1 M hq_5) miX5_tryWalk wd_631 rfl (by decide) rfl (Nat.le_of_ble_eq_true rfl) rfl rfl rfl ?_
      exact cX5_seen_43 M0 (mX5_seen_22 n) (PX5_seen_22 n) ih v1 v2 (mX5_tryWalk 29 61 v2 v1 M) hp
def mX5_seen_20   (v1 : Int32) (M : Mem) : Int32 × Mem := (mX5_seen_22 400 v1 0 M)
def PX5_seen_20   (v1 : Int32) (M : Mem) : Prop := PX5_seen_22 400 v1 0 M
set_option maxRecDepth 100000 in
theorem cX5_seen_20    (M0 : Mem) (v1 : Int32) (M : Mem) (hp : PX5_seen_20 v1 M) : AWP (GIM mtX5_seen 6 M0 (mX5_seen_20 v1 M)) mtX5_seen 20 [(0, .ref 0), (1, .int v1)] [] M := by
  unfold mX5_seen_20
  unfold PX5_seen_20 at hp
  refine r_iconst MF.bs dX5_seen_20 (v := 0) (by decide) ?_
  refine r_istore_n MF.bs (lv' := [(2, .int 0), (0, .ref 0), (1, .int v1)]) dX5_seen_21 rfl (by decide) rfl ?_
  refine r_sub [(0, .ref 0), (1, .int v1), (2, .int 0)] [1, 2, 0] rfl ?_
  exact cX5_seen_22 M0 400 v1 0 M hp
def mX5_seen  (a1 : Int32) (M : Mem) : Int32 × Mem := (if (mX5_isWithin a1 0 30) = true then (mX5_seen_20 a1 (mJ7_fill_53178 32 16 0 M)) else ((-1), M))
def PX5_seen  (a1 : Int32) (M : Mem) : Prop := ((mX5_isWithin a1 0 30) = true → PJ7_fill_53178 32 16 0 M ∧ (PX5_seen_20 a1 (mJ7_fill_53178 32 16 0 M)))
set_option maxRecDepth 100000 in
theorem ctX5_seen   (a1 : Int32) (M : Mem) (hp : PX5_seen a1 M) : CT mtX5_seen 6 [.ref 0, .int a1] M (some (.int ((mX5_seen a1 M).1)), (mX5_seen a1 M).2) := by
  refine CT.of (by decide) rfl (Nat.le_of_ble_eq_true rfl) ?_
  show AWP (GIM mtX5_seen 6 M (mX5_seen a1 M)) mtX5_seen 0 [(0, .ref 0), (1, .int a1)] [] M
  unfold mX5_seen
  unfold PX5_seen at hp
  refine r_iload_n MF.bs dX5_seen_0 rfl 1 rfl ?_
  refine r_iconst MF.bs dX5_seen_1 (v := 0) (by decide) ?_
  refine r_bipush MF.bs dX5_seen_2 (v := 30) (by decide) ?_
  refine r_callS_v MF.bs (st := []) dX5_seen_4 (ctX5_isWithin a1 0 30 M) miX5_isWithin wd_303 rfl (by decide) rfl (Nat.le_of_ble_eq_true rfl) ?_
  refine r_ite (GIM mtX5_seen 6 M) (fun h_1 => ?_) (fun h_1 => ?_)
  · have hp := hp h_1
    refine r_if_ne_t MF.bs (tgt := 12) dX5_seen_7 (by decide) (b2i_1 h_1) ?_
    obtain ⟨hq_2, hp⟩ := hp
    refine r_aload_n MF.bs dX5_seen_12 rfl 0 rfl ?_
    refine r_getR MF.bs dX5_seen_13 rfl rfl 11 (by decide) wd_264 rfl ?_
    refine r_iconst MF.bs dX5_seen_16 (v := 0) (by decide) ?_
    refine r_callS_n MF.bs (st := []) dX5_seen_17 (ctJ7_fill_53178 32 16 rfl 0 M hq_2) miJ7_fill_53178 wd_677 rfl (by decide) rfl (Nat.le_of_ble_eq_true rfl) ?_
    exact cX5_seen_20 M a1 (mJ7_fill_53178 32 16 0 M) hp
  · refine r_if_ne_f MF.bs (tgt := 12) dX5_seen_7 (by decide) (b2i_0 h_1) ?_
    refine r_iconst MF.bs dX5_seen_10 (v := -1) (by decide) ?_
    exact r_iret dX5_seen_11 rfl
abbrev mtX5_isIn : MT := (RX5, yX5_isIn, cX5_isIn, 2, (some .boolean))
theorem miX5_isIn : MS mtX5_isIn 2 := ⟨wd_689, wd_688, wd_79, ⟨by decide, by decide, by decide +kernel⟩, by decide⟩
def mX5_isIn  (a0 : Int32) (a1 : Int32) : Bool := (if ((((a0 : Int32).toUInt32 >>> ((a1 : Int32).toUInt32 &&& Int32.toUInt32 31)).toInt32) &&& 1) = 1 then true else false)
set_option maxRecDepth 100000 in
theorem ctX5_isIn   (a0 : Int32) (a1 : Int32) (M : Mem) : CT mtX5_isIn 0 [.int a0, .int a1] M (some (.int (b2i (mX5_isIn a0 a1))), M) := by
  refine CT.of (by decide) rfl (Nat.le_of_ble_eq_true rfl) ?_
  show AWP (GB mtX5_isIn 0 M M (mX5_isIn a0 a1)) mtX5_isIn 0 [(0, .int a0), (1, .int a1)] [] M
  unfold mX5_isIn
  refine r_iload_n MF.bs dX5_isIn_0 rfl 0 rfl ?_
  refine r_iload_n MF.bs dX5_isIn_1 rfl 1 rfl ?_
  refine r_iushr MF.bs dX5_isIn_2 ?_
  refine r_iconst MF.bs dX5_isIn_3 (v := 1) (by decide) ?_
  refine r_iand MF.bs dX5_isIn_4 ?_
  refine r_iconst MF.bs dX5_isIn_5 (v := 1) (by decide) ?_
  refine r_ite (GB mtX5_isIn 0 M M) (fun h_1 => ?_) (fun h_1 => ?_)
  · refine r_icmp_ne_f MF.bs (tgt := 13) dX5_isIn_6 (by decide) h_1 ?_
    refine r_iconst MF.bs dX5_isIn_9 (v := 1) (by decide) ?_
    refine r_goto MF.bs dX5_isIn_10 (tgt := 14) (by decide) ?_
    exact r_zret1 dX5_isIn_14 rfl
  · refine r_icmp_ne_t MF.bs (tgt := 13) dX5_isIn_6 (by decide) h_1 ?_
    refine r_iconst MF.bs dX5_isIn_13 (v := 0) (by decide) ?_
    exact r_zret0 dX5_isIn_14 rfl
abbrev mtX5_withNext : MT := (RX5, yX5_withNext, cX5_withNext, 3, (some .int))
theorem miX5_withNext : MS mtX5_withNext 1 := ⟨wd_692, wd_691, wd_79, ⟨by decide, by decide, by decide +kernel⟩, by decide⟩
def mX5_withNext  (a0 : Int32) : Int32 := (((((a0 ||| ((a0 &&& (-34953)) <<< (1 &&& 31))) ||| ((((a0 &&& (-4370)) : Int32).toUInt32 >>> ((1 : Int32).toUInt32 &&& Int32.toUInt32 31)).toInt32)) ||| (a0 <<< (4 &&& 31))) ||| (((a0 : Int32).toUInt32 >>> ((4 : Int32).toUInt32 &&& Int32.toUInt32 31)).toInt32)) &&& 65535)
set_option maxRecDepth 100000 in
theorem ctX5_withNext   (a0 : Int32) (M : Mem) : CT mtX5_withNext 0 [.int a0] M (some (.int (mX5_withNext a0)), M) := by
  refine CT.of (by decide) rfl (Nat.le_of_ble_eq_true rfl) ?_
  show AWP (GI mtX5_withNext 0 M M (mX5_withNext a0)) mtX5_withNext 0 [(0, .int a0)] [] M
  unfold mX5_withNext
  refine r_iload_n MF.bs dX5_withNext_0 rfl 0 rfl ?_
  refine r_ldcw MF.bs (v := -34953) dX5_withNext_1 wd_693 ?_
  refine r_iand MF.bs dX5_withNext_4 ?_
  refine r_iconst MF.bs dX5_withNext_5 (v := 1) (by decide) ?_
  refine r_ishl MF.bs dX5_withNext_6 ?_
  refine r_istore_n MF.bs (lv' := [(1, .int ((a0 &&& (-34953)) <<< (1 &&& 31))), (0, .int a0)]) dX5_withNext_7 rfl (by decide) rfl ?_
  refine r_iload_n MF.bs dX5_withNext_8 rfl 1 rfl ?_
  refine r_sipush MF.bs dX5_withNext_9 (v := -4370) (by decide) ?_
  refine r_iand MF.bs dX5_withNext_12 ?_
  refine r_iconst MF.bs dX5_withNext_13 (v := 1) (by decide) ?_
  refine r_iushr MF.bs dX5_withNext_14 ?_
  refine r_istore_n MF.bs (lv' := [(2, .int ((((a0 &&& (-4370)) : Int32).toUInt32 >>> ((1 : Int32).toUInt32 &&& Int32.toUInt32 31)).toInt32)), (1, .int ((a0 &&& (-34953)) <<< (1 &&& 31))), (0, .int a0)]) dX5_withNext_15 rfl (by decide) rfl ?_
  refine r_iload_n MF.bs dX5_withNext_16 rfl 2 rfl ?_
  refine r_iload_n MF.bs dX5_withNext_17 rfl 1 rfl ?_
  refine r_ior MF.bs dX5_withNext_18 ?_
  refine r_iload_n MF.bs dX5_withNext_19 rfl 0 rfl ?_
  refine r_ior MF.bs dX5_withNext_20 ?_
  refine r_iload_n MF.bs dX5_withNext_21 rfl 2 rfl ?_
  refine r_iconst MF.bs dX5_withNext_22 (v := 4) (by decide) ?_
  refine r_ishl MF.bs dX5_withNext_23 ?_
  refine r_ior MF.bs dX5_withNext_24 ?_
  refine r_iload_n MF.bs dX5_withNext_25 rfl 2 rfl ?_
  refine r_iconst MF.bs dX5_withNext_26 (v := 4) (by decide) ?_
  refine r_iushr MF.bs dX5_withNext_27 ?_
  refine r_ior MF.bs dX5_withNext_28 ?_
  refine r_ldc MF.bs (v := 65535) dX5_withNext_29 wd_686 ?_
  refine r_iand MF.bs dX5_withNext_31 ?_
  exact r_iret dX5_withNext_32 rfl
abbrev mtX5_dryWay : MT := (RX5, yX5_dryWay, cX5_dryWay, 6, (some .int))
theorem miX5_dryWay : MV mtX5_dryWay 2 := ⟨wd_685, ⟨wd_683, wd_684⟩, wd_79, ⟨by decide, by decide, by decide +kernel⟩, by decide⟩
def mX5_dryWay_48   : Nat → Int32 → Int32 → Int32 → Int32 → Mem → Int32
  | 0, _, _, _, _, _ => 0
  | n + 1, v2, v3, v4, v5, M => (if 16 ≤ v5 then (-3) else (if (mX5_isIn v4 v2) = true then v5 else (mX5_dryWay_48 n v2 v3 ((mX5_withNext v4) &&& v3) (v5 + 1) M)))
def PX5_dryWay_48   : Nat → Int32 → Int32 → Int32 → Int32 → Mem → Prop
  | 0, _, _, _, _, _ => False
  | n + 1, v2, v3, v4, v5, M => (¬ 16 ≤ v5 → (¬ (mX5_isIn v4 v2) = true → PX5_dryWay_48 n v2 v3 ((mX5_withNext v4) &&& v3) (v5 + 1) M))
set_option maxRecDepth 100000 in
theorem cX5_dryWay_48    : ∀ (n : Nat) (v2 : Int32) (v3 : Int32) (v4 : Int32) (v5 : Int32) (M : Mem), PX5_dryWay_48 n v2 v3 v4 v5 M → AWP (GI mtX5_dryWay 2 M M (mX5_dryWay_48 n v2 v3 v4 v5 M)) mtX5_dryWay 48 [(2, .int v2), (3, .int v3), (4, .int v4), (5, .int v5)] [] M := by
  intro n
  induction n with
  | zero =>
    intro v2 v3 v4 v5 M hp
    exact hp.elim
  | succ n ih =>
    intro v2 v3 v4 v5 M hp
    rw [mX5_dryWay_48]
    rw [PX5_dryWay_48] at hp
    refine r_iload MF.bs dX5_dryWay_48 3 rfl ?_
    refine r_bipush MF.bs dX5_dryWay_50 (v := 16) (by decide) ?_
    refine r_ite (GI mtX5_dryWay 2 M M) (fun h_4 => ?_) (fun h_4 => ?_)
    · refine r_icmp_ge_t MF.bs (tgt := 82) dX5_dryWay_52 (by decide) h_4 ?_
      refine r_bipush MF.bs dX5_dryWay_82 (v := -3) (by decide) ?_
      exact r_iret dX5_dryWay_84 rfl
    · have hp := hp h_4
      refine r_icmp_ge_f MF.bs (tgt := 82) dX5_dryWay_52 (by decide) h_4 ?_
      refine r_iload MF.bs dX5_dryWay_55 2 rfl ?_
      refine r_iload_n MF.bs dX5_dryWay_57 rfl 0 rfl ?_
      refine r_callS_v MF.bs (st := []) dX5_dryWay_58 (ctX5_isIn v4 v2 M) miX5_isIn wd_687 rfl (by decide) rfl (Nat.le_of_ble_eq_true rfl) ?_
      refine r_ite (GI mtX5_dryWay 2 M M) (fun h_5 => ?_) (fun h_5 => ?_)
      · refine r_if_eq_f MF.bs (tgt := 67) dX5_dryWay_61 (by decide) (b2i_1 h_5) ?_
        refine r_iload MF.bs dX5_dryWay_64 3 rfl ?_
        exact r_iret dX5_dryWay_66 rfl
      · have hp := hp h_5
        refine r_if_eq_t MF.bs (tgt := 67) dX5_dryWay_61 (by decide) (b2i_0 h_5) ?_
        refine r_iload MF.bs dX5_dryWay_67 2 rfl ?_
        refine r_callS_v MF.bs (st := []) dX5_dryWay_69 (ctX5_withNext v4 M) miX5_withNext wd_690 rfl (by decide) rfl (Nat.le_of_ble_eq_true rfl) ?_
        refine r_iload_n MF.bs dX5_dryWay_72 rfl 1 rfl ?_
        refine r_iand MF.bs dX5_dryWay_73 ?_
        refine r_istore MF.bs (lv' := [(4, .int ((mX5_withNext v4) &&& v3)), (2, .int v2), (3, .int v3), (5, .int v5)]) dX5_dryWay_74 (by decide) rfl ?_
        refine r_iinc MF.bs (v := (v5 + 1)) (lv' := [(5, .int (v5 + 1)), (4, .int ((mX5_withNext v4) &&& v3)), (2, .int v2), (3, .int v3)]) dX5_dryWay_76 3 rfl rfl (by decide) rfl ?_
        refine r_goto MF.bs dX5_dryWay_79 (tgt := 48) (by decide) ?_
        refine r_sub [(2, .int v2), (3, .int v3), (4, .int ((mX5_withNext v4) &&& v3)), (5, .int (v5 + 1))] [2, 3, 1, 0] rfl ?_
        exact ih v2 v3 ((mX5_withNext v4) &&& v3) (v5 + 1) M hp
def mX5_dryWay  (a1 : Int32) (a2 : Int32) (M : Mem) : Int32 := (if (mX5_isHouse a1) = true then (if (mX5_isHouse a2) = true then (mX5_dryWay_48 400 a2 (65535 &&& ((mX4_housesWetBy 1 (M 2 1) M) ^^^ (-1))) ((1 <<< (a1 &&& 31)) &&& (65535 &&& ((mX4_housesWetBy 1 (M 2 1) M) ^^^ (-1)))) 0 M) else (-1)) else (-1))
def PX5_dryWay  (a1 : Int32) (a2 : Int32) (M : Mem) : Prop := ((mX5_isHouse a1) = true → ((mX5_isHouse a2) = true → PX4_housesWetBy 1 (M 2 1) M ∧ (PX5_dryWay_48 400 a2 (65535 &&& ((mX4_housesWetBy 1 (M 2 1) M) ^^^ (-1))) ((1 <<< (a1 &&& 31)) &&& (65535 &&& ((mX4_housesWetBy 1 (M 2 1) M) ^^^ (-1)))) 0 M)))
set_option maxRecDepth 100000 in
theorem ctX5_dryWay   (a1 : Int32) (a2 : Int32) (M : Mem) (hp : PX5_dryWay a1 a2 M) : CT mtX5_dryWay 2 [.ref 0, .int a1, .int a2] M (some (.int (mX5_dryWay a1 a2 M)), M) := by
  refine CT.of (by decide) rfl (Nat.le_of_ble_eq_true rfl) ?_
  show AWP (GI mtX5_dryWay 2 M M (mX5_dryWay a1 a2 M)) mtX5_dryWay 0 [(0, .ref 0), (1, .int a1), (2, .int a2)] [] M
  unfold mX5_dryWay
  unfold PX5_dryWay at hp
  refine r_iload_n MF.bs dX5_dryWay_0 rfl 1 rfl ?_
  refine r_callS_v MF.bs (st := []) dX5_dryWay_1 (ctX5_isHouse a1 M) miX5_isHouse wd_482 rfl (by decide) rfl (Nat.le_of_ble_eq_true rfl) ?_
  refine r_ite (GI mtX5_dryWay 2 M M) (fun h_1 => ?_) (fun h_1 => ?_)
  · have hp := hp h_1
    refine r_if_eq_f MF.bs (tgt := 14) dX5_dryWay_4 (by decide) (b2i_1 h_1) ?_
    refine r_iload_n MF.bs dX5_dryWay_7 rfl 2 rfl ?_
    refine r_callS_v MF.bs (st := []) dX5_dryWay_8 (ctX5_isHouse a2 M) miX5_isHouse wd_482 rfl (by decide) rfl (Nat.le_of_ble_eq_true rfl) ?_
    refine r_ite (GI mtX5_dryWay 2 M M) (fun h_2 => ?_) (fun h_2 => ?_)
    · have hp := hp h_2
      refine r_if_ne_t MF.bs (tgt := 16) dX5_dryWay_11 (by decide) (b2i_1 h_2) ?_
      obtain ⟨hq_3, hp⟩ := hp
      refine r_ldc MF.bs (v := 65535) dX5_dryWay_16 wd_686 ?_
      refine r_aload_n MF.bs dX5_dryWay_18 rfl 0 rfl ?_
      refine r_getR MF.bs dX5_dryWay_19 rfl rfl 0 (by decide) wd_253 rfl ?_
      refine r_aload_n MF.bs dX5_dryWay_22 rfl 0 rfl ?_
      refine r_getR MF.bs dX5_dryWay_23 rfl rfl 0 (by decide) wd_253 rfl ?_
      refine r_getR MF.bs dX5_dryWay_26 rfl rfl 0 (by decide) wd_114 rfl ?_
      refine r_iconst MF.bs dX5_dryWay_29 (v := 1) (by decide) ?_
      refine r_ialoadL MF.bs dX5_dryWay_30 rfl (vin_l (by decide) (by decide)) (k9 := 1) (by decide) ?_
      refine r_callV_v MF.bs (st := [.int 65535]) dX5_dryWay_31 (ctX4_housesWetBy 1 (Or.inl rfl) (M 2 1) M hq_3) miX4_housesWetBy wd_623 rfl (by decide) rfl (Nat.le_of_ble_eq_true rfl) rfl rfl rfl ?_
      refine r_iconst MF.bs dX5_dryWay_34 (v := -1) (by decide) ?_
      refine r_ixor MF.bs dX5_dryWay_35 ?_
      refine r_iand MF.bs dX5_dryWay_36 ?_
      refine r_istore_n MF.bs (lv' := [(3, .int (65535 &&& ((mX4_housesWetBy 1 (M 2 1) M) ^^^ (-1)))), (0, .ref 0), (1, .int a1), (2, .int a2)]) dX5_dryWay_37 rfl (by decide) rfl ?_
      refine r_iconst MF.bs dX5_dryWay_38 (v := 1) (by decide) ?_
      refine r_iload_n MF.bs dX5_dryWay_39 rfl 2 rfl ?_
      refine r_ishl MF.bs dX5_dryWay_40 ?_
      refine r_iload_n MF.bs dX5_dryWay_41 rfl 0 rfl ?_
      refine r_iand MF.bs dX5_dryWay_42 ?_
      refine r_istore MF.bs (lv' := [(4, .int ((1 <<< (a1 &&& 31)) &&& (65535 &&& ((mX4_housesWetBy 1 (M 2 1) M) ^^^ (-1))))), (3, .int (65535 &&& ((mX4_housesWetBy 1 (M 2 1) M) ^^^ (-1)))), (0, .ref 0), (1, .int a1), (2, .int a2)]) dX5_dryWay_43 (by decide) rfl ?_
      refine r_iconst MF.bs dX5_dryWay_45 (v := 0) (by decide) ?_
      refine r_istore MF.bs (lv' := [(5, .int 0), (4, .int ((1 <<< (a1 &&& 31)) &&& (65535 &&& ((mX4_housesWetBy 1 (M 2 1) M) ^^^ (-1))))), (3, .int (65535 &&& ((mX4_housesWetBy 1 (M 2 1) M) ^^^ (-1)))), (0, .ref 0), (1, .int a1), (2, .int a2)]) dX5_dryWay_46 (by decide) rfl ?_
      refine r_sub [(2, .int a2), (3, .int (65535 &&& ((mX4_housesWetBy 1 (M 2 1) M) ^^^ (-1)))), (4, .int ((1 <<< (a1 &&& 31)) &&& (65535 &&& ((mX4_housesWetBy 1 (M 2 1) M) ^^^ (-1))))), (5, .int 0)] [5, 2, 1, 0] rfl ?_
      exact cX5_dryWay_48 400 a2 (65535 &&& ((mX4_housesWetBy 1 (M 2 1) M) ^^^ (-1))) ((1 <<< (a1 &&& 31)) &&& (65535 &&& ((mX4_housesWetBy 1 (M 2 1) M) ^^^ (-1)))) 0 M hp
    · refine r_if_ne_f MF.bs (tgt := 16) dX5_dryWay_11 (by decide) (b2i_0 h_2) ?_
      refine r_iconst MF.bs dX5_dryWay_14 (v := -1) (by decide) ?_
      exact r_iret dX5_dryWay_15 rfl
  · refine r_if_eq_t MF.bs (tgt := 14) dX5_dryWay_4 (by decide) (b2i_0 h_1) ?_
    refine r_iconst MF.bs dX5_dryWay_14 (v := -1) (by decide) ?_
    exact r_iret dX5_dryWay_15 rfl
abbrev mtX5_fitsFrom : MT := (RX5, yX5_fitsFrom, cX5_fitsFrom, 5, (some .boolean))
theorem miX5_fitsFrom : MV mtX5_fitsFrom 3 := ⟨wd_709, ⟨wd_708, wd_22⟩, wd_79, ⟨by decide, by decide, by decide +kernel⟩, by decide⟩
def mX5_fitsFrom_81 (q3 : Nat)  (kf40 : Int32 → Mem → Bool × Mem) (v4 : Int32) (M : Mem) : Bool × Mem := (kf40 (v4 + 1) M)
def PX5_fitsFrom_81 (q3 : Nat)  (kP40 : Int32 → Mem → Prop) (v4 : Int32) (M : Mem) : Prop := kP40 (v4 + 1) M
set_option maxRecDepth 100000 in
theorem cX5_fitsFrom_81 (q3 : Nat) (h3 : QB q3)  (M0 : Mem) (kf40 : Int32 → Mem → Bool × Mem) (kP40 : Int32 → Mem → Prop) (hk40 : ∀ (v4 : Int32) (M : Mem), kP40 v4 M → AWP (GBM mtX5_fitsFrom 5 M0 (kf40 v4 M)) mtX5_fitsFrom 40 [(0, .ref 0), (3, .ref q3), (4, .int v4)] [] M) (v4 : Int32) (M : Mem) (hp : PX5_fitsFrom_81 q3 kP40 v4 M) : AWP (GBM mtX5_fitsFrom 5 M0 (mX5_fitsFrom_81 q3 kf40 v4 M)) mtX5_fitsFrom 81 [(0, .ref 0), (3, .ref q3), (4, .int v4)] [] M := by
  unfold mX5_fitsFrom_81
  unfold PX5_fitsFrom_81 at hp
  refine r_iinc MF.bs (v := (v4 + 1)) (lv' := [(4, .int (v4 + 1)), (0, .ref 0), (3, .ref q3)]) dX5_fitsFrom_81 2 rfl rfl (by decide) rfl ?_
  refine r_goto MF.bs dX5_fitsFrom_84 (tgt := 40) (by decide) ?_
  refine r_sub [(0, .ref 0), (3, .ref q3), (4, .int (v4 + 1))] [1, 2, 0] rfl ?_
  exact hk40 (v4 + 1) M hp
def mX5_fitsFrom_40 (q3 : Nat)  : Nat → Int32 → Mem → Bool × Mem
  | 0, _, M => (false, M)
  | n + 1, v4, M => (if (M q3 2) ≤ v4 then (true, M) else (if (M (q3 + 1) v4.toNatClampNeg) = (-1) then (mX5_fitsFrom_81 q3 (mX5_fitsFrom_40 q3 n) v4 M) else (if (M (q3 + 1) v4.toNatClampNeg) = (M 29 (v4 + 1).toNatClampNeg) then (mX5_fitsFrom_81 q3 (mX5_fitsFrom_40 q3 n) v4 M) else (false, M))))
def PX5_fitsFrom_40 (q3 : Nat)  : Nat → Int32 → Mem → Prop
  | 0, _, _ => False
  | n + 1, v4, M => (¬ (M q3 2) ≤ v4 → vp_in v4 40 ∧ ((((M (q3 + 1) v4.toNatClampNeg) = (-1) → PX5_fitsFrom_81 q3 (PX5_fitsFrom_40 q3 n) v4 M) ∧ (¬ (M (q3 + 1) v4.toNatClampNeg) = (-1) → vp_in v4 40 ∧ (vp_in (v4 + 1) 61 ∧ (((M (q3 + 1) v4.toNatClampNeg) = (M 29 (v4 + 1).toNatClampNeg) → PX5_fitsFrom_81 q3 (PX5_fitsFrom_40 q3 n) v4 M)))))))
set_option maxRecDepth 100000 in
theorem cX5_fitsFrom_40 (q3 : Nat) (h3 : QB q3)  (M0 : Mem) : ∀ (n : Nat) (v4 : Int32) (M : Mem), PX5_fitsFrom_40 q3 n v4 M → AWP (GBM mtX5_fitsFrom 5 M0 (mX5_fitsFrom_40 q3 n v4 M)) mtX5_fitsFrom 40 [(0, .ref 0), (3, .ref q3), (4, .int v4)] [] M := by
  intro n
  induction n with
  | zero =>
    intro v4 M hp
    exact hp.elim
  | succ n ih =>
    intro v4 M hp
    rw [mX5_fitsFrom_40]
    rw [PX5_fitsFrom_40] at hp
    refine r_iload MF.bs dX5_fitsFrom_40 2 rfl ?_
    refine r_aload_n MF.bs dX5_fitsFrom_42 rfl 1 rfl ?_
    refine r_getI MF.bs dX5_fitsFrom_43 (sh_q h3) rfl 2 (by decide) wd_223 rfl ?_
    refine r_ite (GBM mtX5_fitsFrom 5 M0) (fun h_4 => ?_) (fun h_4 => ?_)
    · refine r_icmp_ge_t MF.bs (tgt := 87) dX5_fitsFrom_46 (by decide) h_4 ?_
      refine r_iconst MF.bs dX5_fitsFrom_87 (v := 1) (by decide) ?_
      exact r_zret (v := 1) dX5_fitsFrom_88 rfl rfl
    · have hp := hp h_4
      refine r_icmp_ge_f MF.bs (tgt := 87) dX5_fitsFrom_46 (by decide) h_4 ?_
      obtain ⟨hq_5, hp⟩ := hp
      refine r_aload_n MF.bs dX5_fitsFrom_49 rfl 1 rfl ?_
      refine r_getR MF.bs dX5_fitsFrom_50 (sh_q h3) rfl 0 (by decide) wd_217 rfl ?_
      refine r_iload MF.bs dX5_fitsFrom_53 2 rfl ?_
      refine r_iaload MF.bs dX5_fitsFrom_55 (sh_q1 h3) hq_5 ?_
      refine r_iconst MF.bs dX5_fitsFrom_56 (v := -1) (by decide) ?_
      refine r_ite (GBM mtX5_fitsFrom 5 M0) (fun h_6 => ?_) (fun h_6 => ?_)
      · have hp := hp.1 h_6
        refine r_icmp_eq_t MF.bs (tgt := 81) dX5_fitsFrom_57 (by decide) h_6 ?_
        exact cX5_fitsFrom_81 q3 h3 M0 (mX5_fitsFrom_40 q3 n) (PX5_fitsFrom_40 q3 n) ih v4 M hp
      · have hp := hp.2 h_6
        refine r_icmp_eq_f MF.bs (tgt := 81) dX5_fitsFrom_57 (by decide) h_6 ?_
        obtain ⟨hq_7, hp⟩ := hp
        obtain ⟨hq_8, hp⟩ := hp
        refine r_aload_n MF.bs dX5_fitsFrom_60 rfl 1 rfl ?_
        refine r_getR MF.bs dX5_fitsFrom_61 (sh_q h3) rfl 0 (by decide) wd_217 rfl ?_
        refine r_iload MF.bs dX5_fitsFrom_64 2 rfl ?_
        refine r_iaload MF.bs dX5_fitsFrom_66 (sh_q1 h3) hq_7 ?_
        refine r_aload_n MF.bs dX5_fitsFrom_67 rfl 0 rfl ?_
        refine r_getR MF.bs dX5_fitsFrom_68 rfl rfl 8 (by decide) wd_261 rfl ?_
        refine r_iload MF.bs dX5_fitsFrom_71 2 rfl ?_
        refine r_iconst MF.bs dX5_fitsFrom_73 (v := 1) (by decide) ?_
        refine r_iadd MF.bs dX5_fitsFrom_74 ?_
        refine r_iaload MF.bs dX5_fitsFrom_75 rfl hq_8 ?_
        refine r_ite (GBM mtX5_fitsFrom 5 M0) (fun h_9 => ?_) (fun h_9 => ?_)
        · have hp := hp h_9
          refine r_icmp_eq_t MF.bs (tgt := 81) dX5_fitsFrom_76 (by decide) h_9 ?_
          exact cX5_fitsFrom_81 q3 h3 M0 (mX5_fitsFrom_40 q3 n) (PX5_fitsFrom_40 q3 n) ih v4 M hp
        · refine r_icmp_eq_f MF.bs (tgt := 81) dX5_fitsFrom_76 (by decide) h_9 ?_
          refine r_iconst MF.bs dX5_fitsFrom_79 (v := 0) (by decide) ?_
          exact r_zret (v := 0) dX5_fitsFrom_80 rfl rfl
def mX5_fitsFrom_37 (q3 : Nat)  (M : Mem) : Bool × Mem := (mX5_fitsFrom_40 q3 400 0 M)
def PX5_fitsFrom_37 (q3 : Nat)  (M : Mem) : Prop := PX5_fitsFrom_40 q3 400 0 M
set_option maxRecDepth 100000 in
theorem cX5_fitsFrom_37 (q3 : Nat) (h3 : QB q3)  (M0 : Mem) (M : Mem) (hp : PX5_fitsFrom_37 q3 M) : AWP (GBM mtX5_fitsFrom 5 M0 (mX5_fitsFrom_37 q3 M)) mtX5_fitsFrom 37 [(0, .ref 0), (3, .ref q3)] [] M := by
  unfold mX5_fitsFrom_37
  unfold PX5_fitsFrom_37 at hp
  refine r_iconst MF.bs dX5_fitsFrom_37 (v := 0) (by decide) ?_
  refine r_istore MF.bs (lv' := [(4, .int 0), (0, .ref 0), (3, .ref q3)]) dX5_fitsFrom_38 (by decide) rfl ?_
  refine r_sub [(0, .ref 0), (3, .ref q3), (4, .int 0)] [1, 2, 0] rfl ?_
  exact cX5_fitsFrom_40 q3 h3 M0 400 0 M hp
def mX5_fitsFrom_11 (q3 : Nat)  (v1 : Int32) (v2 : Int32) (M : Mem) : Bool × Mem := (mX5_fitsFrom_37 q3 (mX4_walk 15 29 61 v2 ((upm M 21 v2.toNatClampNeg v1) q3 2) (upm M 21 v2.toNatClampNeg v1)))
def PX5_fitsFrom_11 (q3 : Nat)  (v1 : Int32) (v2 : Int32) (M : Mem) : Prop := vp_in v2 8 ∧ (PX4_walk 15 29 61 v2 ((upm M 21 v2.toNatClampNeg v1) q3 2) (upm M 21 v2.toNatClampNeg v1) ∧ (PX5_fitsFrom_37 q3 (mX4_walk 15 29 61 v2 ((upm M 21 v2.toNatClampNeg v1) q3 2) (upm M 21 v2.toNatClampNeg v1))))
set_option maxRecDepth 100000 in
theorem cX5_fitsFrom_11 (q3 : Nat) (h3 : QB q3)  (M0 : Mem) (v1 : Int32) (v2 : Int32) (M : Mem) (hp : PX5_fitsFrom_11 q3 v1 v2 M) : AWP (GBM mtX5_fitsFrom 5 M0 (mX5_fitsFrom_11 q3 v1 v2 M)) mtX5_fitsFrom 11 [(0, .ref 0), (1, .int v1), (2, .int v2), (3, .ref q3)] [] M := by
  unfold mX5_fitsFrom_11
  unfold PX5_fitsFrom_11 at hp
  obtain ⟨hq_2, hp⟩ := hp
  obtain ⟨hq_3, hp⟩ := hp
  refine r_aload_n MF.bs dX5_fitsFrom_11 rfl 0 rfl ?_
  refine r_getR MF.bs dX5_fitsFrom_12 rfl rfl 2 (by decide) wd_255 rfl ?_
  refine r_getR MF.bs dX5_fitsFrom_15 rfl rfl 5 (by decide) wd_126 rfl ?_
  refine r_iload_n MF.bs dX5_fitsFrom_18 rfl 2 rfl ?_
  refine r_iload_n MF.bs dX5_fitsFrom_19 rfl 1 rfl ?_
  refine r_iastore MF.bs dX5_fitsFrom_20 rfl hq_2 ?_
  refine r_aload_n MF.bs dX5_fitsFrom_21 rfl 0 rfl ?_
  refine r_getR MF.bs dX5_fitsFrom_22 rfl rfl 2 (by decide) wd_255 rfl ?_
  refine r_iload_n MF.bs dX5_fitsFrom_25 rfl 2 rfl ?_
  refine r_aload_n MF.bs dX5_fitsFrom_26 rfl 3 rfl ?_
  refine r_getI MF.bs dX5_fitsFrom_27 (sh_q h3) rfl 2 (by decide) wd_223 rfl ?_
  refine r_aload_n MF.bs dX5_fitsFrom_30 rfl 0 rfl ?_
  refine r_getR MF.bs dX5_fitsFrom_31 rfl rfl 8 (by decide) wd_261 rfl ?_
  refine r_callV_n MF.bs (st := []) dX5_fitsFrom_34 (ctX4_walk 15 29 61 (Or.inr (Or.inr rfl)) rfl v2 ((upm M 21 v2.toNatClampNeg v1) q3 2) (upm M 21 v2.toNatClampNeg v1) hq_3) miX4_walk wd_635 rfl (by decide) rfl (Nat.le_of_ble_eq_true rfl) rfl rfl rfl ?_
  refine r_sub [(0, .ref 0), (3, .ref q3)] [0, 3] rfl ?_
  exact cX5_fitsFrom_37 q3 h3 M0 (mX4_walk 15 29 61 v2 ((upm M 21 v2.toNatClampNeg v1) q3 2) (upm M 21 v2.toNatClampNeg v1)) hp
def mX5_fitsFrom (q3 : Nat) (a1 : Int32) (a2 : Int32) (M : Mem) : Bool × Mem := (mX5_fitsFrom_11 q3 a1 a2 (mX4_become 15 1 M))
def PX5_fitsFrom (q3 : Nat) (a1 : Int32) (a2 : Int32) (M : Mem) : Prop := PX4_become 15 1 M ∧ (PX5_fitsFrom_11 q3 a1 a2 (mX4_become 15 1 M))
set_option maxRecDepth 100000 in
theorem ctX5_fitsFrom (q3 : Nat) (h3 : QB q3) (a1 : Int32) (a2 : Int32) (M : Mem) (hp : PX5_fitsFrom q3 a1 a2 M) : CT mtX5_fitsFrom 5 [.ref 0, .int a1, .int a2, .ref q3] M (some (.int (b2i ((mX5_fitsFrom q3 a1 a2 M).1))), (mX5_fitsFrom q3 a1 a2 M).2) := by
  refine CT.of (by decide) rfl (Nat.le_of_ble_eq_true rfl) ?_
  show AWP (GBM mtX5_fitsFrom 5 M (mX5_fitsFrom q3 a1 a2 M)) mtX5_fitsFrom 0 [(0, .ref 0), (1, .int a1), (2, .int a2), (3, .ref q3)] [] M
  unfold mX5_fitsFrom
  unfold PX5_fitsFrom at hp
  obtain ⟨hq_1, hp⟩ := hp
  refine r_aload_n MF.bs dX5_fitsFrom_0 rfl 0 rfl ?_
  refine r_getR MF.bs dX5_fitsFrom_1 rfl rfl 2 (by decide) wd_255 rfl ?_
  refine r_aload_n MF.bs dX5_fitsFrom_4 rfl 0 rfl ?_
  refine r_getR MF.bs dX5_fitsFrom_5 rfl rfl 0 (by decide) wd_253 rfl ?_
  refine r_callV_n MF.bs (st := []) dX5_fitsFrom_8 (ctX4_become 15 1 (Or.inr (Or.inr rfl)) (Or.inl rfl) M hq_1) miX4_become wd_454 rfl (by decide) rfl (Nat.le_of_ble_eq_true rfl) rfl rfl rfl ?_
  exact cX5_fitsFrom_11 q3 h3 M a1 a2 (mX4_become 15 1 M) hp
abbrev mtX5_fits : MT := (RX5, yX5_fits, cX5_fits, 8, (some .int))
theorem miX5_fits : MV mtX5_fits 3 := ⟨wd_697, ⟨wd_695, wd_696⟩, wd_79, ⟨by decide, by decide, by decide +kernel⟩, by decide⟩
def mX5_fits_80  (a1 : Int32) (kf56 : Int32 → Int32 → Int32 → Int32 → Int32 → Mem → Int32 × Mem) (v2 : Int32) (v3 : Int32) (v5 : Int32) (v6 : Int32) (v7 : Int32) (M : Mem) : Int32 × Mem := (kf56 v2 v3 v5 v6 (v7 + (-1)) M)
def PX5_fits_80  (a1 : Int32) (kP56 : Int32 → Int32 → Int32 → Int32 → Int32 → Mem → Prop) (v2 : Int32) (v3 : Int32) (v5 : Int32) (v6 : Int32) (v7 : Int32) (M : Mem) : Prop := kP56 v2 v3 v5 v6 (v7 + (-1)) M
set_option maxRecDepth 100000 in
theorem cX5_fits_80   (a1 : Int32) (hx_a1 : 0 ≤ a1 ∧ a1 ≤ 3) (M0 : Mem) (kf56 : Int32 → Int32 → Int32 → Int32 → Int32 → Mem → Int32 × Mem) (kP56 : Int32 → Int32 → Int32 → Int32 → Int32 → Mem → Prop) (hk56 : ∀ (v2 : Int32) (v3 : Int32) (v5 : Int32) (v6 : Int32) (v7 : Int32) (M : Mem), kP56 v2 v3 v5 v6 v7 M → AWP (GIM mtX5_fits 6 M0 (kf56 v2 v3 v5 v6 v7 M)) mtX5_fits 56 [(0, .ref 0), (2, .int v2), (3, .int v3), (4, .ref (qpl a1)), (5, .int v5), (6, .int v6), (7, .int v7)] [] M) (v2 : Int32) (v3 : Int32) (v5 : Int32) (v6 : Int32) (v7 : Int32) (M : Mem) (hp : PX5_fits_80 a1 kP56 v2 v3 v5 v6 v7 M) : AWP (GIM mtX5_fits 6 M0 (mX5_fits_80 a1 kf56 v2 v3 v5 v6 v7 M)) mtX5_fits 80 [(0, .ref 0), (2, .int v2), (3, .int v3), (4, .ref (qpl a1)), (5, .int v5), (6, .int v6), (7, .int v7)] [] M := by
  unfold mX5_fits_80
  unfold PX5_fits_80 at hp
  refine r_iinc MF.bs (v := (v7 + (-1))) (lv' := [(7, .int (v7 + (-1))), (0, .ref 0), (2, .int v2), (3, .int v3), (4, .ref (qpl a1)), (5, .int v5), (6, .int v6)]) dX5_fits_80 6 rfl rfl (by decide) rfl ?_
  refine r_goto MF.bs dX5_fits_83 (tgt := 56) (by decide) ?_
  refine r_sub [(0, .ref 0), (2, .int v2), (3, .int v3), (4, .ref (qpl a1)), (5, .int v5), (6, .int v6), (7, .int (v7 + (-1)))] [1, 2, 3, 4, 5, 6, 0] rfl ?_
  exact hk56 v2 v3 v5 v6 (v7 + (-1)) M hp
def mX5_fits_70  (a1 : Int32) (kf56 : Int32 → Int32 → Int32 → Int32 → Int32 → Mem → Int32 × Mem) (v2 : Int32) (v3 : Int32) (v5 : Int32) (v6 : Int32) (v7 : Int32) (k0 : Int32) (M : Mem) : Int32 × Mem := (if k0 = 0 then (mX5_fits_80 a1 kf56 v2 v3 v5 v6 v7 M) else (mX5_fits_80 a1 kf56 v2 v3 (v5 + 1) v7 v7 M))
def PX5_fits_70  (a1 : Int32) (kP56 : Int32 → Int32 → Int32 → Int32 → Int32 → Mem → Prop) (v2 : Int32) (v3 : Int32) (v5 : Int32) (v6 : Int32) (v7 : Int32) (k0 : Int32) (M : Mem) : Prop := ((k0 = 0 → PX5_fits_80 a1 kP56 v2 v3 v5 v6 v7 M) ∧ (¬ k0 = 0 → PX5_fits_80 a1 kP56 v2 v3 (v5 + 1) v7 v7 M))
set_option maxRecDepth 100000 in
theorem cX5_fits_70   (a1 : Int32) (hx_a1 : 0 ≤ a1 ∧ a1 ≤ 3) (M0 : Mem) (kf56 : Int32 → Int32 → Int32 → Int32 → Int32 → Mem → Int32 × Mem) (kP56 : Int32 → Int32 → Int32 → Int32 → Int32 → Mem → Prop) (hk56 : ∀ (v2 : Int32) (v3 : Int32) (v5 : Int32) (v6 : Int32) (v7 : Int32) (M : Mem), kP56 v2 v3 v5 v6 v7 M → AWP (GIM mtX5_fits 6 M0 (kf56 v2 v3 v5 v6 v7 M)) mtX5_fits 56 [(0, .ref 0), (2, .int v2), (3, .int v3), (4, .ref (qpl a1)), (5, .int v5), (6, .int v6), (7, .int v7)] [] M) (v2 : Int32) (v3 : Int32) (v5 : Int32) (v6 : Int32) (v7 : Int32) (k0 : Int32) (M : Mem) (hp : PX5_fits_70 a1 kP56 v2 v3 v5 v6 v7 k0 M) : AWP (GIM mtX5_fits 6 M0 (mX5_fits_70 a1 kf56 v2 v3 v5 v6 v7 k0 M)) mtX5_fits 70 [(0, .ref 0), (2, .int v2), (3, .int v3), (4, .ref (qpl a1)), (5, .int v5), (6, .int v6), (7, .int v7)] [.int k0] M := by
  unfold mX5_fits_70
  unfold PX5_fits_70 at hp
  refine r_ite (GIM mtX5_fits 6 M0) (fun h_8 => ?_) (fun h_8 => ?_)
  · have hp := hp.1 h_8
    refine r_if_eq_t MF.bs (tgt := 80) dX5_fits_70 (by decide) h_8 ?_
    exact cX5_fits_80 a1 hx_a1 M0 kf56 kP56 hk56 v2 v3 v5 v6 v7 M hp
  · have hp := hp.2 h_8
    refine r_if_eq_f MF.bs (tgt := 80) dX5_fits_70 (by decide) h_8 ?_
    refine r_iinc MF.bs (v := (v5 + 1)) (lv' := [(5, .int (v5 + 1)), (0, .ref 0), (2, .int v2), (3, .int v3), (4, .ref (qpl a1)), (6, .int v6), (7, .int v7)]) dX5_fits_73 4 rfl rfl (by decide) rfl ?_
    refine r_iload MF.bs dX5_fits_76 6 rfl ?_
    refine r_istore MF.bs (lv' := [(6, .int v7), (5, .int (v5 + 1)), (0, .ref 0), (2, .int v2), (3, .int v3), (4, .ref (qpl a1)), (7, .int v7)]) dX5_fits_78 (by decide) rfl ?_
    refine r_sub [(0, .ref 0), (2, .int v2), (3, .int v3), (4, .ref (qpl a1)), (5, .int (v5 + 1)), (6, .int v7), (7, .int v7)] [2, 3, 4, 5, 1, 0, 6] rfl ?_
    exact cX5_fits_80 a1 hx_a1 M0 kf56 kP56 hk56 v2 v3 (v5 + 1) v7 v7 M hp
def mX5_fits_56  (a1 : Int32) : Nat → Int32 → Int32 → Int32 → Int32 → Int32 → Mem → Int32 × Mem
  | 0, _, _, _, _, _, M => (0, M)
  | n + 1, v2, v3, v5, v6, v7, M => (if v7 < 0 then (if v3 = 0 then (v5, M) else (v6, M)) else (mX5_fits_70 a1 (mX5_fits_56 a1 n) v2 v3 v5 v6 v7 (b2i ((mX5_fitsFrom (qpl a1) v7 v2 M).1)) ((mX5_fitsFrom (qpl a1) v7 v2 M).2)))
def PX5_fits_56  (a1 : Int32) : Nat → Int32 → Int32 → Int32 → Int32 → Int32 → Mem → Prop
  | 0, _, _, _, _, _, _ => False
  | n + 1, v2, v3, v5, v6, v7, M => (¬ v7 < 0 → PX5_fitsFrom (qpl a1) v7 v2 M ∧ (PX5_fits_70 a1 (PX5_fits_56 a1 n) v2 v3 v5 v6 v7 (b2i ((mX5_fitsFrom (qpl a1) v7 v2 M).1)) ((mX5_fitsFrom (qpl a1) v7 v2 M).2)))
set_option maxRecDepth 100000 in
theorem cX5_fits_56   (a1 : Int32) (hx_a1 : 0 ≤ a1 ∧ a1 ≤ 3) (M0 : Mem) : ∀ (n : Nat) (v2 : Int32) (v3 : Int32) (v5 : Int32) (v6 : Int32) (v7 : Int32) (M : Mem), PX5_fits_56 a1 n v2 v3 v5 v6 v7 M → AWP (GIM mtX5_fits 6 M0 (mX5_fits_56 a1 n v2 v3 v5 v6 v7 M)) mtX5_fits 56 [(0, .ref 0), (2, .int v2), (3, .int v3), (4, .ref (qpl a1)), (5, .int v5), (6, .int v6), (7, .int v7)] [] M := by
  intro n
  induction n with
  | zero =>
    intro v2 v3 v5 v6 v7 M hp
    exact hp.elim
  | succ n ih =>
    intro v2 v3 v5 v6 v7 M hp
    rw [mX5_fits_56]
    rw [PX5_fits_56] at hp
    refine r_iload MF.bs dX5_fits_56 6 rfl ?_
    refine r_ite (GIM mtX5_fits 6 M0) (fun h_5 => ?_) (fun h_5 => ?_)
    · refine r_if_lt_t MF.bs (tgt := 86) dX5_fits_58 (by decide) h_5 ?_
      refine r_iload_n MF.bs dX5_fits_86 rfl 2 rfl ?_
      refine r_ite (GIM mtX5_fits 6 M0) (fun h_6 => ?_) (fun h_6 => ?_)
      · refine r_if_ne_f MF.bs (tgt := 95) dX5_fits_87 (by decide) h_6 ?_
        refine r_iload MF.bs dX5_fits_90 4 rfl ?_
        refine r_goto MF.bs dX5_fits_92 (tgt := 97) (by decide) ?_
        exact r_iret dX5_fits_97 rfl
      · refine r_if_ne_t MF.bs (tgt := 95) dX5_fits_87 (by decide) h_6 ?_
        refine r_iload MF.bs dX5_fits_95 5 rfl ?_
        exact r_iret dX5_fits_97 rfl
    · have hp := hp h_5
      refine r_if_lt_f MF.bs (tgt := 86) dX5_fits_58 (by decide) h_5 ?_
      obtain ⟨hq_7, hp⟩ := hp
      refine r_aload_n MF.bs dX5_fits_61 rfl 0 rfl ?_
      refine r_iload MF.bs dX5_fits_62 6 rfl ?_
      refine r_iload_n MF.bs dX5_fits_64 rfl 1 rfl ?_
      refine r_aload MF.bs dX5_fits_65 3 rfl ?_
      refine r_callV_v MF.bs (st := []) dX5_fits_67 (ctX5_fitsFrom (qpl a1) (qpl_ok hx_a1) v7 v2 M hq_7) miX5_fitsFrom wd_706 rfl (by decide) rfl (Nat.le_of_ble_eq_true rfl) rfl rfl rfl ?_
      exact cX5_fits_70 a1 hx_a1 M0 (mX5_fits_56 a1 n) (PX5_fits_56 a1 n) ih v2 v3 v5 v6 v7 (b2i ((mX5_fitsFrom (qpl a1) v7 v2 M).1)) ((mX5_fitsFrom (qpl a1) v7 v2 M).2) hp
def mX5_fits  (a1 : Int32) (a2 : Int32) (a3 : Int32) (M : Mem) : Int32 × Mem := (if 0 ≤ a1 ∧ a1 ≤ 3 then (if (mX4_has 1 a2 M) = true then (if (mX5_isWithin a3 0 1) = true then (if (mX1_isMissing (qpl a1) M) = true then ((-11), M) else (mX5_fits_56 a1 400 a2 a3 0 (-3) 15 M)) else ((-1), M)) else ((-1), M)) else ((-1), M))
def PX5_fits  (a1 : Int32) (a2 : Int32) (a3 : Int32) (M : Mem) : Prop := (0 ≤ a1 ∧ a1 ≤ 3 → ((mX4_has 1 a2 M) = true → ((mX5_isWithin a3 0 1) = true → (¬ (mX1_isMissing (qpl a1) M) = true → PX5_fits_56 a1 400 a2 a3 0 (-3) 15 M))))
set_option maxRecDepth 100000 in
theorem ctX5_fits   (a1 : Int32) (a2 : Int32) (a3 : Int32) (M : Mem) (hp : PX5_fits a1 a2 a3 M) : CT mtX5_fits 6 [.ref 0, .int a1, .int a2, .int a3] M (some (.int ((mX5_fits a1 a2 a3 M).1)), (mX5_fits a1 a2 a3 M).2) := by
  refine CT.of (by decide) rfl (Nat.le_of_ble_eq_true rfl) ?_
  show AWP (GIM mtX5_fits 6 M (mX5_fits a1 a2 a3 M)) mtX5_fits 0 [(0, .ref 0), (1, .int a1), (2, .int a2), (3, .int a3)] [] M
  unfold mX5_fits
  unfold PX5_fits at hp
  refine r_aload_n MF.bs dX5_fits_0 rfl 0 rfl ?_
  refine r_iload_n MF.bs dX5_fits_1 rfl 1 rfl ?_
  refine r_ite (GIM mtX5_fits 6 M) (fun h_1 => ?_) (fun h_1 => ?_)
  · have hp := hp h_1
    refine r_callV_v MF.bs (st := []) dX5_fits_2 (ctX5_sheetAt_in a1 M h_1) miX5_sheetAt wd_698 rfl (by decide) rfl (Nat.le_of_ble_eq_true rfl) rfl rfl rfl ?_
    refine r_astore MF.bs (lv' := [(4, .ref (qpl a1)), (0, .ref 0), (1, .int a1), (2, .int a2), (3, .int a3)]) dX5_fits_5 (by decide) rfl ?_
    refine r_aload MF.bs dX5_fits_7 0 rfl ?_
    refine r_ifnull MF.bs dX5_fits_9 ?_
    refine r_aload_n MF.bs dX5_fits_12 rfl 1 rfl ?_
    refine r_getR MF.bs dX5_fits_13 rfl rfl 0 (by decide) wd_253 rfl ?_
    refine r_iload_n MF.bs dX5_fits_16 rfl 3 rfl ?_
    refine r_callV_v MF.bs (st := []) dX5_fits_17 (ctX4_has 1 (Or.inl rfl) a2 M) miX4_has wd_490 rfl (by decide) rfl (Nat.le_of_ble_eq_true rfl) rfl rfl rfl ?_
    refine r_ite (GIM mtX5_fits 6 M) (fun h_2 => ?_) (fun h_2 => ?_)
    · have hp := hp h_2
      refine r_if_eq_f MF.bs (tgt := 32) dX5_fits_20 (by decide) (b2i_1 h_2) ?_
      refine r_iload_n MF.bs dX5_fits_23 rfl 4 rfl ?_
      refine r_iconst MF.bs dX5_fits_24 (v := 0) (by decide) ?_
      refine r_iconst MF.bs dX5_fits_25 (v := 1) (by decide) ?_
      refine r_callS_v MF.bs (st := []) dX5_fits_26 (ctX5_isWithin a3 0 1 M) miX5_isWithin wd_303 rfl (by decide) rfl (Nat.le_of_ble_eq_true rfl) ?_
      refine r_ite (GIM mtX5_fits 6 M) (fun h_3 => ?_) (fun h_3 => ?_)
      · have hp := hp h_3
        refine r_if_ne_t MF.bs (tgt := 34) dX5_fits_29 (by decide) (b2i_1 h_3) ?_
        refine r_aload MF.bs dX5_fits_34 0 rfl ?_
        refine r_callV_v MF.bs (st := []) dX5_fits_36 (ctX1_isMissing (qpl a1) (qpl_ok h_1) M) miX1_isMissing wd_702 rfl (by decide) rfl (Nat.le_of_ble_eq_true rfl) (sh_q (qpl_ok h_1)) rfl rfl ?_
        refine r_ite (GIM mtX5_fits 6 M) (fun h_4 => ?_) (fun h_4 => ?_)
        · refine r_if_eq_f MF.bs (tgt := 45) dX5_fits_39 (by decide) (b2i_1 h_4) ?_
          refine r_bipush MF.bs dX5_fits_42 (v := -11) (by decide) ?_
          exact r_iret dX5_fits_44 rfl
        · have hp := hp h_4
          refine r_if_eq_t MF.bs (tgt := 45) dX5_fits_39 (by decide) (b2i_0 h_4) ?_
          refine r_iconst MF.bs dX5_fits_45 (v := 0) (by decide) ?_
          refine r_istore MF.bs (lv' := [(5, .int 0), (4, .ref (qpl a1)), (0, .ref 0), (1, .int a1), (2, .int a2), (3, .int a3)]) dX5_fits_46 (by decide) rfl ?_
          refine r_bipush MF.bs dX5_fits_48 (v := -3) (by decide) ?_
          refine r_istore MF.bs (lv' := [(6, .int (-3)), (5, .int 0), (4, .ref (qpl a1)), (0, .ref 0), (1, .int a1), (2, .int a2), (3, .int a3)]) dX5_fits_50 (by decide) rfl ?_
          refine r_bipush MF.bs dX5_fits_52 (v := 15) (by decide) ?_
          refine r_istore MF.bs (lv' := [(7, .int 15), (6, .int (-3)), (5, .int 0), (4, .ref (qpl a1)), (0, .ref 0), (1, .int a1), (2, .int a2), (3, .int a3)]) dX5_fits_54 (by decide) rfl ?_
          refine r_sub [(0, .ref 0), (2, .int a2), (3, .int a3), (4, .ref (qpl a1)), (5, .int 0), (6, .int (-3)), (7, .int 15)] [4, 6, 7, 3, 2, 1, 0] rfl ?_
          exact cX5_fits_56 a1 h_1 M 400 a2 a3 0 (-3) 15 M hp
      · refine r_if_ne_f MF.bs (tgt := 34) dX5_fits_29 (by decide) (b2i_0 h_3) ?_
        refine r_iconst MF.bs dX5_fits_32 (v := -1) (by decide) ?_
        exact r_iret dX5_fits_33 rfl
    · refine r_if_eq_t MF.bs (tgt := 32) dX5_fits_20 (by decide) (b2i_0 h_2) ?_
      refine r_iconst MF.bs dX5_fits_32 (v := -1) (by decide) ?_
      exact r_iret dX5_fits_33 rfl
  · refine r_callV_v MF.bs (st := []) dX5_fits_2 (ctX5_sheetAt_out a1 M h_1) miX5_sheetAt wd_698 rfl (by decide) rfl (Nat.le_of_ble_eq_true rfl) rfl rfl rfl ?_
    refine r_astoreN MF.bs (lv' := [(4, .null), (0, .ref 0), (1, .int a1), (2, .int a2), (3, .int a3)]) dX5_fits_5 (by decide) rfl ?_
    refine r_aloadN MF.bs dX5_fits_7 0 rfl ?_
    refine r_ifnullN MF.bs dX5_fits_9 (tgt := 32) (by decide) ?_
    refine r_iconst MF.bs dX5_fits_32 (v := -1) (by decide) ?_
    exact r_iret dX5_fits_33 rfl
abbrev mtX5_choices : MT := (RX5, yX5_choices, cX5_choices, 5, (some .long))
theorem miX5_choices : MS mtX5_choices 2 := ⟨wd_717, wd_716, wd_79, ⟨by decide, by decide, by decide +kernel⟩, by decide⟩
def mX5_choices_5   : Nat → Int32 → Int32 → Int64 → Int32 → Mem → Int64
  | 0, _, _, _, _, _ => 0
  | n + 1, v0, v1, v2, v4, M => (if v1 < v4 then v2 else (mX5_choices_5 n v0 v1 ((v2 * (((v0 - v1) + v4) : Int32).toInt64) / (v4 : Int32).toInt64) (v4 + 1) M))
def PX5_choices_5   : Nat → Int32 → Int32 → Int64 → Int32 → Mem → Prop
  | 0, _, _, _, _, _ => False
  | n + 1, v0, v1, v2, v4, M => (¬ v1 < v4 → ¬ (v4 : Int32).toInt64 = 0 ∧ (PX5_choices_5 n v0 v1 ((v2 * (((v0 - v1) + v4) : Int32).toInt64) / (v4 : Int32).toInt64) (v4 + 1) M))
set_option maxRecDepth 100000 in
theorem cX5_choices_5    : ∀ (n : Nat) (v0 : Int32) (v1 : Int32) (v2 : Int64) (v4 : Int32) (M : Mem), PX5_choices_5 n v0 v1 v2 v4 M → AWP (GL mtX5_choices 0 M M (mX5_choices_5 n v0 v1 v2 v4 M)) mtX5_choices 5 [(0, .int v0), (1, .int v1), (2, .long v2), (4, .int v4)] [] M := by
  intro n
  induction n with
  | zero =>
    intro v0 v1 v2 v4 M hp
    exact hp.elim
  | succ n ih =>
    intro v0 v1 v2 v4 M hp
    rw [mX5_choices_5]
    rw [PX5_choices_5] at hp
    refine r_iload MF.bs dX5_choices_5 3 rfl ?_
    refine r_iload_n MF.bs dX5_choices_7 rfl 1 rfl ?_
    refine r_ite (GL mtX5_choices 0 M M) (fun h_1 => ?_) (fun h_1 => ?_)
    · refine r_icmp_gt_t MF.bs (tgt := 31) dX5_choices_8 (by decide) h_1 ?_
      refine r_lload_n MF.bs dX5_choices_31 rfl 2 rfl ?_
      exact r_lret dX5_choices_32 rfl
    · have hp := hp h_1
      refine r_icmp_gt_f MF.bs (tgt := 31) dX5_choices_8 (by decide) h_1 ?_
      obtain ⟨hq_2, hp⟩ := hp
      refine r_lload_n MF.bs dX5_choices_11 rfl 2 rfl ?_
      refine r_iload_n MF.bs dX5_choices_12 rfl 0 rfl ?_
      refine r_iload_n MF.bs dX5_choices_13 rfl 1 rfl ?_
      refine r_isub MF.bs dX5_choices_14 ?_
      refine r_iload MF.bs dX5_choices_15 3 rfl ?_
      refine r_iadd MF.bs dX5_choices_17 ?_
      refine r_i2l MF.bs dX5_choices_18 ?_
      refine r_lmul MF.bs dX5_choices_19 ?_
      refine r_iload MF.bs dX5_choices_20 3 rfl ?_
      refine r_i2l MF.bs dX5_choices_22 ?_
      refine r_ldiv MF.bs dX5_choices_23 hq_2 ?_
      refine r_lstore_n MF.bs (lv' := [(2, .long ((v2 * (((v0 - v1) + v4) : Int32).toInt64) / (v4 : Int32).toInt64)), (0, .int v0), (1, .int v1), (4, .int v4)]) dX5_choices_24 rfl (by decide) rfl ?_
      refine r_iinc MF.bs (v := (v4 + 1)) (lv' := [(4, .int (v4 + 1)), (2, .long ((v2 * (((v0 - v1) + v4) : Int32).toInt64) / (v4 : Int32).toInt64)), (0, .int v0), (1, .int v1)]) dX5_choices_25 3 rfl rfl (by decide) rfl ?_
      refine r_goto MF.bs dX5_choices_28 (tgt := 5) (by decide) ?_
      refine r_sub [(0, .int v0), (1, .int v1), (2, .long ((v2 * (((v0 - v1) + v4) : Int32).toInt64) / (v4 : Int32).toInt64)), (4, .int (v4 + 1))] [2, 3, 1, 0] rfl ?_
      exact ih v0 v1 ((v2 * (((v0 - v1) + v4) : Int32).toInt64) / (v4 : Int32).toInt64) (v4 + 1) M hp
def mX5_choices  (a0 : Int32) (a1 : Int32) (M : Mem) : Int64 := (mX5_choices_5 400 a0 a1 1 1 M)
def PX5_choices  (a0 : Int32) (a1 : Int32) (M : Mem) : Prop := PX5_choices_5 400 a0 a1 1 1 M
set_option maxRecDepth 100000 in
theorem ctX5_choices   (a0 : Int32) (a1 : Int32) (M : Mem) (hp : PX5_choices a0 a1 M) : CT mtX5_choices 0 [.int a0, .int a1] M (some (.long (mX5_choices a0 a1 M)), M) := by
  refine CT.of (by decide) rfl (Nat.le_of_ble_eq_true rfl) ?_
  show AWP (GL mtX5_choices 0 M M (mX5_choices a0 a1 M)) mtX5_choices 0 [(0, .int a0), (1, .int a1)] [] M
  unfold mX5_choices
  unfold PX5_choices at hp
  refine r_lconst MF.bs dX5_choices_0 (v := 1) (by decide) ?_
  refine r_lstore_n MF.bs (lv' := [(2, .long 1), (0, .int a0), (1, .int a1)]) dX5_choices_1 rfl (by decide) rfl ?_
  refine r_iconst MF.bs dX5_choices_2 (v := 1) (by decide) ?_
  refine r_istore MF.bs (lv' := [(4, .int 1), (2, .long 1), (0, .int a0), (1, .int a1)]) dX5_choices_3 (by decide) rfl ?_
  refine r_sub [(0, .int a0), (1, .int a1), (2, .long 1), (4, .int 1)] [2, 3, 1, 0] rfl ?_
  exact cX5_choices_5 400 a0 a1 1 1 M hp
abbrev mtX5_power : MT := (RX5, yX5_power, cX5_power, 6, (some .long))
theorem miX5_power : MS mtX5_power 2 := ⟨wd_720, wd_719, wd_79, ⟨by decide, by decide, by decide +kernel⟩, by decide⟩
def mX5_power_5   : Nat → Int64 → Int32 → Int64 → Int32 → Mem → Int64
  | 0, _, _, _, _, _ => 0
  | n + 1, v0, v2, v3, v5, M => (if v2 ≤ v5 then v3 else (mX5_power_5 n v0 v2 (v3 * v0) (v5 + 1) M))
def PX5_power_5   : Nat → Int64 → Int32 → Int64 → Int32 → Mem → Prop
  | 0, _, _, _, _, _ => False
  | n + 1, v0, v2, v3, v5, M => (¬ v2 ≤ v5 → PX5_power_5 n v0 v2 (v3 * v0) (v5 + 1) M)
set_option maxRecDepth 100000 in
theorem cX5_power_5    : ∀ (n : Nat) (v0 : Int64) (v2 : Int32) (v3 : Int64) (v5 : Int32) (M : Mem), PX5_power_5 n v0 v2 v3 v5 M → AWP (GL mtX5_power 0 M M (mX5_power_5 n v0 v2 v3 v5 M)) mtX5_power 5 [(0, .long v0), (2, .int v2), (3, .long v3), (5, .int v5)] [] M := by
  intro n
  induction n with
  | zero =>
    intro v0 v2 v3 v5 M hp
    exact hp.elim
  | succ n ih =>
    intro v0 v2 v3 v5 M hp
    rw [mX5_power_5]
    rw [PX5_power_5] at hp
    refine r_iload MF.bs dX5_power_5 3 rfl ?_
    refine r_iload_n MF.bs dX5_power_7 rfl 1 rfl ?_
    refine r_ite (GL mtX5_power 0 M M) (fun h_1 => ?_) (fun h_1 => ?_)
    · refine r_icmp_ge_t MF.bs (tgt := 21) dX5_power_8 (by decide) h_1 ?_
      refine r_lload_n MF.bs dX5_power_21 rfl 2 rfl ?_
      exact r_lret dX5_power_22 rfl
    · have hp := hp h_1
      refine r_icmp_ge_f MF.bs (tgt := 21) dX5_power_8 (by decide) h_1 ?_
      refine r_lload_n MF.bs dX5_power_11 rfl 2 rfl ?_
      refine r_lload_n MF.bs dX5_power_12 rfl 0 rfl ?_
      refine r_lmul MF.bs dX5_power_13 ?_
      refine r_lstore_n MF.bs (lv' := [(3, .long (v3 * v0)), (0, .long v0), (2, .int v2), (5, .int v5)]) dX5_power_14 rfl (by decide) rfl ?_
      refine r_iinc MF.bs (v := (v5 + 1)) (lv' := [(5, .int (v5 + 1)), (3, .long (v3 * v0)), (0, .long v0), (2, .int v2)]) dX5_power_15 3 rfl rfl (by decide) rfl ?_
      refine r_goto MF.bs dX5_power_18 (tgt := 5) (by decide) ?_
      refine r_sub [(0, .long v0), (2, .int v2), (3, .long (v3 * v0)), (5, .int (v5 + 1))] [2, 3, 1, 0] rfl ?_
      exact ih v0 v2 (v3 * v0) (v5 + 1) M hp
def mX5_power  (a0 : Int64) (a2 : Int32) (M : Mem) : Int64 := (mX5_power_5 400 a0 a2 1 0 M)
def PX5_power  (a0 : Int64) (a2 : Int32) (M : Mem) : Prop := PX5_power_5 400 a0 a2 1 0 M
set_option maxRecDepth 100000 in
theorem ctX5_power   (a0 : Int64) (a2 : Int32) (M : Mem) (hp : PX5_power a0 a2 M) : CT mtX5_power 0 [.long a0, .int a2] M (some (.long (mX5_power a0 a2 M)), M) := by
  refine CT.of (by decide) rfl (Nat.le_of_ble_eq_true rfl) ?_
  show AWP (GL mtX5_power 0 M M (mX5_power a0 a2 M)) mtX5_power 0 [(0, .long a0), (2, .int a2)] [] M
  unfold mX5_power
  unfold PX5_power at hp
  refine r_lconst MF.bs dX5_power_0 (v := 1) (by decide) ?_
  refine r_lstore_n MF.bs (lv' := [(3, .long 1), (0, .long a0), (2, .int a2)]) dX5_power_1 rfl (by decide) rfl ?_
  refine r_iconst MF.bs dX5_power_2 (v := 0) (by decide) ?_
  refine r_istore MF.bs (lv' := [(5, .int 0), (3, .long 1), (0, .long a0), (2, .int a2)]) dX5_power_3 (by decide) rfl ?_
  refine r_sub [(0, .long a0), (2, .int a2), (3, .long 1), (5, .int 0)] [2, 3, 1, 0] rfl ?_
  exact cX5_power_5 400 a0 a2 1 0 M hp
abbrev mtX5_commonDivisor : MT := (RX5, yX5_commonDivisor, cX5_commonDivisor, 11, (some .long))
theorem miX5_commonDivisor : MS mtX5_commonDivisor 2 := ⟨wd_727, wd_726, wd_79, ⟨by decide, by decide, by decide +kernel⟩, by decide⟩
def mX5_commonDivisor_9   : Nat → Int64 → Int64 → Int32 → Mem → Int64
  | 0, _, _, _, _ => 0
  | n + 1, v4, v6, v8, M => (if 1000 ≤ v8 then v4 else (if (lg_cmp v6 0) = 0 then v4 else (mX5_commonDivisor_9 n v6 (lrem v4 v6) (v8 + 1) M)))
def PX5_commonDivisor_9   : Nat → Int64 → Int64 → Int32 → Mem → Prop
  | 0, _, _, _, _ => False
  | n + 1, v4, v6, v8, M => (¬ 1000 ≤ v8 → (¬ (lg_cmp v6 0) = 0 → ¬ v6 = 0 ∧ (PX5_commonDivisor_9 n v6 (lrem v4 v6) (v8 + 1) M)))
set_option maxRecDepth 100000 in
theorem cX5_commonDivisor_9    : ∀ (n : Nat) (v4 : Int64) (v6 : Int64) (v8 : Int32) (M : Mem), PX5_commonDivisor_9 n v4 v6 v8 M → AWP (GL mtX5_commonDivisor 0 M M (mX5_commonDivisor_9 n v4 v6 v8 M)) mtX5_commonDivisor 9 [(4, .long v4), (6, .long v6), (8, .int v8)] [] M := by
  intro n
  induction n with
  | zero =>
    intro v4 v6 v8 M hp
    exact hp.elim
  | succ n ih =>
    intro v4 v6 v8 M hp
    rw [mX5_commonDivisor_9]
    rw [PX5_commonDivisor_9] at hp
    refine r_iload MF.bs dX5_commonDivisor_9 2 rfl ?_
    refine r_sipush MF.bs dX5_commonDivisor_11 (v := 1000) (by decide) ?_
    refine r_ite (GL mtX5_commonDivisor 0 M M) (fun h_1 => ?_) (fun h_1 => ?_)
    · refine r_icmp_ge_t MF.bs (tgt := 45) dX5_commonDivisor_14 (by decide) h_1 ?_
      refine r_lload MF.bs dX5_commonDivisor_45 0 rfl ?_
      exact r_lret dX5_commonDivisor_47 rfl
    · have hp := hp h_1
      refine r_icmp_ge_f MF.bs (tgt := 45) dX5_commonDivisor_14 (by decide) h_1 ?_
      refine r_lload MF.bs dX5_commonDivisor_17 1 rfl ?_
      refine r_lconst MF.bs dX5_commonDivisor_19 (v := 0) (by decide) ?_
      refine r_lcmp MF.bs dX5_commonDivisor_20 ?_
      refine r_ite (GL mtX5_commonDivisor 0 M M) (fun h_2 => ?_) (fun h_2 => ?_)
      · refine r_if_eq_t MF.bs (tgt := 45) dX5_commonDivisor_21 (by decide) h_2 ?_
        refine r_lload MF.bs dX5_commonDivisor_45 0 rfl ?_
        exact r_lret dX5_commonDivisor_47 rfl
      · have hp := hp h_2
        refine r_if_eq_f MF.bs (tgt := 45) dX5_commonDivisor_21 (by decide) h_2 ?_
        obtain ⟨hq_3, hp⟩ := hp
        refine r_lload MF.bs dX5_commonDivisor_24 0 rfl ?_
        refine r_lload MF.bs dX5_commonDivisor_26 1 rfl ?_
        refine r_lrem MF.bs dX5_commonDivisor_28 hq_3 ?_
        refine r_lstore MF.bs (lv' := [(9, .long (lrem v4 v6)), (4, .long v4), (6, .long v6), (8, .int v8)]) dX5_commonDivisor_29 (by decide) rfl ?_
        refine r_lload MF.bs dX5_commonDivisor_31 2 rfl ?_
        refine r_lstore MF.bs (lv' := [(4, .long v6), (9, .long (lrem v4 v6)), (6, .long v6), (8, .int v8)]) dX5_commonDivisor_33 (by decide) rfl ?_
        refine r_lload MF.bs dX5_commonDivisor_35 1 rfl ?_
        refine r_lstore MF.bs (lv' := [(6, .long (lrem v4 v6)), (4, .long v6), (9, .long (lrem v4 v6)), (8, .int v8)]) dX5_commonDivisor_37 (by decide) rfl ?_
        refine r_iinc MF.bs (v := (v8 + 1)) (lv' := [(8, .int (v8 + 1)), (6, .long (lrem v4 v6)), (4, .long v6), (9, .long (lrem v4 v6))]) dX5_commonDivisor_39 3 rfl rfl (by decide) rfl ?_
        refine r_goto MF.bs dX5_commonDivisor_42 (tgt := 9) (by decide) ?_
        refine r_sub [(4, .long v6), (6, .long (lrem v4 v6)), (8, .int (v8 + 1))] [2, 1, 0] rfl ?_
        exact ih v6 (lrem v4 v6) (v8 + 1) M hp
def mX5_commonDivisor  (a0 : Int64) (a2 : Int64) (M : Mem) : Int64 := (mX5_commonDivisor_9 400 a0 a2 0 M)
def PX5_commonDivisor  (a0 : Int64) (a2 : Int64) (M : Mem) : Prop := PX5_commonDivisor_9 400 a0 a2 0 M
set_option maxRecDepth 100000 in
theorem ctX5_commonDivisor   (a0 : Int64) (a2 : Int64) (M : Mem) (hp : PX5_commonDivisor a0 a2 M) : CT mtX5_commonDivisor 0 [.long a0, .long a2] M (some (.long (mX5_commonDivisor a0 a2 M)), M) := by
  refine CT.of (by decide) rfl (Nat.le_of_ble_eq_true rfl) ?_
  show AWP (GL mtX5_commonDivisor 0 M M (mX5_commonDivisor a0 a2 M)) mtX5_commonDivisor 0 [(0, .long a0), (2, .long a2)] [] M
  unfold mX5_commonDivisor
  unfold PX5_commonDivisor at hp
  refine r_lload_n MF.bs dX5_commonDivisor_0 rfl 0 rfl ?_
  refine r_lstore MF.bs (lv' := [(4, .long a0), (0, .long a0), (2, .long a2)]) dX5_commonDivisor_1 (by decide) rfl ?_
  refine r_lload_n MF.bs dX5_commonDivisor_3 rfl 2 rfl ?_
  refine r_lstore MF.bs (lv' := [(6, .long a2), (4, .long a0), (0, .long a0), (2, .long a2)]) dX5_commonDivisor_4 (by decide) rfl ?_
  refine r_iconst MF.bs dX5_commonDivisor_6 (v := 0) (by decide) ?_
  refine r_istore MF.bs (lv' := [(8, .int 0), (6, .long a2), (4, .long a0), (0, .long a0), (2, .long a2)]) dX5_commonDivisor_7 (by decide) rfl ?_
  refine r_sub [(4, .long a0), (6, .long a2), (8, .int 0)] [2, 1, 0] rfl ?_
  exact cX5_commonDivisor_9 400 a0 a2 0 M hp
abbrev mtX5_partOf : MT := (RX5, yX5_partOf, cX5_partOf, 7, (some .long))
theorem miX5_partOf : MS mtX5_partOf 3 := ⟨wd_724, wd_723, wd_79, ⟨by decide, by decide, by decide +kernel⟩, by decide⟩
def mX5_partOf_21   (v5 : Int64) (k0 : Int64) (M : Mem) : Int64 := (k0 / v5)
def PX5_partOf_21   (v5 : Int64) (k0 : Int64) (M : Mem) : Prop := ¬ v5 = 0
set_option maxRecDepth 100000 in
theorem cX5_partOf_21    (v5 : Int64) (k0 : Int64) (M : Mem) (hp : PX5_partOf_21 v5 k0 M) : AWP (GL mtX5_partOf 1 M M (mX5_partOf_21 v5 k0 M)) mtX5_partOf 21 [(5, .long v5)] [.long k0] M := by
  unfold mX5_partOf_21
  unfold PX5_partOf_21 at hp
  have hq_3 := hp
  refine r_lload MF.bs dX5_partOf_21 0 rfl ?_
  refine r_ldiv MF.bs dX5_partOf_23 hq_3 ?_
  exact r_lret dX5_partOf_24 rfl
def mX5_partOf  (a0 : Int64) (a2 : Int64) (a4 : Int32) (M : Mem) : Int64 := (if a4 = 0 then (mX5_partOf_21 (lmax 1 (mX5_commonDivisor a0 a2 M)) a0 M) else (mX5_partOf_21 (lmax 1 (mX5_commonDivisor a0 a2 M)) a2 M))
def PX5_partOf  (a0 : Int64) (a2 : Int64) (a4 : Int32) (M : Mem) : Prop := PX5_commonDivisor a0 a2 M ∧ (((a4 = 0 → PX5_partOf_21 (lmax 1 (mX5_commonDivisor a0 a2 M)) a0 M) ∧ (¬ a4 = 0 → PX5_partOf_21 (lmax 1 (mX5_commonDivisor a0 a2 M)) a2 M)))
set_option maxRecDepth 100000 in
theorem ctX5_partOf   (a0 : Int64) (a2 : Int64) (a4 : Int32) (M : Mem) (hp : PX5_partOf a0 a2 a4 M) : CT mtX5_partOf 1 [.long a0, .long a2, .int a4] M (some (.long (mX5_partOf a0 a2 a4 M)), M) := by
  refine CT.of (by decide) rfl (Nat.le_of_ble_eq_true rfl) ?_
  show AWP (GL mtX5_partOf 1 M M (mX5_partOf a0 a2 a4 M)) mtX5_partOf 0 [(0, .long a0), (2, .long a2), (4, .int a4)] [] M
  unfold mX5_partOf
  unfold PX5_partOf at hp
  obtain ⟨hq_1, hp⟩ := hp
  refine r_lconst MF.bs dX5_partOf_0 (v := 1) (by decide) ?_
  refine r_lload_n MF.bs dX5_partOf_1 rfl 0 rfl ?_
  refine r_lload_n MF.bs dX5_partOf_2 rfl 1 rfl ?_
  refine r_callS_v MF.bs (st := [.long 1]) dX5_partOf_3 (ctX5_commonDivisor a0 a2 M hq_1) miX5_commonDivisor wd_725 rfl (by decide) rfl (Nat.le_of_ble_eq_true rfl) ?_
  refine r_mmaxL MF.bs (st := []) dX5_partOf_6 wd_728 wd_729 wd_92 wd_730 (Nat.le_of_ble_eq_true rfl) (by decide) ?_
  refine r_lstore MF.bs (lv' := [(5, .long (lmax 1 (mX5_commonDivisor a0 a2 M))), (0, .long a0), (2, .long a2), (4, .int a4)]) dX5_partOf_9 (by decide) rfl ?_
  refine r_iload MF.bs dX5_partOf_11 3 rfl ?_
  refine r_ite (GL mtX5_partOf 1 M M) (fun h_2 => ?_) (fun h_2 => ?_)
  · have hp := hp.1 h_2
    refine r_if_ne_f MF.bs (tgt := 20) dX5_partOf_13 (by decide) h_2 ?_
    refine r_lload_n MF.bs dX5_partOf_16 rfl 1 rfl ?_
    refine r_goto MF.bs dX5_partOf_17 (tgt := 21) (by decide) ?_
    refine r_sub [(5, .long (lmax 1 (mX5_commonDivisor a0 a2 M)))] [0] rfl ?_
    exact cX5_partOf_21 (lmax 1 (mX5_commonDivisor a0 a2 M)) a0 M hp
  · have hp := hp.2 h_2
    refine r_if_ne_t MF.bs (tgt := 20) dX5_partOf_13 (by decide) h_2 ?_
    refine r_lload_n MF.bs dX5_partOf_20 rfl 2 rfl ?_
    refine r_sub [(5, .long (lmax 1 (mX5_commonDivisor a0 a2 M)))] [0] rfl ?_
    exact cX5_partOf_21 (lmax 1 (mX5_commonDivisor a0 a2 M)) a2 M hp
abbrev mtX5_odds : MT := (RX5, yX5_odds, cX5_odds, 7, (some .long))
theorem miX5_odds : MV mtX5_odds 3 := ⟨wd_713, ⟨wd_711, wd_712⟩, wd_79, ⟨by decide, by decide, by decide +kernel⟩, by decide⟩
def mX5_odds_28   (M : Mem) : Int64 := (-1)
def PX5_odds_28   (M : Mem) : Prop := True
set_option maxRecDepth 100000 in
theorem cX5_odds_28    (M : Mem) (hp : PX5_odds_28 M) : AWP (GL mtX5_odds 2 M M (mX5_odds_28 M)) mtX5_odds 28 [] [] M := by
  unfold mX5_odds_28
  unfold PX5_odds_28 at hp
  refine r_ldc2 MF.bs (v := -1) dX5_odds_28 wd_714 ?_
  exact r_lret dX5_odds_31 rfl
def mX5_odds  (a1 : Int32) (a2 : Int32) (a3 : Int32) (M : Mem) : Int64 := (if (mX5_isWithin a1 0 8) = true then (if (mX5_isWithin a2 0 a1) = true then (if (mX5_isWithin a3 0 1) = true then (mX5_partOf (((mX5_choices a1 a2 M) * (mX5_power (((M 2 3) : Int32).toInt64) a2 M)) * (mX5_power (((100 - (M 2 3)) : Int32).toInt64) (a1 - a2) M)) (mX5_power 100 a1 M) a3 M) else (mX5_odds_28 M)) else (mX5_odds_28 M)) else (mX5_odds_28 M))
def PX5_odds  (a1 : Int32) (a2 : Int32) (a3 : Int32) (M : Mem) : Prop := (((mX5_isWithin a1 0 8) = true → (((mX5_isWithin a2 0 a1) = true → (((mX5_isWithin a3 0 1) = true → PX5_choices a1 a2 M ∧ (PX5_power (((M 2 3) : Int32).toInt64) a2 M ∧ (PX5_power (((100 - (M 2 3)) : Int32).toInt64) (a1 - a2) M ∧ (PX5_power 100 a1 M ∧ (PX5_partOf (((mX5_choices a1 a2 M) * (mX5_power (((M 2 3) : Int32).toInt64) a2 M)) * (mX5_power (((100 - (M 2 3)) : Int32).toInt64) (a1 - a2) M)) (mX5_power 100 a1 M) a3 M))))) ∧ (¬ (mX5_isWithin a3 0 1) = true → PX5_odds_28 M))) ∧ (¬ (mX5_isWithin a2 0 a1) = true → PX5_odds_28 M))) ∧ (¬ (mX5_isWithin a1 0 8) = true → PX5_odds_28 M))
set_option maxRecDepth 100000 in
theorem ctX5_odds   (a1 : Int32) (a2 : Int32) (a3 : Int32) (M : Mem) (hp : PX5_odds a1 a2 a3 M) : CT mtX5_odds 2 [.ref 0, .int a1, .int a2, .int a3] M (some (.long (mX5_odds a1 a2 a3 M)), M) := by
  refine CT.of (by decide) rfl (Nat.le_of_ble_eq_true rfl) ?_
  show AWP (GL mtX5_odds 2 M M (mX5_odds a1 a2 a3 M)) mtX5_odds 0 [(0, .ref 0), (1, .int a1), (2, .int a2), (3, .int a3)] [] M
  unfold mX5_odds
  unfold PX5_odds at hp
  refine r_iload_n MF.bs dX5_odds_0 rfl 1 rfl ?_
  refine r_iconst MF.bs dX5_odds_1 (v := 0) (by decide) ?_
  refine r_bipush MF.bs dX5_odds_2 (v := 8) (by decide) ?_
  refine r_callS_v MF.bs (st := []) dX5_odds_4 (ctX5_isWithin a1 0 8 M) miX5_isWithin wd_303 rfl (by decide) rfl (Nat.le_of_ble_eq_true rfl) ?_
  refine r_ite (GL mtX5_odds 2 M M) (fun h_1 => ?_) (fun h_1 => ?_)
  · have hp := hp.1 h_1
    refine r_if_eq_f MF.bs (tgt := 28) dX5_odds_7 (by decide) (b2i_1 h_1) ?_
    refine r_iload_n MF.bs dX5_odds_10 rfl 2 rfl ?_
    refine r_iconst MF.bs dX5_odds_11 (v := 0) (by decide) ?_
    refine r_iload_n MF.bs dX5_odds_12 rfl 1 rfl ?_
    refine r_callS_v MF.bs (st := []) dX5_odds_13 (ctX5_isWithin a2 0 a1 M) miX5_isWithin wd_303 rfl (by decide) rfl (Nat.le_of_ble_eq_true rfl) ?_
    refine r_ite (GL mtX5_odds 2 M M) (fun h_2 => ?_) (fun h_2 => ?_)
    · have hp := hp.1 h_2
      refine r_if_eq_f MF.bs (tgt := 28) dX5_odds_16 (by decide) (b2i_1 h_2) ?_
      refine r_iload_n MF.bs dX5_odds_19 rfl 3 rfl ?_
      refine r_iconst MF.bs dX5_odds_20 (v := 0) (by decide) ?_
      refine r_iconst MF.bs dX5_odds_21 (v := 1) (by decide) ?_
      refine r_callS_v MF.bs (st := []) dX5_odds_22 (ctX5_isWithin a3 0 1 M) miX5_isWithin wd_303 rfl (by decide) rfl (Nat.le_of_ble_eq_true rfl) ?_
      refine r_ite (GL mtX5_odds 2 M M) (fun h_3 => ?_) (fun h_3 => ?_)
      · have hp := hp.1 h_3
        refine r_if_ne_t MF.bs (tgt := 32) dX5_odds_25 (by decide) (b2i_1 h_3) ?_
        obtain ⟨hq_4, hp⟩ := hp
        obtain ⟨hq_5, hp⟩ := hp
        obtain ⟨hq_6, hp⟩ := hp
        obtain ⟨hq_7, hp⟩ := hp
        have hq_8 := hp
        refine r_aload_n MF.bs dX5_odds_32 rfl 0 rfl ?_
        refine r_getR MF.bs dX5_odds_33 rfl rfl 0 (by decide) wd_253 rfl ?_
        refine r_getR MF.bs dX5_odds_36 rfl rfl 0 (by decide) wd_114 rfl ?_
        refine r_iconst MF.bs dX5_odds_39 (v := 3) (by decide) ?_
        refine r_ialoadL MF.bs dX5_odds_40 rfl (vin_l (by decide) (by decide)) (k9 := 3) (by decide) ?_
        refine r_istore MF.bs (lv' := [(4, .int (M 2 3)), (0, .ref 0), (1, .int a1), (2, .int a2), (3, .int a3)]) dX5_odds_41 (by decide) rfl ?_
        refine r_iload_n MF.bs dX5_odds_43 rfl 2 rfl ?_
        refine r_iload_n MF.bs dX5_odds_44 rfl 3 rfl ?_
        refine r_callS_v MF.bs (st := []) dX5_odds_45 (ctX5_choices a1 a2 M hq_4) miX5_choices wd_715 rfl (by decide) rfl (Nat.le_of_ble_eq_true rfl) ?_
        refine r_iload MF.bs dX5_odds_48 0 rfl ?_
        refine r_i2l MF.bs dX5_odds_50 ?_
        refine r_iload_n MF.bs dX5_odds_51 rfl 3 rfl ?_
        refine r_callS_v MF.bs (st := [.long (mX5_choices a1 a2 M)]) dX5_odds_52 (ctX5_power (((M 2 3) : Int32).toInt64) a2 M hq_5) miX5_power wd_718 rfl (by decide) rfl (Nat.le_of_ble_eq_true rfl) ?_
        refine r_lmul MF.bs dX5_odds_55 ?_
        refine r_bipush MF.bs dX5_odds_56 (v := 100) (by decide) ?_
        refine r_iload MF.bs dX5_odds_58 0 rfl ?_
        refine r_isub MF.bs dX5_odds_60 ?_
        refine r_i2l MF.bs dX5_odds_61 ?_
        refine r_iload_n MF.bs dX5_odds_62 rfl 2 rfl ?_
        refine r_iload_n MF.bs dX5_odds_63 rfl 3 rfl ?_
        refine r_isub MF.bs dX5_odds_64 ?_
        refine r_callS_v MF.bs (st := [.long ((mX5_choices a1 a2 M) * (mX5_power (((M 2 3) : Int32).toInt64) a2 M))]) dX5_odds_65 (ctX5_power (((100 - (M 2 3)) : Int32).toInt64) (a1 - a2) M hq_6) miX5_power wd_718 rfl (by decide) rfl (Nat.le_of_ble_eq_true rfl) ?_
        refine r_lmul MF.bs dX5_odds_68 ?_
        refine r_lstore MF.bs (lv' := [(5, .long (((mX5_choices a1 a2 M) * (mX5_power (((M 2 3) : Int32).toInt64) a2 M)) * (mX5_power (((100 - (M 2 3)) : Int32).toInt64) (a1 - a2) M))), (4, .int (M 2 3)), (0, .ref 0), (1, .int a1), (2, .int a2), (3, .int a3)]) dX5_odds_69 (by decide) rfl ?_
        refine r_lload MF.bs dX5_odds_71 0 rfl ?_
        refine r_ldc2 MF.bs (v := 100) dX5_odds_73 wd_721 ?_
        refine r_iload_n MF.bs dX5_odds_76 rfl 3 rfl ?_
        refine r_callS_v MF.bs (st := [.long (((mX5_choices a1 a2 M) * (mX5_power (((M 2 3) : Int32).toInt64) a2 M)) * (mX5_power (((100 - (M 2 3)) : Int32).toInt64) (a1 - a2) M))]) dX5_odds_77 (ctX5_power 100 a1 M hq_7) miX5_power wd_718 rfl (by decide) rfl (Nat.le_of_ble_eq_true rfl) ?_
        refine r_iload_n MF.bs dX5_odds_80 rfl 5 rfl ?_
        refine r_callS_v MF.bs (st := []) dX5_odds_81 (ctX5_partOf (((mX5_choices a1 a2 M) * (mX5_power (((M 2 3) : Int32).toInt64) a2 M)) * (mX5_power (((100 - (M 2 3)) : Int32).toInt64) (a1 - a2) M)) (mX5_power 100 a1 M) a3 M hq_8) miX5_partOf wd_722 rfl (by decide) rfl (Nat.le_of_ble_eq_true rfl) ?_
        exact r_lret dX5_odds_84 rfl
      · have hp := hp.2 h_3
        refine r_if_ne_f MF.bs (tgt := 32) dX5_odds_25 (by decide) (b2i_0 h_3) ?_
        refine r_sub [] [] rfl ?_
        exact cX5_odds_28 M hp
    · have hp := hp.2 h_2
      refine r_if_eq_t MF.bs (tgt := 28) dX5_odds_16 (by decide) (b2i_0 h_2) ?_
      refine r_sub [] [] rfl ?_
      exact cX5_odds_28 M hp
  · have hp := hp.2 h_1
    refine r_if_eq_t MF.bs (tgt := 28) dX5_odds_7 (by decide) (b2i_0 h_1) ?_
    refine r_sub [] [] rfl ?_
    exact cX5_odds_28 M hp
abbrev mtX5_hope : MT := (RX5, yX5_hope, cX5_hope, 3, (some .long))
theorem miX5_hope : MV mtX5_hope 2 := ⟨wd_734, ⟨wd_732, wd_733⟩, wd_79, ⟨by decide, by decide, by decide +kernel⟩, by decide⟩
def mX5_hope_19   (M : Mem) : Int64 := (-1)
def PX5_hope_19   (M : Mem) : Prop := True
set_option maxRecDepth 100000 in
theorem cX5_hope_19    (M : Mem) (hp : PX5_hope_19 M) : AWP (GL mtX5_hope 2 M M (mX5_hope_19 M)) mtX5_hope 19 [] [] M := by
  unfold mX5_hope_19
  unfold PX5_hope_19 at hp
  refine r_ldc2 MF.bs (v := -1) dX5_hope_19 wd_714 ?_
  exact r_lret dX5_hope_22 rfl
def mX5_hope  (a1 : Int32) (a2 : Int32) (M : Mem) : Int64 := (if (mX5_isWithin a1 0 99) = true then (if (mX5_isWithin a2 0 1) = true then (mX5_partOf ((a1 : Int32).toInt64 * ((M 2 3) : Int32).toInt64) 100 a2 M) else (mX5_hope_19 M)) else (mX5_hope_19 M))
def PX5_hope  (a1 : Int32) (a2 : Int32) (M : Mem) : Prop := (((mX5_isWithin a1 0 99) = true → (((mX5_isWithin a2 0 1) = true → PX5_partOf ((a1 : Int32).toInt64 * ((M 2 3) : Int32).toInt64) 100 a2 M) ∧ (¬ (mX5_isWithin a2 0 1) = true → PX5_hope_19 M))) ∧ (¬ (mX5_isWithin a1 0 99) = true → PX5_hope_19 M))
set_option maxRecDepth 100000 in
theorem ctX5_hope   (a1 : Int32) (a2 : Int32) (M : Mem) (hp : PX5_hope a1 a2 M) : CT mtX5_hope 2 [.ref 0, .int a1, .int a2] M (some (.long (mX5_hope a1 a2 M)), M) := by
  refine CT.of (by decide) rfl (Nat.le_of_ble_eq_true rfl) ?_
  show AWP (GL mtX5_hope 2 M M (mX5_hope a1 a2 M)) mtX5_hope 0 [(0, .ref 0), (1, .int a1), (2, .int a2)] [] M
  unfold mX5_hope
  unfold PX5_hope at hp
  refine r_iload_n MF.bs dX5_hope_0 rfl 1 rfl ?_
  refine r_iconst MF.bs dX5_hope_1 (v := 0) (by decide) ?_
  refine r_bipush MF.bs dX5_hope_2 (v := 99) (by decide) ?_
  refine r_callS_v MF.bs (st := []) dX5_hope_4 (ctX5_isWithin a1 0 99 M) miX5_isWithin wd_303 rfl (by decide) rfl (Nat.le_of_ble_eq_true rfl) ?_
  refine r_ite (GL mtX5_hope 2 M M) (fun h_1 => ?_) (fun h_1 => ?_)
  · have hp := hp.1 h_1
    refine r_if_eq_f MF.bs (tgt := 19) dX5_hope_7 (by decide) (b2i_1 h_1) ?_
    refine r_iload_n MF.bs dX5_hope_10 rfl 2 rfl ?_
    refine r_iconst MF.bs dX5_hope_11 (v := 0) (by decide) ?_
    refine r_iconst MF.bs dX5_hope_12 (v := 1) (by decide) ?_
    refine r_callS_v MF.bs (st := []) dX5_hope_13 (ctX5_isWithin a2 0 1 M) miX5_isWithin wd_303 rfl (by decide) rfl (Nat.le_of_ble_eq_true rfl) ?_
    refine r_ite (GL mtX5_hope 2 M M) (fun h_2 => ?_) (fun h_2 => ?_)
    · have hp := hp.1 h_2
      refine r_if_ne_t MF.bs (tgt := 23) dX5_hope_16 (by decide) (b2i_1 h_2) ?_
      have hq_3 := hp
      refine r_iload_n MF.bs dX5_hope_23 rfl 1 rfl ?_
      refine r_i2l MF.bs dX5_hope_24 ?_
      refine r_aload_n MF.bs dX5_hope_25 rfl 0 rfl ?_
      refine r_getR MF.bs dX5_hope_26 rfl rfl 0 (by decide) wd_253 rfl ?_
      refine r_getR MF.bs dX5_hope_29 rfl rfl 0 (by decide) wd_114 rfl ?_
      refine r_iconst MF.bs dX5_hope_32 (v := 3) (by decide) ?_
      refine r_ialoadL MF.bs dX5_hope_33 rfl (vin_l (by decide) (by decide)) (k9 := 3) (by decide) ?_
      refine r_i2l MF.bs dX5_hope_34 ?_
      refine r_lmul MF.bs dX5_hope_35 ?_
      refine r_ldc2 MF.bs (v := 100) dX5_hope_36 wd_721 ?_
      refine r_iload_n MF.bs dX5_hope_39 rfl 2 rfl ?_
      refine r_callS_v MF.bs (st := []) dX5_hope_40 (ctX5_partOf ((a1 : Int32).toInt64 * ((M 2 3) : Int32).toInt64) 100 a2 M hq_3) miX5_partOf wd_722 rfl (by decide) rfl (Nat.le_of_ble_eq_true rfl) ?_
      exact r_lret dX5_hope_43 rfl
    · have hp := hp.2 h_2
      refine r_if_ne_f MF.bs (tgt := 23) dX5_hope_16 (by decide) (b2i_0 h_2) ?_
      refine r_sub [] [] rfl ?_
      exact cX5_hope_19 M hp
  · have hp := hp.2 h_1
    refine r_if_eq_t MF.bs (tgt := 19) dX5_hope_7 (by decide) (b2i_0 h_1) ?_
    refine r_sub [] [] rfl ?_
    exact cX5_hope_19 M hp
abbrev mtX5_prove : MT := (RX5, yX5_prove, cX5_prove, 5, (some .int))
theorem miX5_prove : MV mtX5_prove 2 := ⟨wd_738, ⟨wd_736, wd_737⟩, wd_79, ⟨by decide, by decide, by decide +kernel⟩, by decide⟩
def mX5_prove_51   (kf36 : Int32 → Int32 → Int32 → Mem → Int32 × Mem) : Nat → Int32 → Int32 → Int32 → Int32 → Mem → Int32 × Mem
  | 0, _, _, _, _, M => (0, M)
  | n + 1, v1, v2, v3, v4, M => (if 3 ≤ v4 then (kf36 v1 v2 (v3 + 1) M) else (mX5_prove_51 kf36 n v1 v2 v3 (v4 + 1) (upm M 28 ((v3 * 3) + v4).toNatClampNeg (mX4_rowPart 15 v1 v4 M))))
def PX5_prove_51   (kP36 : Int32 → Int32 → Int32 → Mem → Prop) : Nat → Int32 → Int32 → Int32 → Int32 → Mem → Prop
  | 0, _, _, _, _, _ => False
  | n + 1, v1, v2, v3, v4, M => ((3 ≤ v4 → kP36 v1 v2 (v3 + 1) M) ∧ (¬ 3 ≤ v4 → PX4_rowPart 15 v1 v4 M ∧ (vp_in ((v3 * 3) + v4) 30 ∧ (PX5_prove_51 kP36 n v1 v2 v3 (v4 + 1) (upm M 28 ((v3 * 3) + v4).toNatClampNeg (mX4_rowPart 15 v1 v4 M))))))
set_option maxRecDepth 100000 in
theorem cX5_prove_51    (M0 : Mem) (kf36 : Int32 → Int32 → Int32 → Mem → Int32 × Mem) (kP36 : Int32 → Int32 → Int32 → Mem → Prop) (hk36 : ∀ (v1 : Int32) (v2 : Int32) (v3 : Int32) (M : Mem), kP36 v1 v2 v3 M → AWP (GIM mtX5_prove 5 M0 (kf36 v1 v2 v3 M)) mtX5_prove 36 [(0, .ref 0), (1, .int v1), (2, .int v2), (3, .int v3)] [] M) : ∀ (n : Nat) (v1 : Int32) (v2 : Int32) (v3 : Int32) (v4 : Int32) (M : Mem), PX5_prove_51 kP36 n v1 v2 v3 v4 M → AWP (GIM mtX5_prove 5 M0 (mX5_prove_51 kf36 n v1 v2 v3 v4 M)) mtX5_prove 51 [(0, .ref 0), (1, .int v1), (2, .int v2), (3, .int v3), (4, .int v4)] [] M := by
  intro n
  induction n with
  | zero =>
    intro v1 v2 v3 v4 M hp
    exact hp.elim
  | succ n ih =>
    intro v1 v2 v3 v4 M hp
    rw [mX5_prove_51]
    rw [PX5_prove_51] at hp
    refine r_iload MF.bs dX5_prove_51 4 rfl ?_
    refine r_iconst MF.bs dX5_prove_53 (v := 3) (by decide) ?_
    refine r_ite (GIM mtX5_prove 5 M0) (fun h_6 => ?_) (fun h_6 => ?_)
    · have hp := hp.1 h_6
      refine r_icmp_ge_t MF.bs (tgt := 84) dX5_prove_54 (by decide) h_6 ?_
      refine r_iinc MF.bs (v := (v3 + 1)) (lv' := [(3, .int (v3 + 1)), (0, .ref 0), (1, .int v1), (2, .int v2), (4, .int v4)]) dX5_prove_84 3 rfl rfl (by decide) rfl ?_
      refine r_goto MF.bs dX5_prove_87 (tgt := 36) (by decide) ?_
      refine r_sub [(0, .ref 0), (1, .int v1), (2, .int v2), (3, .int (v3 + 1))] [1, 2, 3, 0] rfl ?_
      exact hk36 v1 v2 (v3 + 1) M hp
    · have hp := hp.2 h_6
      refine r_icmp_ge_f MF.bs (tgt := 84) dX5_prove_54 (by decide) h_6 ?_
      obtain ⟨hq_7, hp⟩ := hp
      obtain ⟨hq_8, hp⟩ := hp
      refine r_aload_n MF.bs dX5_prove_57 rfl 0 rfl ?_
      refine r_getR MF.bs dX5_prove_58 rfl rfl 7 (by decide) wd_260 rfl ?_
      refine r_iload_n MF.bs dX5_prove_61 rfl 3 rfl ?_
      refine r_iconst MF.bs dX5_prove_62 (v := 3) (by decide) ?_
      refine r_imul MF.bs dX5_prove_63 ?_
      refine r_iload MF.bs dX5_prove_64 4 rfl ?_
      refine r_iadd MF.bs dX5_prove_66 ?_
      refine r_aload_n MF.bs dX5_prove_67 rfl 0 rfl ?_
      refine r_getR MF.bs dX5_prove_68 rfl rfl 2 (by decide) wd_255 rfl ?_
      refine r_iload_n MF.bs dX5_prove_71 rfl 1 rfl ?_
      refine r_iload MF.bs dX5_prove_72 4 rfl ?_
      refine r_callV_v MF.bs (st := [.int ((v3 * 3) + v4), .ref 28]) dX5_prove_74 (ctX4_rowPart 15 (Or.inr (Or.inr rfl)) v1 v4 M hq_7) miX4_rowPart wd_739 rfl (by decide) rfl (Nat.le_of_ble_eq_true rfl) rfl rfl rfl ?_
      refine r_iastore MF.bs dX5_prove_77 rfl hq_8 ?_
      refine r_iinc MF.bs (v := (v4 + 1)) (lv' := [(4, .int (v4 + 1)), (0, .ref 0), (1, .int v1), (2, .int v2), (3, .int v3)]) dX5_prove_78 4 rfl rfl (by decide) rfl ?_
      refine r_goto MF.bs dX5_prove_81 (tgt := 51) (by decide) ?_
      refine r_sub [(0, .ref 0), (1, .int v1), (2, .int v2), (3, .int v3), (4, .int (v4 + 1))] [1, 2, 3, 4, 0] rfl ?_
      exact ih v1 v2 v3 (v4 + 1) (upm M 28 ((v3 * 3) + v4).toNatClampNeg (mX4_rowPart 15 v1 v4 M)) hp
def mX5_prove_48   (kf36 : Int32 → Int32 → Int32 → Mem → Int32 × Mem) (v1 : Int32) (v2 : Int32) (v3 : Int32) (M : Mem) : Int32 × Mem := (mX5_prove_51 kf36 400 v1 v2 v3 0 M)
def PX5_prove_48   (kP36 : Int32 → Int32 → Int32 → Mem → Prop) (v1 : Int32) (v2 : Int32) (v3 : Int32) (M : Mem) : Prop := PX5_prove_51 kP36 400 v1 v2 v3 0 M
set_option maxRecDepth 100000 in
theorem cX5_prove_48    (M0 : Mem) (kf36 : Int32 → Int32 → Int32 → Mem → Int32 × Mem) (kP36 : Int32 → Int32 → Int32 → Mem → Prop) (hk36 : ∀ (v1 : Int32) (v2 : Int32) (v3 : Int32) (M : Mem), kP36 v1 v2 v3 M → AWP (GIM mtX5_prove 5 M0 (kf36 v1 v2 v3 M)) mtX5_prove 36 [(0, .ref 0), (1, .int v1), (2, .int v2), (3, .int v3)] [] M) (v1 : Int32) (v2 : Int32) (v3 : Int32) (M : Mem) (hp : PX5_prove_48 kP36 v1 v2 v3 M) : AWP (GIM mtX5_prove 5 M0 (mX5_prove_48 kf36 v1 v2 v3 M)) mtX5_prove 48 [(0, .ref 0), (1, .int v1), (2, .int v2), (3, .int v3)] [] M := by
  unfold mX5_prove_48
  unfold PX5_prove_48 at hp
  refine r_iconst MF.bs dX5_prove_48 (v := 0) (by decide) ?_
  refine r_istore MF.bs (lv' := [(4, .int 0), (0, .ref 0), (1, .int v1), (2, .int v2), (3, .int v3)]) dX5_prove_49 (by decide) rfl ?_
  refine r_sub [(0, .ref 0), (1, .int v1), (2, .int v2), (3, .int v3), (4, .int 0)] [1, 2, 3, 4, 0] rfl ?_
  exact cX5_prove_51 M0 kf36 kP36 hk36 400 v1 v2 v3 0 M hp
def mX5_prove_36   : Nat → Int32 → Int32 → Int32 → Mem → Int32 × Mem
  | 0, _, _, _, M => (0, M)
  | n + 1, v1, v2, v3, M => (if v2 ≤ v3 then (v2, (upm M 0 13 v2)) else (mX5_prove_48 (mX5_prove_36 n) v1 v2 v3 (mX4_takeStep 15 M)))
def PX5_prove_36   : Nat → Int32 → Int32 → Int32 → Mem → Prop
  | 0, _, _, _, _ => False
  | n + 1, v1, v2, v3, M => (¬ v2 ≤ v3 → PX4_takeStep 15 M ∧ (PX5_prove_48 (PX5_prove_36 n) v1 v2 v3 (mX4_takeStep 15 M)))
set_option maxRecDepth 100000 in
theorem cX5_prove_36    (M0 : Mem) : ∀ (n : Nat) (v1 : Int32) (v2 : Int32) (v3 : Int32) (M : Mem), PX5_prove_36 n v1 v2 v3 M → AWP (GIM mtX5_prove 5 M0 (mX5_prove_36 n v1 v2 v3 M)) mtX5_prove 36 [(0, .ref 0), (1, .int v1), (2, .int v2), (3, .int v3)] [] M := by
  intro n
  induction n with
  | zero =>
    intro v1 v2 v3 M hp
    exact hp.elim
  | succ n ih =>
    intro v1 v2 v3 M hp
    rw [mX5_prove_36]
    rw [PX5_prove_36] at hp
    refine r_iload_n MF.bs dX5_prove_36 rfl 3 rfl ?_
    refine r_iload_n MF.bs dX5_prove_37 rfl 2 rfl ?_
    refine r_ite (GIM mtX5_prove 5 M0) (fun h_4 => ?_) (fun h_4 => ?_)
    · refine r_icmp_ge_t MF.bs (tgt := 90) dX5_prove_38 (by decide) h_4 ?_
      refine r_aload_n MF.bs dX5_prove_90 rfl 0 rfl ?_
      refine r_iload_n MF.bs dX5_prove_91 rfl 2 rfl ?_
      refine r_putI MF.bs dX5_prove_92 rfl rfl 13 (by decide) wd_266 rfl rfl rfl rfl rfl ?_
      refine r_iload_n MF.bs dX5_prove_95 rfl 2 rfl ?_
      exact r_iret dX5_prove_96 rfl
    · have hp := hp h_4
      refine r_icmp_ge_f MF.bs (tgt := 90) dX5_prove_38 (by decide) h_4 ?_
      obtain ⟨hq_5, hp⟩ := hp
      refine r_aload_n MF.bs dX5_prove_41 rfl 0 rfl ?_
      refine r_getR MF.bs dX5_prove_42 rfl rfl 2 (by decide) wd_255 rfl ?_
      refine r_callV_n MF.bs (st := []) dX5_prove_45 (ctX4_takeStep 15 (Or.inr (Or.inr rfl)) M hq_5) miX4_takeStep wd_555 rfl (by decide) rfl (Nat.le_of_ble_eq_true rfl) rfl rfl rfl ?_
      exact cX5_prove_48 M0 (mX5_prove_36 n) (PX5_prove_36 n) ih v1 v2 v3 (mX4_takeStep 15 M) hp
def mX5_prove_34   (v1 : Int32) (v2 : Int32) (M : Mem) : Int32 × Mem := (mX5_prove_36 400 v1 v2 0 M)
def PX5_prove_34   (v1 : Int32) (v2 : Int32) (M : Mem) : Prop := PX5_prove_36 400 v1 v2 0 M
set_option maxRecDepth 100000 in
theorem cX5_prove_34    (M0 : Mem) (v1 : Int32) (v2 : Int32) (M : Mem) (hp : PX5_prove_34 v1 v2 M) : AWP (GIM mtX5_prove 5 M0 (mX5_prove_34 v1 v2 M)) mtX5_prove 34 [(0, .ref 0), (1, .int v1), (2, .int v2)] [] M := by
  unfold mX5_prove_34
  unfold PX5_prove_34 at hp
  refine r_iconst MF.bs dX5_prove_34 (v := 0) (by decide) ?_
  refine r_istore_n MF.bs (lv' := [(3, .int 0), (0, .ref 0), (1, .int v1), (2, .int v2)]) dX5_prove_35 rfl (by decide) rfl ?_
  refine r_sub [(0, .ref 0), (1, .int v1), (2, .int v2), (3, .int 0)] [1, 2, 3, 0] rfl ?_
  exact cX5_prove_36 M0 400 v1 v2 0 M hp
def mX5_prove  (a1 : Int32) (a2 : Int32) (M : Mem) : Int32 × Mem := (if (mX4_has 1 a1 M) = true then (if (mX5_isWithin a2 1 10) = true then (mX5_prove_34 a1 a2 (mX4_become 15 1 M)) else ((-1), M)) else ((-1), M))
def PX5_prove  (a1 : Int32) (a2 : Int32) (M : Mem) : Prop := ((mX4_has 1 a1 M) = true → ((mX5_isWithin a2 1 10) = true → PX4_become 15 1 M ∧ (PX5_prove_34 a1 a2 (mX4_become 15 1 M))))
set_option maxRecDepth 100000 in
theorem ctX5_prove   (a1 : Int32) (a2 : Int32) (M : Mem) (hp : PX5_prove a1 a2 M) : CT mtX5_prove 5 [.ref 0, .int a1, .int a2] M (some (.int ((mX5_prove a1 a2 M).1)), (mX5_prove a1 a2 M).2) := by
  refine CT.of (by decide) rfl (Nat.le_of_ble_eq_true rfl) ?_
  show AWP (GIM mtX5_prove 5 M (mX5_prove a1 a2 M)) mtX5_prove 0 [(0, .ref 0), (1, .int a1), (2, .int a2)] [] M
  unfold mX5_prove
  unfold PX5_prove at hp
  refine r_aload_n MF.bs dX5_prove_0 rfl 0 rfl ?_
  refine r_getR MF.bs dX5_prove_1 rfl rfl 0 (by decide) wd_253 rfl ?_
  refine r_iload_n MF.bs dX5_prove_4 rfl 1 rfl ?_
  refine r_callV_v MF.bs (st := []) dX5_prove_5 (ctX4_has 1 (Or.inl rfl) a1 M) miX4_has wd_490 rfl (by decide) rfl (Nat.le_of_ble_eq_true rfl) rfl rfl rfl ?_
  refine r_ite (GIM mtX5_prove 5 M) (fun h_1 => ?_) (fun h_1 => ?_)
  · have hp := hp h_1
    refine r_if_eq_f MF.bs (tgt := 21) dX5_prove_8 (by decide) (b2i_1 h_1) ?_
    refine r_iload_n MF.bs dX5_prove_11 rfl 2 rfl ?_
    refine r_iconst MF.bs dX5_prove_12 (v := 1) (by decide) ?_
    refine r_bipush MF.bs dX5_prove_13 (v := 10) (by decide) ?_
    refine r_callS_v MF.bs (st := []) dX5_prove_15 (ctX5_isWithin a2 1 10 M) miX5_isWithin wd_303 rfl (by decide) rfl (Nat.le_of_ble_eq_true rfl) ?_
    refine r_ite (GIM mtX5_prove 5 M) (fun h_2 => ?_) (fun h_2 => ?_)
    · have hp := hp h_2
      refine r_if_ne_t MF.bs (tgt := 23) dX5_prove_18 (by decide) (b2i_1 h_2) ?_
      obtain ⟨hq_3, hp⟩ := hp
      refine r_aload_n MF.bs dX5_prove_23 rfl 0 rfl ?_
      refine r_getR MF.bs dX5_prove_24 rfl rfl 2 (by decide) wd_255 rfl ?_
      refine r_aload_n MF.bs dX5_prove_27 rfl 0 rfl ?_
      refine r_getR MF.bs dX5_prove_28 rfl rfl 0 (by decide) wd_253 rfl ?_
      refine r_callV_n MF.bs (st := []) dX5_prove_31 (ctX4_become 15 1 (Or.inr (Or.inr rfl)) (Or.inl rfl) M hq_3) miX4_become wd_454 rfl (by decide) rfl (Nat.le_of_ble_eq_true rfl) rfl rfl rfl ?_
      exact cX5_prove_34 M a1 a2 (mX4_become 15 1 M) hp
    · refine r_if_ne_f MF.bs (tgt := 23) dX5_prove_18 (by decide) (b2i_0 h_2) ?_
      refine r_iconst MF.bs dX5_prove_21 (v := -1) (by decide) ?_
      exact r_iret dX5_prove_22 rfl
  · refine r_if_eq_t MF.bs (tgt := 21) dX5_prove_8 (by decide) (b2i_0 h_1) ?_
    refine r_iconst MF.bs dX5_prove_21 (v := -1) (by decide) ?_
    exact r_iret dX5_prove_22 rfl
abbrev mtX5_isRow : MT := (RX5, yX5_isRow, cX5_isRow, 3, (some .boolean))
theorem miX5_isRow : MV mtX5_isRow 2 := ⟨wd_751, ⟨wd_750, wd_23⟩, wd_79, ⟨by decide, by decide, by decide +kernel⟩, by decide⟩
def mX5_isRow  (a1 : Int32) (a2 : Int32) (M : Mem) : Bool := (if (mX5_isWithin a1 0 ((M 0 13) - 1)) = true then (if (mX5_isWithin a2 0 2) = true then true else false) else false)
set_option maxRecDepth 100000 in
theorem ctX5_isRow   (a1 : Int32) (a2 : Int32) (M : Mem) : CT mtX5_isRow 1 [.ref 0, .int a1, .int a2] M (some (.int (b2i (mX5_isRow a1 a2 M))), M) := by
  refine CT.of (by decide) rfl (Nat.le_of_ble_eq_true rfl) ?_
  show AWP (GB mtX5_isRow 1 M M (mX5_isRow a1 a2 M)) mtX5_isRow 0 [(0, .ref 0), (1, .int a1), (2, .int a2)] [] M
  unfold mX5_isRow
  refine r_iload_n MF.bs dX5_isRow_0 rfl 1 rfl ?_
  refine r_iconst MF.bs dX5_isRow_1 (v := 0) (by decide) ?_
  refine r_aload_n MF.bs dX5_isRow_2 rfl 0 rfl ?_
  refine r_getI MF.bs dX5_isRow_3 rfl rfl 13 (by decide) wd_266 rfl ?_
  refine r_iconst MF.bs dX5_isRow_6 (v := 1) (by decide) ?_
  refine r_isub MF.bs dX5_isRow_7 ?_
  refine r_callS_v MF.bs (st := []) dX5_isRow_8 (ctX5_isWithin a1 0 ((M 0 13) - 1) M) miX5_isWithin wd_303 rfl (by decide) rfl (Nat.le_of_ble_eq_true rfl) ?_
  refine r_ite (GB mtX5_isRow 1 M M) (fun h_1 => ?_) (fun h_1 => ?_)
  · refine r_if_eq_f MF.bs (tgt := 27) dX5_isRow_11 (by decide) (b2i_1 h_1) ?_
    refine r_iload_n MF.bs dX5_isRow_14 rfl 2 rfl ?_
    refine r_iconst MF.bs dX5_isRow_15 (v := 0) (by decide) ?_
    refine r_iconst MF.bs dX5_isRow_16 (v := 2) (by decide) ?_
    refine r_callS_v MF.bs (st := []) dX5_isRow_17 (ctX5_isWithin a2 0 2 M) miX5_isWithin wd_303 rfl (by decide) rfl (Nat.le_of_ble_eq_true rfl) ?_
    refine r_ite (GB mtX5_isRow 1 M M) (fun h_2 => ?_) (fun h_2 => ?_)
    · refine r_if_eq_f MF.bs (tgt := 27) dX5_isRow_20 (by decide) (b2i_1 h_2) ?_
      refine r_iconst MF.bs dX5_isRow_23 (v := 1) (by decide) ?_
      refine r_goto MF.bs dX5_isRow_24 (tgt := 28) (by decide) ?_
      exact r_zret1 dX5_isRow_28 rfl
    · refine r_if_eq_t MF.bs (tgt := 27) dX5_isRow_20 (by decide) (b2i_0 h_2) ?_
      refine r_iconst MF.bs dX5_isRow_27 (v := 0) (by decide) ?_
      exact r_zret0 dX5_isRow_28 rfl
  · refine r_if_eq_t MF.bs (tgt := 27) dX5_isRow_11 (by decide) (b2i_0 h_1) ?_
    refine r_iconst MF.bs dX5_isRow_27 (v := 0) (by decide) ?_
    exact r_zret0 dX5_isRow_28 rfl
abbrev mtX5_row : MT := (RX5, yX5_row, cX5_row, 3, (some .int))
theorem miX5_row : MV mtX5_row 2 := ⟨wd_747, ⟨wd_745, wd_746⟩, wd_79, ⟨by decide, by decide, by decide +kernel⟩, by decide⟩
def mX5_row  (a1 : Int32) (a2 : Int32) (M : Mem) : Int32 := (if (mX5_isRow a1 a2 M) = true then (M 28 ((a1 * 3) + a2).toNatClampNeg) else (-9))
def PX5_row  (a1 : Int32) (a2 : Int32) (M : Mem) : Prop := ((mX5_isRow a1 a2 M) = true → vp_in ((a1 * 3) + a2) 30)
set_option maxRecDepth 100000 in
theorem ctX5_row   (a1 : Int32) (a2 : Int32) (M : Mem) (hp : PX5_row a1 a2 M) : CT mtX5_row 2 [.ref 0, .int a1, .int a2] M (some (.int (mX5_row a1 a2 M)), M) := by
  refine CT.of (by decide) rfl (Nat.le_of_ble_eq_true rfl) ?_
  show AWP (GI mtX5_row 2 M M (mX5_row a1 a2 M)) mtX5_row 0 [(0, .ref 0), (1, .int a1), (2, .int a2)] [] M
  unfold mX5_row
  unfold PX5_row at hp
  refine r_aload_n MF.bs dX5_row_0 rfl 0 rfl ?_
  refine r_iload_n MF.bs dX5_row_1 rfl 1 rfl ?_
  refine r_iload_n MF.bs dX5_row_2 rfl 2 rfl ?_
  refine r_callV_v MF.bs (st := []) dX5_row_3 (ctX5_isRow a1 a2 M) miX5_isRow wd_748 rfl (by decide) rfl (Nat.le_of_ble_eq_true rfl) rfl rfl rfl ?_
  refine r_ite (GI mtX5_row 2 M M) (fun h_1 => ?_) (fun h_1 => ?_)
  · have hp := hp h_1
    refine r_if_eq_f MF.bs (tgt := 22) dX5_row_6 (by decide) (b2i_1 h_1) ?_
    have hq_2 := hp
    refine r_aload_n MF.bs dX5_row_9 rfl 0 rfl ?_
    refine r_getR MF.bs dX5_row_10 rfl rfl 7 (by decide) wd_260 rfl ?_
    refine r_iload_n MF.bs dX5_row_13 rfl 1 rfl ?_
    refine r_iconst MF.bs dX5_row_14 (v := 3) (by decide) ?_
    refine r_imul MF.bs dX5_row_15 ?_
    refine r_iload_n MF.bs dX5_row_16 rfl 2 rfl ?_
    refine r_iadd MF.bs dX5_row_17 ?_
    refine r_iaload MF.bs dX5_row_18 rfl hq_2 ?_
    refine r_goto MF.bs dX5_row_19 (tgt := 24) (by decide) ?_
    exact r_iret dX5_row_24 rfl
  · refine r_if_eq_t MF.bs (tgt := 22) dX5_row_6 (by decide) (b2i_0 h_1) ?_
    refine r_bipush MF.bs dX5_row_22 (v := -9) (by decide) ?_
    exact r_iret dX5_row_24 rfl
abbrev mtX5_alterRow : MT := (RX5, yX5_alterRow, cX5_alterRow, 5, (some .int))
theorem miX5_alterRow : MV mtX5_alterRow 3 := ⟨wd_755, ⟨wd_753, wd_754⟩, wd_79, ⟨by decide, by decide, by decide +kernel⟩, by decide⟩
def mX5_alterRow  (a1 : Int32) (a2 : Int32) (a3 : Int32) (M : Mem) : Int32 × Mem := (if (mX5_isRow a1 a2 M) = true then ((M 28 ((a1 * 3) + a2).toNatClampNeg), (upm M 28 ((a1 * 3) + a2).toNatClampNeg a3)) else ((-9), M))
def PX5_alterRow  (a1 : Int32) (a2 : Int32) (a3 : Int32) (M : Mem) : Prop := ((mX5_isRow a1 a2 M) = true → vp_in ((a1 * 3) + a2) 30 ∧ (vp_in ((a1 * 3) + a2) 30))
set_option maxRecDepth 100000 in
theorem ctX5_alterRow   (a1 : Int32) (a2 : Int32) (a3 : Int32) (M : Mem) (hp : PX5_alterRow a1 a2 a3 M) : CT mtX5_alterRow 2 [.ref 0, .int a1, .int a2, .int a3] M (some (.int ((mX5_alterRow a1 a2 a3 M).1)), (mX5_alterRow a1 a2 a3 M).2) := by
  refine CT.of (by decide) rfl (Nat.le_of_ble_eq_true rfl) ?_
  show AWP (GIM mtX5_alterRow 2 M (mX5_alterRow a1 a2 a3 M)) mtX5_alterRow 0 [(0, .ref 0), (1, .int a1), (2, .int a2), (3, .int a3)] [] M
  unfold mX5_alterRow
  unfold PX5_alterRow at hp
  refine r_aload_n MF.bs dX5_alterRow_0 rfl 0 rfl ?_
  refine r_iload_n MF.bs dX5_alterRow_1 rfl 1 rfl ?_
  refine r_iload_n MF.bs dX5_alterRow_2 rfl 2 rfl ?_
  refine r_callV_v MF.bs (st := []) dX5_alterRow_3 (ctX5_isRow a1 a2 M) miX5_isRow wd_748 rfl (by decide) rfl (Nat.le_of_ble_eq_true rfl) rfl rfl rfl ?_
  refine r_ite (GIM mtX5_alterRow 2 M) (fun h_1 => ?_) (fun h_1 => ?_)
  · have hp := hp h_1
    refine r_if_ne_t MF.bs (tgt := 12) dX5_alterRow_6 (by decide) (b2i_1 h_1) ?_
    obtain ⟨hq_2, hp⟩ := hp
    have hq_3 := hp
    refine r_aload_n MF.bs dX5_alterRow_12 rfl 0 rfl ?_
    refine r_getR MF.bs dX5_alterRow_13 rfl rfl 7 (by decide) wd_260 rfl ?_
    refine r_iload_n MF.bs dX5_alterRow_16 rfl 1 rfl ?_
    refine r_iconst MF.bs dX5_alterRow_17 (v := 3) (by decide) ?_
    refine r_imul MF.bs dX5_alterRow_18 ?_
    refine r_iload_n MF.bs dX5_alterRow_19 rfl 2 rfl ?_
    refine r_iadd MF.bs dX5_alterRow_20 ?_
    refine r_iaload MF.bs dX5_alterRow_21 rfl hq_2 ?_
    refine r_istore MF.bs (lv' := [(4, .int (M 28 ((a1 * 3) + a2).toNatClampNeg)), (0, .ref 0), (1, .int a1), (2, .int a2), (3, .int a3)]) dX5_alterRow_22 (by decide) rfl ?_
    refine r_aload_n MF.bs dX5_alterRow_24 rfl 1 rfl ?_
    refine r_getR MF.bs dX5_alterRow_25 rfl rfl 7 (by decide) wd_260 rfl ?_
    refine r_iload_n MF.bs dX5_alterRow_28 rfl 2 rfl ?_
    refine r_iconst MF.bs dX5_alterRow_29 (v := 3) (by decide) ?_
    refine r_imul MF.bs dX5_alterRow_30 ?_
    refine r_iload_n MF.bs dX5_alterRow_31 rfl 3 rfl ?_
    refine r_iadd MF.bs dX5_alterRow_32 ?_
    refine r_iload_n MF.bs dX5_alterRow_33 rfl 4 rfl ?_
    refine r_iastore MF.bs dX5_alterRow_34 rfl hq_3 ?_
    refine r_iload MF.bs dX5_alterRow_35 0 rfl ?_
    exact r_iret dX5_alterRow_37 rfl
  · refine r_if_ne_f MF.bs (tgt := 12) dX5_alterRow_6 (by decide) (b2i_0 h_1) ?_
    refine r_bipush MF.bs dX5_alterRow_9 (v := -9) (by decide) ?_
    exact r_iret dX5_alterRow_11 rfl
abbrev mtX5_judge : MT := (RX5, yX5_judge, cX5_judge, 4, (some .int))
theorem miX5_judge : MV mtX5_judge 1 := ⟨wd_759, ⟨wd_757, wd_758⟩, wd_79, ⟨by decide, by decide, by decide +kernel⟩, by decide⟩
def mX5_judge_43   (kf26 : Int32 → Int32 → Mem → Int32 × Mem) : Nat → Int32 → Int32 → Int32 → Mem → Int32 × Mem
  | 0, _, _, _, M => (0, M)
  | n + 1, v1, v2, v3, M => (if 3 ≤ v3 then (kf26 v1 (v2 + 1) M) else (if (M 28 ((v2 * 3) + v3).toNatClampNeg) = (mX4_rowPart 15 v1 v3 M) then (mX5_judge_43 kf26 n v1 v2 (v3 + 1) M) else ((v2 + 1), M)))
def PX5_judge_43   (kP26 : Int32 → Int32 → Mem → Prop) : Nat → Int32 → Int32 → Int32 → Mem → Prop
  | 0, _, _, _, _ => False
  | n + 1, v1, v2, v3, M => ((3 ≤ v3 → kP26 v1 (v2 + 1) M) ∧ (¬ 3 ≤ v3 → vp_in ((v2 * 3) + v3) 30 ∧ (PX4_rowPart 15 v1 v3 M ∧ (((M 28 ((v2 * 3) + v3).toNatClampNeg) = (mX4_rowPart 15 v1 v3 M) → PX5_judge_43 kP26 n v1 v2 (v3 + 1) M)))))
set_option maxRecDepth 100000 in
theorem cX5_judge_43    (M0 : Mem) (kf26 : Int32 → Int32 → Mem → Int32 × Mem) (kP26 : Int32 → Int32 → Mem → Prop) (hk26 : ∀ (v1 : Int32) (v2 : Int32) (M : Mem), kP26 v1 v2 M → AWP (GIM mtX5_judge 5 M0 (kf26 v1 v2 M)) mtX5_judge 26 [(0, .ref 0), (1, .int v1), (2, .int v2)] [] M) : ∀ (n : Nat) (v1 : Int32) (v2 : Int32) (v3 : Int32) (M : Mem), PX5_judge_43 kP26 n v1 v2 v3 M → AWP (GIM mtX5_judge 5 M0 (mX5_judge_43 kf26 n v1 v2 v3 M)) mtX5_judge 43 [(0, .ref 0), (1, .int v1), (2, .int v2), (3, .int v3)] [] M := by
  intro n
  induction n with
  | zero =>
    intro v1 v2 v3 M hp
    exact hp.elim
  | succ n ih =>
    intro v1 v2 v3 M hp
    rw [mX5_judge_43]
    rw [PX5_judge_43] at hp
    refine r_iload_n MF.bs dX5_judge_43 rfl 3 rfl ?_
    refine r_iconst MF.bs dX5_judge_44 (v := 3) (by decide) ?_
    refine r_ite (GIM mtX5_judge 5 M0) (fun h_5 => ?_) (fun h_5 => ?_)
    · have hp := hp.1 h_5
      refine r_icmp_ge_t MF.bs (tgt := 80) dX5_judge_45 (by decide) h_5 ?_
      refine r_iinc MF.bs (v := (v2 + 1)) (lv' := [(2, .int (v2 + 1)), (0, .ref 0), (1, .int v1), (3, .int v3)]) dX5_judge_80 2 rfl rfl (by decide) rfl ?_
      refine r_goto MF.bs dX5_judge_83 (tgt := 26) (by decide) ?_
      refine r_sub [(0, .ref 0), (1, .int v1), (2, .int (v2 + 1))] [1, 2, 0] rfl ?_
      exact hk26 v1 (v2 + 1) M hp
    · have hp := hp.2 h_5
      refine r_icmp_ge_f MF.bs (tgt := 80) dX5_judge_45 (by decide) h_5 ?_
      obtain ⟨hq_6, hp⟩ := hp
      obtain ⟨hq_7, hp⟩ := hp
      refine r_aload_n MF.bs dX5_judge_48 rfl 0 rfl ?_
      refine r_getR MF.bs dX5_judge_49 rfl rfl 7 (by decide) wd_260 rfl ?_
      refine r_iload_n MF.bs dX5_judge_52 rfl 2 rfl ?_
      refine r_iconst MF.bs dX5_judge_53 (v := 3) (by decide) ?_
      refine r_imul MF.bs dX5_judge_54 ?_
      refine r_iload_n MF.bs dX5_judge_55 rfl 3 rfl ?_
      refine r_iadd MF.bs dX5_judge_56 ?_
      refine r_iaload MF.bs dX5_judge_57 rfl hq_6 ?_
      refine r_aload_n MF.bs dX5_judge_58 rfl 0 rfl ?_
      refine r_getR MF.bs dX5_judge_59 rfl rfl 2 (by decide) wd_255 rfl ?_
      refine r_iload_n MF.bs dX5_judge_62 rfl 1 rfl ?_
      refine r_iload_n MF.bs dX5_judge_63 rfl 3 rfl ?_
      refine r_callV_v MF.bs (st := [.int (M 28 ((v2 * 3) + v3).toNatClampNeg)]) dX5_judge_64 (ctX4_rowPart 15 (Or.inr (Or.inr rfl)) v1 v3 M hq_7) miX4_rowPart wd_739 rfl (by decide) rfl (Nat.le_of_ble_eq_true rfl) rfl rfl rfl ?_
      refine r_ite (GIM mtX5_judge 5 M0) (fun h_8 => ?_) (fun h_8 => ?_)
      · have hp := hp h_8
        refine r_icmp_eq_t MF.bs (tgt := 74) dX5_judge_67 (by decide) h_8 ?_
        refine r_iinc MF.bs (v := (v3 + 1)) (lv' := [(3, .int (v3 + 1)), (0, .ref 0), (1, .int v1), (2, .int v2)]) dX5_judge_74 3 rfl rfl (by decide) rfl ?_
        refine r_goto MF.bs dX5_judge_77 (tgt := 43) (by decide) ?_
        refine r_sub [(0, .ref 0), (1, .int v1), (2, .int v2), (3, .int (v3 + 1))] [1, 2, 3, 0] rfl ?_
        exact ih v1 v2 (v3 + 1) M hp
      · refine r_icmp_eq_f MF.bs (tgt := 74) dX5_judge_67 (by decide) h_8 ?_
        refine r_iload_n MF.bs dX5_judge_70 rfl 2 rfl ?_
        refine r_iconst MF.bs dX5_judge_71 (v := 1) (by decide) ?_
        refine r_iadd MF.bs dX5_judge_72 ?_
        exact r_iret dX5_judge_73 rfl
def mX5_judge_41   (kf26 : Int32 → Int32 → Mem → Int32 × Mem) (v1 : Int32) (v2 : Int32) (M : Mem) : Int32 × Mem := (mX5_judge_43 kf26 400 v1 v2 0 M)
def PX5_judge_41   (kP26 : Int32 → Int32 → Mem → Prop) (v1 : Int32) (v2 : Int32) (M : Mem) : Prop := PX5_judge_43 kP26 400 v1 v2 0 M
set_option maxRecDepth 100000 in
theorem cX5_judge_41    (M0 : Mem) (kf26 : Int32 → Int32 → Mem → Int32 × Mem) (kP26 : Int32 → Int32 → Mem → Prop) (hk26 : ∀ (v1 : Int32) (v2 : Int32) (M : Mem), kP26 v1 v2 M → AWP (GIM mtX5_judge 5 M0 (kf26 v1 v2 M)) mtX5_judge 26 [(0, .ref 0), (1, .int v1), (2, .int v2)] [] M) (v1 : Int32) (v2 : Int32) (M : Mem) (hp : PX5_judge_41 kP26 v1 v2 M) : AWP (GIM mtX5_judge 5 M0 (mX5_judge_41 kf26 v1 v2 M)) mtX5_judge 41 [(0, .ref 0), (1, .int v1), (2, .int v2)] [] M := by
  unfold mX5_judge_41
  unfold PX5_judge_41 at hp
  refine r_iconst MF.bs dX5_judge_41 (v := 0) (by decide) ?_
  refine r_istore_n MF.bs (lv' := [(3, .int 0), (0, .ref 0), (1, .int v1), (2, .int v2)]) dX5_judge_42 rfl (by decide) rfl ?_
  refine r_sub [(0, .ref 0), (1, .int v1), (2, .int v2), (3, .int 0)] [1, 2, 3, 0] rfl ?_
  exact cX5_judge_43 M0 kf26 kP26 hk26 400 v1 v2 0 M hp
def mX5_judge_26   : Nat → Int32 → Int32 → Mem → Int32 × Mem
  | 0, _, _, M => (0, M)
  | n + 1, v1, v2, M => (if (M 0 13) ≤ v2 then (0, M) else (mX5_judge_41 (mX5_judge_26 n) v1 v2 (mX4_takeStep 15 M)))
def PX5_judge_26   : Nat → Int32 → Int32 → Mem → Prop
  | 0, _, _, _ => False
  | n + 1, v1, v2, M => (¬ (M 0 13) ≤ v2 → PX4_takeStep 15 M ∧ (PX5_judge_41 (PX5_judge_26 n) v1 v2 (mX4_takeStep 15 M)))
set_option maxRecDepth 100000 in
theorem cX5_judge_26    (M0 : Mem) : ∀ (n : Nat) (v1 : Int32) (v2 : Int32) (M : Mem), PX5_judge_26 n v1 v2 M → AWP (GIM mtX5_judge 5 M0 (mX5_judge_26 n v1 v2 M)) mtX5_judge 26 [(0, .ref 0), (1, .int v1), (2, .int v2)] [] M := by
  intro n
  induction n with
  | zero =>
    intro v1 v2 M hp
    exact hp.elim
  | succ n ih =>
    intro v1 v2 M hp
    rw [mX5_judge_26]
    rw [PX5_judge_26] at hp
    refine r_iload_n MF.bs dX5_judge_26 rfl 2 rfl ?_
    refine r_aload_n MF.bs dX5_judge_27 rfl 0 rfl ?_
    refine r_getI MF.bs dX5_judge_28 rfl rfl 13 (by decide) wd_266 rfl ?_
    refine r_ite (GIM mtX5_judge 5 M0) (fun h_3 => ?_) (fun h_3 => ?_)
    · refine r_icmp_ge_t MF.bs (tgt := 86) dX5_judge_31 (by decide) h_3 ?_
      refine r_iconst MF.bs dX5_judge_86 (v := 0) (by decide) ?_
      exact r_iret dX5_judge_87 rfl
    · have hp := hp h_3
      refine r_icmp_ge_f MF.bs (tgt := 86) dX5_judge_31 (by decide) h_3 ?_
      obtain ⟨hq_4, hp⟩ := hp
      refine r_aload_n MF.bs dX5_judge_34 rfl 0 rfl ?_
      refine r_getR MF.bs dX5_judge_35 rfl rfl 2 (by decide) wd_255 rfl ?_
      refine r_callV_n MF.bs (st := []) dX5_judge_38 (ctX4_takeStep 15 (Or.inr (Or.inr rfl)) M hq_4) miX4_takeStep wd_555 rfl (by decide) rfl (Nat.le_of_ble_eq_true rfl) rfl rfl rfl ?_
      exact cX5_judge_41 M0 (mX5_judge_26 n) (PX5_judge_26 n) ih v1 v2 (mX4_takeStep 15 M) hp
def mX5_judge_24   (v1 : Int32) (M : Mem) : Int32 × Mem := (mX5_judge_26 400 v1 0 M)
def PX5_judge_24   (v1 : Int32) (M : Mem) : Prop := PX5_judge_26 400 v1 0 M
set_option maxRecDepth 100000 in
theorem cX5_judge_24    (M0 : Mem) (v1 : Int32) (M : Mem) (hp : PX5_judge_24 v1 M) : AWP (GIM mtX5_judge 5 M0 (mX5_judge_24 v1 M)) mtX5_judge 24 [(0, .ref 0), (1, .int v1)] [] M := by
  unfold mX5_judge_24
  unfold PX5_judge_24 at hp
  refine r_iconst MF.bs dX5_judge_24 (v := 0) (by decide) ?_
  refine r_istore_n MF.bs (lv' := [(2, .int 0), (0, .ref 0), (1, .int v1)]) dX5_judge_25 rfl (by decide) rfl ?_
  refine r_sub [(0, .ref 0), (1, .int v1), (2, .int 0)] [1, 2, 0] rfl ?_
  exact cX5_judge_26 M0 400 v1 0 M hp
def mX5_judge  (a1 : Int32) (M : Mem) : Int32 × Mem := (if (mX4_has 1 a1 M) = true then (mX5_judge_24 a1 (mX4_become 15 1 M)) else ((-1), M))
def PX5_judge  (a1 : Int32) (M : Mem) : Prop := ((mX4_has 1 a1 M) = true → PX4_become 15 1 M ∧ (PX5_judge_24 a1 (mX4_become 15 1 M)))
set_option maxRecDepth 100000 in
theorem ctX5_judge   (a1 : Int32) (M : Mem) (hp : PX5_judge a1 M) : CT mtX5_judge 5 [.ref 0, .int a1] M (some (.int ((mX5_judge a1 M).1)), (mX5_judge a1 M).2) := by
  refine CT.of (by decide) rfl (Nat.le_of_ble_eq_true rfl) ?_
  show AWP (GIM mtX5_judge 5 M (mX5_judge a1 M)) mtX5_judge 0 [(0, .ref 0), (1, .int a1)] [] M
  unfold mX5_judge
  unfold PX5_judge at hp
  refine r_aload_n MF.bs dX5_judge_0 rfl 0 rfl ?_
  refine r_getR MF.bs dX5_judge_1 rfl rfl 0 (by decide) wd_253 rfl ?_
  refine r_iload_n MF.bs dX5_judge_4 rfl 1 rfl ?_
  refine r_callV_v MF.bs (st := []) dX5_judge_5 (ctX4_has 1 (Or.inl rfl) a1 M) miX4_has wd_490 rfl (by decide) rfl (Nat.le_of_ble_eq_true rfl) rfl rfl rfl ?_
  refine r_ite (GIM mtX5_judge 5 M) (fun h_1 => ?_) (fun h_1 => ?_)
  · have hp := hp h_1
    refine r_if_ne_t MF.bs (tgt := 13) dX5_judge_8 (by decide) (b2i_1 h_1) ?_
    obtain ⟨hq_2, hp⟩ := hp
    refine r_aload_n MF.bs dX5_judge_13 rfl 0 rfl ?_
    refine r_getR MF.bs dX5_judge_14 rfl rfl 2 (by decide) wd_255 rfl ?_
    refine r_aload_n MF.bs dX5_judge_17 rfl 0 rfl ?_
    refine r_getR MF.bs dX5_judge_18 rfl rfl 0 (by decide) wd_253 rfl ?_
    refine r_callV_n MF.bs (st := []) dX5_judge_21 (ctX4_become 15 1 (Or.inr (Or.inr rfl)) (Or.inl rfl) M hq_2) miX4_become wd_454 rfl (by decide) rfl (Nat.le_of_ble_eq_true rfl) rfl rfl rfl ?_
    exact cX5_judge_24 M a1 (mX4_become 15 1 M) hp
  · refine r_if_ne_f MF.bs (tgt := 13) dX5_judge_8 (by decide) (b2i_0 h_1) ?_
    refine r_iconst MF.bs dX5_judge_11 (v := -1) (by decide) ?_
    exact r_iret dX5_judge_12 rfl
abbrev mtX5_minds : MT := (RX5, yX5_minds, cX5_minds, 7, (some .int))
theorem miX5_minds : MV mtX5_minds 4 := ⟨wd_763, ⟨wd_761, wd_762⟩, wd_79, ⟨by decide, by decide, by decide +kernel⟩, by decide⟩
def mX5_minds_103  (a1 : Int32) : Nat → Int32 → Int32 → Int32 → Int32 → Mem → Int32 × Mem
  | 0, _, _, _, _, M => (0, M)
  | n + 1, v2, v3, v4, v6, M => (if v4 ≤ v6 then (v4, M) else (mX5_minds_103 a1 n v2 v3 v4 (v6 + 1) (upm M 5 (v3 + v6).toNatClampNeg (mX5_held (M ((qpl a1) + 1) (v2 + v6).toNatClampNeg) 9))))
def PX5_minds_103  (a1 : Int32) : Nat → Int32 → Int32 → Int32 → Int32 → Mem → Prop
  | 0, _, _, _, _, _ => False
  | n + 1, v2, v3, v4, v6, M => (¬ v4 ≤ v6 → vp_in (v2 + v6) 40 ∧ (vp_in (v3 + v6) 8 ∧ (PX5_minds_103 a1 n v2 v3 v4 (v6 + 1) (upm M 5 (v3 + v6).toNatClampNeg (mX5_held (M ((qpl a1) + 1) (v2 + v6).toNatClampNeg) 9)))))
set_option maxRecDepth 100000 in
theorem cX5_minds_103   (a1 : Int32) (hx_a1 : 0 ≤ a1 ∧ a1 ≤ 3) (M0 : Mem) : ∀ (n : Nat) (v2 : Int32) (v3 : Int32) (v4 : Int32) (v6 : Int32) (M : Mem), PX5_minds_103 a1 n v2 v3 v4 v6 M → AWP (GIM mtX5_minds 4 M0 (mX5_minds_103 a1 n v2 v3 v4 v6 M)) mtX5_minds 103 [(0, .ref 0), (2, .int v2), (3, .int v3), (4, .int v4), (5, .ref (qpl a1)), (6, .int v6)] [] M := by
  intro n
  induction n with
  | zero =>
    intro v2 v3 v4 v6 M hp
    exact hp.elim
  | succ n ih =>
    intro v2 v3 v4 v6 M hp
    rw [mX5_minds_103]
    rw [PX5_minds_103] at hp
    refine r_iload MF.bs dX5_minds_103 5 rfl ?_
    refine r_iload MF.bs dX5_minds_105 3 rfl ?_
    refine r_ite (GIM mtX5_minds 4 M0) (fun h_9 => ?_) (fun h_9 => ?_)
    · refine r_icmp_ge_t MF.bs (tgt := 143) dX5_minds_107 (by decide) h_9 ?_
      refine r_iload MF.bs dX5_minds_143 3 rfl ?_
      exact r_iret dX5_minds_145 rfl
    · have hp := hp h_9
      refine r_icmp_ge_f MF.bs (tgt := 143) dX5_minds_107 (by decide) h_9 ?_
      obtain ⟨hq_10, hp⟩ := hp
      obtain ⟨hq_11, hp⟩ := hp
      refine r_aload_n MF.bs dX5_minds_110 rfl 0 rfl ?_
      refine r_getR MF.bs dX5_minds_111 rfl rfl 0 (by decide) wd_253 rfl ?_
      refine r_getR MF.bs dX5_minds_114 rfl rfl 3 (by decide) wd_122 rfl ?_
      refine r_iload_n MF.bs dX5_minds_117 rfl 2 rfl ?_
      refine r_iload MF.bs dX5_minds_118 5 rfl ?_
      refine r_iadd MF.bs dX5_minds_120 ?_
      refine r_aload MF.bs dX5_minds_121 4 rfl ?_
      refine r_getR MF.bs dX5_minds_123 (sh_q (qpl_ok hx_a1)) rfl 0 (by decide) wd_217 rfl ?_
      refine r_iload_n MF.bs dX5_minds_126 rfl 1 rfl ?_
      refine r_iload MF.bs dX5_minds_127 5 rfl ?_
      refine r_iadd MF.bs dX5_minds_129 ?_
      refine r_iaload MF.bs dX5_minds_130 (sh_q1 (qpl_ok hx_a1)) hq_10 ?_
      refine r_bipush MF.bs dX5_minds_131 (v := 9) (by decide) ?_
      refine r_callS_v MF.bs (st := [.int (v3 + v6), .ref 5]) dX5_minds_133 (ctX5_held (M ((qpl a1) + 1) (v2 + v6).toNatClampNeg) 9 M) miX5_held wd_764 rfl (by decide) rfl (Nat.le_of_ble_eq_true rfl) ?_
      refine r_iastore MF.bs dX5_minds_136 rfl hq_11 ?_
      refine r_iinc MF.bs (v := (v6 + 1)) (lv' := [(6, .int (v6 + 1)), (0, .ref 0), (2, .int v2), (3, .int v3), (4, .int v4), (5, .ref (qpl a1))]) dX5_minds_137 5 rfl rfl (by decide) rfl ?_
      refine r_goto MF.bs dX5_minds_140 (tgt := 103) (by decide) ?_
      refine r_sub [(0, .ref 0), (2, .int v2), (3, .int v3), (4, .int v4), (5, .ref (qpl a1)), (6, .int (v6 + 1))] [1, 2, 3, 4, 5, 0] rfl ?_
      exact ih v2 v3 v4 (v6 + 1) (upm M 5 (v3 + v6).toNatClampNeg (mX5_held (M ((qpl a1) + 1) (v2 + v6).toNatClampNeg) 9)) hp
def mX5_minds  (a1 : Int32) (a2 : Int32) (a3 : Int32) (a4 : Int32) (M : Mem) : Int32 × Mem := (if 0 ≤ a1 ∧ a1 ≤ 3 then (if (mX4_has 1 a3 M) = true then (if (mX5_isWithin a4 0 8) = true then (if a4 ≤ ((M 1 6) - a3) then (if (mX1_isMissing (qpl a1) M) = true then ((-11), M) else (if (M (qpl a1) 1) = 0 then (if (mX5_isWithin a2 0 (M (qpl a1) 2)) = true then (if a4 ≤ ((M (qpl a1) 2) - a2) then (mX5_minds_103 a1 400 a2 a3 a4 0 M) else ((-12), M)) else ((-12), M)) else ((-13), M))) else ((-1), M)) else ((-1), M)) else ((-1), M)) else ((-1), M))
def PX5_minds  (a1 : Int32) (a2 : Int32) (a3 : Int32) (a4 : Int32) (M : Mem) : Prop := (0 ≤ a1 ∧ a1 ≤ 3 → ((mX4_has 1 a3 M) = true → ((mX5_isWithin a4 0 8) = true → (a4 ≤ ((M 1 6) - a3) → (¬ (mX1_isMissing (qpl a1) M) = true → ((M (qpl a1) 1) = 0 → ((mX5_isWithin a2 0 (M (qpl a1) 2)) = true → (a4 ≤ ((M (qpl a1) 2) - a2) → PX5_minds_103 a1 400 a2 a3 a4 0 M))))))))
set_option maxRecDepth 100000 in
theorem ctX5_minds   (a1 : Int32) (a2 : Int32) (a3 : Int32) (a4 : Int32) (M : Mem) (hp : PX5_minds a1 a2 a3 a4 M) : CT mtX5_minds 4 [.ref 0, .int a1, .int a2, .int a3, .int a4] M (some (.int ((mX5_minds a1 a2 a3 a4 M).1)), (mX5_minds a1 a2 a3 a4 M).2) := by
  refine CT.of (by decide) rfl (Nat.le_of_ble_eq_true rfl) ?_
  show AWP (GIM mtX5_minds 4 M (mX5_minds a1 a2 a3 a4 M)) mtX5_minds 0 [(0, .ref 0), (1, .int a1), (2, .int a2), (3, .int a3), (4, .int a4)] [] M
  unfold mX5_minds
  unfold PX5_minds at hp
  refine r_aload_n MF.bs dX5_minds_0 rfl 0 rfl ?_
  refine r_iload_n MF.bs dX5_minds_1 rfl 1 rfl ?_
  refine r_ite (GIM mtX5_minds 4 M) (fun h_1 => ?_) (fun h_1 => ?_)
  · have hp := hp h_1
    refine r_callV_v MF.bs (st := []) dX5_minds_2 (ctX5_sheetAt_in a1 M h_1) miX5_sheetAt wd_698 rfl (by decide) rfl (Nat.le_of_ble_eq_true rfl) rfl rfl rfl ?_
    refine r_astore MF.bs (lv' := [(5, .ref (qpl a1)), (0, .ref 0), (1, .int a1), (2, .int a2), (3, .int a3), (4, .int a4)]) dX5_minds_5 (by decide) rfl ?_
    refine r_aload MF.bs dX5_minds_7 0 rfl ?_
    refine r_ifnull MF.bs dX5_minds_9 ?_
    refine r_aload_n MF.bs dX5_minds_12 rfl 1 rfl ?_
    refine r_getR MF.bs dX5_minds_13 rfl rfl 0 (by decide) wd_253 rfl ?_
    refine r_iload_n MF.bs dX5_minds_16 rfl 4 rfl ?_
    refine r_callV_v MF.bs (st := []) dX5_minds_17 (ctX4_has 1 (Or.inl rfl) a3 M) miX4_has wd_490 rfl (by decide) rfl (Nat.le_of_ble_eq_true rfl) rfl rfl rfl ?_
    refine r_ite (GIM mtX5_minds 4 M) (fun h_2 => ?_) (fun h_2 => ?_)
    · have hp := hp h_2
      refine r_if_eq_f MF.bs (tgt := 48) dX5_minds_20 (by decide) (b2i_1 h_2) ?_
      refine r_iload MF.bs dX5_minds_23 5 rfl ?_
      refine r_iconst MF.bs dX5_minds_25 (v := 0) (by decide) ?_
      refine r_bipush MF.bs dX5_minds_26 (v := 8) (by decide) ?_
      refine r_callS_v MF.bs (st := []) dX5_minds_28 (ctX5_isWithin a4 0 8 M) miX5_isWithin wd_303 rfl (by decide) rfl (Nat.le_of_ble_eq_true rfl) ?_
      refine r_ite (GIM mtX5_minds 4 M) (fun h_3 => ?_) (fun h_3 => ?_)
      · have hp := hp h_3
        refine r_if_eq_f MF.bs (tgt := 48) dX5_minds_31 (by decide) (b2i_1 h_3) ?_
        refine r_iload MF.bs dX5_minds_34 5 rfl ?_
        refine r_aload_n MF.bs dX5_minds_36 rfl 1 rfl ?_
        refine r_getR MF.bs dX5_minds_37 rfl rfl 0 (by decide) wd_253 rfl ?_
        refine r_getI MF.bs dX5_minds_40 rfl rfl 6 (by decide) wd_128 rfl ?_
        refine r_iload_n MF.bs dX5_minds_43 rfl 4 rfl ?_
        refine r_isub MF.bs dX5_minds_44 ?_
        refine r_ite (GIM mtX5_minds 4 M) (fun h_4 => ?_) (fun h_4 => ?_)
        · have hp := hp h_4
          refine r_icmp_le_t MF.bs (tgt := 50) dX5_minds_45 (by decide) h_4 ?_
          refine r_aload MF.bs dX5_minds_50 0 rfl ?_
          refine r_callV_v MF.bs (st := []) dX5_minds_52 (ctX1_isMissing (qpl a1) (qpl_ok h_1) M) miX1_isMissing wd_702 rfl (by decide) rfl (Nat.le_of_ble_eq_true rfl) (sh_q (qpl_ok h_1)) rfl rfl ?_
          refine r_ite (GIM mtX5_minds 4 M) (fun h_5 => ?_) (fun h_5 => ?_)
          · refine r_if_eq_f MF.bs (tgt := 61) dX5_minds_55 (by decide) (b2i_1 h_5) ?_
            refine r_bipush MF.bs dX5_minds_58 (v := -11) (by decide) ?_
            exact r_iret dX5_minds_60 rfl
          · have hp := hp h_5
            refine r_if_eq_t MF.bs (tgt := 61) dX5_minds_55 (by decide) (b2i_0 h_5) ?_
            refine r_aload MF.bs dX5_minds_61 0 rfl ?_
            refine r_getI MF.bs dX5_minds_63 (sh_q (qpl_ok h_1)) rfl 1 (by decide) wd_220 rfl ?_
            refine r_ite (GIM mtX5_minds 4 M) (fun h_6 => ?_) (fun h_6 => ?_)
            · have hp := hp h_6
              refine r_if_eq_t MF.bs (tgt := 72) dX5_minds_66 (by decide) h_6 ?_
              refine r_iload_n MF.bs dX5_minds_72 rfl 3 rfl ?_
              refine r_iconst MF.bs dX5_minds_73 (v := 0) (by decide) ?_
              refine r_aload MF.bs dX5_minds_74 0 rfl ?_
              refine r_getI MF.bs dX5_minds_76 (sh_q (qpl_ok h_1)) rfl 2 (by decide) wd_223 rfl ?_
              refine r_callS_v MF.bs (st := []) dX5_minds_79 (ctX5_isWithin a2 0 (M (qpl a1) 2) M) miX5_isWithin wd_303 rfl (by decide) rfl (Nat.le_of_ble_eq_true rfl) ?_
              refine r_ite (GIM mtX5_minds 4 M) (fun h_7 => ?_) (fun h_7 => ?_)
              · have hp := hp h_7
                refine r_if_eq_f MF.bs (tgt := 97) dX5_minds_82 (by decide) (b2i_1 h_7) ?_
                refine r_iload MF.bs dX5_minds_85 5 rfl ?_
                refine r_aload MF.bs dX5_minds_87 0 rfl ?_
                refine r_getI MF.bs dX5_minds_89 (sh_q (qpl_ok h_1)) rfl 2 (by decide) wd_223 rfl ?_
                refine r_iload_n MF.bs dX5_minds_92 rfl 3 rfl ?_
                refine r_isub MF.bs dX5_minds_93 ?_
                refine r_ite (GIM mtX5_minds 4 M) (fun h_8 => ?_) (fun h_8 => ?_)
                · have hp := hp h_8
                  refine r_icmp_le_t MF.bs (tgt := 100) dX5_minds_94 (by decide) h_8 ?_
                  refine r_iconst MF.bs dX5_minds_100 (v := 0) (by decide) ?_
                  refine r_istore MF.bs (lv' := [(6, .int 0), (5, .ref (qpl a1)), (0, .ref 0), (1, .int a1), (2, .int a2), (3, .int a3), (4, .int a4)]) dX5_minds_101 (by decide) rfl ?_
                  refine r_sub [(0, .ref 0), (2, .int a2), (3, .int a3), (4, .int a4), (5, .ref (qpl a1)), (6, .int 0)] [2, 4, 5, 6, 1, 0] rfl ?_
                  exact cX5_minds_103 a1 h_1 M 400 a2 a3 a4 0 M hp
                · refine r_icmp_le_f MF.bs (tgt := 100) dX5_minds_94 (by decide) h_8 ?_
                  refine r_bipush MF.bs dX5_minds_97 (v := -12) (by decide) ?_
                  exact r_iret dX5_minds_99 rfl
              · refine r_if_eq_t MF.bs (tgt := 97) dX5_minds_82 (by decide) (b2i_0 h_7) ?_
                refine r_bipush MF.bs dX5_minds_97 (v := -12) (by decide) ?_
                exact r_iret dX5_minds_99 rfl
            · refine r_if_eq_f MF.bs (tgt := 72) dX5_minds_66 (by decide) h_6 ?_
              refine r_bipush MF.bs dX5_minds_69 (v := -13) (by decide) ?_
              exact r_iret dX5_minds_71 rfl
        · refine r_icmp_le_f MF.bs (tgt := 50) dX5_minds_45 (by decide) h_4 ?_
          refine r_iconst MF.bs dX5_minds_48 (v := -1) (by decide) ?_
          exact r_iret dX5_minds_49 rfl
      · refine r_if_eq_t MF.bs (tgt := 48) dX5_minds_31 (by decide) (b2i_0 h_3) ?_
        refine r_iconst MF.bs dX5_minds_48 (v := -1) (by decide) ?_
        exact r_iret dX5_minds_49 rfl
    · refine r_if_eq_t MF.bs (tgt := 48) dX5_minds_20 (by decide) (b2i_0 h_2) ?_
      refine r_iconst MF.bs dX5_minds_48 (v := -1) (by decide) ?_
      exact r_iret dX5_minds_49 rfl
  · refine r_callV_v MF.bs (st := []) dX5_minds_2 (ctX5_sheetAt_out a1 M h_1) miX5_sheetAt wd_698 rfl (by decide) rfl (Nat.le_of_ble_eq_true rfl) rfl rfl rfl ?_
    refine r_astoreN MF.bs (lv' := [(5, .null), (0, .ref 0), (1, .int a1), (2, .int a2), (3, .int a3), (4, .int a4)]) dX5_minds_5 (by decide) rfl ?_
    refine r_aloadN MF.bs dX5_minds_7 0 rfl ?_
    refine r_ifnullN MF.bs dX5_minds_9 (tgt := 48) (by decide) ?_
    refine r_iconst MF.bs dX5_minds_48 (v := -1) (by decide) ?_
    exact r_iret dX5_minds_49 rfl
abbrev mtX5_sheet : MT := (RX5, yX5_sheet, cX5_sheet, 5, (some .int))
theorem miX5_sheet : MV mtX5_sheet 3 := ⟨wd_768, ⟨wd_766, wd_767⟩, wd_79, ⟨by decide, by decide, by decide +kernel⟩, by decide⟩
def mX5_sheet  (a1 : Int32) (a2 : Int32) (a3 : Int32) (M : Mem) : Int32 × Mem := (if 0 ≤ a1 ∧ a1 ≤ 3 then (if (mX5_isWithin a2 (-1) 3) = true then (if a2 = (-1) then (1, (upm M (qpl a1) 1 (-1))) else (if a3 ≤ 40 then (if 0 ≤ a3 then (1, (mX1_becomeRow (qpl a1) a2 a3 M)) else ((-14), M)) else ((-1), M))) else ((-1), M)) else ((-1), M))
def PX5_sheet  (a1 : Int32) (a2 : Int32) (a3 : Int32) (M : Mem) : Prop := (0 ≤ a1 ∧ a1 ≤ 3 → ((mX5_isWithin a2 (-1) 3) = true → (¬ a2 = (-1) → (a3 ≤ 40 → (0 ≤ a3 → PX1_becomeRow (qpl a1) a2 a3 M)))))
set_option maxRecDepth 100000 in
theorem ctX5_sheet   (a1 : Int32) (a2 : Int32) (a3 : Int32) (M : Mem) (hp : PX5_sheet a1 a2 a3 M) : CT mtX5_sheet 4 [.ref 0, .int a1, .int a2, .int a3] M (some (.int ((mX5_sheet a1 a2 a3 M).1)), (mX5_sheet a1 a2 a3 M).2) := by
  refine CT.of (by decide) rfl (Nat.le_of_ble_eq_true rfl) ?_
  show AWP (GIM mtX5_sheet 4 M (mX5_sheet a1 a2 a3 M)) mtX5_sheet 0 [(0, .ref 0), (1, .int a1), (2, .int a2), (3, .int a3)] [] M
  unfold mX5_sheet
  unfold PX5_sheet at hp
  refine r_aload_n MF.bs dX5_sheet_0 rfl 0 rfl ?_
  refine r_iload_n MF.bs dX5_sheet_1 rfl 1 rfl ?_
  refine r_ite (GIM mtX5_sheet 4 M) (fun h_1 => ?_) (fun h_1 => ?_)
  · have hp := hp h_1
    refine r_callV_v MF.bs (st := []) dX5_sheet_2 (ctX5_sheetAt_in a1 M h_1) miX5_sheetAt wd_698 rfl (by decide) rfl (Nat.le_of_ble_eq_true rfl) rfl rfl rfl ?_
    refine r_astore MF.bs (lv' := [(4, .ref (qpl a1)), (0, .ref 0), (1, .int a1), (2, .int a2), (3, .int a3)]) dX5_sheet_5 (by decide) rfl ?_
    refine r_aload MF.bs dX5_sheet_7 0 rfl ?_
    refine r_ifnull MF.bs dX5_sheet_9 ?_
    refine r_iload_n MF.bs dX5_sheet_12 rfl 3 rfl ?_
    refine r_iconst MF.bs dX5_sheet_13 (v := -1) (by decide) ?_
    refine r_iconst MF.bs dX5_sheet_14 (v := 3) (by decide) ?_
    refine r_callS_v MF.bs (st := []) dX5_sheet_15 (ctX5_isWithin a2 (-1) 3 M) miX5_isWithin wd_303 rfl (by decide) rfl (Nat.le_of_ble_eq_true rfl) ?_
    refine r_ite (GIM mtX5_sheet 4 M) (fun h_2 => ?_) (fun h_2 => ?_)
    · have hp := hp h_2
      refine r_if_ne_t MF.bs (tgt := 23) dX5_sheet_18 (by decide) (b2i_1 h_2) ?_
      refine r_iload_n MF.bs dX5_sheet_23 rfl 3 rfl ?_
      refine r_iconst MF.bs dX5_sheet_24 (v := -1) (by decide) ?_
      refine r_ite (GIM mtX5_sheet 4 M) (fun h_3 => ?_) (fun h_3 => ?_)
      · refine r_icmp_ne_f MF.bs (tgt := 36) dX5_sheet_25 (by decide) h_3 ?_
        refine r_aload MF.bs dX5_sheet_28 0 rfl ?_
        refine r_iconst MF.bs dX5_sheet_30 (v := -1) (by decide) ?_
        refine r_putI MF.bs dX5_sheet_31 (sh_q (qpl_ok h_1)) rfl 1 (by decide) wd_220 rfl rfl rfl rfl rfl ?_
        refine r_iconst MF.bs dX5_sheet_34 (v := 1) (by decide) ?_
        exact r_iret dX5_sheet_35 rfl
      · have hp := hp h_3
        refine r_icmp_ne_t MF.bs (tgt := 36) dX5_sheet_25 (by decide) h_3 ?_
        refine r_iload_n MF.bs dX5_sheet_36 rfl 4 rfl ?_
        refine r_bipush MF.bs dX5_sheet_37 (v := 40) (by decide) ?_
        refine r_ite (GIM mtX5_sheet 4 M) (fun h_4 => ?_) (fun h_4 => ?_)
        · have hp := hp h_4
          refine r_icmp_le_t MF.bs (tgt := 44) dX5_sheet_39 (by decide) h_4 ?_
          refine r_iload_n MF.bs dX5_sheet_44 rfl 4 rfl ?_
          refine r_ite (GIM mtX5_sheet 4 M) (fun h_5 => ?_) (fun h_5 => ?_)
          · have hp := hp h_5
            refine r_if_ge_t MF.bs (tgt := 51) dX5_sheet_45 (by decide) h_5 ?_
            have hq_6 := hp
            refine r_aload MF.bs dX5_sheet_51 0 rfl ?_
            refine r_iload_n MF.bs dX5_sheet_53 rfl 3 rfl ?_
            refine r_iload_n MF.bs dX5_sheet_54 rfl 4 rfl ?_
            refine r_callV_n MF.bs (st := []) dX5_sheet_55 (ctX1_becomeRow (qpl a1) (qpl_ok h_1) a2 a3 M hq_6) miX1_becomeRow wd_769 rfl (by decide) rfl (Nat.le_of_ble_eq_true rfl) (sh_q (qpl_ok h_1)) rfl rfl ?_
            refine r_iconst MF.bs dX5_sheet_58 (v := 1) (by decide) ?_
            exact r_iret dX5_sheet_59 rfl
          · refine r_if_ge_f MF.bs (tgt := 51) dX5_sheet_45 (by decide) h_5 ?_
            refine r_bipush MF.bs dX5_sheet_48 (v := -14) (by decide) ?_
            exact r_iret dX5_sheet_50 rfl
        · refine r_icmp_le_f MF.bs (tgt := 44) dX5_sheet_39 (by decide) h_4 ?_
          refine r_iconst MF.bs dX5_sheet_42 (v := -1) (by decide) ?_
          exact r_iret dX5_sheet_43 rfl
    · refine r_if_ne_f MF.bs (tgt := 23) dX5_sheet_18 (by decide) (b2i_0 h_2) ?_
      refine r_iconst MF.bs dX5_sheet_21 (v := -1) (by decide) ?_
      exact r_iret dX5_sheet_22 rfl
  · refine r_callV_v MF.bs (st := []) dX5_sheet_2 (ctX5_sheetAt_out a1 M h_1) miX5_sheetAt wd_698 rfl (by decide) rfl (Nat.le_of_ble_eq_true rfl) rfl rfl rfl ?_
    refine r_astoreN MF.bs (lv' := [(4, .null), (0, .ref 0), (1, .int a1), (2, .int a2), (3, .int a3)]) dX5_sheet_5 (by decide) rfl ?_
    refine r_aloadN MF.bs dX5_sheet_7 0 rfl ?_
    refine r_ifnullN MF.bs dX5_sheet_9 (tgt := 21) (by decide) ?_
    refine r_iconst MF.bs dX5_sheet_21 (v := -1) (by decide) ?_
    exact r_iret dX5_sheet_22 rfl
abbrev mtX5_put : MT := (RX5, yX5_put, cX5_put, 5, (some .int))
theorem miX5_put : MV mtX5_put 3 := ⟨wd_777, ⟨wd_775, wd_776⟩, wd_79, ⟨by decide, by decide, by decide +kernel⟩, by decide⟩
def mX5_put  (a1 : Int32) (a2 : Int32) (a3 : Int32) (M : Mem) : Int32 × Mem := (if 0 ≤ a1 ∧ a1 ≤ 3 then (if (mX1_isMissing (qpl a1) M) = true then ((-11), M) else (if (mX1_hasItem (qpl a1) a2 M) = true then (1, (upm M ((qpl a1) + 1) a2.toNatClampNeg (mX1_narrowed (qpl a1) a3 M))) else ((-12), M))) else ((-1), M))
def PX5_put  (a1 : Int32) (a2 : Int32) (a3 : Int32) (M : Mem) : Prop := (0 ≤ a1 ∧ a1 ≤ 3 → (¬ (mX1_isMissing (qpl a1) M) = true → ((mX1_hasItem (qpl a1) a2 M) = true → vp_in a2 40)))
set_option maxRecDepth 100000 in
theorem ctX5_put   (a1 : Int32) (a2 : Int32) (a3 : Int32) (M : Mem) (hp : PX5_put a1 a2 a3 M) : CT mtX5_put 4 [.ref 0, .int a1, .int a2, .int a3] M (some (.int ((mX5_put a1 a2 a3 M).1)), (mX5_put a1 a2 a3 M).2) := by
  refine CT.of (by decide) rfl (Nat.le_of_ble_eq_true rfl) ?_
  show AWP (GIM mtX5_put 4 M (mX5_put a1 a2 a3 M)) mtX5_put 0 [(0, .ref 0), (1, .int a1), (2, .int a2), (3, .int a3)] [] M
  unfold mX5_put
  unfold PX5_put at hp
  refine r_aload_n MF.bs dX5_put_0 rfl 0 rfl ?_
  refine r_iload_n MF.bs dX5_put_1 rfl 1 rfl ?_
  refine r_ite (GIM mtX5_put 4 M) (fun h_1 => ?_) (fun h_1 => ?_)
  · have hp := hp h_1
    refine r_callV_v MF.bs (st := []) dX5_put_2 (ctX5_sheetAt_in a1 M h_1) miX5_sheetAt wd_698 rfl (by decide) rfl (Nat.le_of_ble_eq_true rfl) rfl rfl rfl ?_
    refine r_astore MF.bs (lv' := [(4, .ref (qpl a1)), (0, .ref 0), (1, .int a1), (2, .int a2), (3, .int a3)]) dX5_put_5 (by decide) rfl ?_
    refine r_aload MF.bs dX5_put_7 0 rfl ?_
    refine r_ifnonnull MF.bs dX5_put_9 (tgt := 14) (by decide) ?_
    refine r_aload MF.bs dX5_put_14 0 rfl ?_
    refine r_callV_v MF.bs (st := []) dX5_put_16 (ctX1_isMissing (qpl a1) (qpl_ok h_1) M) miX1_isMissing wd_702 rfl (by decide) rfl (Nat.le_of_ble_eq_true rfl) (sh_q (qpl_ok h_1)) rfl rfl ?_
    refine r_ite (GIM mtX5_put 4 M) (fun h_2 => ?_) (fun h_2 => ?_)
    · refine r_if_eq_f MF.bs (tgt := 25) dX5_put_19 (by decide) (b2i_1 h_2) ?_
      refine r_bipush MF.bs dX5_put_22 (v := -11) (by decide) ?_
      exact r_iret dX5_put_24 rfl
    · have hp := hp h_2
      refine r_if_eq_t MF.bs (tgt := 25) dX5_put_19 (by decide) (b2i_0 h_2) ?_
      refine r_aload MF.bs dX5_put_25 0 rfl ?_
      refine r_iload_n MF.bs dX5_put_27 rfl 3 rfl ?_
      refine r_callV_v MF.bs (st := []) dX5_put_28 (ctX1_hasItem (qpl a1) (qpl_ok h_1) a2 M) miX1_hasItem wd_778 rfl (by decide) rfl (Nat.le_of_ble_eq_true rfl) (sh_q (qpl_ok h_1)) rfl rfl ?_
      refine r_ite (GIM mtX5_put 4 M) (fun h_3 => ?_) (fun h_3 => ?_)
      · have hp := hp h_3
        refine r_if_ne_t MF.bs (tgt := 37) dX5_put_31 (by decide) (b2i_1 h_3) ?_
        have hq_4 := hp
        refine r_aload MF.bs dX5_put_37 0 rfl ?_
        refine r_getR MF.bs dX5_put_39 (sh_q (qpl_ok h_1)) rfl 0 (by decide) wd_217 rfl ?_
        refine r_iload_n MF.bs dX5_put_42 rfl 3 rfl ?_
        refine r_aload MF.bs dX5_put_43 0 rfl ?_
        refine r_iload_n MF.bs dX5_put_45 rfl 4 rfl ?_
        refine r_callV_v MF.bs (st := [.int a2, .ref ((qpl a1) + 1)]) dX5_put_46 (ctX1_narrowed (qpl a1) (qpl_ok h_1) a3 M) miX1_narrowed wd_783 rfl (by decide) rfl (Nat.le_of_ble_eq_true rfl) (sh_q (qpl_ok h_1)) rfl rfl ?_
        refine r_iastore MF.bs dX5_put_49 (sh_q1 (qpl_ok h_1)) hq_4 ?_
        refine r_iconst MF.bs dX5_put_50 (v := 1) (by decide) ?_
        exact r_iret dX5_put_51 rfl
      · refine r_if_ne_f MF.bs (tgt := 37) dX5_put_31 (by decide) (b2i_0 h_3) ?_
        refine r_bipush MF.bs dX5_put_34 (v := -12) (by decide) ?_
        exact r_iret dX5_put_36 rfl
  · refine r_callV_v MF.bs (st := []) dX5_put_2 (ctX5_sheetAt_out a1 M h_1) miX5_sheetAt wd_698 rfl (by decide) rfl (Nat.le_of_ble_eq_true rfl) rfl rfl rfl ?_
    refine r_astoreN MF.bs (lv' := [(4, .null), (0, .ref 0), (1, .int a1), (2, .int a2), (3, .int a3)]) dX5_put_5 (by decide) rfl ?_
    refine r_aloadN MF.bs dX5_put_7 0 rfl ?_
    refine r_ifnonnullN MF.bs dX5_put_9 ?_
    refine r_iconst MF.bs dX5_put_12 (v := -1) (by decide) ?_
    exact r_iret dX5_put_13 rfl
abbrev mtX5_item : MT := (RX5, yX5_item, cX5_item, 5, (some .int))
theorem miX5_item : MV mtX5_item 3 := ⟨wd_790, ⟨wd_788, wd_789⟩, wd_79, ⟨by decide, by decide, by decide +kernel⟩, by decide⟩
def mX5_item  (a1 : Int32) (a2 : Int32) (a3 : Int32) (M : Mem) : Int32 := (if 0 ≤ a1 ∧ a1 ≤ 3 then (if (mX5_isWithin a2 0 3) = true then (if (mX1_isMissing (qpl a1) M) = true then (-11) else (if (M (qpl a1) 1) = a2 then (if (mX1_hasItem (qpl a1) a3 M) = true then (M ((qpl a1) + 1) a3.toNatClampNeg) else (-12)) else (-13))) else (-1)) else (-1))
def PX5_item  (a1 : Int32) (a2 : Int32) (a3 : Int32) (M : Mem) : Prop := (0 ≤ a1 ∧ a1 ≤ 3 → ((mX5_isWithin a2 0 3) = true → (¬ (mX1_isMissing (qpl a1) M) = true → ((M (qpl a1) 1) = a2 → ((mX1_hasItem (qpl a1) a3 M) = true → vp_in a3 40)))))
set_option maxRecDepth 100000 in
theorem ctX5_item   (a1 : Int32) (a2 : Int32) (a3 : Int32) (M : Mem) (hp : PX5_item a1 a2 a3 M) : CT mtX5_item 4 [.ref 0, .int a1, .int a2, .int a3] M (some (.int (mX5_item a1 a2 a3 M)), M) := by
  refine CT.of (by decide) rfl (Nat.le_of_ble_eq_true rfl) ?_
  show AWP (GI mtX5_item 4 M M (mX5_item a1 a2 a3 M)) mtX5_item 0 [(0, .ref 0), (1, .int a1), (2, .int a2), (3, .int a3)] [] M
  unfold mX5_item
  unfold PX5_item at hp
  refine r_aload_n MF.bs dX5_item_0 rfl 0 rfl ?_
  refine r_iload_n MF.bs dX5_item_1 rfl 1 rfl ?_
  refine r_ite (GI mtX5_item 4 M M) (fun h_1 => ?_) (fun h_1 => ?_)
  · have hp := hp h_1
    refine r_callV_v MF.bs (st := []) dX5_item_2 (ctX5_sheetAt_in a1 M h_1) miX5_sheetAt wd_698 rfl (by decide) rfl (Nat.le_of_ble_eq_true rfl) rfl rfl rfl ?_
    refine r_astore MF.bs (lv' := [(4, .ref (qpl a1)), (0, .ref 0), (1, .int a1), (2, .int a2), (3, .int a3)]) dX5_item_5 (by decide) rfl ?_
    refine r_aload MF.bs dX5_item_7 0 rfl ?_
    refine r_ifnull MF.bs dX5_item_9 ?_
    refine r_iload_n MF.bs dX5_item_12 rfl 3 rfl ?_
    refine r_iconst MF.bs dX5_item_13 (v := 0) (by decide) ?_
    refine r_iconst MF.bs dX5_item_14 (v := 3) (by decide) ?_
    refine r_callS_v MF.bs (st := []) dX5_item_15 (ctX5_isWithin a2 0 3 M) miX5_isWithin wd_303 rfl (by decide) rfl (Nat.le_of_ble_eq_true rfl) ?_
    refine r_ite (GI mtX5_item 4 M M) (fun h_2 => ?_) (fun h_2 => ?_)
    · have hp := hp h_2
      refine r_if_ne_t MF.bs (tgt := 23) dX5_item_18 (by decide) (b2i_1 h_2) ?_
      refine r_aload MF.bs dX5_item_23 0 rfl ?_
      refine r_callV_v MF.bs (st := []) dX5_item_25 (ctX1_isMissing (qpl a1) (qpl_ok h_1) M) miX1_isMissing wd_702 rfl (by decide) rfl (Nat.le_of_ble_eq_true rfl) (sh_q (qpl_ok h_1)) rfl rfl ?_
      refine r_ite (GI mtX5_item 4 M M) (fun h_3 => ?_) (fun h_3 => ?_)
      · refine r_if_eq_f MF.bs (tgt := 34) dX5_item_28 (by decide) (b2i_1 h_3) ?_
        refine r_bipush MF.bs dX5_item_31 (v := -11) (by decide) ?_
        exact r_iret dX5_item_33 rfl
      · have hp := hp h_3
        refine r_if_eq_t MF.bs (tgt := 34) dX5_item_28 (by decide) (b2i_0 h_3) ?_
        refine r_aload MF.bs dX5_item_34 0 rfl ?_
        refine r_getI MF.bs dX5_item_36 (sh_q (qpl_ok h_1)) rfl 1 (by decide) wd_220 rfl ?_
        refine r_iload_n MF.bs dX5_item_39 rfl 3 rfl ?_
        refine r_ite (GI mtX5_item 4 M M) (fun h_4 => ?_) (fun h_4 => ?_)
        · have hp := hp h_4
          refine r_icmp_eq_t MF.bs (tgt := 46) dX5_item_40 (by decide) h_4 ?_
          refine r_aload MF.bs dX5_item_46 0 rfl ?_
          refine r_iload_n MF.bs dX5_item_48 rfl 4 rfl ?_
          refine r_callV_v MF.bs (st := []) dX5_item_49 (ctX1_hasItem (qpl a1) (qpl_ok h_1) a3 M) miX1_hasItem wd_778 rfl (by decide) rfl (Nat.le_of_ble_eq_true rfl) (sh_q (qpl_ok h_1)) rfl rfl ?_
          refine r_ite (GI mtX5_item 4 M M) (fun h_5 => ?_) (fun h_5 => ?_)
          · have hp := hp h_5
            refine r_if_eq_f MF.bs (tgt := 65) dX5_item_52 (by decide) (b2i_1 h_5) ?_
            have hq_6 := hp
            refine r_aload MF.bs dX5_item_55 0 rfl ?_
            refine r_getR MF.bs dX5_item_57 (sh_q (qpl_ok h_1)) rfl 0 (by decide) wd_217 rfl ?_
            refine r_iload_n MF.bs dX5_item_60 rfl 4 rfl ?_
            refine r_iaload MF.bs dX5_item_61 (sh_q1 (qpl_ok h_1)) hq_6 ?_
            refine r_goto MF.bs dX5_item_62 (tgt := 67) (by decide) ?_
            exact r_iret dX5_item_67 rfl
          · refine r_if_eq_t MF.bs (tgt := 65) dX5_item_52 (by decide) (b2i_0 h_5) ?_
            refine r_bipush MF.bs dX5_item_65 (v := -12) (by decide) ?_
            exact r_iret dX5_item_67 rfl
        · refine r_icmp_eq_f MF.bs (tgt := 46) dX5_item_40 (by decide) h_4 ?_
          refine r_bipush MF.bs dX5_item_43 (v := -13) (by decide) ?_
          exact r_iret dX5_item_45 rfl
    · refine r_if_ne_f MF.bs (tgt := 23) dX5_item_18 (by decide) (b2i_0 h_2) ?_
      refine r_iconst MF.bs dX5_item_21 (v := -1) (by decide) ?_
      exact r_iret dX5_item_22 rfl
  · refine r_callV_v MF.bs (st := []) dX5_item_2 (ctX5_sheetAt_out a1 M h_1) miX5_sheetAt wd_698 rfl (by decide) rfl (Nat.le_of_ble_eq_true rfl) rfl rfl rfl ?_
    refine r_astoreN MF.bs (lv' := [(4, .null), (0, .ref 0), (1, .int a1), (2, .int a2), (3, .int a3)]) dX5_item_5 (by decide) rfl ?_
    refine r_aloadN MF.bs dX5_item_7 0 rfl ?_
    refine r_ifnullN MF.bs dX5_item_9 (tgt := 21) (by decide) ?_
    refine r_iconst MF.bs dX5_item_21 (v := -1) (by decide) ?_
    exact r_iret dX5_item_22 rfl
abbrev mtX5_shelf : MT := (RX5, yX5_shelf, cX5_shelf, 6, (some .int))
theorem miX5_shelf : MV mtX5_shelf 3 := ⟨wd_794, ⟨wd_792, wd_793⟩, wd_79, ⟨by decide, by decide, by decide +kernel⟩, by decide⟩
def mX5_shelf  (a1 : Int32) (a2 : Int32) (a3 : Int32) (M : Mem) : Int32 × Mem := (if 0 ≤ a1 ∧ a1 ≤ 3 then (if a2 = 0 then (if (mX4_has 1 a3 M) = true then (1, (mX2_holdAir (vpl a1) a3 M)) else ((-1), M)) else (if a2 = 1 then (if 0 ≤ a3 ∧ a3 ≤ 3 then (1, (mX2_holdRow (vpl a1) (qpl a3) M)) else ((-1), M)) else (if a2 = 2 then (1, (upm M (vpl a1) 0 2)) else ((-1), M)))) else ((-1), M))
def PX5_shelf  (a1 : Int32) (a2 : Int32) (a3 : Int32) (M : Mem) : Prop := (0 ≤ a1 ∧ a1 ≤ 3 → (¬ a2 = 0 → (a2 = 1 → (0 ≤ a3 ∧ a3 ≤ 3 → PX2_holdRow (vpl a1) (qpl a3) M))))
set_option maxRecDepth 100000 in
theorem ctX5_shelf   (a1 : Int32) (a2 : Int32) (a3 : Int32) (M : Mem) (hp : PX5_shelf a1 a2 a3 M) : CT mtX5_shelf 4 [.ref 0, .int a1, .int a2, .int a3] M (some (.int ((mX5_shelf a1 a2 a3 M).1)), (mX5_shelf a1 a2 a3 M).2) := by
  refine CT.of (by decide) rfl (Nat.le_of_ble_eq_true rfl) ?_
  show AWP (GIM mtX5_shelf 4 M (mX5_shelf a1 a2 a3 M)) mtX5_shelf 0 [(0, .ref 0), (1, .int a1), (2, .int a2), (3, .int a3)] [] M
  unfold mX5_shelf
  unfold PX5_shelf at hp
  refine r_aload_n MF.bs dX5_shelf_0 rfl 0 rfl ?_
  refine r_iload_n MF.bs dX5_shelf_1 rfl 1 rfl ?_
  refine r_ite (GIM mtX5_shelf 4 M) (fun h_1 => ?_) (fun h_1 => ?_)
  · have hp := hp h_1
    refine r_callV_v MF.bs (st := []) dX5_shelf_2 (ctX5_shelfAt_in a1 M h_1) miX5_shelfAt wd_795 rfl (by decide) rfl (Nat.le_of_ble_eq_true rfl) rfl rfl rfl ?_
    refine r_astore MF.bs (lv' := [(4, .ref (vpl a1)), (0, .ref 0), (1, .int a1), (2, .int a2), (3, .int a3)]) dX5_shelf_5 (by decide) rfl ?_
    refine r_aload MF.bs dX5_shelf_7 0 rfl ?_
    refine r_ifnonnull MF.bs dX5_shelf_9 (tgt := 14) (by decide) ?_
    refine r_iload_n MF.bs dX5_shelf_14 rfl 3 rfl ?_
    refine r_ite (GIM mtX5_shelf 4 M) (fun h_2 => ?_) (fun h_2 => ?_)
    · refine r_tsw_in MF.bs (tgt := 40) dX5_shelf_15 h_2 (by decide) (by decide) rfl (by decide) ?_
      refine r_aload_n MF.bs dX5_shelf_40 rfl 1 rfl ?_
      refine r_getR MF.bs dX5_shelf_41 rfl rfl 0 (by decide) wd_253 rfl ?_
      refine r_iload_n MF.bs dX5_shelf_44 rfl 4 rfl ?_
      refine r_callV_v MF.bs (st := []) dX5_shelf_45 (ctX4_has 1 (Or.inl rfl) a3 M) miX4_has wd_490 rfl (by decide) rfl (Nat.le_of_ble_eq_true rfl) rfl rfl rfl ?_
      refine r_ite (GIM mtX5_shelf 4 M) (fun h_3 => ?_) (fun h_3 => ?_)
      · refine r_if_ne_t MF.bs (tgt := 53) dX5_shelf_48 (by decide) (b2i_1 h_3) ?_
        refine r_aload MF.bs dX5_shelf_53 0 rfl ?_
        refine r_iload_n MF.bs dX5_shelf_55 rfl 4 rfl ?_
        refine r_callV_n MF.bs (st := []) dX5_shelf_56 (ctX2_holdAir (vpl a1) (vpl_ok h_1) a3 M) miX2_holdAir wd_799 rfl (by decide) rfl (Nat.le_of_ble_eq_true rfl) (sh_v (vpl_ok h_1)) rfl rfl ?_
        refine r_iconst MF.bs dX5_shelf_59 (v := 1) (by decide) ?_
        exact r_iret dX5_shelf_60 rfl
      · refine r_if_ne_f MF.bs (tgt := 53) dX5_shelf_48 (by decide) (b2i_0 h_3) ?_
        refine r_iconst MF.bs dX5_shelf_51 (v := -1) (by decide) ?_
        exact r_iret dX5_shelf_52 rfl
    · have hp := hp h_2
      refine r_ite (GIM mtX5_shelf 4 M) (fun h_4 => ?_) (fun h_4 => ?_)
      · have hp := hp h_4
        refine r_tsw_in MF.bs (tgt := 61) dX5_shelf_15 h_4 (by decide) (by decide) rfl (by decide) ?_
        refine r_aload_n MF.bs dX5_shelf_61 rfl 1 rfl ?_
        refine r_iload_n MF.bs dX5_shelf_62 rfl 4 rfl ?_
        refine r_ite (GIM mtX5_shelf 4 M) (fun h_5 => ?_) (fun h_5 => ?_)
        · have hp := hp h_5
          refine r_callV_v MF.bs (st := []) dX5_shelf_63 (ctX5_sheetAt_in a3 M h_5) miX5_sheetAt wd_698 rfl (by decide) rfl (Nat.le_of_ble_eq_true rfl) rfl rfl rfl ?_
          have hq_6 := hp
          refine r_astore MF.bs (lv' := [(5, .ref (qpl a3)), (4, .ref (vpl a1)), (0, .ref 0), (1, .int a1), (2, .int a2), (3, .int a3)]) dX5_shelf_66 (by decide) rfl ?_
          refine r_aload MF.bs dX5_shelf_68 0 rfl ?_
          refine r_ifnonnull MF.bs dX5_shelf_70 (tgt := 75) (by decide) ?_
          refine r_aload MF.bs dX5_shelf_75 1 rfl ?_
          refine r_aload MF.bs dX5_shelf_77 0 rfl ?_
          refine r_callV_n MF.bs (st := []) dX5_shelf_79 (ctX2_holdRow (vpl a1) (qpl a3) (vpl_ok h_1) (qpl_ok h_5) M hq_6) miX2_holdRow wd_803 rfl (by decide) rfl (Nat.le_of_ble_eq_true rfl) (sh_v (vpl_ok h_1)) rfl rfl ?_
          refine r_iconst MF.bs dX5_shelf_82 (v := 1) (by decide) ?_
          exact r_iret dX5_shelf_83 rfl
        · refine r_callV_v MF.bs (st := []) dX5_shelf_63 (ctX5_sheetAt_out a3 M h_5) miX5_sheetAt wd_698 rfl (by decide) rfl (Nat.le_of_ble_eq_true rfl) rfl rfl rfl ?_
          refine r_astoreN MF.bs (lv' := [(5, .null), (4, .ref (vpl a1)), (0, .ref 0), (1, .int a1), (2, .int a2), (3, .int a3)]) dX5_shelf_66 (by decide) rfl ?_
          refine r_aloadN MF.bs dX5_shelf_68 0 rfl ?_
          refine r_ifnonnullN MF.bs dX5_shelf_70 ?_
          refine r_iconst MF.bs dX5_shelf_73 (v := -1) (by decide) ?_
          exact r_iret dX5_shelf_74 rfl
      · refine r_ite (GIM mtX5_shelf 4 M) (fun h_7 => ?_) (fun h_7 => ?_)
        · refine r_tsw_in MF.bs (tgt := 84) dX5_shelf_15 h_7 (by decide) (by decide) rfl (by decide) ?_
          refine r_aload MF.bs dX5_shelf_84 0 rfl ?_
          refine r_iconst MF.bs dX5_shelf_86 (v := 2) (by decide) ?_
          refine r_putI MF.bs dX5_shelf_87 (sh_v (vpl_ok h_1)) rfl 0 (by decide) wd_237 rfl rfl rfl rfl rfl ?_
          refine r_iconst MF.bs dX5_shelf_90 (v := 1) (by decide) ?_
          exact r_iret dX5_shelf_91 rfl
        · refine r_tsw_out MF.bs (tgt := 92) dX5_shelf_15 (by have e0 := lv_neT (a := 0) h_2 (by decide); have e1 := lv_neT (a := 1) h_4 (by decide); have e2 := lv_neT (a := 2) h_7 (by decide); omega) (by decide) ?_
          refine r_iconst MF.bs dX5_shelf_92 (v := -1) (by decide) ?_
          exact r_iret dX5_shelf_93 rfl
  · refine r_callV_v MF.bs (st := []) dX5_shelf_2 (ctX5_shelfAt_out a1 M h_1) miX5_shelfAt wd_795 rfl (by decide) rfl (Nat.le_of_ble_eq_true rfl) rfl rfl rfl ?_
    refine r_astoreN MF.bs (lv' := [(4, .null), (0, .ref 0), (1, .int a1), (2, .int a2), (3, .int a3)]) dX5_shelf_5 (by decide) rfl ?_
    refine r_aloadN MF.bs dX5_shelf_7 0 rfl ?_
    refine r_ifnonnullN MF.bs dX5_shelf_9 ?_
    refine r_iconst MF.bs dX5_shelf_12 (v := -1) (by decide) ?_
    exact r_iret dX5_shelf_13 rfl
abbrev mtX5_holdsAir : MT := (RX5, yX5_holdsAir, cX5_holdsAir, 2, (some .boolean))
theorem miX5_holdsAir : MV mtX5_holdsAir 1 := ⟨wd_815, ⟨wd_814, wd_25⟩, wd_79, ⟨by decide, by decide, by decide +kernel⟩, by decide⟩
def mX5_holdsAir (q1 : Nat) (M : Mem) : Bool := (if (M q1 0) = 0 then (if (mX4_has 1 (M q1 1) M) = true then true else false) else false)
set_option maxRecDepth 100000 in
theorem ctX5_holdsAir (q1 : Nat) (h1 : VB q1) (M : Mem) : CT mtX5_holdsAir 2 [.ref 0, .ref q1] M (some (.int (b2i (mX5_holdsAir q1 M))), M) := by
  refine CT.of (by decide) rfl (Nat.le_of_ble_eq_true rfl) ?_
  show AWP (GB mtX5_holdsAir 2 M M (mX5_holdsAir q1 M)) mtX5_holdsAir 0 [(0, .ref 0), (1, .ref q1)] [] M
  unfold mX5_holdsAir
  refine r_aload_n MF.bs dX5_holdsAir_0 rfl 1 rfl ?_
  refine r_getI MF.bs dX5_holdsAir_1 (sh_v h1) rfl 0 (by decide) wd_237 rfl ?_
  refine r_ite (GB mtX5_holdsAir 2 M M) (fun h_1 => ?_) (fun h_1 => ?_)
  · refine r_if_ne_f MF.bs (tgt := 25) dX5_holdsAir_4 (by decide) h_1 ?_
    refine r_aload_n MF.bs dX5_holdsAir_7 rfl 0 rfl ?_
    refine r_getR MF.bs dX5_holdsAir_8 rfl rfl 0 (by decide) wd_253 rfl ?_
    refine r_aload_n MF.bs dX5_holdsAir_11 rfl 1 rfl ?_
    refine r_getI MF.bs dX5_holdsAir_12 (sh_v h1) rfl 1 (by decide) wd_239 rfl ?_
    refine r_callV_v MF.bs (st := []) dX5_holdsAir_15 (ctX4_has 1 (Or.inl rfl) (M q1 1) M) miX4_has wd_490 rfl (by decide) rfl (Nat.le_of_ble_eq_true rfl) rfl rfl rfl ?_
    refine r_ite (GB mtX5_holdsAir 2 M M) (fun h_2 => ?_) (fun h_2 => ?_)
    · refine r_if_eq_f MF.bs (tgt := 25) dX5_holdsAir_18 (by decide) (b2i_1 h_2) ?_
      refine r_iconst MF.bs dX5_holdsAir_21 (v := 1) (by decide) ?_
      refine r_goto MF.bs dX5_holdsAir_22 (tgt := 26) (by decide) ?_
      exact r_zret1 dX5_holdsAir_26 rfl
    · refine r_if_eq_t MF.bs (tgt := 25) dX5_holdsAir_18 (by decide) (b2i_0 h_2) ?_
      refine r_iconst MF.bs dX5_holdsAir_25 (v := 0) (by decide) ?_
      exact r_zret0 dX5_holdsAir_26 rfl
  · refine r_if_ne_t MF.bs (tgt := 25) dX5_holdsAir_4 (by decide) h_1 ?_
    refine r_iconst MF.bs dX5_holdsAir_25 (v := 0) (by decide) ?_
    exact r_zret0 dX5_holdsAir_26 rfl
abbrev mtX5_isUnder : MT := (RX5, yX5_isUnder, cX5_isUnder, 2, (some .boolean))
theorem miX5_isUnder : MS mtX5_isUnder 2 := ⟨wd_818, wd_817, wd_79, ⟨by decide, by decide, by decide +kernel⟩, by decide⟩
def mX5_isUnder_40   (M : Mem) : Bool := true
def PX5_isUnder_40   (M : Mem) : Prop := True
set_option maxRecDepth 100000 in
theorem cX5_isUnder_40    (M : Mem) (hp : PX5_isUnder_40 M) : AWP (GB mtX5_isUnder 0 M M (mX5_isUnder_40 M)) mtX5_isUnder 40 [] [] M := by
  unfold mX5_isUnder_40
  unfold PX5_isUnder_40 at hp
  refine r_iconst MF.bs dX5_isUnder_40 (v := 1) (by decide) ?_
  refine r_goto MF.bs dX5_isUnder_41 (tgt := 45) (by decide) ?_
  exact r_zret1 dX5_isUnder_45 rfl
def mX5_isUnder_56   (M : Mem) : Bool := true
def PX5_isUnder_56   (M : Mem) : Prop := True
set_option maxRecDepth 100000 in
theorem cX5_isUnder_56    (M : Mem) (hp : PX5_isUnder_56 M) : AWP (GB mtX5_isUnder 0 M M (mX5_isUnder_56 M)) mtX5_isUnder 56 [] [] M := by
  unfold mX5_isUnder_56
  unfold PX5_isUnder_56 at hp
  refine r_iconst MF.bs dX5_isUnder_56 (v := 1) (by decide) ?_
  refine r_goto MF.bs dX5_isUnder_57 (tgt := 61) (by decide) ?_
  exact r_zret1 dX5_isUnder_61 rfl
def mX5_isUnder  (a0 : Int32) (a1 : Int32) (M : Mem) : Bool := (if a1 = 0 then true else (if a1 = 1 then (if a0 = 1 then (mX5_isUnder_40 M) else (if a0 = 3 then (mX5_isUnder_40 M) else false)) else (if a1 = 2 then (if a0 = 2 then (mX5_isUnder_56 M) else (if a0 = 4 then (mX5_isUnder_56 M) else false)) else (if a0 = a1 then true else false))))
def PX5_isUnder  (a0 : Int32) (a1 : Int32) (M : Mem) : Prop := (¬ a1 = 0 → ((a1 = 1 → ((a0 = 1 → PX5_isUnder_40 M) ∧ (¬ a0 = 1 → (a0 = 3 → PX5_isUnder_40 M)))) ∧ (¬ a1 = 1 → (a1 = 2 → ((a0 = 2 → PX5_isUnder_56 M) ∧ (¬ a0 = 2 → (a0 = 4 → PX5_isUnder_56 M)))))))
set_option maxRecDepth 100000 in
theorem ctX5_isUnder   (a0 : Int32) (a1 : Int32) (M : Mem) (hp : PX5_isUnder a0 a1 M) : CT mtX5_isUnder 0 [.int a0, .int a1] M (some (.int (b2i (mX5_isUnder a0 a1 M))), M) := by
  refine CT.of (by decide) rfl (Nat.le_of_ble_eq_true rfl) ?_
  show AWP (GB mtX5_isUnder 0 M M (mX5_isUnder a0 a1 M)) mtX5_isUnder 0 [(0, .int a0), (1, .int a1)] [] M
  unfold mX5_isUnder
  unfold PX5_isUnder at hp
  refine r_iload_n MF.bs dX5_isUnder_0 rfl 1 rfl ?_
  refine r_ite (GB mtX5_isUnder 0 M M) (fun h_1 => ?_) (fun h_1 => ?_)
  · refine r_tsw_in MF.bs (tgt := 28) dX5_isUnder_1 h_1 (by decide) (by decide) rfl (by decide) ?_
    refine r_iconst MF.bs dX5_isUnder_28 (v := 1) (by decide) ?_
    exact r_zret1 dX5_isUnder_29 rfl
  · have hp := hp h_1
    refine r_ite (GB mtX5_isUnder 0 M M) (fun h_2 => ?_) (fun h_2 => ?_)
    · have hp := hp.1 h_2
      refine r_tsw_in MF.bs (tgt := 30) dX5_isUnder_1 h_2 (by decide) (by decide) rfl (by decide) ?_
      refine r_iload_n MF.bs dX5_isUnder_30 rfl 0 rfl ?_
      refine r_iconst MF.bs dX5_isUnder_31 (v := 1) (by decide) ?_
      refine r_ite (GB mtX5_isUnder 0 M M) (fun h_3 => ?_) (fun h_3 => ?_)
      · have hp := hp.1 h_3
        refine r_icmp_eq_t MF.bs (tgt := 40) dX5_isUnder_32 (by decide) h_3 ?_
        refine r_sub [] [] rfl ?_
        exact cX5_isUnder_40 M hp
      · have hp := hp.2 h_3
        refine r_icmp_eq_f MF.bs (tgt := 40) dX5_isUnder_32 (by decide) h_3 ?_
        refine r_iload_n MF.bs dX5_isUnder_35 rfl 0 rfl ?_
        refine r_iconst MF.bs dX5_isUnder_36 (v := 3) (by decide) ?_
        refine r_ite (GB mtX5_isUnder 0 M M) (fun h_4 => ?_) (fun h_4 => ?_)
        · have hp := hp h_4
          refine r_icmp_ne_f MF.bs (tgt := 44) dX5_isUnder_37 (by decide) h_4 ?_
          refine r_sub [] [] rfl ?_
          exact cX5_isUnder_40 M hp
        · refine r_icmp_ne_t MF.bs (tgt := 44) dX5_isUnder_37 (by decide) h_4 ?_
          refine r_iconst MF.bs dX5_isUnder_44 (v := 0) (by decide) ?_
          exact r_zret0 dX5_isUnder_45 rfl
    · have hp := hp.2 h_2
      refine r_ite (GB mtX5_isUnder 0 M M) (fun h_5 => ?_) (fun h_5 => ?_)
      · have hp := hp h_5
        refine r_tsw_in MF.bs (tgt := 46) dX5_isUnder_1 h_5 (by decide) (by decide) rfl (by decide) ?_
        refine r_iload_n MF.bs dX5_isUnder_46 rfl 0 rfl ?_
        refine r_iconst MF.bs dX5_isUnder_47 (v := 2) (by decide) ?_
        refine r_ite (GB mtX5_isUnder 0 M M) (fun h_6 => ?_) (fun h_6 => ?_)
        · have hp := hp.1 h_6
          refine r_icmp_eq_t MF.bs (tgt := 56) dX5_isUnder_48 (by decide) h_6 ?_
          refine r_sub [] [] rfl ?_
          exact cX5_isUnder_56 M hp
        · have hp := hp.2 h_6
          refine r_icmp_eq_f MF.bs (tgt := 56) dX5_isUnder_48 (by decide) h_6 ?_
          refine r_iload_n MF.bs dX5_isUnder_51 rfl 0 rfl ?_
          refine r_iconst MF.bs dX5_isUnder_52 (v := 4) (by decide) ?_
          refine r_ite (GB mtX5_isUnder 0 M M) (fun h_7 => ?_) (fun h_7 => ?_)
          · have hp := hp h_7
            refine r_icmp_ne_f MF.bs (tgt := 60) dX5_isUnder_53 (by decide) h_7 ?_
            refine r_sub [] [] rfl ?_
            exact cX5_isUnder_56 M hp
          · refine r_icmp_ne_t MF.bs (tgt := 60) dX5_isUnder_53 (by decide) h_7 ?_
            refine r_iconst MF.bs dX5_isUnder_60 (v := 0) (by decide) ?_
            exact r_zret0 dX5_isUnder_61 rfl
      · refine r_tsw_out MF.bs (tgt := 62) dX5_isUnder_1 (by have e0 := lv_neT (a := 0) h_1 (by decide); have e1 := lv_neT (a := 1) h_2 (by decide); have e2 := lv_neT (a := 2) h_5 (by decide); omega) (by decide) ?_
        refine r_iload_n MF.bs dX5_isUnder_62 rfl 0 rfl ?_
        refine r_iload_n MF.bs dX5_isUnder_63 rfl 1 rfl ?_
        refine r_ite (GB mtX5_isUnder 0 M M) (fun h_8 => ?_) (fun h_8 => ?_)
        · refine r_icmp_ne_f MF.bs (tgt := 71) dX5_isUnder_64 (by decide) h_8 ?_
          refine r_iconst MF.bs dX5_isUnder_67 (v := 1) (by decide) ?_
          refine r_goto MF.bs dX5_isUnder_68 (tgt := 72) (by decide) ?_
          exact r_zret1 dX5_isUnder_72 rfl
        · refine r_icmp_ne_t MF.bs (tgt := 71) dX5_isUnder_64 (by decide) h_8 ?_
          refine r_iconst MF.bs dX5_isUnder_71 (v := 0) (by decide) ?_
          exact r_zret0 dX5_isUnder_72 rfl
abbrev mtX5_taken : MT := (RX5, yX5_taken, cX5_taken, 5, (some .int))
theorem miX5_taken : MV mtX5_taken 2 := ⟨wd_811, ⟨wd_809, wd_810⟩, wd_79, ⟨by decide, by decide, by decide +kernel⟩, by decide⟩
def mX5_taken_34  (a1 : Int32) (v2 : Int32) (v4 : Int32) (M : Mem) : Int32 := (if (M (vpl a1) 0) = 1 then (if v2 = (10 + (M (vpl a1) 2)) then (M (vpl a1) 3) else (-13)) else (if (mX5_holdsAir (vpl a1) M) = true then (if v4 = 0 then (if (mX5_isUnder (M 4 (M (vpl a1) 1).toNatClampNeg) v2 M) = true then (M (vpl a1) 1) else (-13)) else (-13)) else (-11)))
def PX5_taken_34  (a1 : Int32) (v2 : Int32) (v4 : Int32) (M : Mem) : Prop := (¬ (M (vpl a1) 0) = 1 → ((mX5_holdsAir (vpl a1) M) = true → (v4 = 0 → vp_in (M (vpl a1) 1) 8 ∧ (PX5_isUnder (M 4 (M (vpl a1) 1).toNatClampNeg) v2 M))))
set_option maxRecDepth 100000 in
theorem cX5_taken_34   (a1 : Int32) (hx_a1 : 0 ≤ a1 ∧ a1 ≤ 3) (v2 : Int32) (v4 : Int32) (M : Mem) (hp : PX5_taken_34 a1 v2 v4 M) : AWP (GI mtX5_taken 4 M M (mX5_taken_34 a1 v2 v4 M)) mtX5_taken 34 [(0, .ref 0), (2, .int v2), (3, .ref (vpl a1)), (4, .int v4)] [] M := by
  unfold mX5_taken_34
  unfold PX5_taken_34 at hp
  refine r_aload_n MF.bs dX5_taken_34 rfl 2 rfl ?_
  refine r_getI MF.bs dX5_taken_35 (sh_v (vpl_ok hx_a1)) rfl 0 (by decide) wd_237 rfl ?_
  refine r_iconst MF.bs dX5_taken_38 (v := 1) (by decide) ?_
  refine r_ite (GI mtX5_taken 4 M M) (fun h_4 => ?_) (fun h_4 => ?_)
  · refine r_icmp_ne_f MF.bs (tgt := 63) dX5_taken_39 (by decide) h_4 ?_
    refine r_iload_n MF.bs dX5_taken_42 rfl 1 rfl ?_
    refine r_bipush MF.bs dX5_taken_43 (v := 10) (by decide) ?_
    refine r_aload_n MF.bs dX5_taken_45 rfl 2 rfl ?_
    refine r_getI MF.bs dX5_taken_46 (sh_v (vpl_ok hx_a1)) rfl 2 (by decide) wd_241 rfl ?_
    refine r_iadd MF.bs dX5_taken_49 ?_
    refine r_ite (GI mtX5_taken 4 M M) (fun h_5 => ?_) (fun h_5 => ?_)
    · refine r_icmp_ne_f MF.bs (tgt := 60) dX5_taken_50 (by decide) h_5 ?_
      refine r_aload_n MF.bs dX5_taken_53 rfl 2 rfl ?_
      refine r_getI MF.bs dX5_taken_54 (sh_v (vpl_ok hx_a1)) rfl 3 (by decide) wd_243 rfl ?_
      refine r_goto MF.bs dX5_taken_57 (tgt := 62) (by decide) ?_
      exact r_iret dX5_taken_62 rfl
    · refine r_icmp_ne_t MF.bs (tgt := 60) dX5_taken_50 (by decide) h_5 ?_
      refine r_bipush MF.bs dX5_taken_60 (v := -13) (by decide) ?_
      exact r_iret dX5_taken_62 rfl
  · have hp := hp h_4
    refine r_icmp_ne_t MF.bs (tgt := 63) dX5_taken_39 (by decide) h_4 ?_
    refine r_aload_n MF.bs dX5_taken_63 rfl 0 rfl ?_
    refine r_aload_n MF.bs dX5_taken_64 rfl 2 rfl ?_
    refine r_callV_v MF.bs (st := []) dX5_taken_65 (ctX5_holdsAir (vpl a1) (vpl_ok hx_a1) M) miX5_holdsAir wd_812 rfl (by decide) rfl (Nat.le_of_ble_eq_true rfl) rfl rfl rfl ?_
    refine r_ite (GI mtX5_taken 4 M M) (fun h_6 => ?_) (fun h_6 => ?_)
    · have hp := hp h_6
      refine r_if_ne_t MF.bs (tgt := 74) dX5_taken_68 (by decide) (b2i_1 h_6) ?_
      refine r_iload MF.bs dX5_taken_74 3 rfl ?_
      refine r_ite (GI mtX5_taken 4 M M) (fun h_7 => ?_) (fun h_7 => ?_)
      · have hp := hp h_7
        refine r_if_ne_f MF.bs (tgt := 105) dX5_taken_76 (by decide) h_7 ?_
        obtain ⟨hq_8, hp⟩ := hp
        have hq_9 := hp
        refine r_aload_n MF.bs dX5_taken_79 rfl 0 rfl ?_
        refine r_getR MF.bs dX5_taken_80 rfl rfl 0 (by decide) wd_253 rfl ?_
        refine r_getR MF.bs dX5_taken_83 rfl rfl 2 (by decide) wd_120 rfl ?_
        refine r_aload_n MF.bs dX5_taken_86 rfl 2 rfl ?_
        refine r_getI MF.bs dX5_taken_87 (sh_v (vpl_ok hx_a1)) rfl 1 (by decide) wd_239 rfl ?_
        refine r_iaload MF.bs dX5_taken_90 rfl hq_8 ?_
        refine r_iload_n MF.bs dX5_taken_91 rfl 1 rfl ?_
        refine r_callS_v MF.bs (st := []) dX5_taken_92 (ctX5_isUnder (M 4 (M (vpl a1) 1).toNatClampNeg) v2 M hq_9) miX5_isUnder wd_816 rfl (by decide) rfl (Nat.le_of_ble_eq_true rfl) ?_
        refine r_ite (GI mtX5_taken 4 M M) (fun h_10 => ?_) (fun h_10 => ?_)
        · refine r_if_eq_f MF.bs (tgt := 105) dX5_taken_95 (by decide) (b2i_1 h_10) ?_
          refine r_aload_n MF.bs dX5_taken_98 rfl 2 rfl ?_
          refine r_getI MF.bs dX5_taken_99 (sh_v (vpl_ok hx_a1)) rfl 1 (by decide) wd_239 rfl ?_
          refine r_goto MF.bs dX5_taken_102 (tgt := 107) (by decide) ?_
          exact r_iret dX5_taken_107 rfl
        · refine r_if_eq_t MF.bs (tgt := 105) dX5_taken_95 (by decide) (b2i_0 h_10) ?_
          refine r_bipush MF.bs dX5_taken_105 (v := -13) (by decide) ?_
          exact r_iret dX5_taken_107 rfl
      · refine r_if_ne_t MF.bs (tgt := 105) dX5_taken_76 (by decide) h_7 ?_
        refine r_bipush MF.bs dX5_taken_105 (v := -13) (by decide) ?_
        exact r_iret dX5_taken_107 rfl
    · refine r_if_ne_f MF.bs (tgt := 74) dX5_taken_68 (by decide) (b2i_0 h_6) ?_
      refine r_bipush MF.bs dX5_taken_71 (v := -11) (by decide) ?_
      exact r_iret dX5_taken_73 rfl
def mX5_taken  (a1 : Int32) (a2 : Int32) (M : Mem) : Int32 := (if 0 ≤ a1 ∧ a1 ≤ 3 then (if (mX5_isKind a2) = true then (mX5_taken_34 a1 a2 (b2i (mX5_isWithin a2 10 13)) M) else (if (mX5_isWithin a2 10 13) = true then (mX5_taken_34 a1 a2 (b2i (mX5_isWithin a2 10 13)) M) else (-1))) else (-1))
def PX5_taken  (a1 : Int32) (a2 : Int32) (M : Mem) : Prop := (0 ≤ a1 ∧ a1 ≤ 3 → (((mX5_isKind a2) = true → PX5_taken_34 a1 a2 (b2i (mX5_isWithin a2 10 13)) M) ∧ (¬ (mX5_isKind a2) = true → ((mX5_isWithin a2 10 13) = true → PX5_taken_34 a1 a2 (b2i (mX5_isWithin a2 10 13)) M))))
set_option maxRecDepth 100000 in
theorem ctX5_taken   (a1 : Int32) (a2 : Int32) (M : Mem) (hp : PX5_taken a1 a2 M) : CT mtX5_taken 4 [.ref 0, .int a1, .int a2] M (some (.int (mX5_taken a1 a2 M)), M) := by
  refine CT.of (by decide) rfl (Nat.le_of_ble_eq_true rfl) ?_
  show AWP (GI mtX5_taken 4 M M (mX5_taken a1 a2 M)) mtX5_taken 0 [(0, .ref 0), (1, .int a1), (2, .int a2)] [] M
  unfold mX5_taken
  unfold PX5_taken at hp
  refine r_aload_n MF.bs dX5_taken_0 rfl 0 rfl ?_
  refine r_iload_n MF.bs dX5_taken_1 rfl 1 rfl ?_
  refine r_ite (GI mtX5_taken 4 M M) (fun h_1 => ?_) (fun h_1 => ?_)
  · have hp := hp h_1
    refine r_callV_v MF.bs (st := []) dX5_taken_2 (ctX5_shelfAt_in a1 M h_1) miX5_shelfAt wd_795 rfl (by decide) rfl (Nat.le_of_ble_eq_true rfl) rfl rfl rfl ?_
    refine r_astore_n MF.bs (lv' := [(3, .ref (vpl a1)), (0, .ref 0), (1, .int a1), (2, .int a2)]) dX5_taken_5 rfl (by decide) rfl ?_
    refine r_iload_n MF.bs dX5_taken_6 rfl 3 rfl ?_
    refine r_bipush MF.bs dX5_taken_7 (v := 10) (by decide) ?_
    refine r_bipush MF.bs dX5_taken_9 (v := 13) (by decide) ?_
    refine r_callS_v MF.bs (st := []) dX5_taken_11 (ctX5_isWithin a2 10 13 M) miX5_isWithin wd_303 rfl (by decide) rfl (Nat.le_of_ble_eq_true rfl) ?_
    refine r_istore MF.bs (lv' := [(4, .int (b2i (mX5_isWithin a2 10 13))), (3, .ref (vpl a1)), (0, .ref 0), (1, .int a1), (2, .int a2)]) dX5_taken_14 (by decide) rfl ?_
    refine r_aload_n MF.bs dX5_taken_16 rfl 1 rfl ?_
    refine r_ifnull MF.bs dX5_taken_17 ?_
    refine r_iload_n MF.bs dX5_taken_20 rfl 4 rfl ?_
    refine r_callS_v MF.bs (st := []) dX5_taken_21 (ctX5_isKind a2 M) miX5_isKind wd_476 rfl (by decide) rfl (Nat.le_of_ble_eq_true rfl) ?_
    refine r_ite (GI mtX5_taken 4 M M) (fun h_2 => ?_) (fun h_2 => ?_)
    · have hp := hp.1 h_2
      refine r_if_ne_t MF.bs (tgt := 34) dX5_taken_24 (by decide) (b2i_1 h_2) ?_
      refine r_sub [(0, .ref 0), (2, .int a2), (3, .ref (vpl a1)), (4, .int (b2i (mX5_isWithin a2 10 13)))] [2, 4, 1, 0] rfl ?_
      exact cX5_taken_34 a1 h_1 a2 (b2i (mX5_isWithin a2 10 13)) M hp
    · have hp := hp.2 h_2
      refine r_if_ne_f MF.bs (tgt := 34) dX5_taken_24 (by decide) (b2i_0 h_2) ?_
      refine r_iload MF.bs dX5_taken_27 0 rfl ?_
      refine r_ite (GI mtX5_taken 4 M M) (fun h_3 => ?_) (fun h_3 => ?_)
      · have hp := hp h_3
        refine r_if_ne_t MF.bs (tgt := 34) dX5_taken_29 (by decide) (b2i_1 h_3) ?_
        refine r_sub [(0, .ref 0), (2, .int a2), (3, .ref (vpl a1)), (4, .int (b2i (mX5_isWithin a2 10 13)))] [2, 4, 1, 0] rfl ?_
        exact cX5_taken_34 a1 h_1 a2 (b2i (mX5_isWithin a2 10 13)) M hp
      · refine r_if_ne_f MF.bs (tgt := 34) dX5_taken_29 (by decide) (b2i_0 h_3) ?_
        refine r_iconst MF.bs dX5_taken_32 (v := -1) (by decide) ?_
        exact r_iret dX5_taken_33 rfl
  · refine r_callV_v MF.bs (st := []) dX5_taken_2 (ctX5_shelfAt_out a1 M h_1) miX5_shelfAt wd_795 rfl (by decide) rfl (Nat.le_of_ble_eq_true rfl) rfl rfl rfl ?_
    refine r_astore_nN MF.bs (lv' := [(3, .null), (0, .ref 0), (1, .int a1), (2, .int a2)]) dX5_taken_5 rfl (by decide) rfl ?_
    refine r_iload_n MF.bs dX5_taken_6 rfl 3 rfl ?_
    refine r_bipush MF.bs dX5_taken_7 (v := 10) (by decide) ?_
    refine r_bipush MF.bs dX5_taken_9 (v := 13) (by decide) ?_
    refine r_callS_v MF.bs (st := []) dX5_taken_11 (ctX5_isWithin a2 10 13 M) miX5_isWithin wd_303 rfl (by decide) rfl (Nat.le_of_ble_eq_true rfl) ?_
    refine r_istore MF.bs (lv' := [(4, .int (b2i (mX5_isWithin a2 10 13))), (3, .null), (0, .ref 0), (1, .int a1), (2, .int a2)]) dX5_taken_14 (by decide) rfl ?_
    refine r_aload_nN MF.bs dX5_taken_16 rfl 1 rfl ?_
    refine r_ifnullN MF.bs dX5_taken_17 (tgt := 32) (by decide) ?_
    refine r_iconst MF.bs dX5_taken_32 (v := -1) (by decide) ?_
    exact r_iret dX5_taken_33 rfl
abbrev mtX5_act : MT := (RX5, yX5_act, cX5_act, 6, (some .int))
theorem miX5_act : MV mtX5_act 3 := ⟨wd_822, ⟨wd_820, wd_821⟩, wd_79, ⟨by decide, by decide, by decide +kernel⟩, by decide⟩
def mX5_act_87   (k0 : Int32) (M : Mem) : Int32 × Mem := (if (M 26 2) = 0 then (k0, M) else ((-15), M))
def PX5_act_87   (k0 : Int32) (M : Mem) : Prop := True
set_option maxRecDepth 100000 in
theorem cX5_act_87    (M0 : Mem) (k0 : Int32) (M : Mem) (hp : PX5_act_87 k0 M) : AWP (GIM mtX5_act 64 M0 (mX5_act_87 k0 M)) mtX5_act 87 [(0, .ref 0)] [.int k0] M := by
  unfold mX5_act_87
  unfold PX5_act_87 at hp
  refine r_istore MF.bs (lv' := [(5, .int k0), (0, .ref 0)]) dX5_act_87 (by decide) rfl ?_
  refine r_aload_n MF.bs dX5_act_89 rfl 1 rfl ?_
  refine r_getR MF.bs dX5_act_90 rfl rfl 6 (by decide) wd_259 rfl ?_
  refine r_getI MF.bs dX5_act_93 rfl rfl 2 (by decide) wd_194 rfl ?_
  refine r_ite (GIM mtX5_act 64 M0) (fun h_7 => ?_) (fun h_7 => ?_)
  · refine r_if_eq_t MF.bs (tgt := 104) dX5_act_96 (by decide) h_7 ?_
    refine r_iload MF.bs dX5_act_104 0 rfl ?_
    exact r_iret dX5_act_106 rfl
  · refine r_if_eq_f MF.bs (tgt := 104) dX5_act_96 (by decide) h_7 ?_
    refine r_bipush MF.bs dX5_act_99 (v := -15) (by decide) ?_
    refine r_goto MF.bs dX5_act_101 (tgt := 106) (by decide) ?_
    exact r_iret dX5_act_106 rfl
def mX5_act_78   (v2 : Int32) (v3 : Int32) (M : Mem) : Int32 × Mem := (mX5_act_87 ((mX0_perform v2 v3 M).1) ((mX0_perform v2 v3 M).2))
def PX5_act_78   (v2 : Int32) (v3 : Int32) (M : Mem) : Prop := PX0_perform v2 v3 M ∧ (PX5_act_87 ((mX0_perform v2 v3 M).1) ((mX0_perform v2 v3 M).2))
set_option maxRecDepth 100000 in
theorem cX5_act_78    (M0 : Mem) (v2 : Int32) (v3 : Int32) (M : Mem) (hp : PX5_act_78 v2 v3 M) : AWP (GIM mtX5_act 64 M0 (mX5_act_78 v2 v3 M)) mtX5_act 78 [(0, .ref 0), (2, .int v2), (3, .int v3)] [] M := by
  unfold mX5_act_78
  unfold PX5_act_78 at hp
  obtain ⟨hq_6, hp⟩ := hp
  refine r_aload_n MF.bs dX5_act_78 rfl 0 rfl ?_
  refine r_getR MF.bs dX5_act_79 rfl rfl 6 (by decide) wd_259 rfl ?_
  refine r_iload_n MF.bs dX5_act_82 rfl 1 rfl ?_
  refine r_iload_n MF.bs dX5_act_83 rfl 2 rfl ?_
  refine r_callV_v MF.bs (st := []) dX5_act_84 (ctX0_perform v2 v3 M hq_6) miX0_perform wd_827 rfl (by decide) rfl (Nat.le_of_ble_eq_true rfl) rfl rfl rfl ?_
  refine r_sub [(0, .ref 0)] [0] rfl ?_
  exact cX5_act_87 M0 ((mX0_perform v2 v3 M).1) ((mX0_perform v2 v3 M).2) hp
def mX5_act  (a1 : Int32) (a2 : Int32) (a3 : Int32) (M : Mem) : Int32 × Mem := (if 0 ≤ a1 ∧ a1 ≤ 3 then (if (mX5_holdsAir (vpl a1) (upm M 26 1 0)) = true then (if (mX5_isWithin a2 0 3) = true then (mX5_act_78 a2 a3 (mX0_takeThing ((upm M 26 1 0) 4 ((upm M 26 1 0) (vpl a1) 1).toNatClampNeg) ((upm M 26 1 0) (vpl a1) 1) ((upm M 26 1 0) 5 ((upm M 26 1 0) (vpl a1) 1).toNatClampNeg) (upm M 26 1 0))) else (0, (upm M 26 1 0))) else (0, (upm M 26 1 0))) else (0, (upm M 26 1 0)))
def PX5_act  (a1 : Int32) (a2 : Int32) (a3 : Int32) (M : Mem) : Prop := (0 ≤ a1 ∧ a1 ≤ 3 → ((mX5_holdsAir (vpl a1) (upm M 26 1 0)) = true → ((mX5_isWithin a2 0 3) = true → vp_in ((upm M 26 1 0) (vpl a1) 1) 8 ∧ (vp_in ((upm M 26 1 0) (vpl a1) 1) 8 ∧ (PX5_act_78 a2 a3 (mX0_takeThing ((upm M 26 1 0) 4 ((upm M 26 1 0) (vpl a1) 1).toNatClampNeg) ((upm M 26 1 0) (vpl a1) 1) ((upm M 26 1 0) 5 ((upm M 26 1 0) (vpl a1) 1).toNatClampNeg) (upm M 26 1 0)))))))
set_option maxRecDepth 100000 in
theorem ctX5_act   (a1 : Int32) (a2 : Int32) (a3 : Int32) (M : Mem) (hp : PX5_act a1 a2 a3 M) : CT mtX5_act 64 [.ref 0, .int a1, .int a2, .int a3] M (some (.int ((mX5_act a1 a2 a3 M).1)), (mX5_act a1 a2 a3 M).2) := by
  refine CT.of (by decide) rfl (Nat.le_of_ble_eq_true rfl) ?_
  show AWP (GIM mtX5_act 64 M (mX5_act a1 a2 a3 M)) mtX5_act 0 [(0, .ref 0), (1, .int a1), (2, .int a2), (3, .int a3)] [] M
  unfold mX5_act
  unfold PX5_act at hp
  refine r_aload_n MF.bs dX5_act_0 rfl 0 rfl ?_
  refine r_iload_n MF.bs dX5_act_1 rfl 1 rfl ?_
  refine r_ite (GIM mtX5_act 64 M) (fun h_1 => ?_) (fun h_1 => ?_)
  · have hp := hp h_1
    refine r_callV_v MF.bs (st := []) dX5_act_2 (ctX5_shelfAt_in a1 M h_1) miX5_shelfAt wd_795 rfl (by decide) rfl (Nat.le_of_ble_eq_true rfl) rfl rfl rfl ?_
    refine r_astore MF.bs (lv' := [(4, .ref (vpl a1)), (0, .ref 0), (1, .int a1), (2, .int a2), (3, .int a3)]) dX5_act_5 (by decide) rfl ?_
    refine r_aload_n MF.bs dX5_act_7 rfl 1 rfl ?_
    refine r_getR MF.bs dX5_act_8 rfl rfl 6 (by decide) wd_259 rfl ?_
    refine r_iconst MF.bs dX5_act_11 (v := 0) (by decide) ?_
    refine r_putI MF.bs dX5_act_12 rfl rfl 1 (by decide) wd_192 rfl rfl rfl rfl rfl ?_
    refine r_aload MF.bs dX5_act_15 0 rfl ?_
    refine r_ifnull MF.bs dX5_act_17 ?_
    refine r_aload_n MF.bs dX5_act_20 rfl 1 rfl ?_
    refine r_aload MF.bs dX5_act_21 0 rfl ?_
    refine r_callV_v MF.bs (st := []) dX5_act_23 (ctX5_holdsAir (vpl a1) (vpl_ok h_1) (upm M 26 1 0)) miX5_holdsAir wd_812 rfl (by decide) rfl (Nat.le_of_ble_eq_true rfl) rfl rfl rfl ?_
    refine r_ite (GIM mtX5_act 64 M) (fun h_2 => ?_) (fun h_2 => ?_)
    · have hp := hp h_2
      refine r_if_eq_f MF.bs (tgt := 38) dX5_act_26 (by decide) (b2i_1 h_2) ?_
      refine r_iload_n MF.bs dX5_act_29 rfl 3 rfl ?_
      refine r_iconst MF.bs dX5_act_30 (v := 0) (by decide) ?_
      refine r_iconst MF.bs dX5_act_31 (v := 3) (by decide) ?_
      refine r_callS_v MF.bs (st := []) dX5_act_32 (ctX5_isWithin a2 0 3 (upm M 26 1 0)) miX5_isWithin wd_303 rfl (by decide) rfl (Nat.le_of_ble_eq_true rfl) ?_
      refine r_ite (GIM mtX5_act 64 M) (fun h_3 => ?_) (fun h_3 => ?_)
      · have hp := hp h_3
        refine r_if_ne_t MF.bs (tgt := 40) dX5_act_35 (by decide) (b2i_1 h_3) ?_
        obtain ⟨hq_4, hp⟩ := hp
        obtain ⟨hq_5, hp⟩ := hp
        refine r_aload_n MF.bs dX5_act_40 rfl 1 rfl ?_
        refine r_getR MF.bs dX5_act_41 rfl rfl 6 (by decide) wd_259 rfl ?_
        refine r_aload_n MF.bs dX5_act_44 rfl 1 rfl ?_
        refine r_getR MF.bs dX5_act_45 rfl rfl 0 (by decide) wd_253 rfl ?_
        refine r_getR MF.bs dX5_act_48 rfl rfl 2 (by decide) wd_120 rfl ?_
        refine r_aload MF.bs dX5_act_51 0 rfl ?_
        refine r_getI MF.bs dX5_act_53 (sh_v (vpl_ok h_1)) rfl 1 (by decide) wd_239 rfl ?_
        refine r_iaload MF.bs dX5_act_56 rfl hq_4 ?_
        refine r_aload MF.bs dX5_act_57 0 rfl ?_
        refine r_getI MF.bs dX5_act_59 (sh_v (vpl_ok h_1)) rfl 1 (by decide) wd_239 rfl ?_
        refine r_aload_n MF.bs dX5_act_62 rfl 1 rfl ?_
        refine r_getR MF.bs dX5_act_63 rfl rfl 0 (by decide) wd_253 rfl ?_
        refine r_getR MF.bs dX5_act_66 rfl rfl 3 (by decide) wd_122 rfl ?_
        refine r_aload MF.bs dX5_act_69 0 rfl ?_
        refine r_getI MF.bs dX5_act_71 (sh_v (vpl_ok h_1)) rfl 1 (by decide) wd_239 rfl ?_
        refine r_iaload MF.bs dX5_act_74 rfl hq_5 ?_
        refine r_callV_n MF.bs (st := []) dX5_act_75 (ctX0_takeThing ((upm M 26 1 0) 4 ((upm M 26 1 0) (vpl a1) 1).toNatClampNeg) ((upm M 26 1 0) (vpl a1) 1) ((upm M 26 1 0) 5 ((upm M 26 1 0) (vpl a1) 1).toNatClampNeg) (upm M 26 1 0)) miX0_takeThing wd_823 rfl (by decide) rfl (Nat.le_of_ble_eq_true rfl) rfl rfl rfl ?_
        refine r_sub [(0, .ref 0), (2, .int a2), (3, .int a3)] [1, 3, 4] rfl ?_
        exact cX5_act_78 M a2 a3 (mX0_takeThing ((upm M 26 1 0) 4 ((upm M 26 1 0) (vpl a1) 1).toNatClampNeg) ((upm M 26 1 0) (vpl a1) 1) ((upm M 26 1 0) 5 ((upm M 26 1 0) (vpl a1) 1).toNatClampNeg) (upm M 26 1 0)) hp
      · refine r_if_ne_f MF.bs (tgt := 40) dX5_act_35 (by decide) (b2i_0 h_3) ?_
        refine r_iconst MF.bs dX5_act_38 (v := 0) (by decide) ?_
        exact r_iret dX5_act_39 rfl
    · refine r_if_eq_t MF.bs (tgt := 38) dX5_act_26 (by decide) (b2i_0 h_2) ?_
      refine r_iconst MF.bs dX5_act_38 (v := 0) (by decide) ?_
      exact r_iret dX5_act_39 rfl
  · refine r_callV_v MF.bs (st := []) dX5_act_2 (ctX5_shelfAt_out a1 M h_1) miX5_shelfAt wd_795 rfl (by decide) rfl (Nat.le_of_ble_eq_true rfl) rfl rfl rfl ?_
    refine r_astoreN MF.bs (lv' := [(4, .null), (0, .ref 0), (1, .int a1), (2, .int a2), (3, .int a3)]) dX5_act_5 (by decide) rfl ?_
    refine r_aload_n MF.bs dX5_act_7 rfl 1 rfl ?_
    refine r_getR MF.bs dX5_act_8 rfl rfl 6 (by decide) wd_259 rfl ?_
    refine r_iconst MF.bs dX5_act_11 (v := 0) (by decide) ?_
    refine r_putI MF.bs dX5_act_12 rfl rfl 1 (by decide) wd_192 rfl rfl rfl rfl rfl ?_
    refine r_aloadN MF.bs dX5_act_15 0 rfl ?_
    refine r_ifnullN MF.bs dX5_act_17 (tgt := 38) (by decide) ?_
    refine r_iconst MF.bs dX5_act_38 (v := 0) (by decide) ?_
    exact r_iret dX5_act_39 rfl
abbrev mtX5_trace : MT := (RX5, yX5_trace, cX5_trace, 2, (some .int))
theorem miX5_trace : MV mtX5_trace 1 := ⟨wd_852, ⟨wd_850, wd_851⟩, wd_79, ⟨by decide, by decide, by decide +kernel⟩, by decide⟩
def mX5_trace  (a1 : Int32) (M : Mem) : Int32 := (if (mX5_isWithin a1 0 ((M 26 1) - 1)) = true then (M 27 a1.toNatClampNeg) else (-3))
def PX5_trace  (a1 : Int32) (M : Mem) : Prop := ((mX5_isWithin a1 0 ((M 26 1) - 1)) = true → vp_in a1 30)
set_option maxRecDepth 100000 in
theorem ctX5_trace   (a1 : Int32) (M : Mem) (hp : PX5_trace a1 M) : CT mtX5_trace 1 [.ref 0, .int a1] M (some (.int (mX5_trace a1 M)), M) := by
  refine CT.of (by decide) rfl (Nat.le_of_ble_eq_true rfl) ?_
  show AWP (GI mtX5_trace 1 M M (mX5_trace a1 M)) mtX5_trace 0 [(0, .ref 0), (1, .int a1)] [] M
  unfold mX5_trace
  unfold PX5_trace at hp
  refine r_iload_n MF.bs dX5_trace_0 rfl 1 rfl ?_
  refine r_iconst MF.bs dX5_trace_1 (v := 0) (by decide) ?_
  refine r_aload_n MF.bs dX5_trace_2 rfl 0 rfl ?_
  refine r_getR MF.bs dX5_trace_3 rfl rfl 6 (by decide) wd_259 rfl ?_
  refine r_getI MF.bs dX5_trace_6 rfl rfl 1 (by decide) wd_192 rfl ?_
  refine r_iconst MF.bs dX5_trace_9 (v := 1) (by decide) ?_
  refine r_isub MF.bs dX5_trace_10 ?_
  refine r_callS_v MF.bs (st := []) dX5_trace_11 (ctX5_isWithin a1 0 ((M 26 1) - 1) M) miX5_isWithin wd_303 rfl (by decide) rfl (Nat.le_of_ble_eq_true rfl) ?_
  refine r_ite (GI mtX5_trace 1 M M) (fun h_1 => ?_) (fun h_1 => ?_)
  · have hp := hp h_1
    refine r_if_eq_f MF.bs (tgt := 29) dX5_trace_14 (by decide) (b2i_1 h_1) ?_
    have hq_2 := hp
    refine r_aload_n MF.bs dX5_trace_17 rfl 0 rfl ?_
    refine r_getR MF.bs dX5_trace_18 rfl rfl 6 (by decide) wd_259 rfl ?_
    refine r_getR MF.bs dX5_trace_21 rfl rfl 0 (by decide) wd_190 rfl ?_
    refine r_iload_n MF.bs dX5_trace_24 rfl 1 rfl ?_
    refine r_iaload MF.bs dX5_trace_25 rfl hq_2 ?_
    refine r_goto MF.bs dX5_trace_26 (tgt := 31) (by decide) ?_
    exact r_iret dX5_trace_31 rfl
  · refine r_if_eq_t MF.bs (tgt := 29) dX5_trace_14 (by decide) (b2i_0 h_1) ?_
    refine r_bipush MF.bs dX5_trace_29 (v := -3) (by decide) ?_
    exact r_iret dX5_trace_31 rfl
abbrev mtX5_many : MT := (RX5, yX5_many, cX5_many, 2, (some .int))
theorem miX5_many : MV mtX5_many 1 := ⟨wd_856, ⟨wd_854, wd_855⟩, wd_79, ⟨by decide, by decide, by decide +kernel⟩, by decide⟩
def mX5_many  (a1 : Int32) (M : Mem) : Int32 := (if a1 = 0 then (M 1 6) else (if a1 = 1 then (mJ6_bitCount_0f7a4 (mX4_airsAtErrands 1 M)) else (if a1 = 2 then (mJ6_bitCount_0f7a4 (mX4_housesWithAirs 1 M)) else (if a1 = 3 then (mJ6_bitCount_0f7a4 (mX4_housesWetBy 1 1 M)) else (if a1 = 4 then (M 0 13) else (if a1 = 5 then (M 22 1) else (if a1 = 6 then (M 26 1) else (-1))))))))
def PX5_many  (a1 : Int32) (M : Mem) : Prop := (¬ a1 = 0 → ((a1 = 1 → PX4_airsAtErrands 1 M) ∧ (¬ a1 = 1 → ((a1 = 2 → PX4_housesWithAirs 1 M) ∧ (¬ a1 = 2 → (a1 = 3 → PX4_housesWetBy 1 1 M))))))
set_option maxRecDepth 100000 in
theorem ctX5_many   (a1 : Int32) (M : Mem) (hp : PX5_many a1 M) : CT mtX5_many 1 [.ref 0, .int a1] M (some (.int (mX5_many a1 M)), M) := by
  refine CT.of (by decide) rfl (Nat.le_of_ble_eq_true rfl) ?_
  show AWP (GI mtX5_many 1 M M (mX5_many a1 M)) mtX5_many 0 [(0, .ref 0), (1, .int a1)] [] M
  unfold mX5_many
  unfold PX5_many at hp
  refine r_iload_n MF.bs dX5_many_0 rfl 1 rfl ?_
  refine r_ite (GI mtX5_many 1 M M) (fun h_1 => ?_) (fun h_1 => ?_)
  · refine r_tsw_in MF.bs (tgt := 44) dX5_many_1 h_1 (by decide) (by decide) rfl (by decide) ?_
    refine r_aload_n MF.bs dX5_many_44 rfl 0 rfl ?_
    refine r_getR MF.bs dX5_many_45 rfl rfl 0 (by decide) wd_253 rfl ?_
    refine r_getI MF.bs dX5_many_48 rfl rfl 6 (by decide) wd_128 rfl ?_
    exact r_iret dX5_many_51 rfl
  · have hp := hp h_1
    refine r_ite (GI mtX5_many 1 M M) (fun h_2 => ?_) (fun h_2 => ?_)
    · have hp := hp.1 h_2
      refine r_tsw_in MF.bs (tgt := 52) dX5_many_1 h_2 (by decide) (by decide) rfl (by decide) ?_
      have hq_3 := hp
      refine r_aload_n MF.bs dX5_many_52 rfl 0 rfl ?_
      refine r_getR MF.bs dX5_many_53 rfl rfl 0 (by decide) wd_253 rfl ?_
      refine r_callV_v MF.bs (st := []) dX5_many_56 (ctX4_airsAtErrands 1 (Or.inl rfl) M hq_3) miX4_airsAtErrands wd_574 rfl (by decide) rfl (Nat.le_of_ble_eq_true rfl) rfl rfl rfl ?_
      refine r_callS_v MF.bs (st := []) dX5_many_59 (ctJ6_bitCount_0f7a4 (mX4_airsAtErrands 1 M) M) miJ6_bitCount_0f7a4 wd_578 rfl (by decide) rfl (Nat.le_of_ble_eq_true rfl) ?_
      exact r_iret dX5_many_62 rfl
    · have hp := hp.2 h_2
      refine r_ite (GI mtX5_many 1 M M) (fun h_4 => ?_) (fun h_4 => ?_)
      · have hp := hp.1 h_4
        refine r_tsw_in MF.bs (tgt := 63) dX5_many_1 h_4 (by decide) (by decide) rfl (by decide) ?_
        have hq_5 := hp
        refine r_aload_n MF.bs dX5_many_63 rfl 0 rfl ?_
        refine r_getR MF.bs dX5_many_64 rfl rfl 0 (by decide) wd_253 rfl ?_
        refine r_callV_v MF.bs (st := []) dX5_many_67 (ctX4_housesWithAirs 1 (Or.inl rfl) M hq_5) miX4_housesWithAirs wd_619 rfl (by decide) rfl (Nat.le_of_ble_eq_true rfl) rfl rfl rfl ?_
        refine r_callS_v MF.bs (st := []) dX5_many_70 (ctJ6_bitCount_0f7a4 (mX4_housesWithAirs 1 M) M) miJ6_bitCount_0f7a4 wd_578 rfl (by decide) rfl (Nat.le_of_ble_eq_true rfl) ?_
        exact r_iret dX5_many_73 rfl
      · have hp := hp.2 h_4
        refine r_ite (GI mtX5_many 1 M M) (fun h_6 => ?_) (fun h_6 => ?_)
        · have hp := hp h_6
          refine r_tsw_in MF.bs (tgt := 74) dX5_many_1 h_6 (by decide) (by decide) rfl (by decide) ?_
          have hq_7 := hp
          refine r_aload_n MF.bs dX5_many_74 rfl 0 rfl ?_
          refine r_getR MF.bs dX5_many_75 rfl rfl 0 (by decide) wd_253 rfl ?_
          refine r_iconst MF.bs dX5_many_78 (v := 1) (by decide) ?_
          refine r_callV_v MF.bs (st := []) dX5_many_79 (ctX4_housesWetBy 1 (Or.inl rfl) 1 M hq_7) miX4_housesWetBy wd_623 rfl (by decide) rfl (Nat.le_of_ble_eq_true rfl) rfl rfl rfl ?_
          refine r_callS_v MF.bs (st := []) dX5_many_82 (ctJ6_bitCount_0f7a4 (mX4_housesWetBy 1 1 M) M) miJ6_bitCount_0f7a4 wd_578 rfl (by decide) rfl (Nat.le_of_ble_eq_true rfl) ?_
          exact r_iret dX5_many_85 rfl
        · refine r_ite (GI mtX5_many 1 M M) (fun h_8 => ?_) (fun h_8 => ?_)
          · refine r_tsw_in MF.bs (tgt := 86) dX5_many_1 h_8 (by decide) (by decide) rfl (by decide) ?_
            refine r_aload_n MF.bs dX5_many_86 rfl 0 rfl ?_
            refine r_getI MF.bs dX5_many_87 rfl rfl 13 (by decide) wd_266 rfl ?_
            exact r_iret dX5_many_90 rfl
          · refine r_ite (GI mtX5_many 1 M M) (fun h_9 => ?_) (fun h_9 => ?_)
            · refine r_tsw_in MF.bs (tgt := 91) dX5_many_1 h_9 (by decide) (by decide) rfl (by decide) ?_
              refine r_aload_n MF.bs dX5_many_91 rfl 0 rfl ?_
              refine r_getR MF.bs dX5_many_92 rfl rfl 3 (by decide) wd_256 rfl ?_
              refine r_getI MF.bs dX5_many_95 rfl rfl 1 (by decide) wd_167 rfl ?_
              exact r_iret dX5_many_98 rfl
            · refine r_ite (GI mtX5_many 1 M M) (fun h_10 => ?_) (fun h_10 => ?_)
              · refine r_tsw_in MF.bs (tgt := 99) dX5_many_1 h_10 (by decide) (by decide) rfl (by decide) ?_
                refine r_aload_n MF.bs dX5_many_99 rfl 0 rfl ?_
                refine r_getR MF.bs dX5_many_100 rfl rfl 6 (by decide) wd_259 rfl ?_
                refine r_getI MF.bs dX5_many_103 rfl rfl 1 (by decide) wd_192 rfl ?_
                exact r_iret dX5_many_106 rfl
              · refine r_tsw_out MF.bs (tgt := 107) dX5_many_1 (by have e0 := lv_neT (a := 0) h_1 (by decide); have e1 := lv_neT (a := 1) h_2 (by decide); have e2 := lv_neT (a := 2) h_4 (by decide); have e3 := lv_neT (a := 3) h_6 (by decide); have e4 := lv_neT (a := 4) h_8 (by decide); have e5 := lv_neT (a := 5) h_9 (by decide); have e6 := lv_neT (a := 6) h_10 (by decide); omega) (by decide) ?_
                refine r_iconst MF.bs dX5_many_107 (v := -1) (by decide) ?_
                exact r_iret dX5_many_108 rfl
abbrev mtX5_keep : MT := (RX5, yX5_keep, cX5_keep, 1, (some .int))
theorem miX5_keep : MV mtX5_keep 0 := ⟨wd_860, ⟨wd_858, wd_859⟩, wd_79, ⟨by decide, by decide, by decide +kernel⟩, by decide⟩
def mX5_keep_11   (M : Mem) : Int32 × Mem := (1, (upm M 0 14 1))
def PX5_keep_11   (M : Mem) : Prop := True
set_option maxRecDepth 100000 in
theorem cX5_keep_11    (M0 : Mem) (M : Mem) (hp : PX5_keep_11 M) : AWP (GIM mtX5_keep 2 M0 (mX5_keep_11 M)) mtX5_keep 11 [(0, .ref 0)] [] M := by
  unfold mX5_keep_11
  unfold PX5_keep_11 at hp
  refine r_aload_n MF.bs dX5_keep_11 rfl 0 rfl ?_
  refine r_iconst MF.bs dX5_keep_12 (v := 1) (by decide) ?_
  refine r_putI MF.bs dX5_keep_13 rfl rfl 14 (by decide) wd_267 rfl rfl rfl rfl rfl ?_
  refine r_iconst MF.bs dX5_keep_16 (v := 1) (by decide) ?_
  exact r_iret dX5_keep_17 rfl
def mX5_keep  (M : Mem) : Int32 × Mem := (mX5_keep_11 (mX4_become 8 1 M))
def PX5_keep  (M : Mem) : Prop := PX4_become 8 1 M ∧ (PX5_keep_11 (mX4_become 8 1 M))
set_option maxRecDepth 100000 in
theorem ctX5_keep   (M : Mem) (hp : PX5_keep M) : CT mtX5_keep 2 [.ref 0] M (some (.int ((mX5_keep M).1)), (mX5_keep M).2) := by
  refine CT.of (by decide) rfl (Nat.le_of_ble_eq_true rfl) ?_
  show AWP (GIM mtX5_keep 2 M (mX5_keep M)) mtX5_keep 0 [(0, .ref 0)] [] M
  unfold mX5_keep
  unfold PX5_keep at hp
  obtain ⟨hq_1, hp⟩ := hp
  refine r_aload_n MF.bs dX5_keep_0 rfl 0 rfl ?_
  refine r_getR MF.bs dX5_keep_1 rfl rfl 1 (by decide) wd_254 rfl ?_
  refine r_aload_n MF.bs dX5_keep_4 rfl 0 rfl ?_
  refine r_getR MF.bs dX5_keep_5 rfl rfl 0 (by decide) wd_253 rfl ?_
  refine r_callV_n MF.bs (st := []) dX5_keep_8 (ctX4_become 8 1 (Or.inr (Or.inl rfl)) (Or.inl rfl) M hq_1) miX4_become wd_454 rfl (by decide) rfl (Nat.le_of_ble_eq_true rfl) rfl rfl rfl ?_
  exact cX5_keep_11 M (mX4_become 8 1 M) hp
abbrev mtX5_again : MT := (RX5, yX5_again, cX5_again, 1, (some .int))
theorem miX5_again : MV mtX5_again 0 := ⟨wd_864, ⟨wd_862, wd_863⟩, wd_79, ⟨by decide, by decide, by decide +kernel⟩, by decide⟩
def mX5_again_21   (M : Mem) : Int32 × Mem := ((M 1 6), M)
def PX5_again_21   (M : Mem) : Prop := True
set_option maxRecDepth 100000 in
theorem cX5_again_21    (M0 : Mem) (M : Mem) (hp : PX5_again_21 M) : AWP (GIM mtX5_again 2 M0 (mX5_again_21 M)) mtX5_again 21 [(0, .ref 0)] [] M := by
  unfold mX5_again_21
  unfold PX5_again_21 at hp
  refine r_aload_n MF.bs dX5_again_21 rfl 0 rfl ?_
  refine r_getR MF.bs dX5_again_22 rfl rfl 0 (by decide) wd_253 rfl ?_
  refine r_getI MF.bs dX5_again_25 rfl rfl 6 (by decide) wd_128 rfl ?_
  exact r_iret dX5_again_28 rfl
def mX5_again  (M : Mem) : Int32 × Mem := (if (M 0 14) = 0 then ((-3), M) else (mX5_again_21 (mX4_become 1 8 M)))
def PX5_again  (M : Mem) : Prop := (¬ (M 0 14) = 0 → PX4_become 1 8 M ∧ (PX5_again_21 (mX4_become 1 8 M)))
set_option maxRecDepth 100000 in
theorem ctX5_again   (M : Mem) (hp : PX5_again M) : CT mtX5_again 2 [.ref 0] M (some (.int ((mX5_again M).1)), (mX5_again M).2) := by
  refine CT.of (by decide) rfl (Nat.le_of_ble_eq_true rfl) ?_
  show AWP (GIM mtX5_again 2 M (mX5_again M)) mtX5_again 0 [(0, .ref 0)] [] M
  unfold mX5_again
  unfold PX5_again at hp
  refine r_aload_n MF.bs dX5_again_0 rfl 0 rfl ?_
  refine r_getI MF.bs dX5_again_1 rfl rfl 14 (by decide) wd_267 rfl ?_
  refine r_ite (GIM mtX5_again 2 M) (fun h_1 => ?_) (fun h_1 => ?_)
  · refine r_if_ne_f MF.bs (tgt := 10) dX5_again_4 (by decide) h_1 ?_
    refine r_bipush MF.bs dX5_again_7 (v := -3) (by decide) ?_
    exact r_iret dX5_again_9 rfl
  · have hp := hp h_1
    refine r_if_ne_t MF.bs (tgt := 10) dX5_again_4 (by decide) h_1 ?_
    obtain ⟨hq_2, hp⟩ := hp
    refine r_aload_n MF.bs dX5_again_10 rfl 0 rfl ?_
    refine r_getR MF.bs dX5_again_11 rfl rfl 0 (by decide) wd_253 rfl ?_
    refine r_aload_n MF.bs dX5_again_14 rfl 0 rfl ?_
    refine r_getR MF.bs dX5_again_15 rfl rfl 1 (by decide) wd_254 rfl ?_
    refine r_callV_n MF.bs (st := []) dX5_again_18 (ctX4_become 1 8 (Or.inl rfl) (Or.inr (Or.inl rfl)) M hq_2) miX4_become wd_454 rfl (by decide) rfl (Nat.le_of_ble_eq_true rfl) rfl rfl rfl ?_
    exact cX5_again_21 M (mX4_become 1 8 M) hp
