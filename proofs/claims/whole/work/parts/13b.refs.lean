theorem isWithin_in {i lo hi : Int32} (h1 : lo ≤ i) (h2 : i ≤ hi) : mX5_isWithin i lo hi = true := by
  unfold mX5_isWithin
  rw [if_neg (Int32.not_lt.mpr h1), if_neg (Int32.not_lt.mpr h2)]
theorem isWithin_out {i lo hi : Int32} (h : ¬ (lo ≤ i ∧ i ≤ hi)) : ¬ mX5_isWithin i lo hi = true := by
  unfold mX5_isWithin
  intro q
  by_cases h1 : i < lo
  · rw [if_pos h1] at q; cases q
  · by_cases h2 : hi < i
    · rw [if_neg h1, if_pos h2] at q; cases q
    · exact h ⟨Int32.not_lt.mp h1, Int32.not_lt.mp h2⟩
theorem wd_21 : (Jvm.Cond.selects "WeatherDisguise" ({ cls := "WeatherDisguise", name := "sheetAt", desc := "(I)LWeatherDisguise$Sheet;" } : Jvm.MethodName) ({ cls := "WeatherDisguise", name := "sheetAt", desc := "(I)LWeatherDisguise$Sheet;" } : Jvm.MethodName)) ∈ GW := gw 21 (by decide +kernel) (by decide +kernel)
theorem wd_257 : (Jvm.Cond.fieldLink "WeatherDisguise" (31 : Nat) "WeatherDisguise" "sheets" "[LWeatherDisguise$Sheet;") ∈ GW := gw 257 (by decide +kernel) (by decide +kernel)
theorem wd_700 : (Jvm.Cond.instanceMethod ({ cls := "WeatherDisguise", name := "sheetAt", desc := "(I)LWeatherDisguise$Sheet;" } : Jvm.MethodName)) ∈ GW := gw 700 (by decide +kernel) (by decide +kernel)
theorem wd_701 : (Jvm.Cond.code ({ cls := "WeatherDisguise", name := "sheetAt", desc := "(I)LWeatherDisguise$Sheet;" } : Jvm.MethodName) prog_1_method_51_code (2 : Nat) (Option.some (Jvm.ClassFile.FieldType.object "WeatherDisguise$Sheet"))) ∈ GW := gw 701 (by decide +kernel) (by decide +kernel)
abbrev mtX5_sheetAt : MT := (RX5, yX5_sheetAt, cX5_sheetAt, 2, (some (.object "WeatherDisguise$Sheet")))
theorem miX5_sheetAt : MV mtX5_sheetAt 1 := ⟨wd_701, ⟨wd_700, wd_21⟩, wd_79, ⟨by decide, by decide, by decide +kernel⟩, by decide⟩
set_option maxRecDepth 100000 in
theorem ctX5_sheetAt_in (i : Int32) (M : Mem) (h : 0 ≤ i ∧ i ≤ 3) : CT mtX5_sheetAt 1 [.ref 0, .int i] M (some (.ref (qpl i)), M) := by
  refine CT.of (by decide) rfl (Nat.le_of_ble_eq_true rfl) ?_
  show AWP (MF mtX5_sheetAt 1 M (some (.ref (qpl i)), M)) mtX5_sheetAt 0 [(0, .ref 0), (1, .int i)] [] M
  refine r_iload_n MF.bs dX5_sheetAt_0 rfl 1 rfl ?_
  refine r_iconst MF.bs dX5_sheetAt_1 (v := 0) (by decide) ?_
  refine r_iconst MF.bs dX5_sheetAt_2 (v := 3) (by decide) ?_
  refine r_callS_v MF.bs (st := []) dX5_sheetAt_3 (ctX5_isWithin i 0 3 M) miX5_isWithin wd_303 rfl (by decide) rfl (Nat.le_of_ble_eq_true rfl) ?_
  refine r_if_eq_f MF.bs (tgt := 18) dX5_sheetAt_6 (by decide) (b2i_1 (isWithin_in h.1 h.2)) ?_
  refine r_aload_n MF.bs dX5_sheetAt_9 rfl 0 rfl ?_
  refine r_getR MF.bs dX5_sheetAt_10 rfl rfl 4 (by decide) wd_257 rfl ?_
  refine r_iload_n MF.bs dX5_sheetAt_13 rfl 1 rfl ?_
  refine r_aaload MF.bs (q := qpl i) (C := RX1) 1 dX5_sheetAt_14 rfl (fun tt => rfl) ?_ ?_ ?_
  · rcases i3_cases h with rfl | rfl | rfl | rfl <;> exact vin_l (by decide) (by decide)
  · rcases i3_cases h with rfl | rfl | rfl | rfl <;> decide
  · refine r_goto MF.bs dX5_sheetAt_15 (tgt := 19) (by decide) ?_
    exact r_aret (C := RX1) dX5_sheetAt_19 rfl (Or.inr ⟨_, rfl⟩)
set_option maxRecDepth 100000 in
theorem ctX5_sheetAt_out (i : Int32) (M : Mem) (h : ¬ (0 ≤ i ∧ i ≤ 3)) : CT mtX5_sheetAt 1 [.ref 0, .int i] M (some .null, M) := by
  refine CT.of (by decide) rfl (Nat.le_of_ble_eq_true rfl) ?_
  show AWP (MF mtX5_sheetAt 1 M (some .null, M)) mtX5_sheetAt 0 [(0, .ref 0), (1, .int i)] [] M
  refine r_iload_n MF.bs dX5_sheetAt_0 rfl 1 rfl ?_
  refine r_iconst MF.bs dX5_sheetAt_1 (v := 0) (by decide) ?_
  refine r_iconst MF.bs dX5_sheetAt_2 (v := 3) (by decide) ?_
  refine r_callS_v MF.bs (st := []) dX5_sheetAt_3 (ctX5_isWithin i 0 3 M) miX5_isWithin wd_303 rfl (by decide) rfl (Nat.le_of_ble_eq_true rfl) ?_
  refine r_if_eq_t MF.bs (tgt := 18) dX5_sheetAt_6 (by decide) (b2i_0 (isWithin_out h)) ?_
  refine r_null MF.bs dX5_sheetAt_18 ?_
  exact r_aret (C := RX1) dX5_sheetAt_19 rfl (Or.inl rfl)
theorem wd_24 : (Jvm.Cond.selects "WeatherDisguise" ({ cls := "WeatherDisguise", name := "shelfAt", desc := "(I)LWeatherDisguise$Shelf;" } : Jvm.MethodName) ({ cls := "WeatherDisguise", name := "shelfAt", desc := "(I)LWeatherDisguise$Shelf;" } : Jvm.MethodName)) ∈ GW := gw 24 (by decide +kernel) (by decide +kernel)
theorem wd_258 : (Jvm.Cond.fieldLink "WeatherDisguise" (37 : Nat) "WeatherDisguise" "shelves" "[LWeatherDisguise$Shelf;") ∈ GW := gw 258 (by decide +kernel) (by decide +kernel)
theorem wd_797 : (Jvm.Cond.instanceMethod ({ cls := "WeatherDisguise", name := "shelfAt", desc := "(I)LWeatherDisguise$Shelf;" } : Jvm.MethodName)) ∈ GW := gw 797 (by decide +kernel) (by decide +kernel)
theorem wd_798 : (Jvm.Cond.code ({ cls := "WeatherDisguise", name := "shelfAt", desc := "(I)LWeatherDisguise$Shelf;" } : Jvm.MethodName) prog_1_method_52_code (2 : Nat) (Option.some (Jvm.ClassFile.FieldType.object "WeatherDisguise$Shelf"))) ∈ GW := gw 798 (by decide +kernel) (by decide +kernel)
abbrev mtX5_shelfAt : MT := (RX5, yX5_shelfAt, cX5_shelfAt, 2, (some (.object "WeatherDisguise$Shelf")))
theorem miX5_shelfAt : MV mtX5_shelfAt 1 := ⟨wd_798, ⟨wd_797, wd_24⟩, wd_79, ⟨by decide, by decide, by decide +kernel⟩, by decide⟩
set_option maxRecDepth 100000 in
theorem ctX5_shelfAt_in (i : Int32) (M : Mem) (h : 0 ≤ i ∧ i ≤ 3) : CT mtX5_shelfAt 1 [.ref 0, .int i] M (some (.ref (vpl i)), M) := by
  refine CT.of (by decide) rfl (Nat.le_of_ble_eq_true rfl) ?_
  show AWP (MF mtX5_shelfAt 1 M (some (.ref (vpl i)), M)) mtX5_shelfAt 0 [(0, .ref 0), (1, .int i)] [] M
  refine r_iload_n MF.bs dX5_shelfAt_0 rfl 1 rfl ?_
  refine r_iconst MF.bs dX5_shelfAt_1 (v := 0) (by decide) ?_
  refine r_iconst MF.bs dX5_shelfAt_2 (v := 3) (by decide) ?_
  refine r_callS_v MF.bs (st := []) dX5_shelfAt_3 (ctX5_isWithin i 0 3 M) miX5_isWithin wd_303 rfl (by decide) rfl (Nat.le_of_ble_eq_true rfl) ?_
  refine r_if_eq_f MF.bs (tgt := 18) dX5_shelfAt_6 (by decide) (b2i_1 (isWithin_in h.1 h.2)) ?_
  refine r_aload_n MF.bs dX5_shelfAt_9 rfl 0 rfl ?_
  refine r_getR MF.bs dX5_shelfAt_10 rfl rfl 5 (by decide) wd_258 rfl ?_
  refine r_iload_n MF.bs dX5_shelfAt_13 rfl 1 rfl ?_
  refine r_aaload MF.bs (q := vpl i) (C := RX2) 2 dX5_shelfAt_14 rfl (fun tt => rfl) ?_ ?_ ?_
  · rcases i3_cases h with rfl | rfl | rfl | rfl <;> exact vin_l (by decide) (by decide)
  · rcases i3_cases h with rfl | rfl | rfl | rfl <;> decide
  · refine r_goto MF.bs dX5_shelfAt_15 (tgt := 19) (by decide) ?_
    exact r_aret (C := RX2) dX5_shelfAt_19 rfl (Or.inr ⟨_, rfl⟩)
set_option maxRecDepth 100000 in
theorem ctX5_shelfAt_out (i : Int32) (M : Mem) (h : ¬ (0 ≤ i ∧ i ≤ 3)) : CT mtX5_shelfAt 1 [.ref 0, .int i] M (some .null, M) := by
  refine CT.of (by decide) rfl (Nat.le_of_ble_eq_true rfl) ?_
  show AWP (MF mtX5_shelfAt 1 M (some .null, M)) mtX5_shelfAt 0 [(0, .ref 0), (1, .int i)] [] M
  refine r_iload_n MF.bs dX5_shelfAt_0 rfl 1 rfl ?_
  refine r_iconst MF.bs dX5_shelfAt_1 (v := 0) (by decide) ?_
  refine r_iconst MF.bs dX5_shelfAt_2 (v := 3) (by decide) ?_
  refine r_callS_v MF.bs (st := []) dX5_shelfAt_3 (ctX5_isWithin i 0 3 M) miX5_isWithin wd_303 rfl (by decide) rfl (Nat.le_of_ble_eq_true rfl) ?_
  refine r_if_eq_t MF.bs (tgt := 18) dX5_shelfAt_6 (by decide) (b2i_0 (isWithin_out h)) ?_
  refine r_null MF.bs dX5_shelfAt_18 ?_
  exact r_aret (C := RX2) dX5_shelfAt_19 rfl (Or.inl rfl)
