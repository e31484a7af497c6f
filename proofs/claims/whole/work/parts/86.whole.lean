set_option maxRecDepth 100000 in
set_option maxHeartbeats 4000000 in
/-- THE LAW, from its entry -/
theorem whole_start {p : Program} {e : Env} {s : State} {m : MethodId} {below : List Frame} {meth : Method} {c : Code} (l : Launch) (hflags : l.flags = flags0) {b L : Nat} {xs : Nat → Int32} (hL : L ≤ 2560) (C0 : lw_At p s m meth c b L xs) : W p l e room_1 s m #[Value.ref b] below meth c s.heap [] 0 0 (lw_Z below #[Value.ref b] s) (entryFrame m ([Value.ref b] : List Value).toArray 4) := by
  obtain ⟨hx, hb, hr, hml, hown, hts, hX, hbl, hlocks, hgv⟩ := id C0
  have hA : ∀ a : Nat, a < s.heap.size → ¬ (fun q : Nat => s.heap.size ≤ q) a := fun a h => Nat.not_le.mpr h
  obtain ⟨D, tt, hK⟩ := vaK0 hts
  obtain ⟨ad0, h500, hE⟩ := ev0 (A := fun q : Nat => s.heap.size ≤ q) hts hgv hA b
  subst h500
  have hao : va_AO RX1 s ∧ va_AO RX2 s := ⟨va_AO.of (hts _ over_q), va_AO.of (hts _ over_v)⟩
  have hl := lv_entry ([.ref (ad0 500)]) (n := 4) (Nat.le_of_ble_eq_true rfl)
  rw [lg_entry_eq]
  generalize (lg_sl ([.ref (ad0 500)]) ++ List.replicate (4 - (lg_sl ([.ref (ad0 500)])).length) Slot.unset).toArray = ls at hl ⊢
  have hl : lv_has ls 4 [(0, .ref (ad0 500))] := hl
  have hroom : 200 ≤ room_1.frames ∧ 64 * 200 ≤ room_1.locals ∧ 600000 ≤ room_1.cells ∧ 7302250 ≤ room_1.slots := ⟨Nat.le_of_ble_eq_true rfl, Nat.le_of_ble_eq_true rfl, Nat.le_of_ble_eq_true rfl, Nat.le_of_ble_eq_true rfl⟩
  have hOK : bOK tL 200 (p, l, e, room_1, s, m, #[Value.ref (ad0 500)], below, meth, c, fun q : Nat => s.heap.size ≤ q, D, tt, ad0, 600000, 7302250, lw_Z below #[Value.ref (ad0 500)] s) := ⟨⟨hx, hb, hml, hown, fun w hw => hts w (gw_tbl hw), hK, fun q hq => hq, hE, hroom⟩, hao⟩
  have key : BW (p, l, e, room_1, s, m, #[Value.ref (ad0 500)], below, meth, c, fun q : Nat => s.heap.size ≤ q, D, tt, ad0, 600000, 7302250, lw_Z below #[Value.ref (ad0 500)] s) tL 0 [(0, .ref (ad0 500))] [] [] 0 0 := by
    refine b_new hOK tyX5 [.null, .null, .null, .null, .null, .null, .null, .null, .null, .null, .null, .null, .null, .int 0, .int 0] dL_law_0 (ci := 5) rfl tyX5_ok wd_94 wd_95 wd_79 dfX5 (Nat.le_of_ble_eq_true rfl) (Nat.le_of_ble_eq_true rfl) (fun h => ?_)
    refine b_dup hOK dL_law_3 rfl ?_
    refine b_callI (st := [.ref h]) hOK (ctX5_init h) miX5_init dL_law_4 wd_96 (Nat.le_of_ble_eq_true rfl) (Nat.le_of_ble_eq_true rfl) (Nat.le_of_ble_eq_true rfl) (Nat.le_of_ble_eq_true rfl) rfl (fun q => ?_)
    refine b_astore_n (lv' := [(1, .ref h), (0, .ref (ad0 500))]) hOK dL_law_7 rfl (by decide) rfl ?_
    refine b_new hOK tyX6 [.null, .null, .null, .null, .int 0, .null, .int 0, .int 0, .int 0, .int 0, .int 0, .int 0, .null, .null, .null, .null, .null, .int 0, .null, .null, .null, .null, .null, .null, .null, .int 0, .int 0, .int 0, .int 0, .int 0] dL_law_8 (ci := 6) rfl tyX6_ok wd_865 wd_866 wd_86 dfX6 (Nat.le_of_ble_eq_true rfl) (Nat.le_of_ble_eq_true rfl) (fun g => ?_)
    refine b_dup hOK dL_law_11 rfl ?_
    refine b_callI (st := [.ref g]) hOK (ctX6_init g) miX6_init dL_law_12 wd_867 (Nat.le_of_ble_eq_true rfl) (Nat.le_of_ble_eq_true rfl) (Nat.le_of_ble_eq_true rfl) (Nat.le_of_ble_eq_true rfl) rfl (fun r => ?_)
    refine b_astore_n (lv' := [(2, .ref g), (1, .ref h), (0, .ref (ad0 500))]) hOK dL_law_15 rfl (by decide) rfl ?_
    refine b_iconst (v := 0) hOK dL_law_16 (by decide) ?_
    refine b_istore_n (lv' := [(3, .int 0), (2, .ref g), (1, .ref h), (0, .ref (ad0 500))]) hOK dL_law_17 rfl (by decide) rfl ?_
    refine b_eq (wA tt h q ++ wB tt g r) rfl ?_
    refine b_eq (cW (adF h q g r ad0) tt M0) (first_world tt h g q r ad0) ?_
    intro H locs ls hP hD hS hl
    refine W.widen (k := 600000) (n := 7302250) (Nat.le_of_ble_eq_true rfl) (Nat.le_of_ble_eq_true rfl) ?_
    exact l_loop (xs := xs) hL (L + 1) 0 M0 (Nat.zero_le _) (by omega) Inv0 (p, l, e, room_1, s, m, #[Value.ref (ad0 500)], below, meth, c, fun q : Nat => s.heap.size ≤ q, D, tt, adF h q g r ad0, 600000, 7302250, lw_Z below #[Value.ref (ad0 500)] s) ⟨⟨hx, hb, hml, hown, fun w hw => hts w (gw_tbl hw), hK, fun q hq => hq, EV_ad (fun k hk => adF_off hk) hE, hroom⟩, hr, hlocks, rfl, rfl, rfl, hX, hbl, rfl, rfl, rfl⟩ H locs ls hP hD hS hl
  exact key s.heap [] ls (fun k q h => by simp at h) ⟨fun i j p q h => by simp at h, fun k q h => by simp at h⟩ va_S.rf hl
