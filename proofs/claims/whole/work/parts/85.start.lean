/-! THE LAW'S START: classes, what stays -/
theorem gw_tbl {w : Cond} (h : w ∈ GW) : w ∈ lw_tbl := (List.mem_filter.mp h).1
theorem vaK0 {args : Array Value} {s : State} (hts : ∀ w ∈ lw_tbl, w.before args s = true) : ∃ (D : va_G) (tt : Nat → ClassId), va_K D classes (tysT tt) s := by
  obtain ⟨c0, i0, k0⟩ := u_known (C := RX0) (T := TX0) (N := 6) (n := 6) hts (fun w hw => gw_tbl (uwX0 w hw)) (hts _ (gw_tbl wd_184))
  obtain ⟨c1, i1, k1⟩ := u_known (C := RX1) (T := TX1) (N := 3) (n := 3) hts (fun w hw => gw_tbl (uwX1 w hw)) (hts _ (gw_tbl wd_211))
  obtain ⟨c2, i2, k2⟩ := u_known (C := RX2) (T := TX2) (N := 4) (n := 4) hts (fun w hw => gw_tbl (uwX2 w hw)) (hts _ (gw_tbl wd_231))
  obtain ⟨c3, i3, k3⟩ := u_known (C := RX3) (T := TX3) (N := 4) (n := 4) hts (fun w hw => gw_tbl (uwX3 w hw)) (hts _ (gw_tbl wd_160))
  obtain ⟨c4, i4, k4⟩ := u_known (C := RX4) (T := TX4) (N := 10) (n := 10) hts (fun w hw => gw_tbl (uwX4 w hw)) (hts _ (gw_tbl wd_103))
  obtain ⟨c5, i5, k5⟩ := u_known (C := RX5) (T := TX5) (N := 15) (n := 15) hts (fun w hw => gw_tbl (uwX5 w hw)) (hts _ (gw_tbl wd_95))
  obtain ⟨c6, i6, k6⟩ := u_known (C := RX6) (T := TX6) (N := 30) (n := 30) hts (fun w hw => gw_tbl (uwX6 w hw)) (hts _ (gw_tbl wd_866))
  obtain ⟨a0, ka, comp, h1, h2, h3⟩ := Cond.arrayClass_spec (hts _ (gw_tbl wd_158))
  obtain ⟨cq, aq, kq, q1, q2, q3, q4, q5⟩ := Cond.arrayOver_spec (hts _ over_q)
  obtain ⟨cv, av, kv, v1, v2, v3, v4, v5⟩ := Cond.arrayOver_spec (hts _ over_v)
  refine ⟨(fun k => match k with | 0 => c0 | 1 => c1 | 2 => c2 | 3 => c3 | 4 => c4 | 5 => c5 | _ => c6, fun k => match k with | 0 => i0 | 1 => i1 | 2 => i2 | 3 => i3 | 4 => i4 | 5 => i5 | _ => i6), fun k => match k with | 0 => a0 | 1 => aq | _ => av, ?_, ?_⟩
  · intro k q hq
    match k, hq with
    | 0, hq => cases hq; exact k0
    | 1, hq => cases hq; exact k1
    | 2, hq => cases hq; exact k2
    | 3, hq => cases hq; exact k3
    | 4, hq => cases hq; exact k4
    | 5, hq => cases hq; exact k5
    | 6, hq => cases hq; exact k6
    | k + 7, hq => simp [classes] at hq
  · intro k q hq
    match k, hq with
    | 0, hq => cases hq; exact ⟨fun n z => ⟨fun k h => (by cases h), ka, h2, comp, h3⟩, h1⟩
    | 1, hq => cases hq; exact ⟨fun n z => ⟨fun k h => (by cases h), kq, q3, cq, q4⟩, kq, cq, q3, q4, q1, q5⟩
    | 2, hq => cases hq; exact ⟨fun n z => ⟨fun k h => (by cases h), kv, v3, cv, v4⟩, kv, cv, v3, v4, v1, v5⟩
    | k + 3, hq => simp [tysT] at hq
theorem stRow_lt : ∀ i, i < 4 → (stRow i).length < 2 ^ 31 := by decide +kernel
theorem strLen_lt : ∀ i, i < 16 → strLen.getD i 0 < 2 ^ 31 := by decide +kernel
theorem ev0 {args : Array Value} {s : State} {A : Nat → Prop} (hts : ∀ w ∈ lw_tbl, w.before args s = true) (hgv : (Jvm.Cond.and given_1 narrow_1).before args s = true) (hA : ∀ a : Nat, a < s.heap.size → ¬ A a) (b : Nat) : ∃ ad0 : Nat → Nat, ad0 500 = b ∧ EV ad0 A s s.heap := by
  have hq : ∀ w ∈ NFL, w.before args s = true := flat_of_before _ hgv
  have hst : ∀ i : Nat, ∃ t : Nat, i < 4 → (stTm i).eval args s none [] s = some (.ref t) ∧ va_T .int t (stRow i).length (fun j => .int ((stRow i).getD j 0)) A s s.heap := by
    intro i
    by_cases hi : i < 4
    · obtain ⟨t, h1, h2⟩ := va_Tof (tm := stTm i) (N := (stRow i).length) (f := fun j => .int ((stRow i).getD j 0)) (stRow_lt i hi) (hq _ (st_arr i hi)) (va_eqt (hq _ (st_len i hi))) (fun j hj => va_eqt (hq _ (st_el i hi j hj))) hA
      exact ⟨t, fun _ => ⟨h1, h2⟩⟩
    · exact ⟨0, fun h => absurd h hi⟩
  obtain ⟨aS, hS⟩ := Classical.axiomOfChoice hst
  obtain ⟨adK, adV, hV, hKs⟩ := vk_Sof (N := 16) (tm := txTm) (len := strLen) (byt := strByt) strLen_lt (fun i hi => hq _ (tx_ex i hi)) (fun i hi => hq _ (tx_co i hi)) (fun i hi => hq _ (tx_ar i hi)) (fun i hi => hq _ (tx_le i hi)) (fun i hi j hj => hq _ (tx_el i hi j hj)) (fun i j hi hj h => (tx_ne i j hi hj h).imp (hq _) (hq _)) hA
  obtain ⟨f, hf⟩ : ∃ f : Nat, va_Z "jdk/internal/util/Preconditions" "SIOOBE_FORMATTER" "Ljava/util/function/BiFunction;" .null A s s.heap ∨ va_Z "jdk/internal/util/Preconditions" "SIOOBE_FORMATTER" "Ljava/util/function/BiFunction;" (.ref f) A s s.heap := by
    rcases va_Zqof (hts _ lays_fm) (hts _ ini_prec) (hq _ nf_fm) hA with h | ⟨t, h⟩
    · exact ⟨0, Or.inl h⟩
    · exact ⟨t, Or.inr h⟩
  obtain ⟨ad0, e1, e2, e3, e4, e5⟩ : ∃ ad0 : Nat → Nat, (∀ i, i < 4 → ad0 (100 + i) = aS i) ∧ (∀ i, i < 16 → ad0 (200 + i) = adK i) ∧ (∀ i, i < 16 → ad0 (300 + i) = adV i) ∧ ad0 400 = f ∧ ad0 500 = b := by
    refine ⟨fun k => if k < 104 then aS (k - 100) else if k < 216 then adK (k - 200) else if k < 316 then adV (k - 300) else if k = 400 then f else b, fun i hi => ?_, fun i hi => ?_, fun i hi => ?_, rfl, rfl⟩
    · show (if 100 + i < 104 then aS (100 + i - 100) else _) = _
      rw [if_pos (by omega), Nat.add_sub_cancel_left]
    · show (if 200 + i < 104 then _ else if 200 + i < 216 then adK (200 + i - 200) else _) = _
      rw [if_neg (by omega), if_pos (by omega), Nat.add_sub_cancel_left]
    · show (if 300 + i < 104 then _ else if 300 + i < 216 then _ else if 300 + i < 316 then adV (300 + i - 300) else _) = _
      rw [if_neg (by omega), if_neg (by omega), if_pos (by omega), Nat.add_sub_cancel_left]
  refine ⟨ad0, e5, fun w hw => ?_, fun i q hi => ?_, va_Zof (hts _ lays_cs) (hts _ ini_str) (va_eqt (hq _ nf_cs)) hA, ?_, ?_, fun i q hi => ?_⟩
  · have h := hts _ (nestW_tbl w hw)
    rcases nestW_form w hw with ⟨a, i, y, hh, rfl⟩ | ⟨a, i, y, n, d, hh, rfl⟩
    · exact va_Nw.of rfl h
    · exact va_Nw.of rfl h
  · match i, hi with
    | 0, hi => cases hi; exact ⟨by rw [e1 0 (by omega)]; exact va_Zref (hts _ lays_0) (hts _ ini_wd5) (hS 0 (by omega)).1 hA, by rw [e1 0 (by omega)]; exact (hS 0 (by omega)).2⟩
    | 1, hi => cases hi; exact ⟨by rw [e1 1 (by omega)]; exact va_Zref (hts _ lays_1) (hts _ ini_wd5) (hS 1 (by omega)).1 hA, by rw [e1 1 (by omega)]; exact (hS 1 (by omega)).2⟩
    | 2, hi => cases hi; exact ⟨by rw [e1 2 (by omega)]; exact va_Zref (hts _ lays_2) (hts _ ini_wd5) (hS 2 (by omega)).1 hA, by rw [e1 2 (by omega)]; exact (hS 2 (by omega)).2⟩
    | 3, hi => cases hi; exact ⟨by rw [e1 3 (by omega)]; exact va_Zref (hts _ lays_3) (hts _ ini_acts) (hS 3 (by omega)).1 hA, by rw [e1 3 (by omega)]; exact (hS 3 (by omega)).2⟩
    | k + 4, hi => simp [stL] at hi
  · unfold zF
    rw [e4]
    exact hf
  · obtain ⟨w1, w2⟩ := hV
    refine ⟨fun i hi => ?_, fun i j hi hj h => ?_⟩
    · have h := w1 i hi
      rw [← e2 i hi, ← e3 i hi] at h
      exact h
    · have h' : ad0 (200 + i) = ad0 (200 + j) := h
      rw [e2 i hi, e2 j hj] at h'
      exact w2 i j hi hj h'
  · match i, hi with
    | 0, hi => cases hi; rw [e2 0 (by omega)]; exact vk_R.of (hts _ sref_0) (hKs 0 (by omega))
    | 1, hi => cases hi; rw [e2 1 (by omega)]; exact vk_R.of (hts _ sref_1) (hKs 1 (by omega))
    | 2, hi => cases hi; rw [e2 2 (by omega)]; exact vk_R.of (hts _ sref_2) (hKs 2 (by omega))
    | 3, hi => cases hi; rw [e2 3 (by omega)]; exact vk_R.of (hts _ sref_3) (hKs 3 (by omega))
    | 4, hi => cases hi; rw [e2 4 (by omega)]; exact vk_R.of (hts _ sref_4) (hKs 4 (by omega))
    | 5, hi => cases hi; rw [e2 5 (by omega)]; exact vk_R.of (hts _ sref_5) (hKs 5 (by omega))
    | 6, hi => cases hi; rw [e2 6 (by omega)]; exact vk_R.of (hts _ sref_6) (hKs 6 (by omega))
    | 7, hi => cases hi; rw [e2 7 (by omega)]; exact vk_R.of (hts _ sref_7) (hKs 7 (by omega))
    | 8, hi => cases hi; rw [e2 8 (by omega)]; exact vk_R.of (hts _ sref_8) (hKs 8 (by omega))
    | 9, hi => cases hi; rw [e2 9 (by omega)]; exact vk_R.of (hts _ sref_9) (hKs 9 (by omega))
    | 10, hi => cases hi; rw [e2 10 (by omega)]; exact vk_R.of (hts _ sref_10) (hKs 10 (by omega))
    | 11, hi => cases hi; rw [e2 11 (by omega)]; exact vk_R.of (hts _ sref_11) (hKs 11 (by omega))
    | 12, hi => cases hi; rw [e2 12 (by omega)]; exact vk_R.of (hts _ sref_12) (hKs 12 (by omega))
    | 13, hi => cases hi; rw [e2 13 (by omega)]; exact vk_R.of (hts _ sref_13) (hKs 13 (by omega))
    | 14, hi => cases hi; rw [e2 14 (by omega)]; exact vk_R.of (hts _ sref_14) (hKs 14 (by omega))
    | 15, hi => cases hi; rw [e2 15 (by omega)]; exact vk_R.of (hts _ sref_15) (hKs 15 (by omega))
    | k + 16, hi => simp [strL] at hi
