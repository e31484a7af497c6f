/-! ITEMS: put, item -/
/-- a sheet as both hold it -/
theorem sheet_both {M : Mem} (h : InvS M) {t : Nat} (ht : t < 4) : (M (34 + 2 * t) 1 = -1 ∧ M 57 t = -1) ∨ ∃ so sz, so < 4 ∧ sz ≤ 40 ∧ M (34 + 2 * t) 1 = nI so ∧ M 57 t = nI so ∧ M (34 + 2 * t) 2 = nI sz ∧ M 58 t = nI sz ∧ ∀ i, i < 40 → M (34 + 2 * t + 1) i = M 59 (40 * t + i) := by
  obtain ⟨h1, h2 | ⟨⟨so, hso, e1⟩, sz, hsz, e2, e3, e4⟩⟩ := h t ht
  · exact Or.inl ⟨h1.trans h2, h2⟩
  · exact Or.inr ⟨so, sz, hso, hsz, h1.trans e1, e1, e2, e3, e4⟩
theorem missing_t {M : Mem} {b : Nat} (h : M b 1 = -1) : mX1_isMissing b M = true := by
  unfold mX1_isMissing
  rw [if_pos h]
theorem nI_nm {k : Nat} (h : k < 2 ^ 31) : ¬ nI k = -1 := fun e => by
  have h0 : (0 : Int32) ≤ nI k := nI_pos' h
  rw [e] at h0
  exact absurd h0 (by decide)
theorem missing_f {M : Mem} {b so : Nat} (hs : so < 4) (h : M b 1 = nI so) : ¬ mX1_isMissing b M = true := by
  unfold mX1_isMissing
  rw [if_neg (by rw [h]; exact nI_nm (by omega))]
  decide
def nar (so : Nat) (v : Int32) : Int32 := if nI so = 0 then v.toInt8.toInt32 else if nI so = 1 then v.toInt16.toInt32 else v
theorem ok_put {M : Mem} (a c d : Int32) (h : Inv M) : OKm (PX5_put a c d) (mX5_put a c d) (PX6_put a c d) (mX6_put a c d) M := by
  have es := isSheet_iff a
  unfold OKm mX5_put mX6_put PX5_put PX6_put
  by_cases hh : 0 ≤ a ∧ a ≤ 3
  · have hh6 := es.mpr hh
    rw [if_pos hh]
    obtain ⟨t, ht, rfl⟩ := sheet_n hh
    have hv : vp_in (nI t) 4 := vin ht (by decide)
    rw [qpl_n ht, nIc (show t < 2 ^ 31 by omega)]
    rcases sheet_both h.2.2.2.2.1 ht with ⟨m1, m2⟩ | ⟨so, sz, hso, hsz, m1, m2, m3, m4, m5⟩
    · have ms := missing_t m1
      have nl : ¬ 0 ≤ M 57 t := by rw [m2]; decide
      rw [if_pos ms]
      refine ⟨fun _ q => absurd ms q, fun _ => ⟨hv, fun q => absurd q nl⟩, ?_, ?_⟩
      · rw [if_pos hh6, if_neg nl]
      · rw [if_pos hh6, if_neg nl]; exact h
    · have ms := missing_f hso m1
      have nl : 0 ≤ M 57 t := by rw [m2]; exact nI_pos' (by omega)
      rw [if_neg ms]
      unfold mX1_hasItem
      rw [m3]
      by_cases hi : mX5_isWithin c 0 (nI sz - 1) = true
      · obtain ⟨i, hi1, rfl⟩ := within_sub1 (by omega) hi
        rw [if_pos hi, nIc (show i < 2 ^ 31 by omega)]
        have en : mX1_narrowed (34 + 2 * t) d M = nar so d := by
          unfold mX1_narrowed nar
          rw [m1]
        rw [en]
        obtain ⟨M1, e1⟩ : ∃ x, x = upm M (34 + 2 * t + 1) i (nar so d) := ⟨_, rfl⟩
        have g57 : M1 57 = M 57 := by rw [e1, upm_ne (by omega)]
        have g58 : M1 58 = M 58 := by rw [e1, upm_ne (by omega)]
        have ei : mX6_isIn (nI i).toInt64 0 ((M1 58 t - 1).toInt64) = true := by
          rw [g58, m4]
          exact (isIn_eq (nI i) 0 (nI sz - 1)).trans hi
        rw [← e1]
        have nl1 : 0 ≤ M1 57 t := by rw [g57]; exact nl
        have v6 : vp_in (40 * nI t + nI i) 160 := by rw [x40]; exact vin (by omega) (by decide)
        have f6 : (if M1 57 t = 0 then mX6_put_82 d.toInt8.toInt32 (40 * nI t + nI i) M1 else if M1 57 t = 1 then mX6_put_82 d.toInt16.toInt32 (40 * nI t + nI i) M1 else mX6_put_82 d (40 * nI t + nI i) M1) = (1, upm M1 59 (40 * t + i) (nar so d)) := by
          unfold mX6_put_82 nar
          rw [g57, m2, x40, nIc (by omega)]
          by_cases z0 : nI so = 0
          · rw [if_pos z0, if_pos z0]
          · rw [if_neg z0, if_neg z0]
            by_cases z1 : nI so = 1
            · rw [if_pos z1, if_pos z1]
            · rw [if_neg z1, if_neg z1]
        refine ⟨fun _ _ _ => vin (by omega) (by decide), fun _ => ⟨hv, fun _ => ⟨hv, fun _ => ⟨hv, fun _ => v6, fun _ => ⟨hv, fun _ => v6, fun _ => v6⟩⟩⟩⟩, ?_, ?_⟩
        · rw [if_pos hh6, if_pos nl1, if_pos ei, f6]
        · rw [if_pos hh6, if_pos nl1, if_pos ei, f6]
          refine inv2 ?_
          refine h.sheet (fun p h1 h2 h3 h4 => by rw [upm_ne h4, e1, upm_ne (by omega)]) ?_
          refine h.2.2.2.2.1.one ht (fun p h1 h2 h3 h4 => by rw [upm_ne (by omega), e1, upm_ne (by omega)]) (fun k hk => ?_) (fun k hk => ?_) (fun k hk => ?_) ⟨?_, Or.inr ⟨⟨so, hso, ?_⟩, sz, hsz, ?_, ?_, fun j hj => ?_⟩⟩
          · rw [upm_ne (by decide), g57]
          · rw [upm_ne (by decide), g58]
          · rw [upm_at, upd_ne (by omega), e1, upm_ne (by omega)]
          · rw [upm_ne (by omega), upm_ne (by decide), g57, e1, upm_ne (by omega), m1, m2]
          · rw [upm_ne (by decide), g57, m2]
          · rw [upm_ne (by omega), e1, upm_ne (by omega), m3]
          · rw [upm_ne (by decide), g58, m4]
          · rw [upm_ne (by omega), upm_at, e1, upm_at, upm_ne (by omega)]
            by_cases ej : j = i
            · subst ej
              rw [upd_at, upd_at]
            · rw [upd_ne ej, upd_ne (by omega)]
              exact m5 j hj
      · rw [if_neg hi]
        have ei : ¬ mX6_isIn c.toInt64 0 ((M 58 t - 1).toInt64) = true := by
          rw [m4]
          exact fun q => hi ((isIn_eq c 0 (nI sz - 1)).symm.trans q)
        refine ⟨fun _ _ q => absurd q hi, fun _ => ⟨hv, fun _ => ⟨hv, fun q => absurd q ei⟩⟩, ?_, ?_⟩
        · rw [if_pos hh6, if_pos nl, if_neg ei]
        · rw [if_pos hh6, if_pos nl, if_neg ei]; exact h
  · have hh6 : ¬ mX6_isSheet a = true := fun q => hh (es.mp q)
    rw [if_neg hh]
    refine ⟨fun q => absurd q hh, fun q => absurd q hh6, ?_, ?_⟩
    · rw [if_neg hh6]
    · rw [if_neg hh6]; exact h
theorem ok_item {M : Mem} (a c d : Int32) (h : Inv M) : OKq (PX5_item a c d) (mX5_item a c d) (PX6_item a c d) (mX6_item a c d) M := by
  have es := isSheet_iff a
  have ec : mX6_isIn c.toInt64 0 3 = mX5_isWithin c 0 3 := isIn_eq c 0 3
  unfold OKq mX5_item mX6_item PX5_item PX6_item
  rw [ec]
  by_cases hh : 0 ≤ a ∧ a ≤ 3
  · have hh6 := es.mpr hh
    rw [if_pos hh, if_pos hh6]
    obtain ⟨t, ht, rfl⟩ := sheet_n hh
    have hv : vp_in (nI t) 4 := vin ht (by decide)
    rw [qpl_n ht]
    unfold mX6_lacks PX6_lacks
    rw [nIc (show t < 2 ^ 31 by omega)]
    by_cases hc : mX5_isWithin c 0 3 = true
    · rw [if_pos hc, if_pos hc]
      rcases sheet_both h.2.2.2.2.1 ht with ⟨m1, m2⟩ | ⟨so, sz, hso, hsz, m1, m2, m3, m4, m5⟩
      · have ms := missing_t m1
        have nl : ¬ 0 ≤ M 57 t := by rw [m2]; decide
        rw [if_pos ms, if_neg nl, if_neg (by decide)]
        exact ⟨fun _ _ q => absurd ms q, fun _ _ => ⟨⟨hv, fun _ => hv⟩, fun q => absurd q (by decide), fun _ => ⟨hv, fun _ => hv⟩⟩, rfl⟩
      · have ms := missing_f hso m1
        have nl : 0 ≤ M 57 t := by rw [m2]; exact nI_pos' (by omega)
        rw [if_neg ms, if_pos nl, m1, m2]
        unfold mX1_hasItem
        rw [m3]
        by_cases hs : nI so = c
        · rw [if_pos hs, if_pos hs, if_pos rfl, m4]
          have ei : mX6_isIn d.toInt64 0 ((nI sz - 1).toInt64) = mX5_isWithin d 0 (nI sz - 1) := isIn_eq d 0 (nI sz - 1)
          rw [ei]
          by_cases hi : mX5_isWithin d 0 (nI sz - 1) = true
          · obtain ⟨i, hi1, rfl⟩ := within_sub1 (by omega) hi
            rw [if_pos hi, if_pos hi, x40, nIc (show i < 2 ^ 31 by omega), nIc (show 40 * t + i < 2 ^ 31 by omega)]
            exact ⟨fun _ _ _ _ _ => vin (by omega) (by decide), fun _ _ => ⟨⟨hv, fun _ => hv⟩, fun _ => ⟨hv, fun _ => vin (by omega) (by decide)⟩, fun q => absurd rfl q⟩, m5 i (by omega)⟩
          · rw [if_neg hi, if_neg hi]
            exact ⟨fun _ _ _ _ q => absurd q hi, fun _ _ => ⟨⟨hv, fun _ => hv⟩, fun _ => ⟨hv, fun q => absurd q hi⟩, fun q => absurd rfl q⟩, rfl⟩
        · rw [if_neg hs, if_neg hs, if_neg (by decide)]
          exact ⟨fun _ _ _ q => absurd q hs, fun _ _ => ⟨⟨hv, fun _ => hv⟩, fun q => absurd q (by decide), fun _ => ⟨hv, fun _ => hv⟩⟩, rfl⟩
    · rw [if_neg hc, if_neg hc]
      exact ⟨fun _ q => absurd q hc, fun _ q => absurd q hc, rfl⟩
  · have hh6 : ¬ mX6_isSheet a = true := fun q => hh (es.mp q)
    rw [if_neg hh, if_neg hh6]
    exact ⟨fun q => absurd q hh, fun q => absurd q hh6, rfl⟩
