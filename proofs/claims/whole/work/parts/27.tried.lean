/-! WHAT IS TRIED: where, stops, meets -/
theorem aside_eq (N : Mem) : mX6_copyRow 47 56 49 56 N = upr N 49 (c56 (N 47) (N 49)) ∧ PX6_copyRow 47 56 49 56 N := copy_eq (by decide) N
theorem back_eq (N : Mem) : mX6_copyRow 49 56 47 56 N = upr N 47 (c56 (N 49) (N 47)) ∧ PX6_copyRow 49 56 47 56 N := copy_eq (by decide) N
theorem back_fr {N N2 : Mem} (h49 : ∀ k, k < 56 → N2 49 k = N 47 k) (hp : ∀ p, PS p → N2 p = N p) : Fr N (mX6_copyRow 49 56 47 56 N2) := by
  rw [(back_eq N2).1]
  refine ⟨fun p h => ?_, fun k hk => ?_⟩
  · rw [upr_ne (by unfold PS at h; omega)]
    exact hp p h
  · rw [upr_at, c56_at hk]
    exact h49 k hk
/-- the row laid aside and then n steps -/
theorem try_eq {N : Mem} {s : Nat → Int32} {n m : Nat} (hG : GS s n) (hs : N 47 = s) (hm : m < 400) : mX6_goes (nI m) (mX6_copyRow 47 56 49 56 N) = upr (upr N 49 (c56 s (N 49))) 47 (stepsS s n m) ∧ PX6_copyRow 47 56 49 56 N ∧ PX6_goes (nI m) (mX6_copyRow 47 56 49 56 N) := by
  obtain ⟨e, p⟩ := aside_eq N
  rw [e, hs]
  obtain ⟨e2, p2⟩ := goes_n (N := upr N 49 (c56 s (N 49))) hm hG ((upr_ne (by decide)).trans hs)
  exact ⟨e2, p, p2⟩
theorem Fr.of5 {M M1 : Mem} (h : ∀ q, (q < 15 ∨ 21 < q) → q ≠ 29 → q ≠ 30 → q ≠ 31 → q ≠ 32 → q ≠ 33 → M1 q = M q) : Fr M M1 := by
  refine ⟨fun p hp => ?_, fun k hk => by rw [h 47 (by omega) (by decide) (by decide) (by decide) (by decide) (by decide)]⟩
  unfold PS at hp
  exact h p (by omega) (by omega) (by omega) (by omega) (by omega) (by omega)
theorem ok_where {M : Mem} (a m : Int32) (h : Inv M) : OKm (PX5_where a m) (mX5_where a m) (PX6_where a m) (mX6_where a m) M := by
  obtain ⟨n, hR⟩ := h.1
  have hn := hR.1
  obtain ⟨e1, e2⟩ := has_eq (M := M) (N := M) (b := 1) (a := a) hR.2.1.1 hR.2.1.2 hn
  have ei : mX6_isIn m.toInt64 0 60 = mX5_isWithin m 0 60 := isIn_eq m 0 60
  by_cases hh : mX4_has 1 a M = true
  · by_cases hm : mX5_isWithin m 0 60 = true
    · obtain ⟨o, ho, rfl⟩ := e2 hh
      obtain ⟨k, hk, rfl⟩ := within_n (m := 60) (by decide) hm
      obtain ⟨t1, t2, t3⟩ := tryWalk_eq (p := 29) (Or.inl rfl) ho hk hR
      obtain ⟨M1, eM⟩ : ∃ x, x = mX5_tryWalk 29 61 (nI o) (nI k) M := ⟨_, rfl⟩
      rw [← eM] at t1 t2
      have f5 : mX5_where (nI o) (nI k) M = (stepsS (M 47) n k (24 + 4 * o + 3), M1) := by
        unfold mX5_where mX5_where_33
        rw [if_pos hh, if_pos hm, ← eM, nIc (by omega), t1 k (Nat.le_refl _)]
      have s47 : M1 47 = M 47 := t2 47 (by omega) (by decide)
      have hF : Fr M M1 := Fr.of5 (fun q h1 h2 _ _ _ _ => t2 q h1 h2)
      have h1 : mX6_isOne (nI o) M1 = true := by
        unfold mX6_isOne at e1 ⊢
        rw [s47, ← e1]; exact hh
      obtain ⟨g1, g2, g3⟩ := try_eq (N := M1) hR.gs s47 (show k < 400 by omega)
      have b := back_fr (N := M1) (N2 := upr (upr M1 49 (c56 (M 47) (M1 49))) 47 (stepsS (M 47) n k)) (fun j hj => by rw [upr_ne (by decide), upr_at, c56_at hj, s47]) (fun p hp => by
        unfold PS at hp
        rw [upr_ne (by omega), upr_ne (by omega)])
      have f6 : mX6_where (nI o) (nI k) M1 = (stepsS (M 47) n k (24 + 4 * o + 3), mX6_copyRow 49 56 47 56 (upr (upr M1 49 (c56 (M 47) (M1 49))) 47 (stepsS (M 47) n k))) := by
        unfold mX6_where mX6_where_26 mX6_whereBehind mX6_whereBehind_11 mX6_whereBehind_16
        rw [if_pos h1, ei, if_pos hm, g1, its3 (by omega), upr_at]
      unfold OKm
      rw [f5]
      refine ⟨?_, ?_, by rw [f6], by rw [f6]; exact Inv.fr (hF.trans b) h⟩
      · unfold PX5_where PX5_where_33
        exact fun _ _ => ⟨t3, vin (by omega) (by decide)⟩
      · show PX6_where (nI o) (nI k) M1
        unfold PX6_where PX6_where_26 PX6_whereBehind PX6_whereBehind_11 PX6_whereBehind_16
        exact fun _ _ => ⟨⟨g2, g3, pits3 (by omega), (back_eq _).2⟩, trivial⟩
    · unfold OKm mX5_where mX6_where PX5_where PX6_where
      rw [if_pos hh, if_neg hm]
      refine ⟨fun _ q => absurd q hm, fun _ q => absurd q (by rw [ei]; exact hm), ?_, ?_⟩
      · rw [← e1, if_pos hh, ei, if_neg hm]
      · rw [← e1, if_pos hh, ei, if_neg hm]; exact h
  · unfold OKm mX5_where mX6_where PX5_where PX6_where
    rw [if_neg hh]
    refine ⟨fun q => absurd q hh, fun q => absurd q (by rw [← e1]; exact hh), ?_, ?_⟩
    · rw [← e1, if_neg hh]
    · rw [← e1, if_neg hh]; exact h
