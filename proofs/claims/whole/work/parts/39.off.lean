/-! OFF: how far one is from its errand behind n steps; by which wind, as what it is least -/
theorem apart_eq : ∀ h, h < 16 → ∀ g, g < 16 → mX5_apart (nI h) (nI g) = mX6_apart (irem (nI h) 4) (irem (nI g) 4) + mX6_apart (nI h / 4) (nI g / 4) := by decide
theorem apart_lt : ∀ h, h < 16 → ∀ g, g < 16 → (mX5_apart (nI h) (nI g)).toNatClampNeg < 7 ∧ mX5_apart (nI h) (nI g) = nI (mX5_apart (nI h) (nI g)).toNatClampNeg := by decide
/-- the off of one by m, from a row -/
def offS (s : Nat → Int32) (n o m : Nat) : Int32 := mX5_apart (stepsS s n m (24 + 4 * o + 3)) (s (24 + 4 * o + 2))
theorem offS_lt {s : Nat → Int32} {n o : Nat} (hG : GS s n) (ho : o < n) (m : Nat) : ∃ k, k < 7 ∧ offS s n o m = nI k := by
  obtain ⟨h, hh, e1⟩ := (hG.steps m).ho ho
  obtain ⟨g, hg, e2⟩ := hG.hr ho
  unfold offS
  rw [e1, e2]
  exact ⟨_, (apart_lt h hh g hg).1, (apart_lt h hh g hg).2⟩
/-- the class, out of a try that has been set up with a row u -/
theorem off5 {M : Mem} {u : Nat → Int32} {n o m : Nat} (hR : R M 15 u n) (ho : o < n) (hm : m ≤ 60) (hE : M 6 o = u (24 + 4 * o + 2)) :
    ∃ M', mX5_offOfTried (nI o) (nI m) M = (offS u n o m, M') ∧ PX5_offOfTried (nI o) (nI m) M ∧ ∀ q, (q < 15 ∨ 21 < q) → q ≠ 29 → M' q = M q := by
  have h8 : o < 8 := by have := hR.1; omega
  obtain ⟨a1, a2, a3, a4⟩ := walk_eq (p := 29) (by decide) ho hm hR
  refine ⟨mX4_walk 15 29 61 (nI o) (nI m) M, ?_, ?_, fun q h1 h2 => a3 q (by omega) (by omega) h2⟩
  · unfold mX5_offOfTried mX5_offOfTried_13 offS
    rw [nIc (show m < 2 ^ 31 by omega), nIc (show o < 2 ^ 31 by omega), a2 m (Nat.le_refl _), a3 6 (by decide) (by decide) (by decide), hE]
  · unfold PX5_offOfTried PX5_offOfTried_13
    exact ⟨a4, vin (by omega) (by decide), vin h8 (by decide)⟩
/-- the reference, its row laid aside and laid back -/
theorem off6 {N : Mem} {u : Nat → Int32} {n o m : Nat} (hG : GS u n) (hu : N 47 = u) (ho : o < n) (hm : m ≤ 60) :
    ∃ N', mX6_offBehind (nI o) (nI m) N = (offS u n o m, N') ∧ PX6_offBehind (nI o) (nI m) N ∧ (∀ j, j < 56 → N' 47 j = u j) ∧ ∀ p, p ≠ 47 → p ≠ 49 → N' p = N p := by
  have h8 : o < 8 := by have := hG.1; omega
  obtain ⟨g1, g2, g3⟩ := try_eq (N := N) hG hu (show m < 400 by omega)
  obtain ⟨h, hh, e1⟩ := (hG.steps m).ho ho
  obtain ⟨g, hg, e2⟩ := hG.hr ho
  have x := back_ex (s := u) (N := upr (upr N 49 (c56 u (N 49))) 47 (stepsS u n m)) (fun j hj => by rw [upr_ne (by decide), upr_at, c56_at hj])
  refine ⟨mX6_copyRow 49 56 47 56 (upr (upr N 49 (c56 u (N 49))) 47 (stepsS u n m)), ?_, ?_, x.1, fun p h1 h2 => by rw [x.2 p h1, upr_ne h1, upr_ne h2]⟩
  · unfold mX6_offBehind mX6_offBehind_11 mX6_offBehind_16 mX6_offNow offS
    rw [g1, its3 h8, its2 h8, upr_at, er_steps hG ho m (t := 2) (by decide), e1, e2, apart_eq h hh g hg]
  · unfold PX6_offBehind PX6_offBehind_11 PX6_offBehind_16 PX6_offNow
    exact ⟨g2, g3, ⟨pits3 h8, pits2 h8⟩, (back_eq _).2⟩
theorem ok_off {M : Mem} (a m : Int32) (h : Inv M) : OKm (PX5_off a m) (mX5_off a m) (PX6_off a m) (mX6_off a m) M := by
  obtain ⟨n, hR⟩ := h.1
  have hn := hR.1
  obtain ⟨e1, e2⟩ := has_eq (M := M) (N := M) (b := 1) (a := a) hR.2.1.1 hR.2.1.2 hn
  have ei : mX6_isIn m.toInt64 0 60 = mX5_isWithin m 0 60 := isIn_eq m 0 60
  unfold OKm mX5_off mX6_off PX5_off PX6_off mX5_off_34 PX5_off_34 mX6_off_26 PX6_off_26
  by_cases hh : mX4_has 1 a M = true
  · by_cases hm : mX5_isWithin m 0 60 = true
    · obtain ⟨o, ho, rfl⟩ := e2 hh
      obtain ⟨k, hk, rfl⟩ := within_n (m := 60) (by decide) hm
      have hb := become_R TB15 TB1 (by decide) hR
      have hbf := (become_at TB15 TB1 (by decide) M).2.2.2.2
      obtain ⟨M1, a1, a2, a3⟩ := off5 hb ho hk (by rw [hbf 6 (by omega)]; exact (hR.ra ho).2.2.1)
      have all : ∀ q, (q < 15 ∨ 21 < q) → q ≠ 29 → q ≠ 30 → q ≠ 31 → q ≠ 32 → q ≠ 33 → M1 q = M q := fun q h1 h2 _ _ _ _ => (a3 q h1 h2).trans (hbf q (by omega))
      have s47 : M1 47 = M 47 := all 47 (by omega) (by decide) (by decide) (by decide) (by decide) (by decide)
      have i1 : mX6_isOne (nI o) M1 = true := by
        unfold mX6_isOne at e1 ⊢
        rw [s47, ← e1]; exact hh
      obtain ⟨N', b1, b2, b3, b4⟩ := off6 (N := M1) hR.gs s47 ho hk
      have hF : Fr M1 N' := ⟨fun p hp => by
        unfold PS at hp
        exact b4 p (by omega) (by omega), fun k hk => by rw [b3 k hk, s47]⟩
      rw [if_pos hh, if_pos hm, a1]
      simp only [i1, ei, hm, if_true, b1]
      exact ⟨fun _ _ => ⟨pbecome _ _ _, a2⟩, fun _ _ => ⟨b2, trivial⟩, trivial, Inv.fr ((Fr.of5 all).trans hF) h⟩
    · rw [if_pos hh, if_neg hm]
      refine ⟨fun _ q => absurd q hm, fun _ q => absurd q (by rw [ei]; exact hm), ?_, ?_⟩
      · rw [← e1, if_pos hh, ei, if_neg hm]
      · rw [← e1, if_pos hh, ei, if_neg hm]; exact h
  · rw [if_neg hh]
    refine ⟨fun q => absurd q hh, fun q => absurd q (by rw [← e1]; exact hh), ?_, ?_⟩
    · rw [← e1, if_neg hh]
    · rw [← e1, if_neg hh]; exact h
