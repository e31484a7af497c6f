/-! BY WHICH WIND, AS WHAT one is least off -/
theorem argm_first {f : Nat → Int32} {k i : Nat} {b l1 l2 : Int32} (h1 : f i < l1) (h2 : f i < l2) : argm f (k + 1) i b l1 = argm f (k + 1) i b l2 := by
  show (if _ then _ else _) = (if _ then _ else _)
  rw [if_pos h1, if_pos h2]
theorem wind32 {s : Nat → Int32} {n o m : Nat} (ho : o < n) (hm : m ≤ 60) : ∀ (k fuel i : Nat) (M : Mem) (best least : Int32), k < fuel → i + k = 4 → R M 1 s n →
    ∃ M', mX5_windFor_32 fuel (nI o) (nI m) best least (nI i) M = (argm (fun v => offS (upd s 3 (nI v)) n o m) k i best least, M') ∧ PX5_windFor_32 fuel (nI o) (nI m) best least (nI i) M ∧ ∀ q, (q < 15 ∨ 21 < q) → q ≠ 29 → M' q = M q := by
  intro k
  induction k with
  | zero =>
    intro fuel i M best least hf hi hR
    obtain ⟨f, rfl⟩ : ∃ f, fuel = f + 1 := ⟨fuel - 1, by omega⟩
    have hc : (4 : Int32) ≤ nI i := nI_le (a := 4) (by omega) (by omega)
    refine ⟨M, ?_, ?_, fun _ _ _ => rfl⟩
    · rw [mX5_windFor_32, if_pos hc]
      rfl
    · rw [PX5_windFor_32]
      exact fun q => absurd hc q
  | succ k ih =>
    intro fuel i M best least hf hi hR
    obtain ⟨f, rfl⟩ : ∃ f, fuel = f + 1 := ⟨fuel - 1, by omega⟩
    have h8 : o < 8 := by have := hR.1; omega
    have hc : ¬ (4 : Int32) ≤ nI i := nI_ge (b := 4) (by omega) (by omega)
    have hi1 : nI i + 1 = nI (i + 1) := (nI_succ i).symm
    have hb := become_R TB15 TB1 (by decide) hR
    have hbf := (become_at TB15 TB1 (by decide) M).2.2.2.2
    obtain ⟨M1, e1⟩ : ∃ x, x = mX4_become 15 1 M := ⟨_, rfl⟩
    rw [← e1] at hb hbf
    have hw : R (upm M1 15 8 (nI i)) 15 (upd s 3 (nI i)) n := hb.wind ⟨i, by omega, rfl⟩
    obtain ⟨M2, e2⟩ : ∃ x, x = upm M1 15 8 (nI i) := ⟨_, rfl⟩
    rw [← e2] at hw
    obtain ⟨M3, b1, b2, b3⟩ := off5 hw ho hm (by rw [e2, upm_ne (by decide), hbf 6 (by omega), upd_ne (by omega)]; exact (hR.ra ho).2.2.1)
    have fr : ∀ q, (q < 15 ∨ 21 < q) → q ≠ 29 → M3 q = M q := fun q h1 h2 => by rw [b3 q h1 h2, e2, upm_ne (by omega), hbf q (by omega)]
    have hR3 : R M3 1 s n := hR.congr (fun j hj => fr _ (by omega) (by omega)) (fun _ _ => rfl)
    by_cases q : offS (upd s 3 (nI i)) n o m < least
    · obtain ⟨M', c1, c2, c3⟩ := ih f (i + 1) M3 (nI i) (offS (upd s 3 (nI i)) n o m) (by omega) (by omega) hR3
      have ql : ¬ least ≤ offS (upd s 3 (nI i)) n o m := Int32.not_le.mpr q
      refine ⟨M', ?_, ?_, fun z h1 h2 => (c3 z h1 h2).trans (fr z h1 h2)⟩
      · rw [mX5_windFor_32, if_neg hc, ← e1]
        unfold mX5_windFor_49 mX5_windFor_64 mX5_windFor_80
        rw [← e2, b1]
        simp only [if_neg ql, hi1]
        rw [argm, if_pos q]
        exact c1
      · rw [PX5_windFor_32]
        refine fun _ => ⟨pbecome _ _ _, ?_⟩
        rw [← e1]
        unfold PX5_windFor_49 PX5_windFor_64 PX5_windFor_80
        rw [← e2, b1]
        simp only [hi1]
        exact ⟨b2, fun z => absurd z ql, fun _ => c2⟩
    · obtain ⟨M', c1, c2, c3⟩ := ih f (i + 1) M3 best least (by omega) (by omega) hR3
      have ql : least ≤ offS (upd s 3 (nI i)) n o m := Int32.not_lt.mp q
      refine ⟨M', ?_, ?_, fun z h1 h2 => (c3 z h1 h2).trans (fr z h1 h2)⟩
      · rw [mX5_windFor_32, if_neg hc, ← e1]
        unfold mX5_windFor_49 mX5_windFor_64 mX5_windFor_80
        rw [← e2, b1]
        simp only [if_pos ql, hi1]
        rw [argm, if_neg q]
        exact c1
      · rw [PX5_windFor_32]
        refine fun _ => ⟨pbecome _ _ _, ?_⟩
        rw [← e1]
        unfold PX5_windFor_49 PX5_windFor_64 PX5_windFor_80
        rw [← e2, b1]
        simp only [hi1]
        exact ⟨b2, fun _ => c2, fun z => absurd ql z⟩
theorem ok_windFor {M : Mem} (a m : Int32) (h : Inv M) : OKm (PX5_windFor a m) (mX5_windFor a m) (PX6_windFor a m) (mX6_windFor a m) M := by
  obtain ⟨n, hR⟩ := h.1
  have hn := hR.1
  obtain ⟨e1, e2⟩ := has_eq (M := M) (N := M) (b := 1) (a := a) hR.2.1.1 hR.2.1.2 hn
  have ei : mX6_isShort m = mX5_isWithin m 1 30 := isIn_eq m 1 30
  unfold OKm mX5_windFor mX6_windFor PX5_windFor PX6_windFor mX6_windFor_23 PX6_windFor_23
  by_cases hh : mX4_has 1 a M = true
  · by_cases hm : mX5_isWithin m 1 30 = true
    · obtain ⟨o, ho, rfl⟩ := e2 hh
      have h8 : o < 8 := by omega
      obtain ⟨k, hk1, hk, rfl⟩ : ∃ k, 1 ≤ k ∧ k ≤ 30 ∧ m = nI k := by
        obtain ⟨k, hk | hk⟩ := within_60 (lo := 1) (hi := 30) (by decide) hm
        · exact ⟨k, hk⟩
        · exact absurd hk (by decide)
      obtain ⟨M1, a1, a2, a3⟩ := wind32 (s := M 47) ho (show k ≤ 60 by omega) 4 400 0 M 0 16 (by decide) (by decide) hR
      have all : ∀ q, (q < 15 ∨ 21 < q) → q ≠ 29 → q ≠ 30 → q ≠ 31 → q ≠ 32 → q ≠ 33 → M1 q = M q := fun q h1 h2 _ _ _ _ => a3 q h1 h2
      have s47 : M1 47 = M 47 := all 47 (by omega) (by decide) (by decide) (by decide) (by decide) (by decide)
      have i1 : mX6_isOne (nI o) M1 = true := by
        unfold mX6_isOne at e1 ⊢
        rw [s47, ← e1]; exact hh
      have hG : ∀ v, v ≤ 3 → GS (upd (M 47) 3 (nI v)) n := fun v hv => (hR.wind ⟨v, by omega, rfl⟩).gs
      obtain ⟨N', b1, b2, b3, b4, b5⟩ := near19 (s := M 47) (at' := 3) (last := 3) (A := 3) (m := k) (by decide) (vin_l (by decide) (by decide)) (by omega) ho (by omega) (by decide) hG (M1 47 3) 4 400 0 M1 0 1000 (by decide) (by decide) (fun j _ _ => by rw [s47])
      obtain ⟨z, hz, ez⟩ := offS_lt (hG 0 (by decide)) ho k
      have f16 : offS (upd (M 47) 3 (nI 0)) n o k < 16 := by rw [ez]; exact nI_lt (b := 16) (by omega) (by decide)
      have f1000 : offS (upd (M 47) 3 (nI 0)) n o k < 1000 := by rw [ez]; exact nI_lt (b := 1000) (by omega) (by decide)
      have eq : argm (fun v => offS (upd (M 47) 3 (nI v)) n o k) 4 0 0 16 = argm (fun v => offS (upd (M 47) 3 (nI v)) n o k) 4 0 0 1000 := argm_first f16 f1000
      have nb : mX6_nearestBy (nI o) 3 3 (nI k) M1 = (argm (fun v => offS (upd (M 47) 3 (nI v)) n o k) 4 0 0 1000, N') := by
        unfold mX6_nearestBy
        rw [show (3 : Int32).toNatClampNeg = 3 by decide]
        exact b1
      have pb : PX6_nearestBy (nI o) 3 3 (nI k) M1 := by
        unfold PX6_nearestBy
        rw [show (3 : Int32).toNatClampNeg = 3 by decide]
        exact ⟨vin_l (by decide) (by decide), b2⟩
      have hF : Fr M1 N' := ⟨fun p hp => by
        unfold PS at hp
        exact b5 p (by omega) (by omega), fun j hj => by
        by_cases e : j = 3
        · rw [e, b4]
        · rw [b3 j hj e, s47]⟩
      have a1' : mX5_windFor_32 400 (nI o) (nI k) 0 16 0 M = (argm (fun v => offS (upd (M 47) 3 (nI v)) n o k) 4 0 0 16, M1) := a1
      rw [if_pos hh, if_pos hm, a1']
      simp only [i1, ei, hm, if_true, nb]
      exact ⟨fun _ _ => a2, fun _ _ => ⟨pb, trivial⟩, eq, Inv.fr ((Fr.of5 all).trans hF) h⟩
    · rw [if_pos hh, if_neg hm]
      refine ⟨fun _ q => absurd q hm, fun _ q => absurd q (by rw [ei]; exact hm), ?_, ?_⟩
      · rw [← e1, if_pos hh, ei, if_neg hm]
      · rw [← e1, if_pos hh, ei, if_neg hm]; exact h
  · rw [if_neg hh]
    refine ⟨fun q => absurd q hh, fun q => absurd q (by rw [← e1]; exact hh), ?_, ?_⟩
    · rw [← e1, if_neg hh]
    · rw [← e1, if_neg hh]; exact h

theorem kind32 {s : Nat → Int32} {n o m : Nat} (ho : o < n) (hm : m ≤ 60) : ∀ (k fuel i : Nat) (M : Mem) (best least : Int32), k < fuel → i + k = 6 → R M 1 s n →
    ∃ M', mX5_kindFor_32 fuel (nI o) (nI m) best least (nI i) M = (argm (fun v => offS (upd s (24 + 4 * o) (nI v)) n o m) k i best least, M') ∧ PX5_kindFor_32 fuel (nI o) (nI m) best least (nI i) M ∧ ∀ q, (q < 15 ∨ 21 < q) → q ≠ 29 → M' q = M q := by
  intro k
  induction k with
  | zero =>
    intro fuel i M best least hf hi hR
    obtain ⟨f, rfl⟩ : ∃ f, fuel = f + 1 := ⟨fuel - 1, by omega⟩
    have hc : (6 : Int32) ≤ nI i := nI_le (a := 6) (by omega) (by omega)
    refine ⟨M, ?_, ?_, fun _ _ _ => rfl⟩
    · rw [mX5_kindFor_32, if_pos hc]
      rfl
    · rw [PX5_kindFor_32]
      exact fun q => absurd hc q
  | succ k ih =>
    intro fuel i M best least hf hi hR
    obtain ⟨f, rfl⟩ : ∃ f, fuel = f + 1 := ⟨fuel - 1, by omega⟩
    have h8 : o < 8 := by have := hR.1; omega
    have hc : ¬ (6 : Int32) ≤ nI i := nI_ge (b := 6) (by omega) (by omega)
    have hi1 : nI i + 1 = nI (i + 1) := (nI_succ i).symm
    have hb := become_R TB15 TB1 (by decide) hR
    have hbf := (become_at TB15 TB1 (by decide) M).2.2.2.2
    obtain ⟨M1, e1⟩ : ∃ x, x = mX4_become 15 1 M := ⟨_, rfl⟩
    rw [← e1] at hb hbf
    have hw : R (upm M1 18 o (nI i)) 15 (upd s (24 + 4 * o) (nI i)) n := hb.air (j := 0) ho (by decide) (fun _ => ⟨i, by omega, rfl⟩) (fun q => absurd q (by decide))
    obtain ⟨M2, e2⟩ : ∃ x, x = upm M1 18 o (nI i) := ⟨_, rfl⟩
    rw [← e2] at hw
    obtain ⟨M3, b1, b2, b3⟩ := off5 hw ho hm (by rw [e2, upm_ne (by decide), hbf 6 (by omega), upd_ne (by omega)]; exact (hR.ra ho).2.2.1)
    have fr : ∀ q, (q < 15 ∨ 21 < q) → q ≠ 29 → M3 q = M q := fun q h1 h2 => by rw [b3 q h1 h2, e2, upm_ne (by omega), hbf q (by omega)]
    have hR3 : R M3 1 s n := hR.congr (fun j hj => fr _ (by omega) (by omega)) (fun _ _ => rfl)
    by_cases q : offS (upd s (24 + 4 * o) (nI i)) n o m < least
    · obtain ⟨M', c1, c2, c3⟩ := ih f (i + 1) M3 (nI i) (offS (upd s (24 + 4 * o) (nI i)) n o m) (by omega) (by omega) hR3
      have ql : ¬ least ≤ offS (upd s (24 + 4 * o) (nI i)) n o m := Int32.not_le.mpr q
      refine ⟨M', ?_, ?_, fun z h1 h2 => (c3 z h1 h2).trans (fr z h1 h2)⟩
      · rw [mX5_kindFor_32, if_neg hc, ← e1]
        unfold mX5_kindFor_50 mX5_kindFor_67 mX5_kindFor_83
        simp only [nIc (show o < 2 ^ 31 by omega)]
        rw [← e2, b1]
        simp only [if_neg ql, hi1]
        rw [argm, if_pos q]
        exact c1
      · rw [PX5_kindFor_32]
        refine fun _ => ⟨pbecome _ _ _, ?_⟩
        rw [← e1]
        unfold PX5_kindFor_50 PX5_kindFor_67 PX5_kindFor_83
        simp only [nIc (show o < 2 ^ 31 by omega)]
        rw [← e2, b1]
        simp only [hi1]
        exact ⟨vin h8 (by decide), b2, fun z => absurd z ql, fun _ => c2⟩
    · obtain ⟨M', c1, c2, c3⟩ := ih f (i + 1) M3 best least (by omega) (by omega) hR3
      have ql : least ≤ offS (upd s (24 + 4 * o) (nI i)) n o m := Int32.not_lt.mp q
      refine ⟨M', ?_, ?_, fun z h1 h2 => (c3 z h1 h2).trans (fr z h1 h2)⟩
      · rw [mX5_kindFor_32, if_neg hc, ← e1]
        unfold mX5_kindFor_50 mX5_kindFor_67 mX5_kindFor_83
        simp only [nIc (show o < 2 ^ 31 by omega)]
        rw [← e2, b1]
        simp only [if_pos ql, hi1]
        rw [argm, if_neg q]
        exact c1
      · rw [PX5_kindFor_32]
        refine fun _ => ⟨pbecome _ _ _, ?_⟩
        rw [← e1]
        unfold PX5_kindFor_50 PX5_kindFor_67 PX5_kindFor_83
        simp only [nIc (show o < 2 ^ 31 by omega)]
        rw [← e2, b1]
        simp only [hi1]
        exact ⟨vin h8 (by decide), b2, fun _ => c2, fun z => absurd ql z⟩
theorem ok_kindFor {M : Mem} (a m : Int32) (h : Inv M) : OKm (PX5_kindFor a m) (mX5_kindFor a m) (PX6_kindFor a m) (mX6_kindFor a m) M := by
  obtain ⟨n, hR⟩ := h.1
  have hn := hR.1
  obtain ⟨e1, e2⟩ := has_eq (M := M) (N := M) (b := 1) (a := a) hR.2.1.1 hR.2.1.2 hn
  have ei : mX6_isShort m = mX5_isWithin m 1 30 := isIn_eq m 1 30
  unfold OKm mX5_kindFor mX6_kindFor PX5_kindFor PX6_kindFor mX6_kindFor_28 PX6_kindFor_28
  by_cases hh : mX4_has 1 a M = true
  · by_cases hm : mX5_isWithin m 1 30 = true
    · obtain ⟨o, ho, rfl⟩ := e2 hh
      have h8 : o < 8 := by omega
      obtain ⟨k, hk1, hk, rfl⟩ : ∃ k, 1 ≤ k ∧ k ≤ 30 ∧ m = nI k := by
        obtain ⟨k, hk | hk⟩ := within_60 (lo := 1) (hi := 30) (by decide) hm
        · exact ⟨k, hk⟩
        · exact absurd hk (by decide)
      obtain ⟨M1, a1, a2, a3⟩ := kind32 (s := M 47) ho (show k ≤ 60 by omega) 6 400 0 M 0 16 (by decide) (by decide) hR
      have all : ∀ q, (q < 15 ∨ 21 < q) → q ≠ 29 → q ≠ 30 → q ≠ 31 → q ≠ 32 → q ≠ 33 → M1 q = M q := fun q h1 h2 _ _ _ _ => a3 q h1 h2
      have s47 : M1 47 = M 47 := all 47 (by omega) (by decide) (by decide) (by decide) (by decide) (by decide)
      have i1 : mX6_isOne (nI o) M1 = true := by
        unfold mX6_isOne at e1 ⊢
        rw [s47, ← e1]; exact hh
      have hG : ∀ v, v ≤ 5 → GS (upd (M 47) (24 + 4 * o) (nI v)) n := fun v hv => (hR.air (j := 0) ho (by decide) (fun _ => ⟨v, by omega, rfl⟩) (fun q => absurd q (by decide))).gs
      obtain ⟨N', b1, b2, b3, b4, b5⟩ := near19 (s := M 47) (at' := (24 + 4 * o)) (last := 5) (A := 24 + 4 * nI o) (m := k) (ixk o h8) (ixnk o h8) (by omega) ho (by omega) (by decide) hG (M1 47 (24 + 4 * o)) 6 400 0 M1 0 1000 (by decide) (by decide) (fun j _ _ => by rw [s47])
      obtain ⟨z, hz, ez⟩ := offS_lt (hG 0 (by decide)) ho k
      have f16 : offS (upd (M 47) (24 + 4 * o) (nI 0)) n o k < 16 := by rw [ez]; exact nI_lt (b := 16) (by omega) (by decide)
      have f1000 : offS (upd (M 47) (24 + 4 * o) (nI 0)) n o k < 1000 := by rw [ez]; exact nI_lt (b := 1000) (by omega) (by decide)
      have eq : argm (fun v => offS (upd (M 47) (24 + 4 * o) (nI v)) n o k) 6 0 0 16 = argm (fun v => offS (upd (M 47) (24 + 4 * o) (nI v)) n o k) 6 0 0 1000 := argm_first f16 f1000
      have nb : mX6_nearestBy (nI o) (24 + 4 * nI o) 5 (nI k) M1 = (argm (fun v => offS (upd (M 47) (24 + 4 * o) (nI v)) n o k) 6 0 0 1000, N') := by
        unfold mX6_nearestBy
        rw [ixk o h8]
        exact b1
      have pb : PX6_nearestBy (nI o) (24 + 4 * nI o) 5 (nI k) M1 := by
        unfold PX6_nearestBy
        rw [ixk o h8]
        exact ⟨ixnk o h8, b2⟩
      have hF : Fr M1 N' := ⟨fun p hp => by
        unfold PS at hp
        exact b5 p (by omega) (by omega), fun j hj => by
        by_cases e : j = (24 + 4 * o)
        · rw [e, b4]
        · rw [b3 j hj e, s47]⟩
      have a1' : mX5_kindFor_32 400 (nI o) (nI k) 0 16 0 M = (argm (fun v => offS (upd (M 47) (24 + 4 * o) (nI v)) n o k) 6 0 0 16, M1) := a1
      rw [if_pos hh, if_pos hm, a1']
      simp only [i1, ei, hm, if_true, nb]
      exact ⟨fun _ _ => a2, fun _ _ => ⟨pb, trivial⟩, eq, Inv.fr ((Fr.of5 all).trans hF) h⟩
    · rw [if_pos hh, if_neg hm]
      refine ⟨fun _ q => absurd q hm, fun _ q => absurd q (by rw [ei]; exact hm), ?_, ?_⟩
      · rw [← e1, if_pos hh, ei, if_neg hm]
      · rw [← e1, if_pos hh, ei, if_neg hm]; exact h
  · rw [if_neg hh]
    refine ⟨fun q => absurd q hh, fun q => absurd q (by rw [← e1]; exact hh), ?_, ?_⟩
    · rw [← e1, if_neg hh]
    · rw [← e1, if_neg hh]; exact h
