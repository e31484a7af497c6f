theorem back_ex {s : Nat → Int32} {N : Mem} (h49 : ∀ j, j < 56 → N 49 j = s j) : (∀ j, j < 56 → mX6_copyRow 49 56 47 56 N 47 j = s j) ∧ ∀ p, p ≠ 47 → mX6_copyRow 49 56 47 56 N p = N p := by
  rw [(back_eq N).1]
  exact ⟨fun j hj => by rw [upr_at, c56_at hj]; exact h49 j hj, fun p hp => upr_ne hp⟩
theorem meets53 {M1 : Mem} {A B : Nat → Int32} (hA : ∀ j, j ≤ 60 → M1 29 j = A j) (hB : ∀ j, j ≤ 60 → M1 30 j = B j) : ∀ (k fuel i : Nat), k < fuel → i + k = 61 →
    mX5_meets_53 fuel (nI i) M1 = (ffn (fun j => decide (A j = B j)) k i, M1) ∧ PX5_meets_53 fuel (nI i) M1 := by
  intro k
  induction k with
  | zero =>
    intro fuel i hf hi
    obtain ⟨f, rfl⟩ : ∃ f, fuel = f + 1 := ⟨fuel - 1, by omega⟩
    have hc : 60 < nI i := nI_lt (a := 60) (by omega) (by omega)
    constructor
    · rw [mX5_meets_53, if_pos hc]
      rfl
    · rw [PX5_meets_53]
      exact fun q => absurd hc q
  | succ k ih =>
    intro fuel i hf hi
    obtain ⟨f, rfl⟩ : ∃ f, fuel = f + 1 := ⟨fuel - 1, by omega⟩
    have hc : ¬ 60 < nI i := nI_nlt (b := i) (a := 60) (by omega) (by omega)
    have hi1 : nI i + 1 = nI (i + 1) := (nI_succ i).symm
    obtain ⟨e, p⟩ := ih f (i + 1) (by omega) (by omega)
    constructor
    · rw [mX5_meets_53, if_neg hc, nIc (show i < 2 ^ 31 by omega), hA i (by omega), hB i (by omega), hi1, e]
      rw [ffn]
      by_cases q : A i = B i <;> simp [q]
    · rw [PX5_meets_53]
      refine fun _ => ⟨vin (by omega) (by decide), vin (by omega) (by decide), fun _ => ?_⟩
      rw [hi1]
      exact p
theorem told61 {M1 : Mem} {A B : Nat → Int32} (hA : ∀ j, j ≤ 60 → M1 29 j = A j) (hB : ∀ j, j ≤ 60 → M1 30 j = B j) : ∀ (k fuel i : Nat), k < fuel → i + k = 61 →
    mX5_told_61 fuel (nI i) M1 = (ffn (fun j => decide (¬ A j = B j)) k i, M1) ∧ PX5_told_61 fuel (nI i) M1 := by
  intro k
  induction k with
  | zero =>
    intro fuel i hf hi
    obtain ⟨f, rfl⟩ : ∃ f, fuel = f + 1 := ⟨fuel - 1, by omega⟩
    have hc : 60 < nI i := nI_lt (a := 60) (by omega) (by omega)
    constructor
    · rw [mX5_told_61, if_pos hc]
      rfl
    · rw [PX5_told_61]
      exact fun q => absurd hc q
  | succ k ih =>
    intro fuel i hf hi
    obtain ⟨f, rfl⟩ : ∃ f, fuel = f + 1 := ⟨fuel - 1, by omega⟩
    have hc : ¬ 60 < nI i := nI_nlt (b := i) (a := 60) (by omega) (by omega)
    have hi1 : nI i + 1 = nI (i + 1) := (nI_succ i).symm
    obtain ⟨e, p⟩ := ih f (i + 1) (by omega) (by omega)
    constructor
    · rw [mX5_told_61, if_neg hc, nIc (show i < 2 ^ 31 by omega), hA i (by omega), hB i (by omega), hi1, e]
      rw [ffn]
      by_cases q : A i = B i <;> simp [q]
    · rw [PX5_told_61]
      refine fun _ => ⟨vin (by omega) (by decide), vin (by omega) (by decide), fun _ => ?_⟩
      rw [hi1]
      exact p
theorem meets36 {s : Nat → Int32} {n o o2 : Nat} (hG : GS s n) (ho : o < n) (ho2 : o2 < n) : ∀ (k fuel i : Nat) (N : Mem), k < fuel → i + k = 61 → N 47 = stepsS s n i → (∀ j, j < 56 → N 49 j = s j) →
    (∃ N', mX6_meets_36 fuel (nI o) (nI o2) (nI i) N = (ffn (fun j => decide (stepsS s n j (24 + 4 * o + 3) = stepsS s n j (24 + 4 * o2 + 3))) k i, N') ∧ (∀ j, j < 56 → N' 47 j = s j) ∧ ∀ p, p ≠ 47 → N' p = N p) ∧ PX6_meets_36 fuel (nI o) (nI o2) (nI i) N := by
  have h8 : o < 8 := by have := hG.1; omega
  have h82 : o2 < 8 := by have := hG.1; omega
  intro k
  induction k with
  | zero =>
    intro fuel i N hf hi h47 h49
    obtain ⟨f, rfl⟩ : ∃ f, fuel = f + 1 := ⟨fuel - 1, by omega⟩
    have hc : 60 < nI i := nI_lt (a := 60) (by omega) (by omega)
    obtain ⟨x1, x2⟩ := back_ex h49
    refine ⟨⟨_, ?_, x1, x2⟩, ?_⟩
    · rw [mX6_meets_36, if_pos hc]
      unfold mX6_meets_67 mX6_meets_78
      rw [if_pos hc]
      rfl
    · rw [PX6_meets_36]
      exact ⟨fun _ => ⟨(back_eq N).2, trivial⟩, fun q => absurd hc q⟩
  | succ k ih =>
    intro fuel i N hf hi h47 h49
    obtain ⟨f, rfl⟩ : ∃ f, fuel = f + 1 := ⟨fuel - 1, by omega⟩
    have hc : ¬ 60 < nI i := nI_nlt (b := i) (a := 60) (by omega) (by omega)
    have hi1 : nI i + 1 = nI (i + 1) := (nI_succ i).symm
    obtain ⟨g1, g2⟩ := goesOn_eq (hG.steps i) h47
    have e3 : mX6_its (nI o) 3 N = stepsS s n i (24 + 4 * o + 3) := by rw [its3 h8, h47]
    have e2 : mX6_its (nI o2) 3 N = stepsS s n i (24 + 4 * o2 + 3) := by rw [its3 h82, h47]
    obtain ⟨⟨N', a1, a2, a3⟩, a4⟩ := ih f (i + 1) (mX6_goesOn N) (by omega) (by omega) (by rw [g1, upr_at, stepsS_succ]) (fun j hj => by rw [g1, upr_ne (by decide)]; exact h49 j hj)
    obtain ⟨x1, x2⟩ := back_ex h49
    constructor
    · rw [mX6_meets_36, if_neg hc, e3, e2]
      unfold mX6_meets_61
      rw [hi1]
      by_cases q : stepsS s n i (24 + 4 * o + 3) = stepsS s n i (24 + 4 * o2 + 3)
      · rw [if_pos q]
        refine ⟨_, ?_, x1, x2⟩
        unfold mX6_meets_67 mX6_meets_78
        rw [if_neg hc, ffn]
        simp [q]
      · rw [if_neg q, a1]
        refine ⟨N', ?_, a2, fun p hp => (a3 p hp).trans (by rw [g1, upr_ne hp])⟩
        rw [ffn]
        simp [q]
    · rw [PX6_meets_36]
      refine ⟨fun q => absurd q hc, fun _ => ⟨pits3 h8, pits3 h82, fun _ => ⟨(back_eq N).2, trivial⟩, fun _ => ⟨g2, ?_⟩⟩⟩
      unfold PX6_meets_61
      rw [hi1]
      exact a4
theorem ok_meets {M : Mem} (a c : Int32) (h : Inv M) : OKm (PX5_meets a c) (mX5_meets a c) (PX6_meets a c) (mX6_meets a c) M := by
  obtain ⟨n, hR⟩ := h.1
  have hn := hR.1
  obtain ⟨e1, e2⟩ := has_eq (M := M) (N := M) (b := 1) (a := a) hR.2.1.1 hR.2.1.2 hn
  obtain ⟨f1, f2⟩ := has_eq (M := M) (N := M) (b := 1) (a := c) hR.2.1.1 hR.2.1.2 hn
  by_cases hh : mX4_has 1 a M = true
  · by_cases hk : mX4_has 1 c M = true
    · by_cases hac : a = c
      · unfold OKm mX5_meets mX6_meets PX5_meets PX6_meets
        rw [if_pos hh, if_pos hk, if_pos hac]
        refine ⟨fun _ _ q => absurd hac q, fun _ _ q => absurd hac q, ?_, ?_⟩
        · rw [← e1, if_pos hh, ← f1, if_pos hk, if_pos hac]
        · rw [← e1, if_pos hh, ← f1, if_pos hk, if_pos hac]; exact h
      · obtain ⟨o, ho, rfl⟩ := e2 hh
        obtain ⟨o2, ho2, rfl⟩ := f2 hk
        have h8 : o < 8 := by omega
        have h82 : o2 < 8 := by omega
        obtain ⟨t1, t2, t3⟩ := tryWalk_eq (p := 29) (m := 60) (Or.inl rfl) ho (by decide) hR
        rw [← nI60] at t1 t2 t3
        obtain ⟨M1, eM⟩ : ∃ x, x = mX5_tryWalk 29 61 (nI o) 60 M := ⟨_, rfl⟩
        rw [← eM] at t1 t2
        have hR1 : R M1 1 (M 47) n := hR.congr (fun j hj => t2 _ (by omega) (by omega)) (fun _ _ => rfl)
        obtain ⟨v1, v2, v3⟩ := tryWalk_eq (p := 30) (m := 60) (Or.inr rfl) ho2 (by decide) hR1
        rw [← nI60] at v1 v2 v3
        obtain ⟨M2, eM2⟩ : ∃ x, x = mX5_tryWalk 30 61 (nI o2) 60 M1 := ⟨_, rfl⟩
        rw [← eM2] at v1 v2
        have all : ∀ q, (q < 15 ∨ 21 < q) → q ≠ 29 → q ≠ 30 → q ≠ 31 → q ≠ 32 → q ≠ 33 → M2 q = M q := fun q h1 h2 h3 _ _ _ => (v2 q h1 h3).trans (t2 q h1 h2)
        have s47 : M2 47 = M 47 := all 47 (by omega) (by decide) (by decide) (by decide) (by decide) (by decide)
        have hF : Fr M M2 := Fr.of5 all
        obtain ⟨c1, c2⟩ := meets53 (M1 := M2) (A := fun j => stepsS (M 47) n j (24 + 4 * o + 3)) (B := fun j => stepsS (M 47) n j (24 + 4 * o2 + 3)) (fun j hj => by rw [v2 29 (by omega) (by decide)]; exact t1 j hj) v1 61 400 0 (by decide) (by decide)
        obtain ⟨g1, g2⟩ := aside_eq M2
        obtain ⟨⟨N', m1, m2, m3⟩, m4⟩ := meets36 hR.gs ho ho2 61 400 0 (mX6_copyRow 47 56 49 56 M2) (by decide) (by decide) (by rw [g1, upr_ne (by decide)]; exact s47) (fun j hj => by rw [g1, upr_at, c56_at hj, s47])
        have h1 : mX6_isOne (nI o) M2 = true := by
          unfold mX6_isOne at e1 ⊢
          rw [s47, ← e1]; exact hh
        have h2 : mX6_isOne (nI o2) M2 = true := by
          unfold mX6_isOne at f1 ⊢
          rw [s47, ← f1]; exact hk
        have f5 : mX5_meets (nI o) (nI o2) M = (ffn (fun j => decide (stepsS (M 47) n j (24 + 4 * o + 3) = stepsS (M 47) n j (24 + 4 * o2 + 3))) 61 0, M2) := by
          unfold mX5_meets mX5_meets_40 mX5_meets_51
          rw [if_pos hh, if_pos hk, if_neg hac, ← eM, ← eM2]
          exact c1
        have f6 : mX6_meets (nI o) (nI o2) M2 = (ffn (fun j => decide (stepsS (M 47) n j (24 + 4 * o + 3) = stepsS (M 47) n j (24 + 4 * o2 + 3))) 61 0, N') := by
          unfold mX6_meets mX6_meets_34
          rw [if_pos h1, if_pos h2, if_neg hac]
          exact m1
        have b : Fr M2 N' := ⟨fun p hp => by
          unfold PS at hp
          rw [m3 p (by omega), g1, upr_ne (by omega)], fun k hk => by rw [m2 k hk, s47]⟩
        unfold OKm
        rw [f5]
        refine ⟨?_, ?_, by rw [f6], by rw [f6]; exact Inv.fr (hF.trans b) h⟩
        · unfold PX5_meets PX5_meets_40 PX5_meets_51
          refine fun _ _ _ => ⟨t3, ?_⟩
          rw [← eM]
          refine ⟨v3, ?_⟩
          rw [← eM2]
          exact c2
        · show PX6_meets (nI o) (nI o2) M2
          unfold PX6_meets PX6_meets_34
          exact fun _ _ _ => ⟨g2, m4⟩
    · unfold OKm mX5_meets mX6_meets PX5_meets PX6_meets
      rw [if_pos hh, if_neg hk]
      refine ⟨fun _ q => absurd q hk, fun _ q => absurd q (by rw [← f1]; exact hk), ?_, ?_⟩
      · rw [← e1, if_pos hh, ← f1, if_neg hk]
      · rw [← e1, if_pos hh, ← f1, if_neg hk]; exact h
  · unfold OKm mX5_meets mX6_meets PX5_meets PX6_meets
    rw [if_neg hh]
    refine ⟨fun q => absurd q hh, fun q => absurd q (by rw [← e1]; exact hh), ?_, ?_⟩
    · rw [← e1, if_neg hh]
    · rw [← e1, if_neg hh]; exact h
