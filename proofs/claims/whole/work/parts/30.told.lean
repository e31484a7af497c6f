theorem AG.of56 {s u : Nat → Int32} {o : Nat} (ho : o < 8) (h : ∀ j, j < 56 → s j = u j) : AG s u o := ⟨fun t ht => h _ (by omega), h _ (by decide), h _ (by decide), fun k hk => h _ (by omega)⟩
/-- rows that are the same below 56: each air is at the same places -/
theorem at_56 {s u : Nat → Int32} {n o : Nat} (hG : GS s n) (ho : o < n) (h : ∀ j, j < 56 → u j = s j) (k : Nat) : stepsS u n k (24 + 4 * o + 3) = stepsS s n k (24 + 4 * o + 3) := by
  have h8 : o < 8 := by have := hG.1; omega
  have hG2 : GS u n := hG.congr h
  rw [← at_steps hG ho k]
  exact (AG.steps hG2 ho (AG.of56 h8 h) k).1 3 (by decide)
theorem told35 {s s' : Nat → Int32} {n o : Nat} (hG' : GS s' n) (ho : o < n) : ∀ (k fuel i : Nat) (N : Mem), k < fuel → i + k = 61 → N 47 = stepsS s' n i → (∀ j, j < 56 → N 49 j = s j) → (∀ j, j < i → N 53 j = stepsS s' n j (24 + 4 * o + 3)) →
    ∃ N', mX6_told_35 fuel (nI o) (nI i) N = mX6_told_74 (nI o) N' ∧ (∀ j, j < 56 → N' 47 j = s j) ∧ (∀ j, j ≤ 60 → N' 53 j = stepsS s' n j (24 + 4 * o + 3)) ∧ (∀ p, p ≠ 47 → p ≠ 53 → N' p = N p) ∧ (PX6_told_74 (nI o) N' → PX6_told_35 fuel (nI o) (nI i) N) := by
  have h8 : o < 8 := by have := hG'.1; omega
  intro k
  induction k with
  | zero =>
    intro fuel i N hf hi h47 h49 h53
    obtain ⟨f, rfl⟩ : ∃ f, fuel = f + 1 := ⟨fuel - 1, by omega⟩
    have hc : 60 < nI i := nI_lt (a := 60) (by omega) (by omega)
    obtain ⟨x1, x2⟩ := back_ex h49
    refine ⟨mX6_copyRow 49 56 47 56 N, ?_, x1, fun j hj => by rw [x2 53 (by decide)]; exact h53 j (by omega), fun p hp _ => x2 p hp, fun hp => ?_⟩
    · rw [mX6_told_35, if_pos hc]
    · rw [PX6_told_35]
      exact ⟨fun _ => ⟨(back_eq N).2, hp⟩, fun q => absurd hc q⟩
  | succ k ih =>
    intro fuel i N hf hi h47 h49 h53
    obtain ⟨f, rfl⟩ : ∃ f, fuel = f + 1 := ⟨fuel - 1, by omega⟩
    have hc : ¬ 60 < nI i := nI_nlt (b := i) (a := 60) (by omega) (by omega)
    have hi1 : nI i + 1 = nI (i + 1) := (nI_succ i).symm
    have e3 : mX6_its (nI o) 3 N = stepsS s' n i (24 + 4 * o + 3) := by rw [its3 h8, h47]
    obtain ⟨N1, e1⟩ : ∃ x, x = upm N 53 i (stepsS s' n i (24 + 4 * o + 3)) := ⟨_, rfl⟩
    have h471 : N1 47 = stepsS s' n i := by rw [e1, upm_ne (by decide)]; exact h47
    obtain ⟨g1, g2⟩ := goesOn_eq (hG'.steps i) h471
    obtain ⟨N', a1, a2, a3, a4, a5⟩ := ih f (i + 1) (mX6_goesOn N1) (by omega) (by omega) (by rw [g1, upr_at, stepsS_succ]) (fun j hj => by rw [g1, upr_ne (by decide), e1, upm_ne (by decide)]; exact h49 j hj) (fun j hj => by
      rw [g1, upr_ne (by decide), e1, upm_at]
      by_cases ej : j = i
      · subst ej; rw [upd_at]
      · rw [upd_ne ej]; exact h53 j (by omega))
    refine ⟨N', ?_, a2, a3, fun p h1 h2 => (a4 p h1 h2).trans (by rw [g1, upr_ne h1, e1, upm_ne h2]), fun hp => ?_⟩
    · rw [mX6_told_35, if_neg hc, e3, nIc (show i < 2 ^ 31 by omega), ← e1]
      unfold mX6_told_57
      rw [hi1]
      exact a1
    · rw [PX6_told_35]
      refine ⟨fun q => absurd q hc, fun _ => ⟨pits3 h8, vin (by omega) (by decide), ?_⟩⟩
      rw [e3, nIc (show i < 2 ^ 31 by omega), ← e1]
      refine ⟨g2, ?_⟩
      unfold PX6_told_57
      rw [hi1]
      exact a5 hp
theorem told76 {s : Nat → Int32} {n o : Nat} {B : Nat → Int32} {s0 : Nat → Int32} (hG : GS s n) (ho : o < n) : ∀ (k fuel i : Nat) (N : Mem), k < fuel → i + k = 61 → N 47 = stepsS s n i → (∀ j, j < 56 → N 49 j = s0 j) → (∀ j, j ≤ 60 → N 53 j = B j) →
    (∃ N', mX6_told_76 fuel (nI o) (nI i) N = (ffn (fun j => decide (¬ stepsS s n j (24 + 4 * o + 3) = B j)) k i, N') ∧ (∀ j, j < 56 → N' 47 j = s0 j) ∧ ∀ p, p ≠ 47 → N' p = N p) ∧ PX6_told_76 fuel (nI o) (nI i) N := by
  have h8 : o < 8 := by have := hG.1; omega
  intro k
  induction k with
  | zero =>
    intro fuel i N hf hi h47 h49 h53
    obtain ⟨f, rfl⟩ : ∃ f, fuel = f + 1 := ⟨fuel - 1, by omega⟩
    have hc : 60 < nI i := nI_lt (a := 60) (by omega) (by omega)
    obtain ⟨x1, x2⟩ := back_ex h49
    refine ⟨⟨_, ?_, x1, x2⟩, ?_⟩
    · rw [mX6_told_76, if_pos hc]
      unfold mX6_told_107 mX6_told_118
      rw [if_pos hc]
      rfl
    · rw [PX6_told_76]
      exact ⟨fun _ => ⟨(back_eq N).2, trivial⟩, fun q => absurd hc q⟩
  | succ k ih =>
    intro fuel i N hf hi h47 h49 h53
    obtain ⟨f, rfl⟩ : ∃ f, fuel = f + 1 := ⟨fuel - 1, by omega⟩
    have hc : ¬ 60 < nI i := nI_nlt (b := i) (a := 60) (by omega) (by omega)
    have hi1 : nI i + 1 = nI (i + 1) := (nI_succ i).symm
    obtain ⟨g1, g2⟩ := goesOn_eq (hG.steps i) h47
    have e3 : mX6_its (nI o) 3 N = stepsS s n i (24 + 4 * o + 3) := by rw [its3 h8, h47]
    have e2 : N 53 (nI i).toNatClampNeg = B i := by rw [nIc (by omega)]; exact h53 i (by omega)
    obtain ⟨⟨N', a1, a2, a3⟩, a4⟩ := ih f (i + 1) (mX6_goesOn N) (by omega) (by omega) (by rw [g1, upr_at, stepsS_succ]) (fun j hj => by rw [g1, upr_ne (by decide)]; exact h49 j hj) (fun j hj => by rw [g1, upr_ne (by decide)]; exact h53 j hj)
    obtain ⟨x1, x2⟩ := back_ex h49
    constructor
    · rw [mX6_told_76, if_neg hc, e3, e2]
      unfold mX6_told_101
      rw [hi1]
      by_cases q : stepsS s n i (24 + 4 * o + 3) = B i
      · rw [if_pos q, a1]
        refine ⟨N', ?_, a2, fun p hp => (a3 p hp).trans (by rw [g1, upr_ne hp])⟩
        rw [ffn]
        simp [q]
      · rw [if_neg q]
        refine ⟨_, ?_, x1, x2⟩
        unfold mX6_told_107 mX6_told_118
        rw [if_neg hc, ffn]
        simp [q]
    · rw [PX6_told_76]
      refine ⟨fun q => absurd q hc, fun _ => ⟨pits3 h8, vin (by omega) (by decide), fun _ => ⟨g2, ?_⟩, fun _ => ⟨(back_eq N).2, trivial⟩⟩⟩
      unfold PX6_told_101
      rw [hi1]
      exact a4
theorem KD0 : KD 0 := ⟨0, by decide, rfl⟩
theorem ok_told {M : Mem} (a : Int32) (h : Inv M) : OKm (PX5_told a) (mX5_told a) (PX6_told a) (mX6_told a) M := by
  obtain ⟨n, hR⟩ := h.1
  have hn := hR.1
  obtain ⟨e1, e2⟩ := has_eq (M := M) (N := M) (b := 1) (a := a) hR.2.1.1 hR.2.1.2 hn
  by_cases hh : mX4_has 1 a M = true
  · obtain ⟨o, ho, rfl⟩ := e2 hh
    have h8 : o < 8 := by omega
    obtain ⟨t1, t2, t3⟩ := tryWalk_eq (p := 29) (m := 60) (Or.inl rfl) ho (by decide) hR
    rw [← nI60] at t1 t2 t3
    obtain ⟨M1, eM⟩ : ∃ x, x = mX5_tryWalk 29 61 (nI o) 60 M := ⟨_, rfl⟩
    rw [← eM] at t1 t2
    have hR1 : R M1 1 (M 47) n := hR.congr (fun j hj => t2 _ (by omega) (by omega)) (fun _ _ => rfl)
    have hb := become_R TB15 TB1 (by decide) hR1
    have hbf := (become_at TB15 TB1 (by decide) M1).2.2.2.2
    obtain ⟨M2, eM2⟩ : ∃ x, x = mX4_become 15 1 M1 := ⟨_, rfl⟩
    rw [← eM2] at hb hbf
    have hk := hb.air (j := 0) (w := 0) ho (by decide) (fun _ => KD0) (fun q => absurd q (by decide))
    obtain ⟨M3, eM3⟩ : ∃ x, x = upm M2 18 o 0 := ⟨_, rfl⟩
    change R (upm M2 18 o 0) 15 (upd (M 47) (24 + 4 * o) 0) n at hk
    rw [← eM3] at hk
    obtain ⟨v1, v2, v3, v4⟩ := walk_eq (p := 30) (m := 60) (by decide) ho (by decide) hk
    rw [← nI60] at v1 v2 v3 v4
    obtain ⟨M4, eM4⟩ : ∃ x, x = mX4_walk 15 30 61 (nI o) 60 M3 := ⟨_, rfl⟩
    rw [← eM4] at v1 v2 v3
    have all : ∀ q, (q < 15 ∨ 21 < q) → q ≠ 29 → q ≠ 30 → q ≠ 31 → q ≠ 32 → q ≠ 33 → M4 q = M q := fun q h1 h2 h3 _ _ _ => by
      rw [v3 q (by omega) (by omega) h3, eM3, upm_ne (by omega), hbf q (by omega)]
      exact t2 q h1 h2
    have s47 : M4 47 = M 47 := all 47 (by omega) (by decide) (by decide) (by decide) (by decide) (by decide)
    have hF : Fr M M4 := Fr.of5 all
    have h29 : ∀ j, j ≤ 60 → M4 29 j = stepsS (M 47) n j (24 + 4 * o + 3) := fun j hj => by
      rw [v3 29 (by decide) (by decide) (by decide), eM3, upm_ne (by decide), hbf 29 (by omega)]
      exact t1 j hj
    obtain ⟨c1, c2⟩ := told61 (M1 := M4) h29 v2 61 400 0 (by decide) (by decide)
    obtain ⟨g1, g2⟩ := aside_eq M4
    obtain ⟨N1, eN1⟩ : ∃ x, x = mX6_copyRow 47 56 49 56 M4 := ⟨_, rfl⟩
    rw [← eN1] at g1
    have n47 : N1 47 = M 47 := by rw [g1, upr_ne (by decide)]; exact s47
    have n49 : ∀ j, j < 56 → N1 49 j = M 47 j := fun j hj => by rw [g1, upr_at, c56_at hj, s47]
    obtain ⟨N2, m1, m2, m3, m4, m5⟩ := told35 (s := M 47) hk.gs ho 61 400 0 (upm N1 47 (24 + 4 * o) 0) (by decide) (by decide) (by rw [upm_at, n47]; rfl) (fun j hj => by rw [upm_ne (by decide)]; exact n49 j hj) (fun j hj => absurd hj (by omega))
    have hG2 : GS (N2 47) n := hR.gs.congr m2
    obtain ⟨⟨N3, w1, w2, w3⟩, w4⟩ := told76 (s := N2 47) (s0 := M 47) hG2 ho 61 400 0 N2 (by decide) (by decide) rfl (fun j hj => by rw [m4 49 (by decide) (by decide), upm_ne (by decide)]; exact n49 j hj) m3
    have eq : ffn (fun j => decide (¬ stepsS (N2 47) n j (24 + 4 * o + 3) = stepsS (upd (M 47) (24 + 4 * o) 0) n j (24 + 4 * o + 3))) 61 0 = ffn (fun j => decide (¬ stepsS (M 47) n j (24 + 4 * o + 3) = stepsS (upd (M 47) (24 + 4 * o) 0) n j (24 + 4 * o + 3))) 61 0 :=
      congrArg (fun q => ffn q 61 0) (funext fun j => by rw [at_56 hR.gs ho m2 j])
    have h1 : mX6_isOne (nI o) M4 = true := by
      unfold mX6_isOne at e1 ⊢
      rw [s47, ← e1]; exact hh
    have f5 : mX5_told (nI o) M = (ffn (fun j => decide (¬ stepsS (M 47) n j (24 + 4 * o + 3) = stepsS (upd (M 47) (24 + 4 * o) 0) n j (24 + 4 * o + 3))) 61 0, M4) := by
      unfold mX5_told mX5_told_24 mX5_told_35 mX5_told_59
      rw [if_pos hh, ← eM, ← eM2, nIc (show o < 2 ^ 31 by omega), ← eM3, ← eM4]
      exact c1
    have f6 : mX6_told (nI o) M4 = (ffn (fun j => decide (¬ stepsS (M 47) n j (24 + 4 * o + 3) = stepsS (upd (M 47) (24 + 4 * o) 0) n j (24 + 4 * o + 3))) 61 0, N3) := by
      unfold mX6_told mX6_told_21
      rw [if_pos h1, ← eN1, ixk o h8]
      refine m1.trans ?_
      unfold mX6_told_74
      rw [← eq]
      exact w1
    have b : Fr M4 N3 := ⟨fun p hp => by
      unfold PS at hp
      rw [w3 p (by omega), m4 p (by omega) (by omega), upm_ne (by omega), g1, upr_ne (by omega)], fun k hk => by rw [w2 k hk, s47]⟩
    unfold OKm
    rw [f5]
    refine ⟨?_, ?_, by rw [f6], by rw [f6]; exact Inv.fr (hF.trans b) h⟩
    · unfold PX5_told PX5_told_24 PX5_told_35 PX5_told_59
      refine fun _ => ⟨t3, ?_⟩
      rw [← eM]
      refine ⟨pbecome _ _ _, ?_⟩
      rw [← eM2]
      refine ⟨vin h8 (by decide), ?_⟩
      rw [nIc (show o < 2 ^ 31 by omega), ← eM3]
      refine ⟨v4, ?_⟩
      rw [← eM4]
      exact c2
    · show PX6_told (nI o) M4
      unfold PX6_told PX6_told_21
      refine fun _ => ⟨g2, ixnk o h8, ?_⟩
      rw [← eN1, ixk o h8]
      exact m5 w4
  · unfold OKm mX5_told mX6_told PX5_told PX6_told
    rw [if_neg hh]
    refine ⟨fun q => absurd q hh, fun q => absurd q (by rw [← e1]; exact hh), ?_, ?_⟩
    · rw [← e1, if_neg hh]
    · rw [← e1, if_neg hh]; exact h
