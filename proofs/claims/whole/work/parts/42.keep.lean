/-! CITIES KEPT: keep, again; what holds, thing by thing -/
theorem InvR.of {M M' : Mem} {n : Nat} (h : R M 1 (M 47) n) (g : ∀ p, 1 ≤ p → p ≤ 7 → M' p = M p) (g47 : ∀ k, k < 56 → M' 47 k = M 47 k) : ∃ n, R M' 1 (M' 47) n :=
  ⟨n, h.congr (fun j hj => g _ (by omega) (by omega)) g47⟩
theorem InvK.of {M M' : Mem} (h : InvK M) (e0 : M' 0 14 = M 0 14) (e4 : M' 46 4 = M 46 4) (g : ∀ p, 8 ≤ p → p ≤ 14 → M' p = M p) (g48 : M' 48 = M 48) : InvK M' := by
  unfold InvK at h ⊢
  rw [e0, e4, g48]
  exact ⟨h.1, h.2.imp id (fun ⟨a, m, b⟩ => ⟨a, m, b.congr (fun j hj => g _ (by omega) (by omega)) (fun k _ => rfl)⟩)⟩
theorem InvT.of {M M' : Mem} (h : InvT M) (e1 : M' 22 1 = M 22 1) (e6 : M' 46 6 = M 46 6) (e23 : M' 23 = M 23) (e51 : M' 51 = M 51) : InvT M' := by
  unfold InvT at h ⊢
  rw [e1, e6, e23, e51]
  exact h
theorem InvW.of {M M' : Mem} (h : InvW M) (e1 : M' 0 13 = M 0 13) (e6 : M' 46 17 = M 46 17) (e23 : M' 28 = M 28) (e51 : M' 56 = M 56) : InvW M' := by
  unfold InvW at h ⊢
  rw [e1, e6, e23, e51]
  exact h
theorem InvS.of {M M' : Mem} (h : InvS M) (g : ∀ p, 34 ≤ p → p ≤ 41 → M' p = M p) (e57 : M' 57 = M 57) (e58 : M' 58 = M 58) (e59 : M' 59 = M 59) : InvS M' := by
  intro t ht
  rw [g (34 + 2 * t) (by omega) (by omega), g (34 + 2 * t + 1) (by omega) (by omega), e57, e58, e59]
  exact h t ht
theorem InvV.of {M M' : Mem} (h : InvV M) (g : ∀ p, 42 ≤ p → p ≤ 45 → M' p = M p) (e57 : M' 60 = M 60) (e58 : M' 61 = M 61) (e59 : M' 62 = M 62) : InvV M' := by
  intro t ht
  rw [g (42 + t) (by omega) (by omega), e57, e58, e59]
  exact h t ht
theorem InvA.of {M M' : Mem} (h : InvA M) (e1 : M' 26 1 = M 26 1) (e6 : M' 46 25 = M 46 25) (e23 : M' 27 = M 27) (e51 : M' 63 = M 63) : InvA M' := by
  unfold InvA at h ⊢
  rw [e1, e6, e23, e51]
  exact h
theorem keep2 : ∀ (k fuel i : Nat) (N : Mem), k < fuel → i + k = 56 →
    mX6_keep_2 fuel (nI i) N = (1, upm (upr N 48 (fun j => if i ≤ j ∧ j < 56 then N 47 j else N 48 j)) 46 4 1) ∧ PX6_keep_2 fuel (nI i) N := by
  intro k
  induction k with
  | zero =>
    intro fuel i N hf hi
    obtain ⟨f, rfl⟩ : ∃ f, fuel = f + 1 := ⟨fuel - 1, by omega⟩
    have hc : (56 : Int32) ≤ nI i := nI_le (a := 56) (by omega) (by omega)
    constructor
    · rw [mX6_keep_2, if_pos hc]
      have e : (fun j => if i ≤ j ∧ j < 56 then N 47 j else N 48 j) = N 48 := by
        funext j
        rw [if_neg (by omega)]
      rw [e, upr_self]
    · rw [PX6_keep_2]
      exact fun q => absurd hc q
  | succ k ih =>
    intro fuel i N hf hi
    obtain ⟨f, rfl⟩ : ∃ f, fuel = f + 1 := ⟨fuel - 1, by omega⟩
    have hc : ¬ (56 : Int32) ≤ nI i := nI_ge (b := 56) (by omega) (by omega)
    have hv : vp_in (nI i) 56 := vin (by omega) (by decide)
    have hi1 : nI i + 1 = nI (i + 1) := (nI_succ i).symm
    obtain ⟨e, p⟩ := ih f (i + 1) (upm N 48 i (N 47 i)) (by omega) (by omega)
    have ef : (fun j => if i + 1 ≤ j ∧ j < 56 then upm N 48 i (N 47 i) 47 j else upm N 48 i (N 47 i) 48 j) = (fun j => if i ≤ j ∧ j < 56 then N 47 j else N 48 j) := by
      funext j
      rw [upm_ne (by decide), upm_at]
      by_cases hj : j = i
      · subst hj
        rw [if_neg (by omega), upd_at, if_pos (by omega)]
      · rw [upd_ne hj]
        by_cases h2 : i + 1 ≤ j ∧ j < 56
        · rw [if_pos h2, if_pos (by omega)]
        · rw [if_neg h2, if_neg (by omega)]
    constructor
    · rw [mX6_keep_2, if_neg hc, nIc (by omega), hi1, e, ef, upm_upr N, upr_upr]
    · rw [PX6_keep_2]
      refine fun _ => ⟨hv, hv, ?_⟩
      rw [nIc (by omega), hi1]
      exact p
theorem again12 : ∀ (k fuel i : Nat) (N : Mem), k < fuel → i + k = 56 →
    mX6_again_12 fuel (nI i) N = (upr N 47 (fun j => if i ≤ j ∧ j < 56 then N 48 j else N 47 j) 47 0, upr N 47 (fun j => if i ≤ j ∧ j < 56 then N 48 j else N 47 j)) ∧ PX6_again_12 fuel (nI i) N := by
  intro k
  induction k with
  | zero =>
    intro fuel i N hf hi
    obtain ⟨f, rfl⟩ : ∃ f, fuel = f + 1 := ⟨fuel - 1, by omega⟩
    have hc : (56 : Int32) ≤ nI i := nI_le (a := 56) (by omega) (by omega)
    constructor
    · rw [mX6_again_12, if_pos hc]
      have e : (fun j => if i ≤ j ∧ j < 56 then N 48 j else N 47 j) = N 47 := by
        funext j
        rw [if_neg (by omega)]
      rw [e, upr_self]
    · rw [PX6_again_12]
      exact fun q => absurd hc q
  | succ k ih =>
    intro fuel i N hf hi
    obtain ⟨f, rfl⟩ : ∃ f, fuel = f + 1 := ⟨fuel - 1, by omega⟩
    have hc : ¬ (56 : Int32) ≤ nI i := nI_ge (b := 56) (by omega) (by omega)
    have hv : vp_in (nI i) 56 := vin (by omega) (by decide)
    have hi1 : nI i + 1 = nI (i + 1) := (nI_succ i).symm
    obtain ⟨e, p⟩ := ih f (i + 1) (upm N 47 i (N 48 i)) (by omega) (by omega)
    have ef : (fun j => if i + 1 ≤ j ∧ j < 56 then upm N 47 i (N 48 i) 48 j else upm N 47 i (N 48 i) 47 j) = (fun j => if i ≤ j ∧ j < 56 then N 48 j else N 47 j) := by
      funext j
      rw [upm_ne (show 48 ≠ 47 by decide), upm_at]
      by_cases hj : j = i
      · subst hj
        rw [if_neg (by omega), upd_at, if_pos (by omega)]
      · rw [upd_ne hj]
        by_cases h2 : i + 1 ≤ j ∧ j < 56
        · rw [if_pos h2, if_pos (by omega)]
        · rw [if_neg h2, if_neg (by omega)]
    constructor
    · rw [mX6_again_12, if_neg hc, nIc (by omega), hi1, e, ef, upm_upr N, upr_upr]
    · rw [PX6_again_12]
      refine fun _ => ⟨hv, hv, ?_⟩
      rw [nIc (by omega), hi1]
      exact p
theorem inv2 {a : Int32} {M : Mem} (h : Inv M) : Inv (a, M).2 := h
theorem ok_keep {M : Mem} (h : Inv M) : OKm PX5_keep mX5_keep PX6_keep mX6_keep M := by
  obtain ⟨⟨n, hR⟩, hK, hT, hW, hS, hV, hA⟩ := h
  have hb := become_R TB8 TB1 (by decide) hR
  have hbf := (become_at TB8 TB1 (by decide) M).2.2.2.2
  obtain ⟨M1, e1⟩ : ∃ x, x = mX4_become 8 1 M := ⟨_, rfl⟩
  rw [← e1] at hb hbf
  obtain ⟨k1, k2⟩ := keep2 56 400 0 (upm M1 0 14 1) (by decide) (by decide)
  unfold OKm mX5_keep mX5_keep_11 mX6_keep PX5_keep PX5_keep_11 PX6_keep
  rw [← e1]
  have k1' : mX6_keep_2 400 0 (upm M1 0 14 1) = _ := k1
  refine ⟨⟨pbecome _ _ _, trivial⟩, k2, by rw [k1'], ?_⟩
  show Inv (mX6_keep_2 400 0 (upm M1 0 14 1)).2
  rw [k1']
  obtain ⟨M2, e2⟩ : ∃ x, x = upm (upr (upm M1 0 14 1) 48 (fun j => if 0 ≤ j ∧ j < 56 then (upm M1 0 14 1) 47 j else (upm M1 0 14 1) 48 j)) 46 4 1 := ⟨_, rfl⟩
  rw [← e2]
  show Inv M2
  have g : ∀ p, p ≠ 0 → p ≠ 46 → p ≠ 48 → (p < 8 ∨ 14 < p) → M2 p = M p := fun p h1 h2 h3 h4 => by
    rw [e2, upm_ne h2, upr_ne h3, upm_ne h1]; exact hbf p h4
  have g0 : ∀ k, k ≠ 14 → M2 0 k = M 0 k := fun k hk => by
    rw [e2, upm_ne (by decide), upr_ne (by decide), upm_at, upd_ne hk, hbf 0 (by decide)]
  have g46 : ∀ k, k ≠ 4 → M2 46 k = M 46 k := fun k hk => by
    rw [e2, upm_at, upd_ne hk, upr_ne (by decide), upm_ne (by decide), hbf 46 (by decide)]
  refine ⟨InvR.of hR (fun p h1 h2 => g p (by omega) (by omega) (by omega) (by omega)) (fun k _ => by rw [g 47 (by decide) (by decide) (by decide) (by decide)]), ⟨?_, Or.inr ⟨?_, n, ?_⟩⟩, hT.of ?_ (g46 6 (by decide)) ?_ ?_, hW.of (g0 13 (by decide)) (g46 17 (by decide)) ?_ ?_, hS.of (fun p h1 h2 => g p (by omega) (by omega) (by omega) (by omega)) ?_ ?_ ?_, hV.of (fun p h1 h2 => g p (by omega) (by omega) (by omega) (by omega)) ?_ ?_ ?_, hA.of ?_ (g46 25 (by decide)) ?_ ?_⟩
  · rw [e2, upm_ne (by decide), upr_ne (by decide), upm_at, upd_at, upm_at, upd_at]
  · rw [e2, upm_at, upd_at]
  · refine hb.congr (fun j hj => ?_) (fun k hk => ?_)
    · rw [e2, upm_ne (by omega), upr_ne (by omega), upm_ne (by omega)]
    · rw [e2, upm_ne (by decide), upr_at, if_pos (by omega), upm_ne (by decide), hbf 47 (by decide)]
  all_goals first | (rw [g _ (by decide) (by decide) (by decide) (by decide)]) | rfl
theorem ok_again {M : Mem} (h : Inv M) : OKm PX5_again mX5_again PX6_again mX6_again M := by
  have hh := h
  obtain ⟨⟨n, hR⟩, ⟨hk1, hk2⟩, hT, hW, hS, hV, hA⟩ := h
  unfold OKm mX5_again mX5_again_21 mX6_again PX5_again PX5_again_21 PX6_again
  rcases hk2 with q | ⟨q, m, hR8⟩
  · rw [if_pos (hk1.trans q)]
    refine ⟨fun z => absurd (hk1.trans q) z, fun z => absurd q z, ?_, ?_⟩
    · rw [if_pos q]
    · rw [if_pos q]; exact hh
  · have z0 : ¬ M 0 14 = 0 := by rw [hk1, q]; decide
    rw [if_neg z0]
    have hb := become_R TB1 TB8 (by decide) hR8
    have hbf := (become_at TB1 TB8 (by decide) M).2.2.2.2
    obtain ⟨M1, e1⟩ : ∃ x, x = mX4_become 1 8 M := ⟨_, rfl⟩
    rw [← e1] at hb hbf
    obtain ⟨a1, a2⟩ := again12 56 400 0 M1 (by decide) (by decide)
    have a1' : mX6_again_12 400 0 M1 = _ := a1
    have z6 : ¬ M1 46 4 = 0 := by rw [hbf 46 (by decide), q]; decide
    rw [← e1]
    refine ⟨fun _ => ⟨pbecome _ _ _, trivial⟩, fun _ => a2, ?_, ?_⟩
    · rw [if_neg z6, a1', upr_at, if_pos (by omega), hbf 48 (by decide), hb.2.1.1, ← hb.2.1.2]
    · rw [if_neg z6, a1']
      refine inv2 ?_
      refine hh.now (fun p hp h7 => ?_) ⟨m, hb.congr (fun j hj => ?_) (fun k hk => ?_)⟩
      · unfold PS at hp
        show upr M1 47 _ p = M p
        rw [upr_ne (by omega), hbf p (by omega)]
      · show upr M1 47 _ (1 + j) = M1 (1 + j)
        rw [upr_ne (by omega)]
      · show upr M1 47 _ 47 k = M 48 k
        rw [upr_at, if_pos (by omega), hbf 48 (by decide)]
