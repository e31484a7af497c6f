/-! what a shelf holds, taken for -/
theorem under_eq (k a : Int32) (M : Mem) : mX5_isUnder k a M = mX6_isUnder k a M ∧ PX5_isUnder k a M ∧ PX6_isUnder k a M := by
  unfold mX5_isUnder mX6_isUnder PX5_isUnder PX6_isUnder mX6_isUnder_19 PX6_isUnder_19 mX5_isUnder_40 mX5_isUnder_56 mX6_isUnder_29 PX5_isUnder_40 PX5_isUnder_56 PX6_isUnder_29
  refine ⟨?_, fun _ => ⟨fun _ => ⟨fun _ => trivial, fun _ _ => trivial⟩, fun _ _ => ⟨fun _ => trivial, fun _ _ => trivial⟩⟩, fun _ => trivial, fun _ => ⟨fun _ => trivial, fun _ => ⟨fun _ => ⟨fun _ => trivial, fun _ _ _ => trivial⟩, fun _ _ _ => trivial⟩⟩⟩
  by_cases a0 : a = 0
  · rw [if_pos a0, if_pos a0]
  · rw [if_neg a0, if_neg a0]
    by_cases a1 : a = 1
    · have n12 : ¬ a = 2 := by rw [a1]; decide
      rw [if_pos a1, if_pos a1, if_neg n12]
      by_cases k1 : k = 1
      · rw [if_pos k1, if_pos (k1.trans a1.symm)]
      · rw [if_neg k1, if_neg (show ¬ k = a from fun q => k1 (q.trans a1))]
    · rw [if_neg a1, if_neg a1]
      by_cases a2 : a = 2
      · rw [if_pos a2, if_pos a2]
        by_cases k2 : k = 2
        · rw [if_pos k2, if_pos (k2.trans a2.symm)]
        · rw [if_neg k2, if_neg (show ¬ k = a from fun q => k2 (q.trans a2))]
      · rw [if_neg a2, if_neg a2]
theorem hold3 {M M5 N6 : Mem} {n t : Nat} (h : Inv M) (hR : R M 1 (M 47) n) (ht : t < 4) (g1 : M5 (42 + t) = M (42 + t)) (g2 : M5 1 = M 1) (g3 : N6 60 = M 60) (g4 : N6 61 = M 61) (g5 : N6 47 = M 47) :
    PX6_heldOn (nI t) N6 ∧ ((mX5_holdsAir (42 + t) M5 = true ∧ mX6_heldOn (nI t) N6 = 1 ∧ M (42 + t) 0 = 0 ∧ ∃ o, o < n ∧ M (42 + t) 1 = nI o ∧ M 61 t = nI o) ∨
    (¬ mX5_holdsAir (42 + t) M5 = true ∧ mX6_heldOn (nI t) N6 = 2 ∧ M (42 + t) 0 = 1 ∧ M (42 + t) 2 = M 61 t ∧ M (42 + t) 3 = M 62 t ∧ ∃ so, so < 4 ∧ M 61 t = nI so) ∨
    (¬ mX5_holdsAir (42 + t) M5 = true ∧ mX6_heldOn (nI t) N6 = 0 ∧ ¬ M (42 + t) 0 = 1)) := by
  have hn := hR.1
  have hv : vp_in (nI t) 4 := vin ht (by decide)
  have ct : (nI t).toNatClampNeg = t := nIc (by omega)
  refine ⟨?_, ?_⟩
  · unfold PX6_heldOn PX6_heldOn_27
    exact ⟨hv, fun _ => ⟨hv, fun _ => hv⟩, fun _ => hv⟩
  unfold mX5_holdsAir mX6_heldOn mX6_heldOn_27
  rw [ct, g1, g3, g4]
  rcases h.2.2.2.2.2.1 t ht with ⟨a1, a2, a3, k, hk, a4⟩ | ⟨a1, a2, a3, a4, a5, a6⟩ | ⟨a1, a2⟩
  · have e5 : mX4_has 1 (M (42 + t) 1) M5 = mX4_has 1 (nI k) M := by
      unfold mX4_has
      rw [g2, a3, a4]
    have e6 : mX6_isOne (M 61 t) N6 = mX6_isOne (nI k) M := by
      unfold mX6_isOne
      rw [g5, a4]
    obtain ⟨e1, e2⟩ := has_eq (M := M) (N := M) (b := 1) (a := nI k) hR.2.1.1 hR.2.1.2 hn
    rw [e5, e6, ← e1, if_pos a1, if_pos a2, a2]
    by_cases hc : mX4_has 1 (nI k) M = true
    · obtain ⟨o, ho, e⟩ := e2 hc
      rw [if_pos hc, if_pos hc]
      exact Or.inl ⟨rfl, rfl, a1, o, ho, by rw [a3, a4, e], by rw [a4, e]⟩
    · rw [if_neg hc, if_neg hc]
      exact Or.inr (Or.inr ⟨by decide, rfl, by rw [a1]; decide⟩)
  · have n0 : ¬ M (42 + t) 0 = 0 := by rw [a1]; decide
    have n1 : ¬ M 60 t = 1 := by rw [a2]; decide
    rw [if_neg n0, if_neg n1, a2]
    exact Or.inr (Or.inl ⟨by decide, rfl, a1, a3, a5, a4⟩)
  · have n0 : ¬ M (42 + t) 0 = 0 := by rw [a1]; decide
    have n1 : ¬ M 60 t = 1 := by rw [a2]; decide
    rw [if_neg n0, if_neg n1, a2]
    exact Or.inr (Or.inr ⟨by decide, rfl, by rw [a1]; decide⟩)
theorem as14 : ∀ j, j < 14 → (mX5_isKind (nI j) = decide (j < 6)) ∧ (mX5_isWithin (nI j) 10 13 = decide (10 ≤ j)) ∧ (mX5_isWithin (nI j) 6 9 = decide (6 ≤ j ∧ j ≤ 9)) ∧ ((10 : Int32) ≤ nI j ↔ 10 ≤ j) := by decide
theorem ok_taken {M : Mem} (a b : Int32) (h : Inv M) : OKq (PX5_taken a b) (mX5_taken a b) (PX6_taken a b) (mX6_taken a b) M := by
  have es := isShelf_iff a
  have ei : mX6_isIn b.toInt64 0 13 = mX5_isWithin b 0 13 := isIn_eq b 0 13
  have ej : mX6_isIn b.toInt64 6 9 = mX5_isWithin b 6 9 := isIn_eq b 6 9
  obtain ⟨n, hR⟩ := h.1
  have hn := hR.1
  unfold OKq mX5_taken mX6_taken PX5_taken PX6_taken
  rw [ei, ej]
  by_cases hh : 0 ≤ a ∧ a ≤ 3
  case neg =>
    have hh6 : ¬ mX6_isShelf a = true := fun q => hh (es.mp q)
    rw [if_neg hh, if_neg hh6]
    exact ⟨fun q => absurd q hh, fun q => absurd q hh6, rfl⟩
  have hh6 := es.mpr hh
  obtain ⟨t, ht, rfl⟩ := sheet_n hh
  have hv : vp_in (nI t) 4 := vin ht (by decide)
  have ct : (nI t).toNatClampNeg = t := nIc (by omega)
  rw [if_pos hh, if_pos hh6, ct]
  by_cases hb : mX5_isWithin b 0 13 = true
  case neg =>
    have lo : ∀ (l u : Int32), 0 ≤ l → u ≤ 13 → ¬ mX5_isWithin b l u = true := fun l u h1 h2 q => hb (isWithin_iff.mpr ⟨Int32.le_trans h1 (isWithin_iff.mp q).1, Int32.le_trans (isWithin_iff.mp q).2 h2⟩)
    have k1 : ¬ mX5_isKind b = true := lo 0 5 (by decide) (by decide)
    have k2 : ¬ mX5_isWithin b 10 13 = true := lo 10 13 (by decide) (by decide)
    rw [if_neg k1, if_neg k2, if_neg hb]
    exact ⟨fun _ => ⟨fun q => absurd q k1, fun _ q => absurd q k2⟩, fun _ q => absurd q hb, rfl⟩
  obtain ⟨j, hj, rfl⟩ := within_n (m := 13) (by decide) hb
  obtain ⟨j1, j2, j3, j4⟩ := as14 j (by omega)
  rw [if_pos hb]
  by_cases hm : 6 ≤ j ∧ j ≤ 9
  · have k1 : ¬ mX5_isKind (nI j) = true := by rw [j1, decide_eq_true_iff]; omega
    have k2 : ¬ mX5_isWithin (nI j) 10 13 = true := by rw [j2, decide_eq_true_iff]; omega
    have k3 : mX5_isWithin (nI j) 6 9 = true := by rw [j3, decide_eq_true_iff]; exact hm
    rw [if_neg k1, if_neg k2, if_pos k3]
    exact ⟨fun _ => ⟨fun q => absurd q k1, fun _ q => absurd q k2⟩, fun _ _ q => absurd k3 q, rfl⟩
  have k3 : ¬ mX5_isWithin (nI j) 6 9 = true := by rw [j3, decide_eq_true_iff]; exact hm
  have hx : (if mX5_isKind (nI j) = true then mX5_taken_34 (nI t) (nI j) (b2i (mX5_isWithin (nI j) 10 13)) M else if mX5_isWithin (nI j) 10 13 = true then mX5_taken_34 (nI t) (nI j) (b2i (mX5_isWithin (nI j) 10 13)) M else -1) = mX5_taken_34 (nI t) (nI j) (b2i (decide (10 ≤ j))) M := by
    rw [← j2]
    by_cases k1 : mX5_isKind (nI j) = true
    · rw [if_pos k1]
    · rw [if_neg k1, if_pos]
      rw [j1, decide_eq_true_iff] at k1
      rw [j2, decide_eq_true_iff]
      omega
  rw [hx, if_neg k3, j2]
  obtain ⟨ph, h3⟩ := hold3 (M5 := M) (N6 := M) h hR ht rfl rfl rfl rfl rfl
  unfold mX5_taken_34 PX5_taken_34
  rw [vpl_n ht]
  have p00 : (0 : Int32) = 0 := rfl
  have n10 : ¬ (1 : Int32) = 0 := by decide
  have n20 : ¬ (2 : Int32) = 0 := by decide
  have n12 : ¬ (1 : Int32) = 2 := by decide
  have n21 : ¬ (2 : Int32) = 1 := by decide
  rcases h3 with ⟨a1, a2, a3, o, ho, a4, a5⟩ | ⟨a1, a2, a3, a4, a5, so, hso, a6⟩ | ⟨a1, a2, a3⟩
  · have h8 : o < 8 := by omega
    have co : (nI o).toNatClampNeg = o := nIc (by omega)
    have n0 : ¬ M (42 + t) 0 = 1 := by rw [a3]; decide
    have ek : M 4 o = mX6_its (nI o) 0 M := by rw [its0 h8]; exact (hR.ra ho).1
    obtain ⟨u1, u2, u3⟩ := under_eq (mX6_its (nI o) 0 M) (nI j) M
    have vo : vp_in (nI o) 8 := vin h8 (by decide)
    rw [if_neg n0, if_pos a1, a2, a4, co, a5, ek, if_neg n10]
    refine ⟨fun _ => ⟨fun _ _ _ _ => ⟨vo, u2⟩, fun _ _ _ _ _ => ⟨vo, u2⟩⟩, fun _ _ _ => ⟨ph, fun _ => ⟨fun _ q => absurd q n12, fun _ _ => ⟨hv, pits0 h8, u3, fun _ => hv⟩⟩⟩, ?_⟩
    by_cases h10 : 10 ≤ j
    · rw [if_pos (j4.mpr h10), if_neg n12, decide_eq_true h10, if_neg (show ¬ b2i true = 0 by decide)]
    · rw [if_neg (fun q => h10 (j4.mp q)), decide_eq_false h10, if_pos (show b2i false = 0 by decide), if_pos rfl, u1]
  · rw [if_pos a3, a2, if_neg n20, a4, a5, a6]
    refine ⟨fun _ => ⟨fun _ q => absurd a3 q, fun _ _ q => absurd a3 q⟩, fun _ _ _ => ⟨ph, fun _ => ⟨fun _ _ => ⟨hv, fun _ => hv⟩, fun _ q => absurd q n21⟩⟩, ?_⟩
    by_cases h10 : 10 ≤ j
    · have e1 : (nI j = 10 + nI so) ↔ j = 10 + so := by
        rw [show (10 : Int32) + nI so = nI (10 + so) from nI_add 10 so, nI_inj (by omega) (by omega)]
      have e2 : (nI so = nI j - 10) ↔ j = 10 + so := by
        rw [show nI j - 10 = nI (j - 10) from nI_subc h10, nI_inj (by omega) (by omega)]
        omega
      rw [if_pos (j4.mpr h10), if_pos rfl]
      by_cases q : j = 10 + so
      · rw [if_pos (e1.mpr q), if_pos (e2.mpr q)]
      · rw [if_neg (fun z => q (e1.mp z)), if_neg (fun z => q (e2.mp z))]
    · have e1 : ¬ nI j = 10 + nI so := by
        rw [show (10 : Int32) + nI so = nI (10 + so) from nI_add 10 so, nI_inj (by omega) (by omega)]
        omega
      rw [if_neg (fun q => h10 (j4.mp q)), if_neg n21, if_neg e1]
  · rw [if_neg a3, if_neg a1, a2, if_pos p00]
    exact ⟨fun _ => ⟨fun _ _ q => absurd q a1, fun _ _ _ q => absurd q a1⟩, fun _ _ _ => ⟨ph, fun q => absurd rfl q⟩, rfl⟩
