/-! QUESTIONS: of, house, state, row, trace -/
theorem ok_of {M : Mem} (a c : Int32) (h : Inv M) : OKq (PX5_of a c) (mX5_of a c) (PX6_of a c) (mX6_of a c) M := by
  obtain ⟨n, hR⟩ := h.1
  have hn := hR.1
  obtain ⟨e1, e2⟩ := has_eq (M := M) (N := M) (b := 1) (a := a) hR.2.1.1 hR.2.1.2 hn
  have ei : mX6_isIn c.toInt64 0 5 = mX5_isWithin c 0 5 := isIn_eq c 0 5
  unfold OKq mX5_of mX6_of PX5_of PX6_of
  rw [ei, ← e1]
  by_cases hh : mX4_has 1 a M = true
  · obtain ⟨o, ho, rfl⟩ := e2 hh
    have h8 : o < 8 := by omega
    have hv : vp_in (nI o) 8 := vin h8 (by decide)
    have w6 := wayOf_eq (N := M) h8 rfl (hR.gs.ho ho) (hR.gs.way ho)
    obtain ⟨g5, gp⟩ := goes_eq (b := 1) h8 hR.rc (hR.ra ho)
    obtain ⟨x5, xp⟩ := wets_eq (b := 1) h8 (hR.ra ho)
    have x6 := wets_eq6 (N := M) (s := M 47) h8 rfl
    obtain ⟨r1, r2, r3, r4, -⟩ := hR.ra ho
    rw [if_pos hh, if_pos hh]
    by_cases hc : mX5_isWithin c 0 5 = true
    · obtain ⟨k, hk, rfl⟩ := within_n (m := 5) (by decide) hc
      rw [if_pos hc]
      rcases (show k = 0 ∨ k = 1 ∨ k = 2 ∨ k = 3 ∨ k = 4 ∨ k = 5 by omega) with rfl | rfl | rfl | rfl | rfl | rfl
      · refine ⟨fun _ => ⟨fun _ => hv, fun q => absurd rfl q⟩, fun _ _ => ⟨fun q => absurd q (by decide), fun _ => ixn0 o h8⟩, ?_⟩
        rw [if_pos (show nI 0 = 0 from rfl), if_neg (by decide), nIc (by omega)]
        exact r1.trans (its0 h8).symm
      · refine ⟨fun _ => ⟨fun q => absurd q (by decide), fun _ => ⟨fun _ => hv, fun q => absurd rfl q⟩⟩, fun _ _ => ⟨fun q => absurd q (by decide), fun _ => ixn1 o h8⟩, ?_⟩
        rw [if_neg (by decide), if_pos (show nI 1 = 1 from rfl), if_neg (by decide), nIc (by omega)]
        exact r2.trans (its1 h8).symm
      · refine ⟨fun _ => ⟨fun q => absurd q (by decide), fun _ => ⟨fun q => absurd q (by decide), fun _ => ⟨fun _ => hv, fun q => absurd rfl q⟩⟩⟩, fun _ _ => ⟨fun q => absurd q (by decide), fun _ => ixn2 o h8⟩, ?_⟩
        rw [if_neg (by decide), if_neg (by decide), if_pos (show nI 2 = 2 from rfl), if_neg (by decide), nIc (by omega)]
        exact r3.trans (its2 h8).symm
      · refine ⟨fun _ => ⟨fun q => absurd q (by decide), fun _ => ⟨fun q => absurd q (by decide), fun _ => ⟨fun q => absurd q (by decide), fun _ => ⟨fun _ => hv, fun q => absurd rfl q⟩⟩⟩⟩, fun _ _ => ⟨fun q => absurd q (by decide), fun _ => ixn3 o h8⟩, ?_⟩
        rw [if_neg (by decide), if_neg (by decide), if_neg (by decide), if_pos (show nI 3 = 3 from rfl), if_neg (by decide), nIc (by omega)]
        exact r4.trans (its3 h8).symm
      · refine ⟨fun _ => ⟨fun q => absurd q (by decide), fun _ => ⟨fun q => absurd q (by decide), fun _ => ⟨fun q => absurd q (by decide), fun _ => ⟨fun q => absurd q (by decide), fun _ => ⟨fun _ => gp, fun q => absurd rfl q⟩⟩⟩⟩⟩, fun _ _ => ⟨fun _ => ⟨fun _ => pwayOf h8, fun q => absurd rfl q⟩, fun q => absurd (by decide) q⟩, ?_⟩
        rw [if_neg (by decide), if_neg (by decide), if_neg (by decide), if_neg (by decide), if_pos (show nI 4 = 4 from rfl), if_pos (by decide), if_pos (show nI 4 = 4 from rfl), g5]
        exact w6.symm
      · refine ⟨fun _ => ⟨fun q => absurd q (by decide), fun _ => ⟨fun q => absurd q (by decide), fun _ => ⟨fun q => absurd q (by decide), fun _ => ⟨fun q => absurd q (by decide), fun _ => ⟨fun q => absurd q (by decide), fun _ _ => xp⟩⟩⟩⟩⟩, fun _ _ => ⟨fun _ => ⟨fun q => absurd q (by decide), fun _ => pwets h8⟩, fun q => absurd (by decide) q⟩, ?_⟩
        rw [if_neg (by decide), if_neg (by decide), if_neg (by decide), if_neg (by decide), if_neg (by decide), if_pos (show nI 5 = 5 from rfl), if_pos (by decide), if_neg (by decide), x5, x6]
    · rw [if_neg hc]
      have ne : ∀ k, k ≤ 5 → ¬ c = nI k := fun k hk q => hc (by rw [q]; exact n_within (m := 5) (by decide) hk)
      have n0 : ¬ c = 0 := ne 0 (by decide)
      have n1 : ¬ c = 1 := ne 1 (by decide)
      have n2 : ¬ c = 2 := ne 2 (by decide)
      have n3 : ¬ c = 3 := ne 3 (by decide)
      have n4 : ¬ c = 4 := ne 4 (by decide)
      have n5 : ¬ c = 5 := ne 5 (by decide)
      rw [if_neg n0, if_neg n1, if_neg n2, if_neg n3, if_neg n4, if_neg n5]
      exact ⟨fun _ => ⟨fun q => absurd q n0, fun _ => ⟨fun q => absurd q n1, fun _ => ⟨fun q => absurd q n2, fun _ => ⟨fun q => absurd q n3, fun _ => ⟨fun q => absurd q n4, fun _ q => absurd q n5⟩⟩⟩⟩⟩, fun _ q => absurd q hc, rfl⟩
  · rw [if_neg hh, if_neg hh]
    exact ⟨fun q => absurd q hh, fun q => absurd q hh, rfl⟩
theorem ok_house {M : Mem} (a c : Int32) (h : Inv M) : OKq (PX5_house a c) (mX5_house a c) (PX6_house a c) (mX6_house a c) M := by
  obtain ⟨n, hR⟩ := h.1
  have ei : mX6_isIn c.toInt64 0 1 = mX5_isWithin c 0 1 := isIn_eq c 0 1
  unfold OKq mX5_house mX6_house PX5_house PX6_house
  rw [ei, ← isHouse_eq a]
  by_cases hh : mX5_isHouse a = true
  · obtain ⟨g, hg, rfl⟩ := house_n hh
    obtain ⟨t1, t2, t3⟩ := thoseAt_eq (N := M) hR rfl (nI g)
    rw [if_pos hh, if_pos hh]
    by_cases hc : mX5_isWithin c 0 1 = true
    · obtain ⟨k, hk, rfl⟩ := within_n (m := 1) (by decide) hc
      rw [if_pos hc]
      rcases (show k = 0 ∨ k = 1 by omega) with rfl | rfl
      · refine ⟨fun _ => ⟨fun _ => vin hg (by decide), fun q => absurd rfl q⟩, fun _ _ => ⟨fun _ => ixnw g hg, fun q => absurd rfl q⟩, ?_⟩
        rw [if_pos (show nI 0 = 0 from rfl), if_pos (show nI 0 = 0 from rfl), nIc (by omega), ixw g hg]
        exact hR.2.2.2.1 g hg
      · refine ⟨fun _ => ⟨fun q => absurd q (by decide), fun _ _ => t2⟩, fun _ _ => ⟨fun q => absurd q (by decide), fun _ => t3⟩, ?_⟩
        rw [if_neg (by decide), if_pos (show nI 1 = 1 from rfl), if_neg (by decide), t1]
    · rw [if_neg hc]
      have n0 : ¬ c = 0 := fun q => hc (by rw [q]; decide)
      have n1 : ¬ c = 1 := fun q => hc (by rw [q]; decide)
      rw [if_neg n0, if_neg n1]
      exact ⟨fun _ => ⟨fun q => absurd q n0, fun _ q => absurd q n1⟩, fun _ q => absurd q hc, rfl⟩
  · rw [if_neg hh, if_neg hh]
    exact ⟨fun q => absurd q hh, fun q => absurd q hh, rfl⟩
theorem ok_state {M : Mem} (a : Int32) (h : Inv M) : OKq (PX5_state a) (mX5_state a) (PX6_state a) (mX6_state a) M := by
  obtain ⟨n, hR⟩ := h.1
  obtain ⟨w1, w2, w3⟩ := wetAll_eq (N := M) hR rfl
  obtain ⟨u1, u2, u3⟩ := inUse_eq (N := M) hR rfl
  obtain ⟨s1, s2, s3⟩ := errands_eq (N := M) hR rfl
  have ed : M 2 1 = M 47 5 := hR.rc.2.2.1 1 (by decide)
  obtain ⟨b1, b2, b3⟩ := wetBy_eq (N := M) hR rfl (M 47 5)
  unfold OKq mX5_state mX6_state PX5_state PX6_state
  rw [ed, w1, u1, s1, b1, show M 1 7 = M 47 1 from hR.rc.1, show M 1 8 = M 47 3 from hR.rc.2.1.1]
  exact ⟨fun _ _ => ⟨fun _ => w2, fun _ => ⟨fun _ => u2, fun _ => ⟨fun _ => s2, fun _ _ => b2⟩⟩⟩, fun _ _ => ⟨fun _ => w3, fun _ => ⟨fun _ => u3, fun _ => ⟨fun _ => s3, fun _ _ => b3⟩⟩⟩, rfl⟩
/-- a place in a row of so many -/
theorem within_len {x : Int32} {n : Nat} (hn : n < 1000) (h : mX5_isWithin x 0 (nI n - 1) = true) : ∃ k, k < n ∧ x = nI k := by
  have hb := isWithin_iff.mp h
  have e1 : (nI n - 1).toInt = (n : Int) - 1 := by
    have : ∀ n, n < 1000 → (nI n - 1).toInt = (n : Int) - 1 := by decide +kernel
    exact this n hn
  have h1 := Int32.le_iff_toInt_le.mp hb.2
  rw [e1] at h1
  have h0 := clamp_nn hb.1
  refine ⟨x.toNatClampNeg, by omega, ?_⟩
  apply Int32.toInt_inj.mp
  rw [nI_toInt (by omega)]
  exact h0
theorem isRow_eq {M : Mem} (a c : Int32) (h : Inv M) : mX5_isRow a c M = mX6_isRow a c M ∧ (mX5_isRow a c M = true → ∃ i j rn, rn ≤ 10 ∧ i < rn ∧ j < 3 ∧ a = nI i ∧ c = nI j ∧ ∀ z, z < 3 * rn → M 28 z = M 56 z) := by
  obtain ⟨rn, h1, h2, h3, h4⟩ := h.2.2.2.1
  have ei := isIn_eq a 0 (M 46 17 - 1)
  have ej : mX6_isIn c.toInt64 0 2 = mX5_isWithin c 0 2 := isIn_eq c 0 2
  change mX6_isIn a.toInt64 0 (M 46 17 - 1).toInt64 = mX5_isWithin a 0 (M 46 17 - 1) at ei
  unfold mX5_isRow mX6_isRow
  rw [ei, ej, h2, h3]
  refine ⟨rfl, fun q => ?_⟩
  by_cases q1 : mX5_isWithin a 0 (nI rn - 1) = true
  · by_cases q2 : mX5_isWithin c 0 2 = true
    · obtain ⟨i, hi, rfl⟩ := within_len (by omega) q1
      obtain ⟨j, hj, rfl⟩ := within_n (m := 2) (by decide) q2
      exact ⟨i, j, rn, h1, hi, by omega, rfl, rfl, h4⟩
    · rw [if_pos q1, if_neg q2] at q; cases q
  · rw [if_neg q1] at q; cases q
theorem rix : ∀ i, i < 10 → ∀ j, j < 3 → (nI i * 3 + nI j).toNatClampNeg = 3 * i + j ∧ (3 * nI i + nI j).toNatClampNeg = 3 * i + j ∧ ¬ nI i * 3 + nI j < 0 ∧ ¬ 3 * nI i + nI j < 0 := by decide
theorem ok_row {M : Mem} (a c : Int32) (h : Inv M) : OKq (PX5_row a c) (mX5_row a c) (PX6_row a c) (mX6_row a c) M := by
  obtain ⟨e1, e2⟩ := isRow_eq a c h
  unfold OKq mX5_row mX6_row PX5_row PX6_row
  rw [← e1]
  by_cases q : mX5_isRow a c M = true
  · obtain ⟨i, j, rn, hr, hi, hj, rfl, rfl, he⟩ := e2 q
    obtain ⟨x1, x2, x3, x4⟩ := rix i (by omega) j hj
    rw [if_pos q, if_pos q, x1, x2]
    exact ⟨fun _ => vin_l x3 (by rw [x1]; omega), fun _ => vin_l x4 (by rw [x2]; omega), he _ (by omega)⟩
  · rw [if_neg q, if_neg q]
    exact ⟨fun z => absurd z q, fun z => absurd z q, rfl⟩
theorem ok_alterRow {M : Mem} (a c v : Int32) (h : Inv M) : OKm (PX5_alterRow a c v) (mX5_alterRow a c v) (PX6_alterRow a c v) (mX6_alterRow a c v) M := by
  obtain ⟨e1, e2⟩ := isRow_eq a c h
  unfold OKm mX5_alterRow mX6_alterRow PX5_alterRow PX6_alterRow
  by_cases q : mX5_isRow a c M = true
  · obtain ⟨i, j, rn, hr, hi, hj, rfl, rfl, he⟩ := e2 q
    obtain ⟨x1, x2, x3, x4⟩ := rix i (by omega) j hj
    have hv5 : vp_in (nI i * 3 + nI j) 30 := vin_l x3 (by rw [x1]; omega)
    have hv6 : vp_in (3 * nI i + nI j) 30 := vin_l x4 (by rw [x2]; omega)
    have q6 : mX6_isRow (nI i) (nI j) (upm M 28 (3 * i + j) v) = true := by
      rw [e1] at q
      unfold mX6_isRow at q ⊢
      rw [upm_ne (by decide)]
      exact q
    rw [if_pos q, x1, x2]
    simp only [q6, if_true]
    refine ⟨fun _ => ⟨hv5, hv5⟩, fun _ => ⟨hv6, hv6⟩, ?_, ?_⟩
    · rw [upm_ne (by decide)]
      exact he _ (by omega)
    · obtain ⟨b1, b2, b3, b4, b5, b6, b7⟩ := h
      have g : ∀ p, p ≠ 28 → p ≠ 56 → upm (upm M 28 (3 * i + j) v) 56 (3 * i + j) v p = M p := fun p h1 h2 => by rw [upm_ne h2, upm_ne h1]
      obtain ⟨n, hR⟩ := b1
      obtain ⟨rn', k1, k2, k3, k4⟩ := b4
      refine ⟨⟨n, hR.congr (fun j hj => g _ (by omega) (by omega)) (fun k _ => by rw [g 47 (by decide) (by decide)])⟩, ?_, ?_, ⟨rn', k1, by rw [g 0 (by decide) (by decide)]; exact k2, by rw [g 46 (by decide) (by decide)]; exact k3, fun z hz => ?_⟩, ?_, ?_, ?_⟩
      · unfold InvK at b2 ⊢
        rw [g 0 (by decide) (by decide), g 46 (by decide) (by decide)]
        exact ⟨b2.1, b2.2.imp id (fun ⟨a, m, b⟩ => ⟨a, m, b.congr (fun j hj => g _ (by omega) (by omega)) (fun k _ => by rw [g 48 (by decide) (by decide)])⟩)⟩
      · unfold InvT at b3 ⊢
        rw [g 22 (by decide) (by decide), g 46 (by decide) (by decide), g 23 (by decide) (by decide), g 51 (by decide) (by decide)]
        exact b3
      · rw [upm_ne (by decide), upm_at, upm_at, upm_ne (by decide)]
        by_cases ez : z = 3 * i + j
        · subst ez
          rw [upd_at, upd_at]
        · rw [upd_ne ez, upd_ne ez]
          exact k4 z hz
      · intro t ht
        rw [g (34 + 2 * t) (by omega) (by omega), g (34 + 2 * t + 1) (by omega) (by omega), g 57 (by decide) (by decide), g 58 (by decide) (by decide), g 59 (by decide) (by decide)]
        exact b5 t ht
      · intro t ht
        rw [g (42 + t) (by omega) (by omega), g 60 (by decide) (by decide), g 61 (by decide) (by decide), g 62 (by decide) (by decide)]
        exact b6 t ht
      · unfold InvA at b7 ⊢
        rw [g 26 (by decide) (by decide), g 46 (by decide) (by decide), g 27 (by decide) (by decide), g 63 (by decide) (by decide)]
        exact b7
  · rw [if_neg q]
    refine ⟨fun z => absurd z q, fun z => absurd (e1.trans z) q, ?_, ?_⟩
    · rw [← e1, if_neg q]
    · rw [← e1, if_neg q]; exact h
theorem ok_trace {M : Mem} (a : Int32) (h : Inv M) : OKq (PX5_trace a) (mX5_trace a) (PX6_trace a) (mX6_trace a) M := by
  obtain ⟨tr, h1, h2, h3, h4⟩ := h.2.2.2.2.2.2
  have ei := isIn_eq a 0 (M 46 25 - 1)
  change mX6_isIn a.toInt64 0 (M 46 25 - 1).toInt64 = mX5_isWithin a 0 (M 46 25 - 1) at ei
  unfold OKq mX5_trace mX6_trace PX5_trace PX6_trace
  rw [ei, h2, h3]
  by_cases q : mX5_isWithin a 0 (nI tr - 1) = true
  · obtain ⟨k, hk, rfl⟩ := within_len (by omega) q
    rw [if_pos q, if_pos q, nIc (by omega)]
    exact ⟨fun _ => vin (by omega) (by decide), fun _ => vin (by omega) (by decide), h4 k hk⟩
  · rw [if_neg q, if_neg q]
    exact ⟨fun z => absurd z q, fun z => absurd z q, rfl⟩
