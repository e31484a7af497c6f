/-! A TOWN of the class (at place b) and the reference's row s hold the same, with n airs -/
def HO (x : Int32) : Prop := ∃ k, k < 16 ∧ x = nI k
def WY (x : Int32) : Prop := ∃ k, k < 4 ∧ x = nI k
def KD (x : Int32) : Prop := ∃ k, k < 6 ∧ x = nI k
/-- one air: kind, force, errand, place -/
def RA (M : Mem) (b : Nat) (s : Nat → Int32) (i : Nat) : Prop :=
  M (b + 3) i = s (24 + 4 * i) ∧ M (b + 4) i = s (24 + 4 * i + 1) ∧ M (b + 5) i = s (24 + 4 * i + 2) ∧ M (b + 6) i = s (24 + 4 * i + 3) ∧ KD (s (24 + 4 * i)) ∧ HO (s (24 + 4 * i + 2)) ∧ HO (s (24 + 4 * i + 3))
/-- what is common to all airs: step, wind, laws -/
def RC (M : Mem) (b : Nat) (s : Nat → Int32) : Prop :=
  M b 7 = s 1 ∧ (M b 8 = s 3 ∧ WY (s 3)) ∧ (∀ k, k < 4 → M (b + 1) k = s (4 + k)) ∧ (∃ k, 1 ≤ k ∧ k ≤ 9 ∧ s 4 = nI k) ∧ (∃ k, k ≤ 99 ∧ s 7 = nI k)
def R (M : Mem) (b : Nat) (s : Nat → Int32) (n : Nat) : Prop :=
  n ≤ 8 ∧ (M b 6 = nI n ∧ s 0 = nI n) ∧ M b 9 = s 2 ∧ (∀ h, h < 16 → M (b + 2) h = s (8 + h)) ∧ RC M b s ∧ ∀ i, i < n → RA M b s i
/-! how the reference reads its row -/
theorem its0 {M : Mem} {o : Nat} (h : o < 8) : mX6_its (nI o) 0 M = M 47 (24 + 4 * o) := by unfold mX6_its; rw [ix0 o h]
theorem its1 {M : Mem} {o : Nat} (h : o < 8) : mX6_its (nI o) 1 M = M 47 (24 + 4 * o + 1) := by unfold mX6_its; rw [ix1 o h]
theorem its2 {M : Mem} {o : Nat} (h : o < 8) : mX6_its (nI o) 2 M = M 47 (24 + 4 * o + 2) := by unfold mX6_its; rw [ix2 o h]
theorem its3 {M : Mem} {o : Nat} (h : o < 8) : mX6_its (nI o) 3 M = M 47 (24 + 4 * o + 3) := by unfold mX6_its; rw [ix3 o h]
/-! where one goes, how much it wets: both the same -/
def wayC (k f e a w st sy : Int32) : Int32 :=
  if k = 1 then (if sy ≤ f then w else 4) else if k = 2 then (if irem st 2 = 0 then w else 4) else if k = 3 then towC a e else if k = 4 then (if irem st 4 = 0 then w else towC a e) else if k = 5 then 4 else w
/-- the place where one is behind a step, by the way that it would go -/
def movC (a w : Int32) : Int32 := mX5_nextHouse a w
theorem irem_42 {x : Int32} (h : irem x 4 = 0) : irem x 2 = 0 := by
  unfold irem at h ⊢
  rw [irem_eq_mod] at h ⊢
  have h1 := congrArg Int32.toInt h
  rw [Int32.toInt_mod] at h1
  apply Int32.toInt_inj.mp
  rw [Int32.toInt_mod]
  have e4 : (4 : Int32).toInt = 4 := by decide
  have e2 : (2 : Int32).toInt = 2 := by decide
  have e0 : (0 : Int32).toInt = 0 := by decide
  rw [e4, e0] at h1
  rw [e2, e0]
  have q1 := Int.mul_tdiv_add_tmod x.toInt 4
  have q2 := Int.mul_tdiv_add_tmod x.toInt 2
  have q3 := tmod_bounds (a := x.toInt) (M := 2) (by decide)
  rw [h1] at q1
  omega
theorem wayWanted_eq {M : Mem} {b : Nat} {s : Nat → Int32} {o : Nat} (ho : o < 8) (hC : RC M b s) (hA : RA M b s o) :
    mX4_wayWanted b (nI o) M = wayC (s (24 + 4 * o)) (s (24 + 4 * o + 1)) (s (24 + 4 * o + 2)) (s (24 + 4 * o + 3)) (s 3) (s 1) (s 6) ∧ PX4_wayWanted b (nI o) M := by
  obtain ⟨h1, h2, h3, h4, h5, ⟨g, hg, eg⟩, ⟨h, hh, eh⟩⟩ := hA
  obtain ⟨c1, ⟨c2, -⟩, c3, -⟩ := hC
  have hv : vp_in (nI o) 8 := vin ho (by decide)
  have c36 := c3 2 (by decide)
  constructor
  · unfold mX4_wayWanted mX4_wayOfFog
    rw [nIc (by omega), h1, h2, h3, h4, c1, c2, c36, eg, eh, tow_pair h hh g hg]
    unfold wayC
    by_cases k1 : s (24 + 4 * o) = 1
    · simp [k1]
    · by_cases k2 : s (24 + 4 * o) = 2
      · simp [k2]
      · by_cases k3 : s (24 + 4 * o) = 3
        · simp [k3]
        · by_cases k4 : s (24 + 4 * o) = 4
          · by_cases q : irem (s 1) 4 = 0
            · simp [k4, q, irem_42 q]
            · simp [k4, q]
          · simp [k1, k2, k3, k4]
  · unfold PX4_wayWanted
    simp [hv]
theorem wayC_in {M : Mem} {b : Nat} {s : Nat → Int32} {o : Nat} (hC : RC M b s) (hA : RA M b s o) {w : Int32} (hw : w = wayC (s (24 + 4 * o)) (s (24 + 4 * o + 1)) (s (24 + 4 * o + 2)) (s (24 + 4 * o + 3)) (s 3) (s 1) (s 6)) : ∃ k, k < 5 ∧ w = nI k := by
  obtain ⟨h1, h2, h3, h4, h5, ⟨g, hg, eg⟩, ⟨h, hh, eh⟩⟩ := hA
  obtain ⟨c1, ⟨c2, ⟨v, hv, ev⟩⟩, -⟩ := hC
  have t := tow_in h hh g hg
  subst hw
  rw [eg, eh, ev]
  unfold wayC
  have f4 : ∃ k, k < 5 ∧ (4 : Int32) = nI k := ⟨4, by decide, rfl⟩
  have fv : ∃ k, k < 5 ∧ nI v = nI k := ⟨v, by omega, rfl⟩
  have ft : ∃ k, k < 5 ∧ towC (nI h) (nI g) = nI k := ⟨_, t.1, t.2⟩
  repeat' split
  all_goals first | exact f4 | exact fv | exact ft
/-- a way is none, or leads out, or on: what the class's goes() answers, and where it leads -/
def goC (a w : Int32) : Int32 := if mX5_nextHouse a w = a then 4 else w
theorem goes_eq {M : Mem} {b : Nat} {s : Nat → Int32} {o : Nat} (ho : o < 8) (hC : RC M b s) (hA : RA M b s o) :
    mX4_goes b (nI o) M = goC (s (24 + 4 * o + 3)) (wayC (s (24 + 4 * o)) (s (24 + 4 * o + 1)) (s (24 + 4 * o + 2)) (s (24 + 4 * o + 3)) (s 3) (s 1) (s 6)) ∧ PX4_goes b (nI o) M := by
  obtain ⟨e, p⟩ := wayWanted_eq ho hC hA
  have hv : vp_in (nI o) 8 := vin ho (by decide)
  refine ⟨?_, p, hv, hv⟩
  unfold mX4_goes goC
  rw [e, nIc (by omega), hA.2.2.2.1]
theorem goC_eq {a w : Int32} (ha : HO a) (hw : ∃ k, k < 5 ∧ w = nI k) : goC a w = (if w = 4 then 4 else if mX6_nextBy a w < 0 then 4 else w) ∧ mX5_nextHouse a (goC a w) = mX5_nextHouse a w ∧ (¬ goC a w = 4 → mX5_nextHouse a w = mX6_nextBy a (goC a w)) ∧ (goC a w = 4 → mX5_nextHouse a w = a) := by
  obtain ⟨h, hh, rfl⟩ := ha
  obtain ⟨k, hk, rfl⟩ := hw
  revert k h
  decide
theorem wayOf_eq {N : Mem} {s : Nat → Int32} {o : Nat} (ho : o < 8) (hs : N 47 = s) (ha : HO (s (24 + 4 * o + 3))) (hw : ∃ k, k < 5 ∧ wayC (s (24 + 4 * o)) (s (24 + 4 * o + 1)) (s (24 + 4 * o + 2)) (s (24 + 4 * o + 3)) (s 3) (s 1) (s 6) = nI k) :
    mX6_wayOf (nI o) N = goC (s (24 + 4 * o + 3)) (wayC (s (24 + 4 * o)) (s (24 + 4 * o + 1)) (s (24 + 4 * o + 2)) (s (24 + 4 * o + 3)) (s 3) (s 1) (s 6)) := by
  rw [(goC_eq ha hw).1]
  have et : mX6_towards (nI o) N = towC (s (24 + 4 * o + 3)) (s (24 + 4 * o + 2)) := by
    unfold mX6_towards towC
    rw [its3 ho, its2 ho, hs]
  have e147 : ∀ z, mX6_wayOf_147 (nI o) z N = (if z = 4 then 4 else if mX6_nextBy (s (24 + 4 * o + 3)) z < 0 then 4 else z) := by
    intro z
    unfold mX6_wayOf_147 mX6_wayOf_165
    rw [its3 ho, hs]
    by_cases z4 : z = 4
    · simp [z4]
    · rw [if_neg z4, if_neg z4]
      by_cases q : mX6_nextBy (s (24 + 4 * o + 3)) z < 0
      · rw [if_neg (Int32.not_le.mpr q), if_pos q]
      · rw [if_pos (Int32.not_lt.mp q), if_neg q]
  unfold mX6_wayOf mX6_wayOf_70 mX6_wayOf_95 mX6_wayOf_133
  simp only [e147, et, its0 ho, its1 ho, hs]
  unfold wayC
  by_cases k1 : s (24 + 4 * o) = 1
  · simp only [k1, if_true]
    split <;> rfl
  · by_cases k2 : s (24 + 4 * o) = 2
    · simp only [k2, if_true]
      by_cases q : irem (s 1) 2 = 0 <;> simp [q]
    · by_cases k3 : s (24 + 4 * o) = 3
      · simp [k3]
      · by_cases k4 : s (24 + 4 * o) = 4
        · by_cases q : irem (s 1) 4 = 0 <;> simp [k4, q]
        · by_cases k5 : s (24 + 4 * o) = 5
          · simp [k5]
          · simp [k1, k2, k3, k4, k5]
/-! how much one wets -/
def wetC (k f e a : Int32) : Int32 := if k = 1 then 1 + f else if k = 2 then 1 else if k = 3 then (if a = e then 2 * (1 + f) else 1 + f) else if k = 4 then 1 + f / 3 else if k = 5 then 0 - f else 0
theorem neg_sub0 (x : Int32) : -x = 0 - x := by rw [Int32.zero_sub]
theorem wets_eq {M : Mem} {b : Nat} {s : Nat → Int32} {o : Nat} (ho : o < 8) (hA : RA M b s o) : mX4_wets b (nI o) M = wetC (s (24 + 4 * o)) (s (24 + 4 * o + 1)) (s (24 + 4 * o + 2)) (s (24 + 4 * o + 3)) ∧ PX4_wets b (nI o) M := by
  obtain ⟨h1, h2, h3, h4, -⟩ := hA
  have hv : vp_in (nI o) 8 := vin ho (by decide)
  constructor
  · unfold mX4_wets wetC
    rw [nIc (by omega), h1, h2, h3, h4]
    simp only [neg_sub0]
  · unfold PX4_wets
    simp [hv]
theorem wets_eq6 {N : Mem} {s : Nat → Int32} {o : Nat} (ho : o < 8) (hs : N 47 = s) : mX6_wets (nI o) N = wetC (s (24 + 4 * o)) (s (24 + 4 * o + 1)) (s (24 + 4 * o + 2)) (s (24 + 4 * o + 3)) := by
  unfold mX6_wets wetC
  rw [its0 ho, its1 ho, its2 ho, its3 ho, hs]
theorem held_eq (v : Int32) : mX5_held v 99 = mX6_bounded v 99 := by
  unfold mX5_held mX6_bounded imax imin
  have e0 : (0 : Int32).toInt = 0 := by decide
  have e9 : (99 : Int32).toInt = 99 := by decide
  simp only [Int32.lt_iff_toInt_lt, Int32.le_iff_toInt_le, e0, e9]
  repeat' split
  all_goals first | rfl | omega | (apply Int32.toInt_inj.mp; omega)
/-! what changes one number of both, keeps them the same -/
theorem R.wind {M : Mem} {b : Nat} {s : Nat → Int32} {n : Nat} {w : Int32} (h : R M b s n) (hw : WY w) : R (upm M b 8 w) b (upd s 3 w) n := by
  obtain ⟨h1, ⟨h2, h3⟩, h4, h5, ⟨c1, ⟨c2, c3⟩, c4, c5, c6⟩, h6⟩ := h
  refine ⟨h1, ⟨by simpa [upm, upd] using h2, by simpa [upd] using h3⟩, by simpa [upm, upd] using h4, fun k hk => ?_, ⟨by simpa [upm, upd] using c1, ⟨by simp [upm, upd], by simpa [upd] using hw⟩, fun k hk => ?_, ?_, ?_⟩, fun i hi => ?_⟩
  · simpa [upm, upd, show ¬ 8 + k = 3 by omega] using h5 k hk
  · simpa [upm, upd, show ¬ 4 + k = 3 by omega] using c4 k hk
  · simpa [upd] using c5
  · simpa [upd] using c6
  · simpa [RA, upm, upd, show ¬ 24 + 4 * i = 3 by omega, show ¬ 24 + 4 * i + 1 = 3 by omega, show ¬ 24 + 4 * i + 2 = 3 by omega, show ¬ 24 + 4 * i + 3 = 3 by omega] using h6 i hi
theorem R.step {M : Mem} {b : Nat} {s : Nat → Int32} {n : Nat} {w : Int32} (h : R M b s n) : R (upm M b 7 w) b (upd s 1 w) n := by
  obtain ⟨h1, ⟨h2, h3⟩, h4, h5, ⟨c1, ⟨c2, c3⟩, c4, c5, c6⟩, h6⟩ := h
  refine ⟨h1, ⟨by simpa [upm, upd] using h2, by simpa [upd] using h3⟩, by simpa [upm, upd] using h4, fun k hk => ?_, ⟨by simp [upm, upd], ⟨by simpa [upm, upd] using c2, by simpa [upd] using c3⟩, fun k hk => ?_, ?_, ?_⟩, fun i hi => ?_⟩
  · simpa [upm, upd, show ¬ 8 + k = 1 by omega] using h5 k hk
  · simpa [upm, upd, show ¬ 4 + k = 1 by omega] using c4 k hk
  · simpa [upd] using c5
  · simpa [upd] using c6
  · simpa [RA, upm, upd, show ¬ 24 + 4 * i = 1 by omega, show ¬ 24 + 4 * i + 1 = 1 by omega, show ¬ 24 + 4 * i + 2 = 1 by omega, show ¬ 24 + 4 * i + 3 = 1 by omega] using h6 i hi
theorem R.zed {M : Mem} {b : Nat} {s : Nat → Int32} {n : Nat} {w : Int32} (h : R M b s n) : R (upm M b 9 w) b (upd s 2 w) n := by
  obtain ⟨h1, ⟨h2, h3⟩, h4, h5, ⟨c1, ⟨c2, c3⟩, c4, c5, c6⟩, h6⟩ := h
  refine ⟨h1, ⟨by simpa [upm, upd] using h2, by simpa [upd] using h3⟩, by simp [upm, upd], fun k hk => ?_, ⟨by simpa [upm, upd] using c1, ⟨by simpa [upm, upd] using c2, by simpa [upd] using c3⟩, fun k hk => ?_, ?_, ?_⟩, fun i hi => ?_⟩
  · simpa [upm, upd, show ¬ 8 + k = 2 by omega] using h5 k hk
  · simpa [upm, upd, show ¬ 4 + k = 2 by omega] using c4 k hk
  · simpa [upd] using c5
  · simpa [upd] using c6
  · simpa [RA, upm, upd, show ¬ 24 + 4 * i = 2 by omega, show ¬ 24 + 4 * i + 1 = 2 by omega, show ¬ 24 + 4 * i + 2 = 2 by omega, show ¬ 24 + 4 * i + 3 = 2 by omega] using h6 i hi
theorem R.wet {M : Mem} {b : Nat} {s : Nat → Int32} {n q : Nat} {w : Int32} (h : R M b s n) (hq : q < 16) : R (upm M (b + 2) q w) b (upd s (8 + q) w) n := by
  obtain ⟨h1, ⟨h2, h3⟩, h4, h5, ⟨c1, ⟨c2, c3⟩, c4, c5, c6⟩, h6⟩ := h
  refine ⟨h1, ⟨by simpa [upm, upd] using h2, by simpa [upd, show ¬ 0 = 8 + q by omega] using h3⟩, by simpa [upm, upd, show ¬ 2 = 8 + q by omega] using h4, fun k hk => ?_, ⟨by simpa [upm, upd, show ¬ 1 = 8 + q by omega] using c1, ⟨by simpa [upm, upd, show ¬ 3 = 8 + q by omega] using c2, by simpa [upd, show ¬ 3 = 8 + q by omega] using c3⟩, fun k hk => ?_, ?_, ?_⟩, fun i hi => ?_⟩
  · by_cases e : k = q
    · simp [upm, upd, e]
    · simpa [upm, upd, e] using h5 k hk
  · simpa [upm, upd, show ¬ 4 + k = 8 + q by omega] using c4 k hk
  · simpa [upd, show ¬ 4 = 8 + q by omega] using c5
  · simpa [upd, show ¬ 7 = 8 + q by omega] using c6
  · simpa [RA, upm, upd, show ¬ 24 + 4 * i = 8 + q by omega, show ¬ 24 + 4 * i + 1 = 8 + q by omega, show ¬ 24 + 4 * i + 2 = 8 + q by omega, show ¬ 24 + 4 * i + 3 = 8 + q by omega] using h6 i hi
theorem R.law {M : Mem} {b : Nat} {s : Nat → Int32} {n q : Nat} {w : Int32} (h : R M b s n) (hq : q < 4) (h0 : q = 0 → ∃ k, 1 ≤ k ∧ k ≤ 9 ∧ w = nI k) (h3 : q = 3 → ∃ k, k ≤ 99 ∧ w = nI k) : R (upm M (b + 1) q w) b (upd s (4 + q) w) n := by
  obtain ⟨h1, ⟨h2, hz⟩, h4, h5, ⟨c1, ⟨c2, c3⟩, c4, c5, c6⟩, h6⟩ := h
  refine ⟨h1, ⟨by simpa [upm, upd] using h2, by simpa [upd, show ¬ 0 = 4 + q by omega] using hz⟩, by simpa [upm, upd, show ¬ 2 = 4 + q by omega] using h4, fun k hk => ?_, ⟨by simpa [upm, upd, show ¬ 1 = 4 + q by omega] using c1, ⟨by simpa [upm, upd, show ¬ 3 = 4 + q by omega] using c2, by simpa [upd, show ¬ 3 = 4 + q by omega] using c3⟩, fun k hk => ?_, ?_, ?_⟩, fun i hi => ?_⟩
  · simpa [upm, upd, show ¬ 8 + k = 4 + q by omega] using h5 k hk
  · by_cases e : k = q
    · simp [upm, upd, e]
    · simpa [upm, upd, e] using c4 k hk
  · by_cases e : q = 0
    · simpa [upd, e] using h0 e
    · rw [upd_ne (show 4 ≠ 4 + q by omega)]; exact c5
  · by_cases e : q = 3
    · simpa [upd, e] using h3 e
    · rw [upd_ne (show 7 ≠ 4 + q by omega)]; exact c6
  · simpa [RA, upm, upd, show ¬ 24 + 4 * i = 4 + q by omega, show ¬ 24 + 4 * i + 1 = 4 + q by omega, show ¬ 24 + 4 * i + 2 = 4 + q by omega, show ¬ 24 + 4 * i + 3 = 4 + q by omega] using h6 i hi
/-- of one air, one thing (j: 0 kind, 1 force, 2 errand, 3 place) -/
theorem R.air {M : Mem} {b : Nat} {s : Nat → Int32} {n o j : Nat} {w : Int32} (h : R M b s n) (ho : o < n) (hj : j < 4) (h0 : j = 0 → KD w) (h2 : 2 ≤ j → HO w) : R (upm M (b + 3 + j) o w) b (upd s (24 + 4 * o + j) w) n := by
  obtain ⟨h1, ⟨g2, g3⟩, h4, h5, ⟨c1, ⟨c2, c3⟩, c4, c5, c6⟩, h6⟩ := h
  have nb : ∀ z, z ≤ 2 → ¬ b + z = b + 3 + j := by omega
  have ns : ∀ z, z < 24 → ¬ z = 24 + 4 * o + j := by omega
  have nb0 : ¬ b = b + 3 + j := by omega
  refine ⟨h1, ⟨by simpa [upm, upd, nb0] using g2, by simpa [upd, ns 0 (by decide)] using g3⟩, by simpa [upm, upd, nb0, ns 2 (by decide)] using h4, fun k hk => ?_, ⟨by simpa [upm, upd, nb0, ns 1 (by decide)] using c1, ⟨by simpa [upm, upd, nb0, ns 3 (by decide)] using c2, by simpa [upd, ns 3 (by decide)] using c3⟩, fun k hk => ?_, ?_, ?_⟩, fun i hi => ?_⟩
  · simpa [upm, upd, nb 2 (by decide), ns (8 + k) (by omega)] using h5 k hk
  · simpa [upm, upd, nb 1 (by decide), ns (4 + k) (by omega)] using c4 k hk
  · simpa [upd, ns 4 (by decide)] using c5
  · simpa [upd, ns 7 (by decide)] using c6
  · obtain ⟨a1, a2, a3, a4, a5, a6, a7⟩ := h6 i hi
    have it : ∀ t, t < 4 → M (b + 3 + t) i = s (24 + 4 * i + t) → upm M (b + 3 + j) o w (b + 3 + t) i = upd s (24 + 4 * o + j) w (24 + 4 * i + t) := by
      intro t ht e
      by_cases hj2 : t = j
      · subst hj2
        rw [upm_at]
        by_cases hi2 : i = o
        · subst hi2; rw [upd_at, upd_at]
        · rw [upd_ne hi2, upd_ne (show 24 + 4 * i + t ≠ 24 + 4 * o + t by omega)]; exact e
      · rw [upm_ne (show b + 3 + t ≠ b + 3 + j by omega), upd_ne (show 24 + 4 * i + t ≠ 24 + 4 * o + j by omega)]; exact e
    have iu : ∀ (Q : Int32 → Prop) t, t < 4 → Q (s (24 + 4 * i + t)) → (t = j → Q w) → Q (upd s (24 + 4 * o + j) w (24 + 4 * i + t)) := by
      intro Q t ht e hw
      by_cases hz : 24 + 4 * i + t = 24 + 4 * o + j
      · rw [hz, upd_at]; exact hw (by omega)
      · rw [upd_ne hz]; exact e
    exact ⟨it 0 (by decide) a1, it 1 (by decide) a2, it 2 (by decide) a3, it 3 (by decide) a4, iu KD 0 (by decide) a5 (fun e => h0 e.symm), iu HO 2 (by decide) a6 (fun e => h2 (by omega)), iu HO 3 (by decide) a7 (fun e => h2 (by omega))⟩
/-! the wind turns -/
def turnS (s : Nat → Int32) : Nat → Int32 := if s 1 ≤ 0 then s else if irem (s 1) (s 4) = 0 then upd s 3 (irem (s 3 + 1) 4) else s
theorem turn_R {M : Mem} {b : Nat} {s : Nat → Int32} {n : Nat} (h : R M b s n) : R (mX4_turnWind b M) b (turnS s) n ∧ PX4_turnWind b M ∧ (∀ p, p ≠ b → mX4_turnWind b M p = M p) := by
  have hh := h
  obtain ⟨h1, ⟨h2, h3⟩, h4, h5, ⟨c1, ⟨c2, ⟨v, hv, ev⟩⟩, c4, ⟨k, k1, k9, ek⟩, c6⟩, h6⟩ := h
  have l0 : M (b + 1) 0 = nI k := (c4 0 (by decide)).trans ek
  have hk : ¬ nI k ≤ 0 := nI_nle (by omega) (by omega)
  have hk0 : ¬ nI k = 0 := nI_ne0 (by omega) (by omega)
  have hw := wind_in v hv
  have hwy : WY (irem (s 3 + 1) 4) := by rw [ev]; exact ⟨_, hw.1, hw.2⟩
  refine ⟨?_, ?_, ?_⟩
  · unfold mX4_turnWind turnS
    rw [l0, c1, c2, ek]
    by_cases q : s 1 ≤ 0
    · simpa [q] using hh
    · rw [if_neg q, if_neg hk, if_neg q]
      by_cases r : irem (s 1) (nI k) = 0
      · rw [if_pos r, if_pos r]; exact hh.wind hwy
      · rw [if_neg r, if_neg r]; exact hh
  · unfold PX4_turnWind
    rw [l0]
    exact fun _ _ => hk0
  · intro p hp
    unfold mX4_turnWind
    repeat' split
    all_goals first | rfl | exact upm_ne hp
