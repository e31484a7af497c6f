/-! PURE PART: numbers -/
theorem nIc {k : Nat} (h : k < 2 ^ 31) : (nI k).toNatClampNeg = k := nI_clamp h
theorem vin {k n : Nat} (h : k < n) (hn : n < 2 ^ 31) : vp_in (nI k) n := nI_in h hn
theorem nI_le_iff {a b : Nat} (ha : a < 2 ^ 31) (hb : b < 2 ^ 31) : nI a ≤ nI b ↔ a ≤ b := by
  constructor
  · intro h
    rcases Nat.lt_or_ge b a with q | q
    · exact absurd h (nI_ge q ha)
    · exact q
  · intro h
    exact nI_le h hb
theorem nI_lt_iff {a b : Nat} (ha : a < 2 ^ 31) (hb : b < 2 ^ 31) : nI a < nI b ↔ a < b := by
  constructor
  · intro h
    rcases Nat.lt_or_ge a b with q | q
    · exact q
    · exact absurd h (nI_nlt q ha)
  · intro h
    exact nI_lt h hb
theorem nI_inj {a b : Nat} (ha : a < 2 ^ 31) (hb : b < 2 ^ 31) : nI a = nI b ↔ a = b := by
  constructor
  · intro h
    have h1 := congrArg Int32.toNatClampNeg h
    rwa [nIc ha, nIc hb] at h1
  · intro h; rw [h]
/-- a number in a range, as the count that it is -/
theorem nI_rg {x : Int32} {m : Nat} (hm : m < 2 ^ 31) (h0 : 0 ≤ x) (h1 : x ≤ nI m) : ∃ k, k ≤ m ∧ x = nI k := by
  have e := clamp_nn h0
  have h2 := Int32.le_iff_toInt_le.mp h1
  rw [nI_toInt hm, e] at h2
  refine ⟨x.toNatClampNeg, by omega, ?_⟩
  apply Int32.toInt_inj.mp
  rw [nI_toInt (by omega)]
  exact e
theorem ix0 : ∀ o, o < 8 → ((24 + (4 * nI o)) + 0).toNatClampNeg = 24 + 4 * o := by decide
theorem ix1 : ∀ o, o < 8 → ((24 + (4 * nI o)) + 1).toNatClampNeg = 24 + 4 * o + 1 := by decide
theorem ix2 : ∀ o, o < 8 → ((24 + (4 * nI o)) + 2).toNatClampNeg = 24 + 4 * o + 2 := by decide
theorem ix3 : ∀ o, o < 8 → ((24 + (4 * nI o)) + 3).toNatClampNeg = 24 + 4 * o + 3 := by decide
theorem ixk : ∀ o, o < 8 → (24 + (4 * nI o)).toNatClampNeg = 24 + 4 * o := by decide
theorem ixw : ∀ h, h < 16 → (8 + nI h).toNatClampNeg = 8 + h := by decide
theorem ixn0 : ∀ o, o < 8 → vp_in ((24 + (4 * nI o)) + 0) 56 := fun o h => vin_l (by revert o; decide) (by rw [ix0 o h]; omega)
theorem ixn1 : ∀ o, o < 8 → vp_in ((24 + (4 * nI o)) + 1) 56 := fun o h => vin_l (by revert o; decide) (by rw [ix1 o h]; omega)
theorem ixn2 : ∀ o, o < 8 → vp_in ((24 + (4 * nI o)) + 2) 56 := fun o h => vin_l (by revert o; decide) (by rw [ix2 o h]; omega)
theorem ixn3 : ∀ o, o < 8 → vp_in ((24 + (4 * nI o)) + 3) 56 := fun o h => vin_l (by revert o; decide) (by rw [ix3 o h]; omega)
theorem ixnk : ∀ o, o < 8 → vp_in (24 + (4 * nI o)) 56 := fun o h => vin_l (by revert o; decide) (by rw [ixk o h]; omega)
theorem ixnw : ∀ h, h < 16 → vp_in (8 + nI h) 56 := fun o h => vin_l (by revert o; decide) (by rw [ixw o h]; omega)
/-! the city of houses four by four -/
theorem next_pair : ∀ h, h < 16 → ∀ w, w < 4 → (mX6_nextBy (nI h) (nI w) < 0 → mX5_nextHouse (nI h) (nI w) = nI h) ∧ (¬ mX6_nextBy (nI h) (nI w) < 0 → mX5_nextHouse (nI h) (nI w) = mX6_nextBy (nI h) (nI w) ∧ ¬ mX6_nextBy (nI h) (nI w) = nI h) := by decide
theorem next_in : ∀ h, h < 16 → ∀ w, w < 5 → (mX5_nextHouse (nI h) (nI w)).toNatClampNeg < 16 ∧ mX5_nextHouse (nI h) (nI w) = nI (mX5_nextHouse (nI h) (nI w)).toNatClampNeg := by decide
theorem next_4 : ∀ h, h < 16 → mX5_nextHouse (nI h) 4 = nI h := by decide
def towC (a e : Int32) : Int32 := if irem a 4 = irem e 4 then (if a / 4 = e / 4 then 4 else (if e / 4 ≤ a / 4 then 3 else 1)) else (if irem e 4 ≤ irem a 4 then 2 else 0)
theorem tow_pair : ∀ h, h < 16 → ∀ g, g < 16 → mX5_wayTowards (nI h) (nI g) = towC (nI h) (nI g) := by decide
theorem tow_in : ∀ h, h < 16 → ∀ g, g < 16 → (towC (nI h) (nI g)).toNatClampNeg < 5 ∧ towC (nI h) (nI g) = nI (towC (nI h) (nI g)).toNatClampNeg := by decide
theorem wind_in : ∀ w, w < 4 → (irem (nI w + 1) 4).toNatClampNeg < 4 ∧ irem (nI w + 1) 4 = nI (irem (nI w + 1) 4).toNatClampNeg := by decide
theorem upm_at (M : Mem) (p k : Nat) (x : Int32) : upm M p k x p = upd (M p) k x := by simp [upm]
theorem upm_ne {M : Mem} {p q k : Nat} {x : Int32} (h : q ≠ p) : upm M p k x q = M q := by simp [upm, h]
theorem upr_at (M : Mem) (p : Nat) (f : Nat → Int32) : upr M p f p = f := by simp [upr]
theorem upr_ne {M : Mem} {p q : Nat} {f : Nat → Int32} (h : q ≠ p) : upr M p f q = M q := by simp [upr, h]
theorem upm_upr (M : Mem) (p k : Nat) (x : Int32) : upm M p k x = upr M p (upd (M p) k x) := rfl
theorem upr_upr (M : Mem) (p : Nat) (f g : Nat → Int32) : upr (upr M p f) p g = upr M p g := by
  funext q
  by_cases h : q = p <;> simp [upr, h]
theorem upr_self (M : Mem) (p : Nat) : upr M p (M p) = M := by
  funext q
  by_cases h : q = p <;> simp [upr, h]
theorem upd_at (f : Nat → Int32) (k : Nat) (x : Int32) : upd f k x k = x := by simp [upd]
theorem upd_ne {f : Nat → Int32} {k j : Nat} {x : Int32} (h : j ≠ k) : upd f k x j = f j := by simp [upd, h]
