/-! SETS told by bits: which airs, which houses -/
def setN (q : Nat → Bool) : Nat → Nat → Int32 → Int32
  | 0, _, acc => acc
  | k + 1, i, acc => setN q k (i + 1) (acc ||| (if q i = true then 1 <<< (nI i &&& 31) else 0))
def useN (f : Nat → Int32) : Nat → Nat → Int32 → Int32
  | 0, _, acc => acc
  | k + 1, i, acc => useN f k (i + 1) (acc ||| (1 <<< (f i &&& 31)))
def sumN (f : Nat → Int32) : Nat → Nat → Int32 → Int32
  | 0, _, acc => acc
  | k + 1, i, acc => sumN f k (i + 1) (acc + f i)
theorem airsAt4 {M : Mem} {b n : Nat} {s : Nat → Int32} (hR : R M b s n) (h : Int32) : ∀ (k fuel i : Nat) (acc : Int32), k < fuel → i + k = n →
    mX4_airsAt_4 b fuel h acc (nI i) M = setN (fun j => decide (s (24 + 4 * j + 3) = h)) k i acc ∧ PX4_airsAt_4 b fuel h acc (nI i) M := by
  have hn := hR.1
  intro k
  induction k with
  | zero =>
    intro fuel i acc hf hi
    obtain ⟨f, rfl⟩ : ∃ f, fuel = f + 1 := ⟨fuel - 1, by omega⟩
    have hc : M b 6 ≤ nI i := by rw [hR.2.1.1]; exact nI_le (by omega) (by omega)
    constructor
    · rw [mX4_airsAt_4, if_pos hc]; rfl
    · rw [PX4_airsAt_4]; exact fun q => absurd hc q
  | succ k ih =>
    intro fuel i acc hf hi
    obtain ⟨f, rfl⟩ : ∃ f, fuel = f + 1 := ⟨fuel - 1, by omega⟩
    have hc : ¬ M b 6 ≤ nI i := by rw [hR.2.1.1]; exact nI_ge (by omega) (by omega)
    have hi1 : nI i + 1 = nI (i + 1) := (nI_succ i).symm
    have ev : M (b + 6) (nI i).toNatClampNeg = s (24 + 4 * i + 3) := by rw [nIc (by omega)]; exact (hR.ra (by omega)).2.2.2.1
    constructor
    · rw [mX4_airsAt_4, if_neg hc, ev]
      unfold mX4_airsAt_30
      rw [hi1, setN]
      by_cases q : s (24 + 4 * i + 3) = h
      · rw [if_pos q, (ih f (i + 1) _ (by omega) (by omega)).1]; simp [q]
      · rw [if_neg q, (ih f (i + 1) _ (by omega) (by omega)).1]; simp [q]
    · rw [PX4_airsAt_4]
      unfold PX4_airsAt_30
      rw [hi1]
      exact fun _ => ⟨vin (by omega) (by decide), fun _ => (ih f (i + 1) _ (by omega) (by omega)).2, fun _ => (ih f (i + 1) _ (by omega) (by omega)).2⟩
theorem thoseAt4 {N : Mem} {n : Nat} {s : Nat → Int32} (hG : GS s n) (hs : N 47 = s) (h : Int32) : ∀ (k fuel i : Nat) (acc : Int32), k < fuel → i + k = n →
    mX6_thoseAt_4 fuel h acc (nI i) N = setN (fun j => decide (s (24 + 4 * j + 3) = h)) k i acc ∧ PX6_thoseAt_4 fuel h acc (nI i) N := by
  have hn := hG.1
  intro k
  induction k with
  | zero =>
    intro fuel i acc hf hi
    obtain ⟨f, rfl⟩ : ∃ f, fuel = f + 1 := ⟨fuel - 1, by omega⟩
    have hc : N 47 0 ≤ nI i := by rw [hs, hG.2.1]; exact nI_le (by omega) (by omega)
    constructor
    · rw [mX6_thoseAt_4, if_pos hc]; rfl
    · rw [PX6_thoseAt_4]; exact fun q => absurd hc q
  | succ k ih =>
    intro fuel i acc hf hi
    obtain ⟨f, rfl⟩ : ∃ f, fuel = f + 1 := ⟨fuel - 1, by omega⟩
    have hc : ¬ N 47 0 ≤ nI i := by rw [hs, hG.2.1]; exact nI_ge (by omega) (by omega)
    have hi1 : nI i + 1 = nI (i + 1) := (nI_succ i).symm
    constructor
    · rw [mX6_thoseAt_4, if_neg hc, its3 (by omega), hs]
      unfold mX6_thoseAt_32
      rw [hi1, setN]
      by_cases q : s (24 + 4 * i + 3) = h
      · rw [if_pos q, (ih f (i + 1) _ (by omega) (by omega)).1]; simp [q]
      · rw [if_neg q, (ih f (i + 1) _ (by omega) (by omega)).1]; simp [q]
    · rw [PX6_thoseAt_4]
      unfold PX6_thoseAt_32
      rw [hi1]
      exact fun _ => ⟨pits3 (by omega), fun _ => (ih f (i + 1) _ (by omega) (by omega)).2, fun _ => (ih f (i + 1) _ (by omega) (by omega)).2⟩
theorem errands4 {M : Mem} {b n : Nat} {s : Nat → Int32} (hR : R M b s n) : ∀ (k fuel i : Nat) (acc : Int32), k < fuel → i + k = n →
    mX4_airsAtErrands_4 b fuel acc (nI i) M = setN (fun j => decide (s (24 + 4 * j + 3) = s (24 + 4 * j + 2))) k i acc ∧ PX4_airsAtErrands_4 b fuel acc (nI i) M := by
  have hn := hR.1
  intro k
  induction k with
  | zero =>
    intro fuel i acc hf hi
    obtain ⟨f, rfl⟩ : ∃ f, fuel = f + 1 := ⟨fuel - 1, by omega⟩
    have hc : M b 6 ≤ nI i := by rw [hR.2.1.1]; exact nI_le (by omega) (by omega)
    constructor
    · rw [mX4_airsAtErrands_4, if_pos hc]; rfl
    · rw [PX4_airsAtErrands_4]; exact fun q => absurd hc q
  | succ k ih =>
    intro fuel i acc hf hi
    obtain ⟨f, rfl⟩ : ∃ f, fuel = f + 1 := ⟨fuel - 1, by omega⟩
    have hc : ¬ M b 6 ≤ nI i := by rw [hR.2.1.1]; exact nI_ge (by omega) (by omega)
    have hi1 : nI i + 1 = nI (i + 1) := (nI_succ i).symm
    have ev : M (b + 6) (nI i).toNatClampNeg = s (24 + 4 * i + 3) := by rw [nIc (by omega)]; exact (hR.ra (by omega)).2.2.2.1
    have ee : M (b + 5) (nI i).toNatClampNeg = s (24 + 4 * i + 2) := by rw [nIc (by omega)]; exact (hR.ra (by omega)).2.2.1
    constructor
    · rw [mX4_airsAtErrands_4, if_neg hc, ev, ee]
      unfold mX4_airsAtErrands_35
      rw [hi1, setN]
      by_cases q : s (24 + 4 * i + 3) = s (24 + 4 * i + 2)
      · rw [if_pos q, (ih f (i + 1) _ (by omega) (by omega)).1]; simp [q]
      · rw [if_neg q, (ih f (i + 1) _ (by omega) (by omega)).1]; simp [q]
    · rw [PX4_airsAtErrands_4]
      unfold PX4_airsAtErrands_35
      rw [hi1]
      exact fun _ => ⟨vin (by omega) (by decide), vin (by omega) (by decide), fun _ => (ih f (i + 1) _ (by omega) (by omega)).2, fun _ => (ih f (i + 1) _ (by omega) (by omega)).2⟩
theorem stopped4 {N : Mem} {n : Nat} {s : Nat → Int32} (hG : GS s n) (hs : N 47 = s) : ∀ (k fuel i : Nat) (acc : Int32), k < fuel → i + k = n →
    mX6_stopped_4 fuel acc (nI i) N = setN (fun j => decide (s (24 + 4 * j + 3) = s (24 + 4 * j + 2))) k i acc ∧ PX6_stopped_4 fuel acc (nI i) N := by
  have hn := hG.1
  intro k
  induction k with
  | zero =>
    intro fuel i acc hf hi
    obtain ⟨f, rfl⟩ : ∃ f, fuel = f + 1 := ⟨fuel - 1, by omega⟩
    have hc : N 47 0 ≤ nI i := by rw [hs, hG.2.1]; exact nI_le (by omega) (by omega)
    constructor
    · rw [mX6_stopped_4, if_pos hc]; rfl
    · rw [PX6_stopped_4]; exact fun q => absurd hc q
  | succ k ih =>
    intro fuel i acc hf hi
    obtain ⟨f, rfl⟩ : ∃ f, fuel = f + 1 := ⟨fuel - 1, by omega⟩
    have hc : ¬ N 47 0 ≤ nI i := by rw [hs, hG.2.1]; exact nI_ge (by omega) (by omega)
    have hi1 : nI i + 1 = nI (i + 1) := (nI_succ i).symm
    constructor
    · rw [mX6_stopped_4, if_neg hc, its3 (by omega), its2 (by omega), hs]
      unfold mX6_stopped_37
      rw [hi1, setN]
      by_cases q : s (24 + 4 * i + 3) = s (24 + 4 * i + 2)
      · rw [if_pos q, (ih f (i + 1) _ (by omega) (by omega)).1]; simp [q]
      · rw [if_neg q, (ih f (i + 1) _ (by omega) (by omega)).1]; simp [q]
    · rw [PX6_stopped_4]
      unfold PX6_stopped_37
      rw [hi1]
      exact fun _ => ⟨pits3 (by omega), pits2 (by omega), fun _ => (ih f (i + 1) _ (by omega) (by omega)).2, fun _ => (ih f (i + 1) _ (by omega) (by omega)).2⟩
theorem with4 {M : Mem} {b n : Nat} {s : Nat → Int32} (hR : R M b s n) : ∀ (k fuel i : Nat) (acc : Int32), k < fuel → i + k = n →
    mX4_housesWithAirs_4 b fuel acc (nI i) M = useN (fun j => s (24 + 4 * j + 3)) k i acc ∧ PX4_housesWithAirs_4 b fuel acc (nI i) M := by
  have hn := hR.1
  intro k
  induction k with
  | zero =>
    intro fuel i acc hf hi
    obtain ⟨f, rfl⟩ : ∃ f, fuel = f + 1 := ⟨fuel - 1, by omega⟩
    have hc : M b 6 ≤ nI i := by rw [hR.2.1.1]; exact nI_le (by omega) (by omega)
    constructor
    · rw [mX4_housesWithAirs_4, if_pos hc]; rfl
    · rw [PX4_housesWithAirs_4]; exact fun q => absurd hc q
  | succ k ih =>
    intro fuel i acc hf hi
    obtain ⟨f, rfl⟩ : ∃ f, fuel = f + 1 := ⟨fuel - 1, by omega⟩
    have hc : ¬ M b 6 ≤ nI i := by rw [hR.2.1.1]; exact nI_ge (by omega) (by omega)
    have hi1 : nI i + 1 = nI (i + 1) := (nI_succ i).symm
    have ev : M (b + 6) (nI i).toNatClampNeg = s (24 + 4 * i + 3) := by rw [nIc (by omega)]; exact (hR.ra (by omega)).2.2.2.1
    constructor
    · rw [mX4_housesWithAirs_4, if_neg hc, ev, hi1, useN]
      exact (ih f (i + 1) _ (by omega) (by omega)).1
    · rw [PX4_housesWithAirs_4, hi1]
      exact fun _ => ⟨vin (by omega) (by decide), (ih f (i + 1) _ (by omega) (by omega)).2⟩
theorem inUse4 {N : Mem} {n : Nat} {s : Nat → Int32} (hG : GS s n) (hs : N 47 = s) : ∀ (k fuel i : Nat) (acc : Int32), k < fuel → i + k = n →
    mX6_housesInUse_4 fuel acc (nI i) N = useN (fun j => s (24 + 4 * j + 3)) k i acc ∧ PX6_housesInUse_4 fuel acc (nI i) N := by
  have hn := hG.1
  intro k
  induction k with
  | zero =>
    intro fuel i acc hf hi
    obtain ⟨f, rfl⟩ : ∃ f, fuel = f + 1 := ⟨fuel - 1, by omega⟩
    have hc : N 47 0 ≤ nI i := by rw [hs, hG.2.1]; exact nI_le (by omega) (by omega)
    constructor
    · rw [mX6_housesInUse_4, if_pos hc]; rfl
    · rw [PX6_housesInUse_4]; exact fun q => absurd hc q
  | succ k ih =>
    intro fuel i acc hf hi
    obtain ⟨f, rfl⟩ : ∃ f, fuel = f + 1 := ⟨fuel - 1, by omega⟩
    have hc : ¬ N 47 0 ≤ nI i := by rw [hs, hG.2.1]; exact nI_ge (by omega) (by omega)
    have hi1 : nI i + 1 = nI (i + 1) := (nI_succ i).symm
    constructor
    · rw [mX6_housesInUse_4, if_neg hc, its3 (by omega), hs, hi1, useN]
      exact (ih f (i + 1) _ (by omega) (by omega)).1
    · rw [PX6_housesInUse_4, hi1]
      exact fun _ => ⟨pits3 (by omega), (ih f (i + 1) _ (by omega) (by omega)).2⟩
theorem wetBy5 {M : Mem} {b : Nat} {w : Nat → Int32} (hw : ∀ h, h < 16 → M (b + 2) h = w h) (v : Int32) : ∀ (k fuel i : Nat) (acc : Int32), k < fuel → i + k = 16 →
    mX4_housesWetBy_4 b fuel v acc (nI i) M = setN (fun j => decide (¬ w j < v)) k i acc ∧ PX4_housesWetBy_4 b fuel v acc (nI i) M := by
  intro k
  induction k with
  | zero =>
    intro fuel i acc hf hi
    obtain ⟨f, rfl⟩ : ∃ f, fuel = f + 1 := ⟨fuel - 1, by omega⟩
    have hc : (16 : Int32) ≤ nI i := nI_le (a := 16) (by omega) (by omega)
    constructor
    · rw [mX4_housesWetBy_4, if_pos hc]; rfl
    · rw [PX4_housesWetBy_4]; exact fun q => absurd hc q
  | succ k ih =>
    intro fuel i acc hf hi
    obtain ⟨f, rfl⟩ : ∃ f, fuel = f + 1 := ⟨fuel - 1, by omega⟩
    have hc : ¬ (16 : Int32) ≤ nI i := nI_ge (b := 16) (by omega) (by omega)
    have hi1 : nI i + 1 = nI (i + 1) := (nI_succ i).symm
    have ev : M (b + 2) (nI i).toNatClampNeg = w i := by rw [nIc (by omega)]; exact hw i (by omega)
    constructor
    · rw [mX4_housesWetBy_4, if_neg hc, ev]
      unfold mX4_housesWetBy_28
      rw [hi1, setN]
      by_cases q : w i < v
      · rw [if_pos q, (ih f (i + 1) _ (by omega) (by omega)).1]; simp [q]
      · rw [if_neg q, (ih f (i + 1) _ (by omega) (by omega)).1]; simp [q]
    · rw [PX4_housesWetBy_4]
      unfold PX4_housesWetBy_28
      rw [hi1]
      exact fun _ => ⟨vin (by omega) (by decide), fun _ => (ih f (i + 1) _ (by omega) (by omega)).2, fun _ => (ih f (i + 1) _ (by omega) (by omega)).2⟩
theorem wetBy6 {N : Mem} {s : Nat → Int32} (hs : N 47 = s) (v : Int32) : ∀ (k fuel i : Nat) (acc : Int32), k < fuel → i + k = 16 →
    mX6_wetBy_4 fuel v acc (nI i) N = setN (fun j => decide (¬ s (8 + j) < v)) k i acc ∧ PX6_wetBy_4 fuel v acc (nI i) N := by
  intro k
  induction k with
  | zero =>
    intro fuel i acc hf hi
    obtain ⟨f, rfl⟩ : ∃ f, fuel = f + 1 := ⟨fuel - 1, by omega⟩
    have hc : (16 : Int32) ≤ nI i := nI_le (a := 16) (by omega) (by omega)
    constructor
    · rw [mX6_wetBy_4, if_pos hc]; rfl
    · rw [PX6_wetBy_4]; exact fun q => absurd hc q
  | succ k ih =>
    intro fuel i acc hf hi
    obtain ⟨f, rfl⟩ : ∃ f, fuel = f + 1 := ⟨fuel - 1, by omega⟩
    have hc : ¬ (16 : Int32) ≤ nI i := nI_ge (b := 16) (by omega) (by omega)
    have hi1 : nI i + 1 = nI (i + 1) := (nI_succ i).symm
    constructor
    · rw [mX6_wetBy_4, if_neg hc, ixw i (by omega), hs]
      unfold mX6_wetBy_31
      rw [hi1, setN]
      by_cases q : s (8 + i) < v
      · rw [if_pos q, (ih f (i + 1) _ (by omega) (by omega)).1]; simp [q]
      · rw [if_neg q, (ih f (i + 1) _ (by omega) (by omega)).1]; simp [q]
    · rw [PX6_wetBy_4]
      unfold PX6_wetBy_31
      rw [hi1]
      exact fun _ => ⟨ixnw i (by omega), fun _ => (ih f (i + 1) _ (by omega) (by omega)).2, fun _ => (ih f (i + 1) _ (by omega) (by omega)).2⟩
theorem wetAll5 {M : Mem} {b : Nat} {w : Nat → Int32} (hw : ∀ h, h < 16 → M (b + 2) h = w h) : ∀ (k fuel i : Nat) (acc : Int32), k < fuel → i + k = 16 →
    mX4_wetTogether_4 b fuel acc (nI i) M = sumN w k i acc ∧ PX4_wetTogether_4 b fuel acc (nI i) M := by
  intro k
  induction k with
  | zero =>
    intro fuel i acc hf hi
    obtain ⟨f, rfl⟩ : ∃ f, fuel = f + 1 := ⟨fuel - 1, by omega⟩
    have hc : (16 : Int32) ≤ nI i := nI_le (a := 16) (by omega) (by omega)
    constructor
    · rw [mX4_wetTogether_4, if_pos hc]; rfl
    · rw [PX4_wetTogether_4]; exact fun q => absurd hc q
  | succ k ih =>
    intro fuel i acc hf hi
    obtain ⟨f, rfl⟩ : ∃ f, fuel = f + 1 := ⟨fuel - 1, by omega⟩
    have hc : ¬ (16 : Int32) ≤ nI i := nI_ge (b := 16) (by omega) (by omega)
    have hi1 : nI i + 1 = nI (i + 1) := (nI_succ i).symm
    have ev : M (b + 2) (nI i).toNatClampNeg = w i := by rw [nIc (by omega)]; exact hw i (by omega)
    constructor
    · rw [mX4_wetTogether_4, if_neg hc, ev, hi1, sumN]
      exact (ih f (i + 1) _ (by omega) (by omega)).1
    · rw [PX4_wetTogether_4, ev, hi1]
      exact fun _ => ⟨vin (by omega) (by decide), (ih f (i + 1) _ (by omega) (by omega)).2⟩
theorem wetAll6 {N : Mem} {s : Nat → Int32} (hs : N 47 = s) : ∀ (k fuel i : Nat) (acc : Int32), k < fuel → i + k = 16 →
    mX6_wetOfAll_4 fuel acc (nI i) N = sumN (fun j => s (8 + j)) k i acc ∧ PX6_wetOfAll_4 fuel acc (nI i) N := by
  intro k
  induction k with
  | zero =>
    intro fuel i acc hf hi
    obtain ⟨f, rfl⟩ : ∃ f, fuel = f + 1 := ⟨fuel - 1, by omega⟩
    have hc : (16 : Int32) ≤ nI i := nI_le (a := 16) (by omega) (by omega)
    constructor
    · rw [mX6_wetOfAll_4, if_pos hc]; rfl
    · rw [PX6_wetOfAll_4]; exact fun q => absurd hc q
  | succ k ih =>
    intro fuel i acc hf hi
    obtain ⟨f, rfl⟩ : ∃ f, fuel = f + 1 := ⟨fuel - 1, by omega⟩
    have hc : ¬ (16 : Int32) ≤ nI i := nI_ge (b := 16) (by omega) (by omega)
    have hi1 : nI i + 1 = nI (i + 1) := (nI_succ i).symm
    constructor
    · rw [mX6_wetOfAll_4, if_neg hc, ixw i (by omega), hs, hi1, sumN]
      exact (ih f (i + 1) _ (by omega) (by omega)).1
    · rw [PX6_wetOfAll_4, ixw i (by omega), hs, hi1]
      exact fun _ => ⟨ixnw i (by omega), (ih f (i + 1) _ (by omega) (by omega)).2⟩
/-! the sets of the class and of the reference are the same -/
theorem errands_eq {M N : Mem} {b n : Nat} {s : Nat → Int32} (hR : R M b s n) (hs : N 47 = s) : mX4_airsAtErrands b M = mX6_stopped N ∧ PX4_airsAtErrands b M ∧ PX6_stopped N := by
  have hn := hR.1
  obtain ⟨e, p⟩ := errands4 hR n 400 0 0 (by omega) (by omega)
  obtain ⟨e6, p6⟩ := stopped4 hR.gs hs n 400 0 0 (by omega) (by omega)
  exact ⟨e.trans e6.symm, p, p6⟩
theorem inUse_eq {M N : Mem} {b n : Nat} {s : Nat → Int32} (hR : R M b s n) (hs : N 47 = s) : mX4_housesWithAirs b M = mX6_housesInUse N ∧ PX4_housesWithAirs b M ∧ PX6_housesInUse N := by
  have hn := hR.1
  obtain ⟨e, p⟩ := with4 hR n 400 0 0 (by omega) (by omega)
  obtain ⟨e6, p6⟩ := inUse4 hR.gs hs n 400 0 0 (by omega) (by omega)
  exact ⟨e.trans e6.symm, p, p6⟩
theorem thoseAt_eq {M N : Mem} {b n : Nat} {s : Nat → Int32} (hR : R M b s n) (hs : N 47 = s) (h : Int32) : mX4_airsAt b h M = mX6_thoseAt h N ∧ PX4_airsAt b h M ∧ PX6_thoseAt h N := by
  have hn := hR.1
  obtain ⟨e, p⟩ := airsAt4 hR h n 400 0 0 (by omega) (by omega)
  obtain ⟨e6, p6⟩ := thoseAt4 hR.gs hs h n 400 0 0 (by omega) (by omega)
  exact ⟨e.trans e6.symm, p, p6⟩
theorem wetBy_eq {M N : Mem} {b n : Nat} {s : Nat → Int32} (hR : R M b s n) (hs : N 47 = s) (v : Int32) : mX4_housesWetBy b v M = mX6_wetBy v N ∧ PX4_housesWetBy b v M ∧ PX6_wetBy v N := by
  obtain ⟨e, p⟩ := wetBy5 (w := fun h => s (8 + h)) hR.2.2.2.1 v 16 400 0 0 (by omega) (by omega)
  obtain ⟨e6, p6⟩ := wetBy6 hs v 16 400 0 0 (by omega) (by omega)
  exact ⟨e.trans e6.symm, p, p6⟩
theorem wetAll_eq {M N : Mem} {b n : Nat} {s : Nat → Int32} (hR : R M b s n) (hs : N 47 = s) : mX4_wetTogether b M = mX6_wetOfAll N ∧ PX4_wetTogether b M ∧ PX6_wetOfAll N := by
  obtain ⟨e, p⟩ := wetAll5 (w := fun h => s (8 + h)) hR.2.2.2.1 16 400 0 0 (by omega) (by omega)
  obtain ⟨e6, p6⟩ := wetAll6 hs 16 400 0 0 (by omega) (by omega)
  exact ⟨e.trans e6.symm, p, p6⟩
