/-! THE CLASS walks one air alone, and notes its places in a row -/
theorem walk12 {b p o n m : Nat} {s : Nat → Int32} (hp : b + 6 < p) (ho : o < n) (hm : m ≤ 60) : ∀ (k fuel i : Nat) (M : Mem), k < fuel → i + k = m + 1 → 1 ≤ i → R M b (wkN s o (i - 1)) n → (∀ j, j < i → M p j = wkN s o j (24 + 4 * o + 3)) →
    (R (mX4_walk_12 b p 61 fuel (nI o) (nI m) (nI i) M) b (wkN s o m) n ∧ (∀ j, j ≤ m → mX4_walk_12 b p 61 fuel (nI o) (nI m) (nI i) M p j = wkN s o j (24 + 4 * o + 3)) ∧ (∀ q, q ≠ b → q ≠ b + 6 → q ≠ p → mX4_walk_12 b p 61 fuel (nI o) (nI m) (nI i) M q = M q)) ∧ PX4_walk_12 b p 61 fuel (nI o) (nI m) (nI i) M := by
  intro k
  induction k with
  | zero =>
    intro fuel i M hf hi h1 hR hN
    obtain ⟨f, rfl⟩ : ∃ f, fuel = f + 1 := ⟨fuel - 1, by omega⟩
    have hc : nI m < nI i := nI_lt (by omega) (by omega)
    have ei : i - 1 = m := by omega
    rw [ei] at hR
    constructor
    · rw [mX4_walk_12, if_pos hc]
      exact ⟨hR, fun j hj => hN j (by omega), fun _ _ _ _ => rfl⟩
    · rw [PX4_walk_12]
      exact fun q => absurd hc q
  | succ k ih =>
    intro fuel i M hf hi h1 hR hN
    obtain ⟨f, rfl⟩ : ∃ f, fuel = f + 1 := ⟨fuel - 1, by omega⟩
    have hn := hR.1
    have h8 : o < 8 := by omega
    have hc : ¬ nI m < nI i := nI_nlt (by omega) (by omega)
    have hc2 : ¬ nI 61 ≤ nI i := nI_ge (by omega) (by omega)
    have hi1 : nI i + 1 = nI (i + 1) := (nI_succ i).symm
    have hv : vp_in (nI o) 8 := vin h8 (by decide)
    have hvi : vp_in (nI i) 61 := vin (by omega) (by decide)
    obtain ⟨t1, t2, t3⟩ := turn_R hR
    obtain ⟨M1, e1⟩ : ∃ x, x = mX4_turnWind b M := ⟨_, rfl⟩
    rw [← e1] at t1 t3
    obtain ⟨g, gp⟩ := goes_eq h8 t1.rc (t1.ra ho)
    have hval : mX5_nextHouse (M1 (b + 6) (nI o).toNatClampNeg) (mX4_goes b (nI o) M1) = mX5_nextHouse (turnS (wkN s o (i - 1)) (24 + 4 * o + 3)) (wayS (turnS (wkN s o (i - 1))) o) := by
      rw [nIc (by omega), (t1.ra ho).2.2.2.1, g]
      exact (goC_eq (t1.ra ho).2.2.2.2.2.2 (wayS_in t1 ho)).2.1
    have r2 := mv1_R t1 ho
    obtain ⟨M2, e2⟩ : ∃ x, x = upm M1 (b + 6) o (mX5_nextHouse (turnS (wkN s o (i - 1)) (24 + 4 * o + 3)) (wayS (turnS (wkN s o (i - 1))) o)) := ⟨_, rfl⟩
    rw [← e2] at r2
    have r3 := tick_R r2
    obtain ⟨M3, e3⟩ : ∃ x, x = upm M2 b 7 (M2 b 7 + 1) := ⟨_, rfl⟩
    rw [← e3] at r3
    have ek : wkN s o i = tick (mv1 (turnS (wkN s o (i - 1))) o) := by
      obtain ⟨z, rfl⟩ : ∃ z, i = z + 1 := ⟨i - 1, by omega⟩
      rfl
    rw [← ek] at r3
    obtain ⟨M4, e4⟩ : ∃ x, x = upm M3 p i (M3 (b + 6) o) := ⟨_, rfl⟩
    have r4 : R M4 b (wkN s o ((i + 1) - 1)) n := r3.congr (fun j hj => by rw [e4]; exact upm_ne (by omega)) (fun _ _ => rfl)
    have hat : M3 (b + 6) o = wkN s o i (24 + 4 * o + 3) := (r3.ra ho).2.2.2.1
    have fr : ∀ q, q ≠ b → q ≠ b + 6 → q ≠ p → M4 q = M q := fun q q1 q2 q3 => by
      rw [e4, upm_ne q3, e3, upm_ne q1, e2, upm_ne q2]
      exact t3 q q1
    have frp : M3 p = M p := by
      rw [e3, upm_ne (by omega), e2, upm_ne (by omega)]
      exact t3 p (by omega)
    have n4 : ∀ j, j < i + 1 → M4 p j = wkN s o j (24 + 4 * o + 3) := by
      intro j hj
      rw [e4, upm_at]
      by_cases ej : j = i
      · subst ej
        rw [upd_at]; exact hat
      · rw [upd_ne ej, frp]
        exact hN j (by omega)
    obtain ⟨⟨a1, a2, a3⟩, a4⟩ := ih f (i + 1) M4 (by omega) (by omega) (by omega) r4 n4
    have unf : mX4_walk_12 b p 61 (f + 1) (nI o) (nI m) (nI i) M = mX4_walk_12 b p 61 f (nI o) (nI m) (nI (i + 1)) M4 := by
      rw [mX4_walk_12, if_neg hc, if_neg hc2]
      unfold mX4_walk_29
      rw [← e1, hval, nIc (show o < 2 ^ 31 by omega), nIc (show i < 2 ^ 31 by omega), hi1, ← e2, ← e3, ← e4]
    rw [unf]
    refine ⟨⟨a1, a2, fun q q1 q2 q3 => (a3 q q1 q2 q3).trans (fr q q1 q2 q3)⟩, ?_⟩
    rw [PX4_walk_12]
    refine fun _ _ => ⟨t2, ?_⟩
    unfold PX4_walk_29
    rw [← e1]
    refine ⟨hv, gp, hv, hv, hvi, ?_⟩
    rw [hval, nIc (show o < 2 ^ 31 by omega), nIc (show i < 2 ^ 31 by omega), hi1, ← e2, ← e3, ← e4]
    exact a4
theorem walk_eq {b p o n m : Nat} {s : Nat → Int32} {M : Mem} (hp : b + 6 < p) (ho : o < n) (hm : m ≤ 60) (hR : R M b s n) :
    R (mX4_walk b p 61 (nI o) (nI m) M) b (wkN s o m) n ∧ (∀ j, j ≤ m → mX4_walk b p 61 (nI o) (nI m) M p j = stepsS s n j (24 + 4 * o + 3)) ∧ (∀ q, q ≠ b → q ≠ b + 6 → q ≠ p → mX4_walk b p 61 (nI o) (nI m) M q = M q) ∧ PX4_walk b p 61 (nI o) (nI m) M := by
  have hn := hR.1
  have h8 : o < 8 := by omega
  have hat : M (b + 6) (nI o).toNatClampNeg = s (24 + 4 * o + 3) := by rw [nIc (by omega)]; exact (hR.ra ho).2.2.2.1
  obtain ⟨⟨a1, a2, a3⟩, a4⟩ := walk12 (s := s) hp ho hm m 400 1 (upm M p 0 (s (24 + 4 * o + 3))) (by omega) (by omega) (by omega) (hR.congr (fun j hj => upm_ne (by omega)) (fun _ _ => rfl)) (fun j hj => by
    obtain rfl : j = 0 := by omega
    rw [upm_at, upd_at]
    rfl)
  have unf : mX4_walk b p 61 (nI o) (nI m) M = mX4_walk_12 b p 61 400 (nI o) (nI m) (nI 1) (upm M p 0 (s (24 + 4 * o + 3))) := by
    unfold mX4_walk
    rw [hat]
    rfl
  rw [unf]
  refine ⟨a1, fun j hj => (a2 j hj).trans (at_steps hR.gs ho j), fun q q1 q2 q3 => (a3 q q1 q2 q3).trans (upm_ne q3), ?_⟩
  unfold PX4_walk
  refine ⟨vin h8 (by decide), vin_l (by decide) (by decide), ?_⟩
  rw [hat]
  exact a4
theorem pbecome (b q : Nat) (M : Mem) : PX4_become b q M := by
  unfold PX4_become PX4_become_14 PX4_become_29 PX4_become_44 PX4_become_59 PX4_become_74 PX4_become_89
  trivial
theorem TB1 : TB 1 := Or.inl rfl
theorem TB8 : TB 8 := Or.inr (Or.inl rfl)
theorem TB15 : TB 15 := Or.inr (Or.inr rfl)
/-- the try, from how all is now: the places noted; the rest of the memory as it was, but for the try itself -/
theorem tryWalk_eq {p o n m : Nat} {s : Nat → Int32} {M : Mem} (hp : p = 29 ∨ p = 30) (ho : o < n) (hm : m ≤ 60) (hR : R M 1 s n) :
    (∀ j, j ≤ m → mX5_tryWalk p 61 (nI o) (nI m) M p j = stepsS s n j (24 + 4 * o + 3)) ∧ (∀ q, (q < 15 ∨ 21 < q) → q ≠ p → mX5_tryWalk p 61 (nI o) (nI m) M q = M q) ∧ PX5_tryWalk p 61 (nI o) (nI m) M := by
  have hb := become_R TB15 TB1 (by decide) hR
  have hf := (become_at TB15 TB1 (by decide) M).2.2.2.2
  obtain ⟨a1, a2, a3, a4⟩ := walk_eq (p := p) (by omega) ho hm hb
  refine ⟨a2, fun q h1 h2 => (a3 q (by omega) (by omega) h2).trans (hf q (by omega)), ?_⟩
  unfold PX5_tryWalk
  first | exact ⟨pbecome 15 1 M, a4⟩ | exact a4
