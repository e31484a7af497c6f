/-! ROWS OF STEPS: prove, judge -/
def rowv (s : Nat → Int32) (o w : Nat) : Int32 := if w = 0 then s (24 + 4 * o + 3) else if w = 1 then s (8 + (s (24 + 4 * o + 3)).toNatClampNeg) else mX5_apart (s (24 + 4 * o + 3)) (s (24 + 4 * o + 2))
theorem rowPart_eq {M : Mem} {b : Nat} {s : Nat → Int32} {n o : Nat} (hR : R M b s n) (ho : o < n) : (mX4_rowPart b (nI o) 0 M = rowv s o 0 ∧ mX4_rowPart b (nI o) 1 M = rowv s o 1 ∧ mX4_rowPart b (nI o) 2 M = rowv s o 2) ∧ PX4_rowPart b (nI o) 0 M ∧ PX4_rowPart b (nI o) 1 M ∧ PX4_rowPart b (nI o) 2 M := by
  have hn := hR.1
  have hv : vp_in (nI o) 8 := vin (by omega) (by decide)
  obtain ⟨h, hh, e1⟩ := hR.gs.ho ho
  obtain ⟨r1, r2, r3, r4, -⟩ := hR.ra ho
  have z1 : ¬ (1 : Int32) = 0 := by decide
  have z2 : ¬ (2 : Int32) = 0 := by decide
  have z3 : ¬ (2 : Int32) = 1 := by decide
  unfold mX4_rowPart PX4_rowPart rowv
  rw [nIc (by omega), r4, r3]
  refine ⟨⟨rfl, ?_, ?_⟩, ⟨fun _ => hv, fun q => absurd rfl q⟩, ⟨fun q => absurd q z1, fun _ => ⟨fun _ => ⟨hv, ?_⟩, fun q => absurd rfl q⟩⟩, ⟨fun q => absurd q z2, fun _ => ⟨fun q => absurd q z3, fun _ => ⟨hv, hv⟩⟩⟩⟩
  · rw [if_neg z1, if_pos rfl, if_neg (by decide), if_pos rfl, e1, nIc (by omega)]
    exact hR.2.2.2.1 h hh
  · rw [if_neg z2, if_neg z3, if_neg (by decide), if_neg (by decide)]
  · rw [e1]; exact vin hh (by decide)
theorem offNow_eq {N : Mem} {s : Nat → Int32} {n o : Nat} (hG : GS s n) (ho : o < n) (hs : ∀ j, j < 56 → N 47 j = s j) : mX6_offNow (nI o) N = rowv s o 2 ∧ PX6_offNow (nI o) N := by
  have hn := hG.1
  have h8 : o < 8 := by omega
  obtain ⟨h, hh, e1⟩ := hG.ho ho
  obtain ⟨g, hg, e2⟩ := hG.hr ho
  unfold mX6_offNow PX6_offNow rowv
  rw [its3 h8, its2 h8, hs _ (by omega), hs _ (by omega), e1, e2, if_neg (by decide), if_neg (by decide)]
  exact ⟨(apart_eq h hh g hg).symm, pits3 h8, pits2 h8⟩
theorem x3 (i : Nat) : (3 : Int32) * nI i = nI (3 * i) := by
  show nI 3 * nI i = _
  rw [nI_mulc]
theorem x3' (i w : Nat) : nI i * 3 + nI w = nI (3 * i + w) := by
  show nI i * nI 3 + nI w = _
  rw [nI_mulc, nI_add, Nat.mul_comm]
theorem prove48 {M : Mem} {s : Nat → Int32} {n o i : Nat} (hR : R M 15 s n) (ho : o < n) (hi : i < 10) (kf : Int32 → Int32 → Int32 → Mem → Int32 × Mem) (kP : Int32 → Int32 → Int32 → Mem → Prop) (v2 : Int32) :
    mX5_prove_48 kf (nI o) v2 (nI i) M = kf (nI o) v2 (nI (i + 1)) (upm (upm (upm M 28 (3 * i) (rowv s o 0)) 28 (3 * i + 1) (rowv s o 1)) 28 (3 * i + 2) (rowv s o 2)) ∧
    (kP (nI o) v2 (nI (i + 1)) (upm (upm (upm M 28 (3 * i) (rowv s o 0)) 28 (3 * i + 1) (rowv s o 1)) 28 (3 * i + 2) (rowv s o 2)) → PX5_prove_48 kP (nI o) v2 (nI i) M) := by
  have hi1 : nI i + 1 = nI (i + 1) := (nI_succ i).symm
  obtain ⟨⟨a1, -, -⟩, ⟨p1, -, -⟩⟩ := rowPart_eq hR ho
  have hR2 : R (upm M 28 (3 * i) (rowv s o 0)) 15 s n := hR.congr (fun j hj => upm_ne (by omega)) (fun _ _ => rfl)
  obtain ⟨⟨-, a2, -⟩, ⟨-, p2, -⟩⟩ := rowPart_eq hR2 ho
  have hR3 : R (upm (upm M 28 (3 * i) (rowv s o 0)) 28 (3 * i + 1) (rowv s o 1)) 15 s n := hR2.congr (fun j hj => upm_ne (by omega)) (fun _ _ => rfl)
  obtain ⟨⟨-, -, a3⟩, ⟨-, -, p3⟩⟩ := rowPart_eq hR3 ho
  have c0 : ¬ (3 : Int32) ≤ 0 := by decide
  have c1 : ¬ (3 : Int32) ≤ 1 := by decide
  have c2 : ¬ (3 : Int32) ≤ 2 := by decide
  have c3 : (3 : Int32) ≤ 3 := by decide
  have s0 : (0 : Int32) + 1 = 1 := by decide
  have s1 : (1 : Int32) + 1 = 2 := by decide
  have s2 : (2 : Int32) + 1 = 3 := by decide
  have i0 : nI i * 3 + 0 = nI (3 * i) := x3' i 0
  have i1 : nI i * 3 + 1 = nI (3 * i + 1) := x3' i 1
  have i2 : nI i * 3 + 2 = nI (3 * i + 2) := x3' i 2
  unfold mX5_prove_48 PX5_prove_48
  constructor
  · rw [show (400 : Nat) = 396 + 1 + 1 + 1 + 1 from rfl, mX5_prove_51, if_neg c0, s0, i0, nIc (by omega), a1, mX5_prove_51, if_neg c1, s1, i1, nIc (by omega), a2, mX5_prove_51, if_neg c2, s2, i2, nIc (by omega), a3, mX5_prove_51, if_pos c3, hi1]
  · intro hk
    rw [show (400 : Nat) = 396 + 1 + 1 + 1 + 1 from rfl, PX5_prove_51]
    refine ⟨fun q => absurd q c0, fun _ => ⟨p1, by rw [i0]; exact vin (by omega) (by decide), ?_⟩⟩
    rw [s0, i0, nIc (by omega), a1, PX5_prove_51]
    refine ⟨fun q => absurd q c1, fun _ => ⟨p2, by rw [i1]; exact vin (by omega) (by decide), ?_⟩⟩
    rw [s1, i1, nIc (by omega), a2, PX5_prove_51]
    refine ⟨fun q => absurd q c2, fun _ => ⟨p3, by rw [i2]; exact vin (by omega) (by decide), ?_⟩⟩
    rw [s2, i2, nIc (by omega), a3, PX5_prove_51]
    refine ⟨fun _ => ?_, fun q => absurd c3 q⟩
    rw [hi1]
    exact hk
def pv (s : Nat → Int32) (n o j : Nat) : Int32 := rowv (stepsS s n (j / 3 + 1)) o (j % 3)
theorem pv_0 (s : Nat → Int32) (n o i : Nat) : pv s n o (3 * i) = rowv (stepsS s n (i + 1)) o 0 := by
  unfold pv
  rw [show 3 * i / 3 = i by omega, show 3 * i % 3 = 0 by omega]
theorem pv_1 (s : Nat → Int32) (n o i : Nat) : pv s n o (3 * i + 1) = rowv (stepsS s n (i + 1)) o 1 := by
  unfold pv
  rw [show (3 * i + 1) / 3 = i by omega, show (3 * i + 1) % 3 = 1 by omega]
theorem pv_2 (s : Nat → Int32) (n o i : Nat) : pv s n o (3 * i + 2) = rowv (stepsS s n (i + 1)) o 2 := by
  unfold pv
  rw [show (3 * i + 2) / 3 = i by omega, show (3 * i + 2) % 3 = 2 by omega]
theorem row3 {f : Nat → Int32} {i : Nat} (v0 v1 v2 : Int32) (j : Nat) : upd (upd (upd f (3 * i) v0) (3 * i + 1) v1) (3 * i + 2) v2 j = if j = 3 * i then v0 else if j = 3 * i + 1 then v1 else if j = 3 * i + 2 then v2 else f j := by
  unfold upd
  by_cases h0 : j = 3 * i
  · subst h0; simp
  · by_cases h1 : j = 3 * i + 1
    · subst h1; simp
    · by_cases h2 : j = 3 * i + 2
      · subst h2; simp
      · simp [h0, h1, h2]
theorem prove36 {s : Nat → Int32} {n o m : Nat} (ho : o < n) (hm : m ≤ 10) : ∀ (k fuel i : Nat) (M : Mem), k < fuel → i + k = m → R M 15 (stepsS s n i) n →
    ∃ M', mX5_prove_36 fuel (nI o) (nI m) (nI i) M = (nI m, M') ∧ PX5_prove_36 fuel (nI o) (nI m) (nI i) M ∧ M' 0 13 = nI m ∧ (∀ z, z ≠ 13 → M' 0 z = M 0 z) ∧ (∀ q, q ≠ 0 → q ≠ 28 → (q < 15 ∨ 21 < q) → M' q = M q) ∧ (∀ j, j < 3 * i → M' 28 j = M 28 j) ∧ ∀ j, 3 * i ≤ j → j < 3 * m → M' 28 j = pv s n o j := by
  intro k
  induction k with
  | zero =>
    intro fuel i M hf hi hR
    obtain ⟨f, rfl⟩ : ∃ f, fuel = f + 1 := ⟨fuel - 1, by omega⟩
    have hc : nI m ≤ nI i := nI_le (by omega) (by omega)
    refine ⟨upm M 0 13 (nI m), ?_, ?_, by rw [upm_at, upd_at], fun z hz => by rw [upm_at, upd_ne hz], fun q h1 _ _ => upm_ne h1, fun j _ => by rw [upm_ne (by decide)], fun j h1 h2 => by omega⟩
    · rw [mX5_prove_36, if_pos hc]
    · rw [PX5_prove_36]
      exact fun q => absurd hc q
  | succ k ih =>
    intro fuel i M hf hi hR
    obtain ⟨f, rfl⟩ : ∃ f, fuel = f + 1 := ⟨fuel - 1, by omega⟩
    have hc : ¬ nI m ≤ nI i := nI_ge (by omega) (by omega)
    obtain ⟨t1, t2, t3⟩ := takeStep_R hR
    rw [← stepsS_succ] at t1
    obtain ⟨M1, e1⟩ : ∃ x, x = mX4_takeStep 15 M := ⟨_, rfl⟩
    rw [← e1] at t1 t3
    obtain ⟨u1, u2⟩ := prove48 t1 ho (show i < 10 by omega) (mX5_prove_36 f) (PX5_prove_36 f) (nI m)
    obtain ⟨M2, e2⟩ : ∃ x, x = upm (upm (upm M1 28 (3 * i) (rowv (stepsS s n (i + 1)) o 0)) 28 (3 * i + 1) (rowv (stepsS s n (i + 1)) o 1)) 28 (3 * i + 2) (rowv (stepsS s n (i + 1)) o 2) := ⟨_, rfl⟩
    rw [← e2] at u1 u2
    have f2 : ∀ q, q ≠ 28 → M2 q = M1 q := fun q hq => by rw [e2, upm_ne hq, upm_ne hq, upm_ne hq]
    have r28 : ∀ j, M2 28 j = if j = 3 * i then pv s n o (3 * i) else if j = 3 * i + 1 then pv s n o (3 * i + 1) else if j = 3 * i + 2 then pv s n o (3 * i + 2) else M 28 j := fun j => by
      rw [e2, upm_at, upm_at, upm_at, row3, pv_0, pv_1, pv_2, t3 28 (by decide) (by decide) (by decide)]
    obtain ⟨M', c1, c2, c3, c4, c5, c6, c7⟩ := ih f (i + 1) M2 (by omega) (by omega) (t1.congr (fun j hj => f2 _ (by omega)) (fun _ _ => rfl))
    refine ⟨M', ?_, ?_, c3, fun z hz => ?_, fun q h1 h2 h3 => ?_, fun j hj => ?_, fun j h1 h2 => ?_⟩
    · rw [mX5_prove_36, if_neg hc, ← e1, u1]
      exact c1
    · rw [PX5_prove_36]
      refine fun _ => ⟨t2, ?_⟩
      rw [← e1]
      exact u2 c2
    · rw [c4 z hz, f2 0 (by decide), t3 0 (by decide) (by decide) (by decide)]
    · rw [c5 q h1 h2 h3, f2 q h2, t3 q (by omega) (by omega) (by omega)]
    · rw [c6 j (by omega), r28, if_neg (by omega), if_neg (by omega), if_neg (by omega)]
    · by_cases z : 3 * (i + 1) ≤ j
      · exact c7 j z h2
      · rw [c6 j (by omega), r28]
        by_cases z0 : j = 3 * i
        · subst z0; rw [if_pos rfl]
        · by_cases z1 : j = 3 * i + 1
          · subst z1; rw [if_neg z0, if_pos rfl]
          · have z2 : j = 3 * i + 2 := by omega
            subst z2; rw [if_neg z0, if_neg z1, if_pos rfl]
theorem prove35 {s : Nat → Int32} {n o m : Nat} (hG : GS s n) (ho : o < n) (hm : m ≤ 10) : ∀ (k fuel i : Nat) (N : Mem), k < fuel → i + k = m → N 47 = stepsS s n i → (∀ j, j < 56 → N 49 j = s j) →
    ∃ N', mX6_prove_35 fuel (nI o) (nI m) (nI i) N = (nI m, N') ∧ PX6_prove_35 fuel (nI o) (nI m) (nI i) N ∧ N' 46 17 = nI m ∧ (∀ z, z ≠ 17 → N' 46 z = N 46 z) ∧ (∀ q, q ≠ 46 → q ≠ 47 → q ≠ 56 → N' q = N q) ∧ (∀ j, j < 56 → N' 47 j = s j) ∧ (∀ j, j < 3 * i → N' 56 j = N 56 j) ∧ ∀ j, 3 * i ≤ j → j < 3 * m → N' 56 j = pv s n o j := by
  intro k
  induction k with
  | zero =>
    intro fuel i N hf hi h47 h49
    obtain ⟨f, rfl⟩ : ∃ f, fuel = f + 1 := ⟨fuel - 1, by omega⟩
    have hc : nI m ≤ nI i := nI_le (by omega) (by omega)
    have x := back_ex (s := s) (N := N) h49
    refine ⟨upm (mX6_copyRow 49 56 47 56 N) 46 17 (nI m), ?_, ?_, by rw [upm_at, upd_at], fun z hz => by rw [upm_at, upd_ne hz, x.2 46 (by decide)], fun q h1 h2 _ => by rw [upm_ne h1, x.2 q h2], fun j hj => by rw [upm_ne (by decide)]; exact x.1 j hj, fun j _ => by rw [upm_ne (by decide), x.2 56 (by decide)], fun j h1 h2 => by omega⟩
    · rw [mX6_prove_35, if_pos hc]
      rfl
    · rw [PX6_prove_35]
      exact ⟨fun _ => ⟨(back_eq _).2, trivial⟩, fun q => absurd hc q⟩
  | succ k ih =>
    intro fuel i N hf hi h47 h49
    obtain ⟨f, rfl⟩ : ∃ f, fuel = f + 1 := ⟨fuel - 1, by omega⟩
    have h8 : o < 8 := by have := hG.1; omega
    have hc : ¬ nI m ≤ nI i := nI_ge (by omega) (by omega)
    have hi1 : nI i + 1 = nI (i + 1) := (nI_succ i).symm
    obtain ⟨t1, t2⟩ := goesOn_eq (hG.steps i) h47
    rw [← stepsS_succ] at t1
    have hG1 := hG.steps (i + 1)
    obtain ⟨M1, e1⟩ : ∃ x, x = mX6_goesOn N := ⟨_, rfl⟩
    rw [← e1] at t1
    have m47 : M1 47 = stepsS s n (i + 1) := by rw [t1, upr_at]
    obtain ⟨h, hh, eh⟩ := hG1.ho ho
    have i0 : (3 : Int32) * nI i = nI (3 * i) := x3 i
    have i1 : (3 : Int32) * nI i + 1 = nI (3 * i + 1) := by rw [x3]; exact nI_add _ 1
    have i2 : (3 : Int32) * nI i + 2 = nI (3 * i + 2) := by rw [x3]; exact nI_add _ 2
    have a0 : mX6_its (nI o) 3 M1 = pv s n o (3 * i) := by
      rw [its3 h8, m47, pv_0]; rfl
    have a0' : mX6_its (nI o) 3 (upm M1 56 (3 * i) (pv s n o (3 * i))) = stepsS s n (i + 1) (24 + 4 * o + 3) := by
      rw [its3 h8, upm_ne (by decide), m47]
    have a1 : upm M1 56 (3 * i) (pv s n o (3 * i)) 47 (8 + stepsS s n (i + 1) (24 + 4 * o + 3)).toNatClampNeg = pv s n o (3 * i + 1) := by
      rw [pv_1, upm_ne (by decide), m47]
      unfold rowv
      rw [if_neg (by decide), if_pos rfl, eh, ixw h hh, nIc (by omega)]
    obtain ⟨a2, p2⟩ := offNow_eq (N := upm (upm M1 56 (3 * i) (pv s n o (3 * i))) 56 (3 * i + 1) (pv s n o (3 * i + 1))) hG1 ho (fun j _ => by rw [upm_ne (by decide), upm_ne (by decide), m47])
    rw [← pv_2 s n o i] at a2
    obtain ⟨M2, e2⟩ : ∃ x, x = upm (upm (upm M1 56 (3 * i) (pv s n o (3 * i))) 56 (3 * i + 1) (pv s n o (3 * i + 1))) 56 (3 * i + 2) (pv s n o (3 * i + 2)) := ⟨_, rfl⟩
    have f2 : ∀ q, q ≠ 56 → M2 q = M1 q := fun q hq => by rw [e2, upm_ne hq, upm_ne hq, upm_ne hq]
    have f1 : ∀ q, q ≠ 47 → M1 q = N q := fun q hq => by rw [t1, upr_ne hq]
    have r28 : ∀ j, M2 56 j = if j = 3 * i then pv s n o (3 * i) else if j = 3 * i + 1 then pv s n o (3 * i + 1) else if j = 3 * i + 2 then pv s n o (3 * i + 2) else N 56 j := fun j => by
      rw [e2, upm_at, upm_at, upm_at, row3, f1 56 (by decide)]
    obtain ⟨M', c1, c2, c3, c4, c5, c6, c7, c8⟩ := ih f (i + 1) M2 (by omega) (by omega) (by rw [f2 47 (by decide), m47]) (fun j hj => by rw [f2 49 (by decide), f1 49 (by decide)]; exact h49 j hj)
    refine ⟨M', ?_, ?_, c3, fun z hz => ?_, fun q h1 h2 h3 => ?_, c6, fun j hj => ?_, fun j h1 h2 => ?_⟩
    · rw [mX6_prove_35, if_neg hc, ← e1]
      unfold mX6_prove_44
      rw [i0, nIc (by omega), a0, a0', a1, ← i0, i1, nIc (by omega), a2, i2, nIc (by omega), ← e2, hi1]
      exact c1
    · rw [PX6_prove_35]
      refine ⟨fun q => absurd q hc, fun _ => ⟨t2, ?_⟩⟩
      rw [← e1]
      unfold PX6_prove_44
      refine ⟨pits3 h8, by rw [i0]; exact vin (by omega) (by decide), pits3 h8, ?_⟩
      rw [i0, nIc (by omega), a0, a0', a1, ← i0, i1, nIc (by omega), a2, i2, nIc (by omega), ← e2, hi1]
      exact ⟨by rw [eh]; exact ixnw h hh, vin (by omega) (by decide), p2, vin (by omega) (by decide), c2⟩
    · rw [c4 z hz, f2 46 (by decide), f1 46 (by decide)]
    · rw [c5 q h1 h2 h3, f2 q h3, f1 q h2]
    · rw [c7 j (by omega), r28, if_neg (by omega), if_neg (by omega), if_neg (by omega)]
    · by_cases z : 3 * (i + 1) ≤ j
      · exact c8 j z h2
      · rw [c7 j (by omega), r28]
        by_cases z0 : j = 3 * i
        · subst z0; rw [if_pos rfl]
        · by_cases z1 : j = 3 * i + 1
          · subst z1; rw [if_neg z0, if_pos rfl]
          · have z2 : j = 3 * i + 2 := by omega
            subst z2; rw [if_neg z0, if_neg z1, if_pos rfl]
theorem ok_prove {M : Mem} (a m : Int32) (h : Inv M) : OKm (PX5_prove a m) (mX5_prove a m) (PX6_prove a m) (mX6_prove a m) M := by
  obtain ⟨n, hR⟩ := h.1
  have hn := hR.1
  obtain ⟨e1, e2⟩ := has_eq (M := M) (N := M) (b := 1) (a := a) hR.2.1.1 hR.2.1.2 hn
  have ei : mX6_isIn m.toInt64 1 10 = mX5_isWithin m 1 10 := isIn_eq m 1 10
  unfold OKm mX5_prove mX6_prove PX5_prove PX6_prove mX5_prove_34 PX5_prove_34 mX6_prove_33 PX6_prove_33
  by_cases hh : mX4_has 1 a M = true
  · by_cases hm : mX5_isWithin m 1 10 = true
    · obtain ⟨o, ho, rfl⟩ := e2 hh
      obtain ⟨k, hk1, hk, rfl⟩ : ∃ k, 1 ≤ k ∧ k ≤ 10 ∧ m = nI k := by
        obtain ⟨k, hk | hk⟩ := within_60 (lo := 1) (hi := 10) (by decide) hm
        · exact ⟨k, hk⟩
        · exact absurd hk (by decide)
      have hb := become_R TB15 TB1 (by decide) hR
      have hbf := (become_at TB15 TB1 (by decide) M).2.2.2.2
      obtain ⟨M0, e0⟩ : ∃ x, x = mX4_become 15 1 M := ⟨_, rfl⟩
      rw [← e0] at hb hbf
      obtain ⟨M1, a1, a2, a3, a4, a5, a6, a7⟩ := prove36 (s := M 47) ho hk k 400 0 M0 (by omega) (by omega) hb
      have a1' : mX5_prove_36 400 (nI o) (nI k) 0 M0 = (nI k, M1) := a1
      have g1 : ∀ q, q ≠ 0 → q ≠ 28 → (q < 15 ∨ 21 < q) → M1 q = M q := fun q h1 h2 h3 => by rw [a5 q h1 h2 h3, hbf q (by omega)]
      have s47 : M1 47 = M 47 := g1 47 (by decide) (by decide) (by omega)
      have i1 : mX6_isOne (nI o) M1 = true := by
        unfold mX6_isOne at e1 ⊢
        rw [s47, ← e1]; exact hh
      obtain ⟨b1, b2⟩ := aside_eq M1
      obtain ⟨N', c1, c2, c3, c4, c5, c6, c7, c8⟩ := prove35 (s := M 47) hR.gs ho hk k 400 0 (upr M1 49 (c56 (M1 47) (M1 49))) (by omega) (by omega) ((upr_ne (by decide)).trans s47) (fun j hj => by rw [upr_at, c56_at hj, s47])
      have c1' : mX6_prove_35 400 (nI o) (nI k) 0 (upr M1 49 (c56 (M1 47) (M1 49))) = (nI k, N') := c1
      rw [if_pos hh, if_pos hm, ← e0, a1']
      simp only [i1, ei, hm, if_true, b1, c1']
      refine ⟨fun _ _ => ⟨pbecome _ _ _, a2⟩, fun _ _ => ⟨b2, c2⟩, trivial, ?_⟩
      have g2 : ∀ q, q ≠ 0 → q ≠ 28 → (q < 15 ∨ 21 < q) → q ≠ 46 → q ≠ 47 → q ≠ 49 → q ≠ 56 → N' q = M q := fun q h1 h2 h3 h4 h5 h6 h7 => by
        rw [c5 q h4 h5 h7, upr_ne h6, g1 q h1 h2 h3]
      have n0 : N' 0 = M1 0 := by rw [c5 0 (by decide) (by decide) (by decide), upr_ne (by decide)]
      have n0' : ∀ z, z ≠ 13 → N' 0 z = M 0 z := fun z hz => by rw [n0, a4 z hz, hbf 0 (by decide)]
      have n46 : ∀ z, z ≠ 17 → N' 46 z = M 46 z := fun z hz => by rw [c4 z hz, upr_ne (by decide), g1 46 (by decide) (by decide) (by omega)]
      obtain ⟨hRR, hK, hT, hW, hS, hV, hA⟩ := h
      refine ⟨InvR.of hR (fun p h1 h2 => g2 p (by omega) (by omega) (by omega) (by omega) (by omega) (by omega) (by omega)) c6, hK.of (n0' 14 (by decide)) (n46 4 (by decide)) (fun p h1 h2 => g2 p (by omega) (by omega) (by omega) (by omega) (by omega) (by omega) (by omega)) ?_, hT.of ?_ (n46 6 (by decide)) ?_ ?_, ⟨k, hk, by rw [n0]; exact a3, c3, fun i hi => ?_⟩, hS.of (fun p h1 h2 => g2 p (by omega) (by omega) (by omega) (by omega) (by omega) (by omega) (by omega)) ?_ ?_ ?_, hV.of (fun p h1 h2 => g2 p (by omega) (by omega) (by omega) (by omega) (by omega) (by omega) (by omega)) ?_ ?_ ?_, hA.of ?_ (n46 25 (by decide)) ?_ ?_⟩
      case refine_5 =>
        rw [c8 i (by omega) hi, c5 28 (by decide) (by decide) (by decide), upr_ne (by decide), a7 i (by omega) hi]
      all_goals (rw [g2 _ (by decide) (by decide) (by decide) (by decide) (by decide) (by decide) (by decide)])
    · rw [if_pos hh, if_neg hm]
      refine ⟨fun _ q => absurd q hm, fun _ q => absurd q (by rw [ei]; exact hm), ?_, ?_⟩
      · rw [← e1, if_pos hh, ei, if_neg hm]
      · rw [← e1, if_pos hh, ei, if_neg hm]; exact h
  · rw [if_neg hh]
    refine ⟨fun q => absurd q hh, fun q => absurd q (by rw [← e1]; exact hh), ?_, ?_⟩
    · rw [← e1, if_neg hh]
    · rw [← e1, if_neg hh]; exact h
