/-! ROWS OF STEPS judged -/
/-- the number of the first that is not right (counted from 1); 0: all are -/
def jd (q : Nat → Bool) : Nat → Nat → Int32
  | 0, _ => 0
  | k + 1, i => if q i = true then jd q k (i + 1) else nI (i + 1)
def jq (r s : Nat → Int32) (n o i : Nat) : Bool := decide (r (3 * i) = pv s n o (3 * i) ∧ r (3 * i + 1) = pv s n o (3 * i + 1) ∧ r (3 * i + 2) = pv s n o (3 * i + 2))
theorem judge41 {M : Mem} {s : Nat → Int32} {n o i : Nat} (hR : R M 15 s n) (ho : o < n) (hi : i < 10) (kf : Int32 → Int32 → Mem → Int32 × Mem) (kP : Int32 → Int32 → Mem → Prop) :
    mX5_judge_41 kf (nI o) (nI i) M = (if M 28 (3 * i) = rowv s o 0 ∧ M 28 (3 * i + 1) = rowv s o 1 ∧ M 28 (3 * i + 2) = rowv s o 2 then kf (nI o) (nI (i + 1)) M else (nI (i + 1), M)) ∧
    ((M 28 (3 * i) = rowv s o 0 ∧ M 28 (3 * i + 1) = rowv s o 1 ∧ M 28 (3 * i + 2) = rowv s o 2 → kP (nI o) (nI (i + 1)) M) → PX5_judge_41 kP (nI o) (nI i) M) := by
  have hi1 : nI i + 1 = nI (i + 1) := (nI_succ i).symm
  obtain ⟨⟨a1, a2, a3⟩, ⟨p1, p2, p3⟩⟩ := rowPart_eq hR ho
  have c0 : ¬ (3 : Int32) ≤ 0 := by decide
  have c1 : ¬ (3 : Int32) ≤ 1 := by decide
  have c2 : ¬ (3 : Int32) ≤ 2 := by decide
  have c3 : (3 : Int32) ≤ 3 := by decide
  have s0 : (0 : Int32) + 1 = 1 := by decide
  have s1 : (1 : Int32) + 1 = 2 := by decide
  have s2 : (2 : Int32) + 1 = 3 := by decide
  have i0 : nI i * 3 + 0 = nI (3 * i) := x3' i 0
  have i1 : nI i * 3 + 1 = nI (3 * i + 1) := x3' i 1
  have i2 : nI i * 3 + 2 = nI (3 * i + 2) := x3' i 2
  unfold mX5_judge_41 PX5_judge_41
  rw [show (400 : Nat) = 396 + 1 + 1 + 1 + 1 from rfl]
  constructor
  · rw [mX5_judge_43, if_neg c0, s0, i0, nIc (by omega), a1, hi1]
    by_cases q0 : M 28 (3 * i) = rowv s o 0
    · rw [if_pos q0, mX5_judge_43, if_neg c1, s1, i1, nIc (by omega), a2, hi1]
      by_cases q1 : M 28 (3 * i + 1) = rowv s o 1
      · rw [if_pos q1, mX5_judge_43, if_neg c2, s2, i2, nIc (by omega), a3, hi1]
        by_cases q2 : M 28 (3 * i + 2) = rowv s o 2
        · rw [if_pos q2, mX5_judge_43, if_pos c3, hi1, if_pos ⟨q0, q1, q2⟩]
        · rw [if_neg q2, if_neg (fun z => q2 z.2.2)]
      · rw [if_neg q1, if_neg (fun z => q1 z.2.1)]
    · rw [if_neg q0, if_neg (fun z => q0 z.1)]
  · intro hk
    rw [PX5_judge_43]
    refine ⟨fun q => absurd q c0, fun _ => ⟨by rw [i0]; exact vin (by omega) (by decide), p1, fun q0 => ?_⟩⟩
    rw [i0, nIc (by omega), a1] at q0
    rw [s0, PX5_judge_43]
    refine ⟨fun q => absurd q c1, fun _ => ⟨by rw [i1]; exact vin (by omega) (by decide), p2, fun q1 => ?_⟩⟩
    rw [i1, nIc (by omega), a2] at q1
    rw [s1, PX5_judge_43]
    refine ⟨fun q => absurd q c2, fun _ => ⟨by rw [i2]; exact vin (by omega) (by decide), p3, fun q2 => ?_⟩⟩
    rw [i2, nIc (by omega), a3] at q2
    rw [s2, PX5_judge_43]
    refine ⟨fun _ => ?_, fun q => absurd c3 q⟩
    rw [hi1]
    exact hk ⟨q0, q1, q2⟩
theorem judge26 {r s : Nat → Int32} {n o m : Nat} (ho : o < n) (hm : m ≤ 10) : ∀ (k fuel i : Nat) (M : Mem), k < fuel → i + k = m → R M 15 (stepsS s n i) n → M 0 13 = nI m → M 28 = r →
    ∃ M', mX5_judge_26 fuel (nI o) (nI i) M = (jd (jq r s n o) k i, M') ∧ PX5_judge_26 fuel (nI o) (nI i) M ∧ (∀ q, (q < 15 ∨ 21 < q) → M' q = M q) := by
  intro k
  induction k with
  | zero =>
    intro fuel i M hf hi hR h0 h28
    obtain ⟨f, rfl⟩ : ∃ f, fuel = f + 1 := ⟨fuel - 1, by omega⟩
    have hc : M 0 13 ≤ nI i := by rw [h0]; exact nI_le (by omega) (by omega)
    refine ⟨M, ?_, ?_, fun _ _ => rfl⟩
    · rw [mX5_judge_26, if_pos hc]
      rfl
    · rw [PX5_judge_26]
      exact fun q => absurd hc q
  | succ k ih =>
    intro fuel i M hf hi hR h0 h28
    obtain ⟨f, rfl⟩ : ∃ f, fuel = f + 1 := ⟨fuel - 1, by omega⟩
    have hc : ¬ M 0 13 ≤ nI i := by rw [h0]; exact nI_ge (by omega) (by omega)
    obtain ⟨t1, t2, t3⟩ := takeStep_R hR
    rw [← stepsS_succ] at t1
    obtain ⟨M1, e1⟩ : ∃ x, x = mX4_takeStep 15 M := ⟨_, rfl⟩
    rw [← e1] at t1 t3
    obtain ⟨u1, u2⟩ := judge41 t1 ho (show i < 10 by omega) (mX5_judge_26 f) (PX5_judge_26 f)
    have r28 : M1 28 = r := (t3 28 (by decide) (by decide) (by decide)).trans h28
    rw [r28] at u1 u2
    obtain ⟨M', c1, c2, c3⟩ := ih f (i + 1) M1 (by omega) (by omega) t1 (by rw [t3 0 (by decide) (by decide) (by decide)]; exact h0) r28
    have fr : ∀ q, (q < 15 ∨ 21 < q) → M1 q = M q := fun q hq => t3 q (by omega) (by omega) (by omega)
    have eq : (jq r s n o i = true) ↔ (r (3 * i) = rowv (stepsS s n (i + 1)) o 0 ∧ r (3 * i + 1) = rowv (stepsS s n (i + 1)) o 1 ∧ r (3 * i + 2) = rowv (stepsS s n (i + 1)) o 2) := by
      unfold jq
      rw [decide_eq_true_iff, pv_0, pv_1, pv_2]
    by_cases q : jq r s n o i = true
    · refine ⟨M', ?_, ?_, fun z hz => (c3 z hz).trans (fr z hz)⟩
      · rw [mX5_judge_26, if_neg hc, ← e1, u1, if_pos (eq.mp q), jd, if_pos q]
        exact c1
      · rw [PX5_judge_26]
        refine fun _ => ⟨t2, ?_⟩
        rw [← e1]
        exact u2 (fun _ => c2)
    · refine ⟨M1, ?_, ?_, fr⟩
      · rw [mX5_judge_26, if_neg hc, ← e1, u1, if_neg (fun z => q (eq.mpr z)), jd, if_neg q]
      · rw [PX5_judge_26]
        refine fun _ => ⟨t2, ?_⟩
        rw [← e1]
        exact u2 (fun z => absurd (eq.mpr z) q)
theorem judge115 {N : Mem} {s : Nat → Int32} (h49 : ∀ j, j < 56 → N 49 j = s j) (v2 v3 : Int32) : ∃ N', mX6_judge_115 v2 v3 N = (if v3 = 0 then v2 else 0, N') ∧ PX6_judge_115 v2 v3 N ∧ (∀ j, j < 56 → N' 47 j = s j) ∧ ∀ q, q ≠ 47 → N' q = N q := by
  have x := back_ex (s := s) (N := N) h49
  refine ⟨mX6_copyRow 49 56 47 56 N, ?_, ⟨(back_eq _).2, trivial⟩, x.1, x.2⟩
  unfold mX6_judge_115 mX6_judge_126
  by_cases q : v3 = 0
  · rw [if_pos q, if_pos q]
  · rw [if_neg q, if_neg q]
theorem judge25 {r s : Nat → Int32} {n o m : Nat} (hG : GS s n) (ho : o < n) (hm : m ≤ 10) : ∀ (k fuel i : Nat) (N : Mem), k + 1 < fuel → i + k = m → N 47 = stepsS s n i → (∀ j, j < 56 → N 49 j = s j) → N 46 17 = nI m → N 56 = r →
    ∃ N', mX6_judge_25 fuel (nI o) (nI i) 1 N = (jd (jq r s n o) k i, N') ∧ PX6_judge_25 fuel (nI o) (nI i) 1 N ∧ (∀ j, j < 56 → N' 47 j = s j) ∧ ∀ q, q ≠ 47 → N' q = N q := by
  have h1 : ¬ (1 : Int32) = 0 := by decide
  intro k
  induction k with
  | zero =>
    intro fuel i N hf hi h47 h49 h46 h56
    obtain ⟨f, rfl⟩ : ∃ f, fuel = f + 1 := ⟨fuel - 1, by omega⟩
    have hc : N 46 17 ≤ nI i := by rw [h46]; exact nI_le (by omega) (by omega)
    obtain ⟨N', a1, a2, a3, a4⟩ := judge115 h49 (nI i) 1
    refine ⟨N', ?_, ?_, a3, a4⟩
    · rw [mX6_judge_25, if_pos hc, a1, if_neg h1]
      rfl
    · rw [PX6_judge_25]
      exact ⟨fun _ => a2, fun q => absurd hc q⟩
  | succ k ih =>
    intro fuel i N hf hi h47 h49 h46 h56
    obtain ⟨f, rfl⟩ : ∃ f, fuel = f + 1 := ⟨fuel - 1, by omega⟩
    have h8 : o < 8 := by have := hG.1; omega
    have hc : ¬ N 46 17 ≤ nI i := by rw [h46]; exact nI_ge (by omega) (by omega)
    have hi1 : nI i + 1 = nI (i + 1) := (nI_succ i).symm
    obtain ⟨t1, t2⟩ := goesOn_eq (hG.steps i) h47
    rw [← stepsS_succ] at t1
    have hG1 := hG.steps (i + 1)
    obtain ⟨M1, e1⟩ : ∃ x, x = mX6_goesOn N := ⟨_, rfl⟩
    rw [← e1] at t1
    have m47 : M1 47 = stepsS s n (i + 1) := by rw [t1, upr_at]
    have f1 : ∀ q, q ≠ 47 → M1 q = N q := fun q hq => by rw [t1, upr_ne hq]
    have r56 : M1 56 = r := (f1 56 (by decide)).trans h56
    obtain ⟨h, hh, eh⟩ := hG1.ho ho
    have i0 : (3 : Int32) * nI i = nI (3 * i) := x3 i
    have i1 : (3 : Int32) * nI i + 1 = nI (3 * i + 1) := by rw [x3]; exact nI_add _ 1
    have i2 : (3 : Int32) * nI i + 2 = nI (3 * i + 2) := by rw [x3]; exact nI_add _ 2
    have a0 : mX6_its (nI o) 3 M1 = pv s n o (3 * i) := by
      rw [its3 h8, m47, pv_0]; rfl
    have eh' : pv s n o (3 * i) = nI h := by rw [pv_0]; exact eh
    have a1 : M1 47 (8 + pv s n o (3 * i)).toNatClampNeg = pv s n o (3 * i + 1) := by
      rw [pv_1, m47, eh']
      unfold rowv
      rw [if_neg (by decide), if_pos rfl, eh, ixw h hh, nIc (by omega)]
    obtain ⟨a2, p2⟩ := offNow_eq (N := M1) hG1 ho (fun j _ => by rw [m47])
    rw [← pv_2 s n o i] at a2
    have v0 : vp_in (3 * nI i) 30 := by rw [i0]; exact vin (by omega) (by decide)
    have v1 : vp_in (3 * nI i + 1) 30 := by rw [i1]; exact vin (by omega) (by decide)
    have v2 : vp_in (3 * nI i + 2) 30 := by rw [i2]; exact vin (by omega) (by decide)
    have vw : vp_in (8 + pv s n o (3 * i)) 56 := by rw [eh']; exact ixnw h hh
    have hm1 : ∀ j, j < 56 → M1 49 j = s j := fun j hj => by rw [f1 49 (by decide)]; exact h49 j hj
    -- behind a wrong one
    have bad : ∃ N', mX6_judge_107 (mX6_judge_25 f) (nI o) (nI i) M1 = (nI (i + 1), N') ∧ PX6_judge_107 (PX6_judge_25 f) (nI o) (nI i) M1 ∧ (∀ j, j < 56 → N' 47 j = s j) ∧ ∀ q, q ≠ 47 → N' q = M1 q := by
      obtain ⟨g, rfl⟩ : ∃ g, f = g + 1 := ⟨f - 1, by omega⟩
      obtain ⟨N', b1, b2, b3, b4⟩ := judge115 hm1 (nI (i + 1)) 0
      refine ⟨N', ?_, ?_, b3, b4⟩
      · unfold mX6_judge_107 mX6_judge_108
        rw [hi1, mX6_judge_25, b1]
        by_cases z : M1 46 17 ≤ nI (i + 1)
        · rw [if_pos z, if_pos rfl]
        · rw [if_neg z, if_pos rfl, if_pos rfl]
      · unfold PX6_judge_107 PX6_judge_108
        rw [hi1, PX6_judge_25]
        exact ⟨fun _ => b2, fun _ => ⟨fun _ => b2, fun q => absurd rfl q⟩⟩
    obtain ⟨Nb, b1, b2, b3, b4⟩ := bad
    obtain ⟨Ng, c1, c2, c3, c4⟩ := ih f (i + 1) M1 (by omega) (by omega) m47 hm1 (by rw [f1 46 (by decide)]; exact h46) r56
    have g1 : mX6_judge_108 (mX6_judge_25 f) (nI o) (nI i) 1 M1 = (jd (jq r s n o) k (i + 1), Ng) := by
      unfold mX6_judge_108
      rw [hi1]; exact c1
    have g2 : PX6_judge_108 (PX6_judge_25 f) (nI o) (nI i) 1 M1 := by
      unfold PX6_judge_108
      rw [hi1]; exact c2
    have hP : PX6_judge_41 (PX6_judge_25 f) (nI o) (nI i) M1 := by
      unfold PX6_judge_41
      rw [a0, r56, a1, a2, i1, i2, i0]
      refine ⟨vin (by omega) (by decide), pits3 h8, fun _ => ⟨vin (by omega) (by decide), pits3 h8, vw, fun _ => ⟨vin (by omega) (by decide), p2, fun _ => g2, fun _ => b2⟩, fun _ => b2⟩, fun _ => b2⟩
    have hPP : PX6_judge_25 (f + 1) (nI o) (nI i) 1 N := by
      rw [PX6_judge_25]
      refine ⟨fun q => absurd q hc, fun _ => ⟨fun q => absurd q h1, fun _ => ⟨t2, ?_⟩⟩⟩
      rw [← e1]
      exact hP
    have hM : mX6_judge_25 (f + 1) (nI o) (nI i) 1 N = mX6_judge_41 (mX6_judge_25 f) (nI o) (nI i) M1 := by
      rw [mX6_judge_25, if_neg hc, if_neg h1, ← e1]
    have hV : mX6_judge_41 (mX6_judge_25 f) (nI o) (nI i) M1 = if jq r s n o i = true then mX6_judge_108 (mX6_judge_25 f) (nI o) (nI i) 1 M1 else mX6_judge_107 (mX6_judge_25 f) (nI o) (nI i) M1 := by
      unfold mX6_judge_41
      rw [a0, r56, a1, a2, i1, i2, i0, nIc (by omega), nIc (by omega), nIc (by omega)]
      by_cases q0 : r (3 * i) = pv s n o (3 * i)
      · rw [if_pos q0]
        by_cases q1 : r (3 * i + 1) = pv s n o (3 * i + 1)
        · rw [if_pos q1]
          by_cases q2 : r (3 * i + 2) = pv s n o (3 * i + 2)
          · rw [if_pos q2, if_pos (show jq r s n o i = true from decide_eq_true ⟨q0, q1, q2⟩)]
          · rw [if_neg q2, if_neg (show ¬ jq r s n o i = true from fun z => q2 (of_decide_eq_true z).2.2)]
        · rw [if_neg q1, if_neg (show ¬ jq r s n o i = true from fun z => q1 (of_decide_eq_true z).2.1)]
      · rw [if_neg q0, if_neg (show ¬ jq r s n o i = true from fun z => q0 (of_decide_eq_true z).1)]
    by_cases q : jq r s n o i = true
    · refine ⟨Ng, ?_, hPP, c3, fun z hz => (c4 z hz).trans (f1 z hz)⟩
      rw [hM, hV, if_pos q, jd, if_pos q, g1]
    · refine ⟨Nb, ?_, hPP, b3, fun z hz => (b4 z hz).trans (f1 z hz)⟩
      rw [hM, hV, if_neg q, jd, if_neg q, b1]
theorem jd_ext {q q' : Nat → Bool} : ∀ (k i : Nat), (∀ j, i ≤ j → j < i + k → q j = q' j) → jd q k i = jd q' k i := by
  intro k
  induction k with
  | zero => intro i _; rfl
  | succ k ih =>
    intro i h
    rw [jd, jd, h i (by omega) (by omega), ih (i + 1) (fun j h1 h2 => h j (by omega) (by omega))]
theorem ok_judge {M : Mem} (a : Int32) (h : Inv M) : OKm (PX5_judge a) (mX5_judge a) (PX6_judge a) (mX6_judge a) M := by
  obtain ⟨n, hR⟩ := h.1
  have hn := hR.1
  obtain ⟨e1, e2⟩ := has_eq (M := M) (N := M) (b := 1) (a := a) hR.2.1.1 hR.2.1.2 hn
  obtain ⟨rn, hr, w1, w2, w3⟩ := h.2.2.2.1
  unfold OKm mX5_judge mX6_judge PX5_judge PX6_judge mX5_judge_24 PX5_judge_24 mX6_judge_21 PX6_judge_21
  by_cases hh : mX4_has 1 a M = true
  · obtain ⟨o, ho, rfl⟩ := e2 hh
    have hb := become_R TB15 TB1 (by decide) hR
    have hbf := (become_at TB15 TB1 (by decide) M).2.2.2.2
    obtain ⟨M0, e0⟩ : ∃ x, x = mX4_become 15 1 M := ⟨_, rfl⟩
    rw [← e0] at hb hbf
    obtain ⟨M1, a1, a2, a3⟩ := judge26 (r := M 28) (s := M 47) ho hr rn 400 0 M0 (by omega) (by omega) hb ((congrFun (hbf 0 (by decide)) 13).trans w1) (hbf 28 (by decide))
    have a1' : mX5_judge_26 400 (nI o) 0 M0 = _ := a1
    have g1 : ∀ q, (q < 15 ∨ 21 < q) → M1 q = M q := fun q h1 => by rw [a3 q h1, hbf q (by omega)]
    have s47 : M1 47 = M 47 := g1 47 (by omega)
    have i1 : mX6_isOne (nI o) M1 = true := by
      unfold mX6_isOne at e1 ⊢
      rw [s47, ← e1]; exact hh
    obtain ⟨b1, b2⟩ := aside_eq M1
    obtain ⟨N', c1, c2, c3, c4⟩ := judge25 (r := M 56) (s := M 47) hR.gs ho hr rn 400 0 (upr M1 49 (c56 (M1 47) (M1 49))) (by omega) (by omega) ((upr_ne (by decide)).trans s47) (fun j hj => by rw [upr_at, c56_at hj, s47]) (by rw [upr_ne (by decide), g1 46 (by omega)]; exact w2) (by rw [upr_ne (by decide), g1 56 (by omega)])
    have c1' : mX6_judge_25 400 (nI o) 0 1 (upr M1 49 (c56 (M1 47) (M1 49))) = _ := c1
    have all : ∀ q, (q < 15 ∨ 21 < q) → q ≠ 29 → q ≠ 30 → q ≠ 31 → q ≠ 32 → q ≠ 33 → M1 q = M q := fun q h1 _ _ _ _ _ => g1 q h1
    have hF : Fr M1 N' := ⟨fun p hp => by
      unfold PS at hp
      rw [c4 p (by omega), upr_ne (by omega)], fun k hk => by rw [c3 k hk, s47]⟩
    rw [if_pos hh, ← e0, a1']
    simp only [i1, if_true, b1, c1']
    refine ⟨fun _ => ⟨pbecome _ _ _, a2⟩, fun _ => ⟨b2, c2⟩, jd_ext rn 0 (fun j _ hj => ?_), Inv.fr ((Fr.of5 all).trans hF) h⟩
    unfold jq
    rw [w3 (3 * j) (by omega), w3 (3 * j + 1) (by omega), w3 (3 * j + 2) (by omega)]
  · rw [if_neg hh]
    refine ⟨fun q => absurd q hh, fun q => absurd q (by rw [← e1]; exact hh), ?_, ?_⟩
    · rw [← e1, if_neg hh]
    · rw [← e1, if_neg hh]; exact h
