/-! IN HOW MANY of n STEPS BY DRAWS one is blown elsewhere -/
theorem wtR_hi {n j : Nat} (hj : 56 ≤ j) : ∀ (k i : Nat) (s : Nat → Int32), i + k ≤ n → GS s n → wtR s i k j = s j
  | 0, _, _, _, _ => rfl
  | k + 1, i, s, hi, hG => (wtR_hi hj k (i + 1) (wt1 s i) (by omega) (hG.wt1 (by omega))).trans (wt1_off hG (show i < n by omega) (Or.inr (by omega)))
theorem mvR_hi {n j : Nat} (hj : 56 ≤ j) (hn : n ≤ 8) : ∀ (k i : Nat) (s : Nat → Int32), i + k ≤ n → mvR s i k j = s j
  | 0, _, _, _ => rfl
  | k + 1, i, s, hi => (mvR_hi hj hn k (i + 1) (mv1 s i) (by omega)).trans (mv1_off s i (by omega))
theorem stepS_hi {s : Nat → Int32} {n j : Nat} (hG : GS s n) (hj : 56 ≤ j) : stepS s n j = s j := by
  have hn := hG.1
  unfold stepS tick
  rw [upd_ne (by omega), wtR_hi hj n 0 _ (by omega) (GS.mvR n 0 _ (by omega) hG.turn), mvR_hi hj hn n 0 _ (by omega), turnS_off _ (by omega)]
theorem stepD_hi {s : Nat → Int32} {n j : Nat} (hG : GS s n) (hj : 56 ≤ j) : stepD s n j = s j := by
  unfold stepD
  split
  · rw [stepS_hi (hG.r.zed (w := zn (s 2))).gs hj, upd_ne (by omega)]
  · rw [stepS_hi ((hG.r.zed (w := zn (zn (s 2)))).wind (dr_way (zn (s 2)))).gs hj, upd_ne (by omega), upd_ne (by omega)]
def dfb (c u : Nat → Int32) : Nat → Nat → Bool
  | 0, _ => false
  | k + 1, i => if u (24 + 4 * i + 3) = c i then dfb c u k (i + 1) else true
def blw (c s : Nat → Int32) (n : Nat) : Nat → Int32 → Int32 → Int32
  | 0, _, v => v
  | k + 1, z, v => blw c s n k (stepD (upd s 2 z) n 2) (v + b2i (dfb c (stepD (upd s 2 z) n) n 0))
theorem stands2 {M : Mem} {b n : Nat} {u c : Nat → Int32} (hR : R M b u n) (hc : ∀ o, o < n → M 31 o = c o) : ∀ (k fuel i : Nat), k < fuel → i + k = n →
    mX4_standsOtherwise_2 b 31 8 fuel (nI i) M = dfb c u k i ∧ PX4_standsOtherwise_2 b 31 8 fuel (nI i) M := by
  have hn := hR.1
  intro k
  induction k with
  | zero =>
    intro fuel i hf hi
    obtain ⟨f, rfl⟩ : ∃ f, fuel = f + 1 := ⟨fuel - 1, by omega⟩
    have hq : M b 6 ≤ nI i := by rw [hR.2.1.1]; exact nI_le (by omega) (by omega)
    constructor
    · rw [mX4_standsOtherwise_2, if_pos hq]
      rfl
    · rw [PX4_standsOtherwise_2]
      exact fun q => absurd hq q
  | succ k ih =>
    intro fuel i hf hi
    obtain ⟨f, rfl⟩ : ∃ f, fuel = f + 1 := ⟨fuel - 1, by omega⟩
    have hq : ¬ M b 6 ≤ nI i := by rw [hR.2.1.1]; exact nI_ge (by omega) (by omega)
    have h8 : ¬ nI 8 ≤ nI i := nI_ge (by omega) (by omega)
    have hi1 : nI i + 1 = nI (i + 1) := (nI_succ i).symm
    obtain ⟨e, p⟩ := ih f (i + 1) (by omega) (by omega)
    have r4 : M (b + 6) i = u (24 + 4 * i + 3) := (hR.ra (show i < n by omega)).2.2.2.1
    constructor
    · rw [mX4_standsOtherwise_2, if_neg hq, if_neg h8, nIc (by omega), r4, hc i (by omega), hi1, e, dfb]
    · rw [PX4_standsOtherwise_2]
      refine fun _ _ => ⟨vin (by omega) (by decide), vin (by omega) (by decide), fun _ => ?_⟩
      rw [hi1]
      exact p
theorem blown61 {s c : Nat → Int32} {n m : Nat} (hm : m ≤ 30) : ∀ (k fuel i : Nat) (z v : Int32) (M : Mem), k < fuel → i + k = m → R M 1 s n → (∀ o, o < n → M 31 o = c o) →
    ∃ M', mX5_blown_61 fuel (nI m) z v (nI i) M = (blw c s n k z v, M') ∧ PX5_blown_61 fuel (nI m) z v (nI i) M ∧ ∀ q, (q < 15 ∨ 21 < q) → M' q = M q := by
  intro k
  induction k with
  | zero =>
    intro fuel i z v M hf hi hR hc
    obtain ⟨f, rfl⟩ : ∃ f, fuel = f + 1 := ⟨fuel - 1, by omega⟩
    have hq : nI m ≤ nI i := nI_le (by omega) (by omega)
    refine ⟨M, ?_, ?_, fun _ _ => rfl⟩
    · rw [mX5_blown_61, if_pos hq]
      rfl
    · rw [PX5_blown_61]
      exact fun q => absurd hq q
  | succ k ih =>
    intro fuel i z v M hf hi hR hc
    obtain ⟨f, rfl⟩ : ∃ f, fuel = f + 1 := ⟨fuel - 1, by omega⟩
    have hq : ¬ nI m ≤ nI i := nI_ge (by omega) (by omega)
    have hi1 : nI i + 1 = nI (i + 1) := (nI_succ i).symm
    have hb := become_R TB15 TB1 (by decide) hR
    have hbf := (become_at TB15 TB1 (by decide) M).2.2.2.2
    obtain ⟨M0, e0⟩ : ∃ x, x = mX4_become 15 1 M := ⟨_, rfl⟩
    rw [← e0] at hb hbf
    have hz := hb.zed (w := z)
    obtain ⟨t1, t2, t3⟩ := stepD_R hz
    obtain ⟨M2, e2⟩ : ∃ x, x = mX4_takeStepByDraws 15 (upm M0 15 9 z) := ⟨_, rfl⟩
    rw [← e2] at t1 t3
    have fr : ∀ q, (q < 15 ∨ 21 < q) → M2 q = M q := fun q hq => by rw [t3 q (by omega) (by omega) (by omega), upm_ne (by omega), hbf q (by omega)]
    have c2 : ∀ o, o < n → M2 31 o = c o := fun o ho => by rw [fr 31 (by omega)]; exact hc o ho
    obtain ⟨d1, d2⟩ := stands2 t1 c2 n 400 0 (by have := hR.1; omega) (by omega)
    have d1' : mX4_standsOtherwise 15 31 8 M2 = dfb c (stepD (upd s 2 z) n) n 0 := d1
    have d2' : PX4_standsOtherwise 15 31 8 M2 := d2
    have ez : M2 15 9 = stepD (upd s 2 z) n 2 := t1.2.2.1
    obtain ⟨M', a1, a2, a3⟩ := ih f (i + 1) (stepD (upd s 2 z) n 2) (v + b2i (dfb c (stepD (upd s 2 z) n) n 0)) M2 (by omega) (by omega) (hR.congr (fun j hj => fr _ (by omega)) (fun _ _ => rfl)) c2
    have z0 : v + b2i false = v := Int32.add_zero v
    have z1 : v + b2i true = v + 1 := rfl
    refine ⟨M', ?_, ?_, fun q hq => (a3 q hq).trans (fr q hq)⟩
    · rw [mX5_blown_61, if_neg hq, ← e0]
      unfold mX5_blown_78 mX5_blown_93 mX5_blown_118
      rw [← e2, ez, d1', hi1, blw]
      cases hd : dfb c (stepD (upd s 2 z) n) n 0 with
      | true =>
        rw [hd, z1] at a1
        rw [if_pos rfl, z1]
        exact a1
      | false =>
        rw [hd, z0] at a1
        rw [if_neg (by decide), z0]
        exact a1
    · rw [PX5_blown_61]
      refine fun _ => ⟨pbecome _ _ _, ?_⟩
      rw [← e0]
      unfold PX5_blown_78 PX5_blown_93 PX5_blown_118
      rw [← e2, ez, d1', hi1]
      refine ⟨t2, d2', fun hd => ?_, fun hd => ?_⟩
      · rw [hd, z1] at a2
        exact a2
      · rw [Bool.not_eq_true] at hd
        rw [hd, z0] at a2
        exact a2
theorem orb0 (f : Bool) : b2i f ||| 0 = b2i f := by cases f <;> decide
theorem orb1 (f : Bool) : b2i f ||| 1 = b2i true := by cases f <;> decide
theorem blown107 {u c : Nat → Int32} {n : Nat} (hG : GS u n) (kf : Int32 → Int32 → Int32 → Int32 → Mem → Int32 × Mem) (kP : Int32 → Int32 → Int32 → Int32 → Mem → Prop) (v1 v3 v4 : Int32) {N : Mem} (h47 : N 47 = u) (hc : ∀ o, o < n → N 52 o = c o) : ∀ (k fuel i : Nat) (f : Bool), k < fuel → i + k = n →
    mX6_blown_107 kf fuel v1 v3 v4 (b2i f) (nI i) N = kf v1 (u 2) (v3 + b2i (f || dfb c u k i)) (v4 + 1) N ∧
    (kP v1 (u 2) (v3 + b2i (f || dfb c u k i)) (v4 + 1) N → PX6_blown_107 kP fuel v1 v3 v4 (b2i f) (nI i) N) := by
  have hn := hG.1
  have e2 : N 47 2 = u 2 := by rw [h47]
  intro k
  induction k with
  | zero =>
    intro fuel i f hf hi
    obtain ⟨g, rfl⟩ : ∃ g, fuel = g + 1 := ⟨fuel - 1, by omega⟩
    have hq : N 47 0 ≤ nI i := by rw [h47, hG.2.1]; exact nI_le (by omega) (by omega)
    have z1 : ¬ b2i true = 0 := by decide
    have z0 : b2i false = 0 := by decide
    rw [mX6_blown_107, PX6_blown_107, if_pos hq]
    unfold mX6_blown_162 PX6_blown_162
    rw [e2]
    cases f with
    | true =>
      rw [if_neg z1]
      exact ⟨rfl, fun hp => ⟨fun _ => ⟨fun q => absurd q z1, fun _ => hp⟩, fun q => absurd hq q⟩⟩
    | false =>
      rw [if_pos z0]
      exact ⟨rfl, fun hp => ⟨fun _ => ⟨fun _ => hp, fun q => absurd z0 q⟩, fun q => absurd hq q⟩⟩
  | succ k ih =>
    intro fuel i f hf hi
    obtain ⟨g, rfl⟩ : ∃ g, fuel = g + 1 := ⟨fuel - 1, by omega⟩
    have hq : ¬ N 47 0 ≤ nI i := by rw [h47, hG.2.1]; exact nI_ge (by omega) (by omega)
    have h8 : i < 8 := by omega
    have hi1 : nI i + 1 = nI (i + 1) := (nI_succ i).symm
    have ei : mX6_its (nI i) 3 N = u (24 + 4 * i + 3) := by rw [its3 h8, h47]
    have ec : N 52 (nI i).toNatClampNeg = c i := by rw [nIc (by omega)]; exact hc i (by omega)
    rw [mX6_blown_107, PX6_blown_107, if_neg hq, ei, ec]
    unfold mX6_blown_142 PX6_blown_142
    rw [hi1, orb0, orb1, dfb]
    by_cases q : u (24 + 4 * i + 3) = c i
    · rw [if_pos q, if_pos q]
      obtain ⟨a1, a2⟩ := ih g (i + 1) f (by omega) (by omega)
      exact ⟨a1, fun hp => ⟨fun z => absurd z hq, fun _ => ⟨pits3 h8, vin h8 (by decide), fun _ => a2 hp, fun z => absurd q z⟩⟩⟩
    · rw [if_neg q, if_neg q]
      obtain ⟨a1, a2⟩ := ih g (i + 1) true (by omega) (by omega)
      rw [Bool.true_or] at a1 a2
      rw [Bool.or_true]
      exact ⟨a1, fun hp => ⟨fun z => absurd z hq, fun _ => ⟨pits3 h8, vin h8 (by decide), fun z => absurd z q, fun _ => a2 hp⟩⟩⟩
theorem blown71 {s c : Nat → Int32} {n m : Nat} (hG : GS s n) (hm : m ≤ 30) : ∀ (k fuel i : Nat) (z v : Int32) (N : Mem), k < fuel → i + k = m → (∀ j, j < 56 → N 49 j = s j) → (∀ j, 56 ≤ j → N 47 j = s j) → (∀ o, o < n → N 52 o = c o) →
    ∃ N', mX6_blown_71 fuel (nI m) z v (nI i) N = (blw c s n k z v, N') ∧ PX6_blown_71 fuel (nI m) z v (nI i) N ∧ (∀ j, j < 56 → N' 47 j = s j) ∧ ∀ q, q ≠ 47 → N' q = N q := by
  intro k
  induction k with
  | zero =>
    intro fuel i z v N hf hi h49 h47 hc
    obtain ⟨f, rfl⟩ : ∃ f, fuel = f + 1 := ⟨fuel - 1, by omega⟩
    have hq : nI m ≤ nI i := nI_le (by omega) (by omega)
    have x := back_ex (s := s) (N := N) h49
    refine ⟨mX6_copyRow 49 56 47 56 N, ?_, ?_, x.1, x.2⟩
    · rw [mX6_blown_71, if_pos hq]
      rfl
    · rw [PX6_blown_71]
      exact ⟨fun _ => (back_eq _).2, fun q => absurd hq q⟩
  | succ k ih =>
    intro fuel i z v N hf hi h49 h47 hc
    obtain ⟨f, rfl⟩ : ∃ f, fuel = f + 1 := ⟨fuel - 1, by omega⟩
    have hq : ¬ nI m ≤ nI i := nI_ge (by omega) (by omega)
    have hi1 : nI i + 1 = nI (i + 1) := (nI_succ i).symm
    have hw : c56 (N 49) (N 47) = s := by
      funext j
      unfold c56
      by_cases hj : j < 56
      · rw [if_pos hj]; exact h49 j hj
      · rw [if_neg hj]; exact h47 j (by omega)
    obtain ⟨b1, b2⟩ := back_eq N
    rw [hw] at b1
    have hGz : GS (upd s 2 z) n := (hG.r.zed (w := z)).gs
    obtain ⟨g1, g2⟩ := step6 (N := upm (upr N 47 s) 47 2 z) hGz (by rw [upm_at, upr_at])
    have em : upr (upm (upr N 47 s) 47 2 z) 47 (stepD (upd s 2 z) n) = upr N 47 (stepD (upd s 2 z) n) := by rw [upm_upr, upr_upr, upr_upr]
    rw [em] at g1
    obtain ⟨N2, e2⟩ : ∃ x, x = upr N 47 (stepD (upd s 2 z) n) := ⟨_, rfl⟩
    rw [← e2] at g1
    have n47 : N2 47 = stepD (upd s 2 z) n := by rw [e2, upr_at]
    have fr : ∀ q, q ≠ 47 → N2 q = N q := fun q hq => by rw [e2, upr_ne hq]
    have c2 : ∀ o, o < n → N2 52 o = c o := fun o ho => by rw [fr 52 (by decide)]; exact hc o ho
    obtain ⟨d1, d2⟩ := blown107 hGz.stepD (mX6_blown_71 f) (PX6_blown_71 f) (nI m) v (nI i) n47 c2 n 400 0 false (by have := hG.1; omega) (by omega)
    rw [Bool.false_or, hi1] at d1 d2
    obtain ⟨N', a1, a2, a3, a4⟩ := ih f (i + 1) (stepD (upd s 2 z) n 2) (v + b2i (dfb c (stepD (upd s 2 z) n) n 0)) N2 (by omega) (by omega) (fun j hj => by rw [fr 49 (by decide)]; exact h49 j hj) (fun j hj => by rw [n47, stepD_hi hGz hj, upd_ne (by omega)]) c2
    refine ⟨N', ?_, ?_, a3, fun q hq => (a4 q hq).trans (fr q hq)⟩
    · rw [mX6_blown_71, if_neg hq, b1]
      unfold mX6_blown_88 mX6_blown_99
      rw [g1]
      exact d1.trans a1
    · rw [PX6_blown_71]
      refine ⟨fun q => absurd q hq, fun _ => ⟨b2, ?_⟩⟩
      rw [b1]
      unfold PX6_blown_88 PX6_blown_99
      rw [g1]
      exact ⟨g2, d2 a2⟩
theorem blown31 {u : Nat → Int32} {n m : Nat} (hG : GS u n) (z : Int32) : ∀ (k fuel i : Nat) (N : Mem), k < fuel → i + k = n → N 47 = u → N 49 2 = z →
    ∃ N1, mX6_blown_31 fuel (nI m) (nI i) N = mX6_blown_71 400 (nI m) z 0 0 N1 ∧ (PX6_blown_71 400 (nI m) z 0 0 N1 → PX6_blown_31 fuel (nI m) (nI i) N) ∧ (∀ o, i ≤ o → o < n → N1 52 o = u (24 + 4 * o + 3)) ∧ (∀ o, o < i → N1 52 o = N 52 o) ∧ ∀ q, q ≠ 52 → N1 q = N q := by
  have hn := hG.1
  intro k
  induction k with
  | zero =>
    intro fuel i N hf hi h47 h49
    obtain ⟨f, rfl⟩ : ∃ f, fuel = f + 1 := ⟨fuel - 1, by omega⟩
    have hq : N 47 0 ≤ nI i := by rw [h47, hG.2.1]; exact nI_le (by omega) (by omega)
    refine ⟨N, ?_, ?_, fun o h1 h2 => by omega, fun _ _ => rfl, fun _ _ => rfl⟩
    · rw [mX6_blown_31, if_pos hq, h49]
    · intro hp
      rw [PX6_blown_31, h49]
      exact ⟨fun _ => hp, fun q => absurd hq q⟩
  | succ k ih =>
    intro fuel i N hf hi h47 h49
    obtain ⟨f, rfl⟩ : ∃ f, fuel = f + 1 := ⟨fuel - 1, by omega⟩
    have hq : ¬ N 47 0 ≤ nI i := by rw [h47, hG.2.1]; exact nI_ge (by omega) (by omega)
    have h8 : i < 8 := by omega
    have hi1 : nI i + 1 = nI (i + 1) := (nI_succ i).symm
    have ei : mX6_its (nI i) 3 N = u (24 + 4 * i + 3) := by rw [its3 h8, h47]
    obtain ⟨N1, a1, a2, a3, a4, a5⟩ := ih f (i + 1) (upm N 52 i (u (24 + 4 * i + 3))) (by omega) (by omega) ((upm_ne (by decide)).trans h47) (by rw [upm_ne (by decide)]; exact h49)
    refine ⟨N1, ?_, ?_, fun o h1 h2 => ?_, fun o h1 => ?_, fun q hq => (a5 q hq).trans (upm_ne hq)⟩
    · rw [mX6_blown_31, if_neg hq, ei, nIc (by omega), hi1]
      exact a1
    · intro hp
      rw [PX6_blown_31]
      refine ⟨fun q => absurd q hq, fun _ => ⟨pits3 h8, vin h8 (by decide), ?_⟩⟩
      rw [ei, nIc (by omega), hi1]
      exact a2 hp
    · by_cases e : o = i
      · subst e
        rw [a4 o (by omega), upm_at, upd_at]
      · exact a3 o (by omega) h2
    · rw [a4 o (by omega), upm_at, upd_ne (by omega)]
theorem ok_blown {M : Mem} (a : Int32) (h : Inv M) : OKm (PX5_blown a) (mX5_blown a) (PX6_blown a) (mX6_blown a) M := by
  obtain ⟨n, hR⟩ := h.1
  have hn := hR.1
  have ei : mX6_isIn a.toInt64 1 30 = mX5_isWithin a 1 30 := isIn_eq a 1 30
  unfold OKm mX5_blown mX6_blown PX5_blown PX6_blown
  rw [ei]
  by_cases hm : mX5_isWithin a 1 30 = true
  · obtain ⟨m, hmm, rfl⟩ := within_n (m := 30) (by decide) (isWithin_iff.mpr ⟨Int32.le_trans (by decide) (isWithin_iff.mp hm).1, (isWithin_iff.mp hm).2⟩)
    have hb := become_R TB15 TB1 (by decide) hR
    have hbf := (become_at TB15 TB1 (by decide) M).2.2.2.2
    obtain ⟨M0, e0⟩ : ∃ x, x = mX4_become 15 1 M := ⟨_, rfl⟩
    rw [← e0] at hb hbf
    obtain ⟨t1, t2, t3⟩ := takeStep_R hb
    obtain ⟨M1, e1⟩ : ∃ x, x = mX4_takeStep 15 M0 := ⟨_, rfl⟩
    rw [← e1] at t1 t3
    obtain ⟨M2, e2⟩ : ∃ x, x = upr M1 31 (va_cpy (M1 21) (M1 31) 0 0 8) := ⟨_, rfl⟩
    have fr : ∀ q, (q < 15 ∨ 21 < q) → q ≠ 31 → M2 q = M q := fun q h1 h2 => by rw [e2, upr_ne h2, t3 q (by omega) (by omega) (by omega), hbf q (by omega)]
    have hc : ∀ o, o < n → M2 31 o = stepS (M 47) n (24 + 4 * o + 3) := fun o ho => by
      rw [e2, upr_at]
      unfold va_cpy
      rw [if_pos (by omega), Nat.zero_add, Nat.sub_zero]
      exact (t1.ra ho).2.2.2.1
    have hz : M2 1 9 = M 47 2 := by rw [fr 1 (by omega) (by decide)]; exact hR.2.2.1
    obtain ⟨M', a1, a2, a3⟩ := blown61 (s := M 47) (n := n) (c := fun o => stepS (M 47) n (24 + 4 * o + 3)) hmm m 400 0 (M 47 2) 0 M2 (by omega) (by omega) (hR.congr (fun j hj => fr _ (by omega) (by omega)) (fun _ _ => rfl)) hc
    have a1' : mX5_blown_61 400 (nI m) (M 47 2) 0 0 M2 = _ := a1
    have all : ∀ q, (q < 15 ∨ 21 < q) → q ≠ 29 → q ≠ 30 → q ≠ 31 → q ≠ 32 → q ≠ 33 → M' q = M q := fun q h1 _ _ h2 _ _ => (a3 q h1).trans (fr q h1 h2)
    have s47 : M' 47 = M 47 := all 47 (by omega) (by decide) (by decide) (by decide) (by decide) (by decide)
    obtain ⟨b1, b2⟩ := aside_eq M'
    rw [s47] at b1
    obtain ⟨g1, g2⟩ := goesOn_eq (N := upr M' 49 (c56 (M 47) (M' 49))) hR.gs ((upr_ne (by decide)).trans s47)
    obtain ⟨N0, f0⟩ : ∃ x, x = upr (upr M' 49 (c56 (M 47) (M' 49))) 47 (stepS (M 47) n) := ⟨_, rfl⟩
    rw [← f0] at g1
    have n49 : ∀ j, j < 56 → N0 49 j = M 47 j := fun j hj => by rw [f0, upr_ne (by decide), upr_at, c56_at hj]
    obtain ⟨N1, c1, c2, c3, c4, c5⟩ := blown31 (m := m) hR.gs.step (M 47 2) n 400 0 N0 (by omega) (by omega) (by rw [f0, upr_at]) (n49 2 (by decide))
    have c1' : mX6_blown_31 400 (nI m) 0 N0 = _ := c1
    obtain ⟨N', d1, d2, d3, d4⟩ := blown71 (s := M 47) (n := n) (c := fun o => stepS (M 47) n (24 + 4 * o + 3)) hR.gs hmm m 400 0 (M 47 2) 0 N1 (by omega) (by omega) (fun j hj => by rw [c5 49 (by decide)]; exact n49 j hj) (fun j hj => by rw [c5 47 (by decide), f0, upr_at]; exact stepS_hi hR.gs hj) (fun o ho => c3 o (by omega) ho)
    have d1' : mX6_blown_71 400 (nI m) (M 47 2) 0 0 N1 = _ := d1
    have hF : Fr M' N' := ⟨fun p hp => by
      unfold PS at hp
      rw [d4 p (by omega), c5 p (by omega), f0, upr_ne (by omega), upr_ne (by omega)], fun k hk => by rw [d3 k hk, s47]⟩
    have r5 : mX5_blown_23 (nI m) M0 = (blw (fun o => stepS (M 47) n (24 + 4 * o + 3)) (M 47) n m (M 47 2) 0, M') := by
      unfold mX5_blown_23 mX5_blown_30
      rw [← e1, ← e2, hz]
      exact a1'
    have r6 : mX6_blown_25 (nI m) (upr M' 49 (c56 (M 47) (M' 49))) = (blw (fun o => stepS (M 47) n (24 + 4 * o + 3)) (M 47) n m (M 47 2) 0, N') := by
      unfold mX6_blown_25 mX6_blown_29
      rw [g1, c1']
      exact d1'
    rw [if_pos hm, ← e0, r5]
    simp only [if_pos hm, b1, r6]
    refine ⟨fun _ => ⟨pbecome _ _ _, ?_⟩, fun _ => ⟨b2, ?_⟩, trivial, Inv.fr ((Fr.of5 all).trans hF) h⟩
    · unfold PX5_blown_23 PX5_blown_30
      rw [← e1, ← e2, hz]
      exact ⟨t2, a2⟩
    · unfold PX6_blown_25 PX6_blown_29
      rw [g1]
      exact ⟨g2, c2 d2⟩
  · rw [if_neg hm]
    simp only [if_neg hm]
    exact ⟨fun q => absurd q hm, fun q => absurd q hm, trivial, h⟩
