/-! IN HOW MANY of n STEPS BY DRAWS one is blown elsewhere -/
theorem wtR_hi {n j : Nat} (hj : 56 ≤ j) : ∀ (k i : Nat) (s : Nat → Int32), i + k ≤ n → GS s n → wtR s i k j = s j
  | 0, _, _, _, _ => rfl
  | k + 1, i, s, hi, hG => (wtR_hi hj k (i + 1) (wt1 s i) (by omega) (hG.wt1 (by omega))).trans (wt1_off hG (show i < n by omega) (Or.inr (by omega)))
theorem mvR_hi {n j : Nat} (hj : 56 ≤ j) (hn : n ≤ 8) : ∀ (k i : Nat) (s : Nat → Int32), i + k ≤ n → mvR s i k j = s j
  | 0, _, _, _ => rfl
  | k + 1, i, s, hi => (mvR_hi hj hn k (i + 1) (mv1 s i) (by omega)).trans (mv1_off s i (by omega))
theorem stepS_hi {s : Nat → Int32} {n j : Nat} (hG : GS s n) (hj : 56 ≤ j) : stepS s n j = s j := by
  have hn := hG.1
  unfold stepS tick
  rw [upd_ne (by omega), wtR_hi hj n 0 _ (by omega) (GS.mvR n 0 _ (by omega) hG.turn), mvR_hi hj hn n 0 _ (by omega), turnS_off _ (by omega)]
theorem stepD_hi {s : Nat → Int32} {n j : Nat} (hG : GS s n) (hj : 56 ≤ j) : stepD s n j = s j := by
  unfold stepD
  split
  · rw [stepS_hi (hG.r.zed (w := zn (s 2))).gs hj, upd_ne (by omega)]
  · rw [stepS_hi ((hG.r.zed (w := zn (zn (s 2)))).wind (dr_way (zn (s 2)))).gs hj, upd_ne (by omega), upd_ne (by omega)]
def dfb (c u : Nat → Int32) : Nat → Nat → Bool
  | 0, _ => false
  | k + 1, i => if u (24 + 4 * i + 3) = c i then dfb c u k (i + 1) else true
def blw (c s : Nat → Int32) (n : Nat) : Nat → Int32 → Int32 → Int32
  | 0, _, v => v
  | k + 1, z, v => blw c s n k (stepD (upd s 2 z) n 2) (v + b2i (dfb c (stepD (upd s 2 z) n) n 0))
theorem stands2 {M : Mem} {b n : Nat} {u c : Nat → Int32} (hR : R M b u n) (hc : ∀ o, o < n → M 31 o = c o) : ∀ (k fuel i : Nat), k < fuel → i + k = n →
    mX4_standsOtherwise_2 b 31 8 fuel (nI i) M = dfb c u k i ∧ PX4_standsOtherwise_2 b 31 8 fuel (nI i) M := by
  have hn := hR.1
  intro k
  induction k with
  | zero =>
    intro fuel i hf hi
    obtain ⟨f, rfl⟩ : ∃ f, fuel = f + 1 := ⟨fuel - 1, by omega⟩
    have hq : M b 6 ≤ nI i := by rw [hR.2.1.1]; exact nI_le (by omega) (by omega)
    constructor
    · rw [mX4_standsOtherwise_2, if_pos hq]
      rfl
    · rw [PX4_standsOtherwise_2]
      exact fun q => absurd hq q
  | succ k ih =>
    intro fuel i hf hi
    obtain ⟨f, rfl⟩ : ∃ f, fuel = f + 1 := ⟨fuel - 1, by omega⟩
    have hq : ¬ M b 6 ≤ nI i := by rw [hR.2.1.1]; exact nI_ge (by omega) (by omega)
    have h8 : ¬ nI 8 ≤ nI i := nI_ge (by omega) (by omega)
    have hi1 : nI i + 1 = nI (i + 1) := (nI_succ i).symm
    obtain ⟨e, p⟩ := ih f (i + 1) (by omega) (by omega)
    have r4 : M (b + 6) i = u (24 + 4 * i + 3) := (hR.ra (show i < n by omega)).2.2.2.1
    constructor
    · rw [mX4_standsOtherwise_2, if_neg hq, if_neg h8, nIc (by omega), r4, hc i (by omega), hi1, e, dfb]
    · rw [PX4_standsOtherwise_2]
      refine fun _ _ => ⟨vin (by omega) (by decide), vin (by omega) (by decide), fun _ => ?_⟩
      rw [hi1]
      exact p
theorem blown61 {s c : Nat → Int32} {n m : Nat} (hm : m ≤ 30) : ∀ (k fuel i : Nat) (z v : Int32) (M : Mem), k < fuel → i + k = m → R M 1 s n → (∀ o, o < n → M 31 o = c o) →
    ∃ M', mX5_blown_61 fuel (nI m) z v (nI i) M = (blw c s n k z v, M') ∧ PX5_blown_61 fuel (nI m) z v (nI i) M ∧ ∀ q, (q < 15 ∨ 21 < q) → M' q = M q := by
  intro k
  induction k with
  | zero =>
    intro fuel i z v M hf hi hR hc
    obtain ⟨f, rfl⟩ : ∃ f, fuel = f + 1 := ⟨fuel - 1, by omega⟩
    have hq : nI m ≤ nI i := nI_le (by omega) (by omega)
    refine ⟨M, ?_, ?_, fun _ _ => rfl⟩
    · rw [mX5_blown_61, if_pos hq]
      rfl
    · rw [PX5_blown_61]
      exact fun q => absurd hq q
  | succ k ih =>
    intro fuel i z v M hf hi hR hc
    obtain ⟨f, rfl⟩ : ∃ f, fuel = f + 1 := ⟨fuel - 1, by omega⟩
    have hq : ¬ nI m ≤ nI i := nI_ge (by omega) (by omega)
    have hi1 : nI i + 1 = nI (i + 1) := (nI_succ i).symm
    have hb := become_R TB15 TB1 (by decide) hR
    have hbf := (become_at TB15 TB1 (by decide) M).2.2.2.2
    obtain ⟨M0, e0⟩ : ∃ x, x = mX4_become 15 1 M := ⟨_, rfl⟩
    rw [← e0] at hb hbf
    have hz := hb.zed (w := z)
    obtain ⟨t1, t2, t3⟩ := stepD_R hz
    obtain ⟨M2, e2⟩ : ∃ x, x = mX4_takeStepByDraws 15 (upm M0 15 9 z) := ⟨_, rfl⟩
    rw [← e2] at t1 t3
    have fr : ∀ q, (q < 15 ∨ 21 < q) → M2 q = M q := fun q hq => by rw [t3 q (by omega) (by omega) (by omega), upm_ne (by omega), hbf q (by omega)]
    have c2 : ∀ o, o < n → M2 31 o = c o := fun o ho => by rw [fr 31 (by omega)]; exact hc o ho
    obtain ⟨d1, d2⟩ := stands2 t1 c2 n 400 0 (by have := hR.1; omega) (by omega)
    have d1' : mX4_standsOtherwise 15 31 8 M2 = dfb c (stepD (upd s 2 z) n) n 0 := d1
    have d2' : PX4_standsOtherwise 15 31 8 M2 := d2
    have ez : M2 15 9 = stepD (upd s 2 z) n 2 := t1.2.2.1
    obtain ⟨M', a1, a2, a3⟩ := ih f (i + 1) (stepD (upd s 2 z) n 2) (v + b2i (dfb c (stepD (upd s 2 z) n) n 0)) M2 (by omega) (by omega) (hR.congr (fun j hj => fr _ (by omega)) (fun _ _ => rfl)) c2
    have z0 : v + b2i false = v := Int32.add_zero v
    have z1 : v + b2i true = v + 1 := rfl
    refine ⟨M', ?_, ?_, fun q hq => (a3 q hq).trans (fr q hq)⟩
    · rw [mX5_blown_61, if_neg hq, ← e0]
      unfold mX5_blown_78 mX5_blown_93 mX5_blown_118
      rw [← e2, ez, d1', hi1, blw]
      cases hd : dfb c (stepD (upd s 2 z) n) n 0 with
      | true =>
        rw [hd, z1] at a1
        rw [if_pos rfl, z1]
        exact a1
      | false =>
        rw [hd, z0] at a1
        rw [if_neg (by decide), z0]
        exact a1
    · rw [PX5_blown_61]
      refine fun _ => ⟨pbecome _ _ _, ?_⟩
      rw [← e0]
      unfold PX5_blown_78 PX5_blown_93 PX5_blown_118
      rw [← e2, ez, d1', hi1]
      refine ⟨t2, d2', fun hd => ?_, fun hd => ?_⟩
      · rw [hd, z1] at a2
        exact a2
      · rw [Bool.not_eq_true] at hd
        rw [hd, z0] at a2
        exact a2
theorem orb0 (f : Bool) : b2i f ||| 0 = b2i f := by cases f <;> decide
theorem orb1 (f : Bool) : b2i f ||| 1 = b2i true := by cases f <;> decide
theorem blown107 {u c : Nat → Int32} {n : Nat} (hG : GS u n) (kf : Int32 → Int32 → Int32 → Int32 → Mem → Int32 × Mem) (kP : Int32 → Int32 → Int32 → Int32 → Mem → Prop) (v1 v3 v4 : Int32) {N : Mem} (h47 : N 47 = u) (hc : ∀ o, o < n → N 52 o = c o) : ∀ (k fuel i : Nat) (f : Bool), k < fuel → i + k = n →
    mX6_blown_107 kf fuel v1 v3 v4 (b2i f) (nI i) N = kf v1 (u 2) (v3 + b2i (f || dfb c u k i)) (v4 + 1) N ∧
    (kP v1 (u 2) (v3 + b2i (f || dfb c u k i)) (v4 + 1) N → PX6_blown_107 kP fuel v1 v3 v4 (b2i f) (nI i) N) := by
  have hn := hG.1
  have e2 : N 47 2 = u 2 := by rw [h47]
  intro k
  induction k with
  | zero =>
    intro fuel i f hf hi
    obtain ⟨g, rfl⟩ : ∃ g, fuel = g + 1 := ⟨fuel - 1, by omega⟩
    have hq : N 47 0 ≤ nI i := by rw [h47, hG.2.1]; exact nI_le (by omega) (by omega)
    have z1 : ¬ b2i true = 0 := by decide
    have z0 : b2i false = 0 := by decide
    rw [mX6_blown_107, PX6_blown_107, if_pos hq]
    unfold mX6_blown_162 PX6_blown_162
    rw [e2]
    cases f with
    | true =>
      rw [if_neg z1]
      exact ⟨rfl, fun hp => ⟨fun _ => ⟨fun q => absurd q z1, fun _ => hp⟩, fun q => absurd hq q⟩⟩
    | false =>
      rw [if_pos z0]
      exact ⟨rfl, fun hp => ⟨fun _ => ⟨fun _ => hp, fun q => absurd z0 q⟩, fun q => absurd hq q⟩⟩
  | succ k ih =>
    intro fuel i f hf hi
    obtain ⟨g, rfl⟩ : ∃ g, fuel = g + 1 := ⟨fuel - 1, by omega⟩
    have hq : ¬ N 47 0 ≤ nI i := by rw [h47, hG.2.1]; exact nI_ge (by omega) (by omega)
    have h8 : i < 8 := by omega
    have hi1 : nI i + 1 = nI (i + 1) := (nI_succ i).symm
    have ei : mX6_its (nI i) 3 N = u (24 + 4 * i + 3) := by rw [its3 h8, h47]
    have ec : N 52 (nI i).toNatClampNeg = c i := by rw [nIc (by omega)]; exact hc i (by omega)
    rw [mX6_blown_107, PX6_blown_107, if_neg hq, ei, ec]
    unfold mX6_blown_142 PX6_blown_142
    rw [hi1, orb0, orb1, dfb]
    by_cases q : u (24 + 4 * i + 3) = c i
    · rw [if_pos q, if_pos q]
      obtain ⟨a1, a2⟩ := ih g (i + 1) f (by omega) (by omega)
      exact ⟨a1, fun hp => ⟨fun z => absurd z hq, fun _ => ⟨pits3 h8, vin h8 (by decide), fun _ => a2 hp, fun z => absurd q z⟩⟩⟩
    · rw [if_neg q, if_neg q]
      obtain ⟨a1, a2⟩ := ih g (i + 1) true (by omega) (by omega)
      rw [Bool.true_or] at a1 a2
      rw [Bool.or_true]
      exact ⟨a1, fun hp => ⟨fun z => absurd z hq, fun _ => ⟨pits3 h8, vin h8 (by decide), fun z => absurd z q, fun _ => a2 hp⟩⟩⟩
theorem blown71 {s c : Nat → Int32} {n m : Nat} (hG : GS s n) (hm : m ≤ 30) : ∀ (k fuel i : Nat) (z v : Int32) (N : Mem), k < fuel → i + k = m → (∀ j, j < 56 → N 49 j = s j) → (∀ j, 56 ≤ j → N 47 j = s j) → (∀ o, o < n → N 52 o = c o) →
    ∃ N', mX6_blown_71 fuel (nI m) z v (nI i) N = (blw c s n k z v, N') ∧ PX6_blown_71 fuel (nI m) z v (nI i) N ∧ (∀ j, j < 56 → N' 47 j = s j) ∧ ∀ q, q ≠ 47 → N' q = N q := by
  intro k
  induction k with
  | zero =>
    intro fuel i z v N hf hi h49 h47 hc
    obtain ⟨f, rfl⟩ : ∃ f, fuel = f + 1 := ⟨fuel - 1, by omega⟩
    have hq : nI m ≤ nI i := nI_le (by omega) (by omega)
    have x := back_ex (s := s) (N := N) h49
    refine ⟨mX6_copyRow 49 56 47 56 N, ?_, ?_, x.1, x.2⟩
    · rw [mX6_blown_71, if_pos hq]
      rfl
    · rw [PX6_blown_71]
      exact ⟨fun _ => (back_eq _).2, fun q => absurd hq q⟩
  | succ k ih =>
    intro fuel i z v N hf hi h49 h47 hc
    obtain ⟨f, rfl⟩ : ∃ f, fuel = f + 1 := ⟨fuel - 1, by omega⟩
    have hq : ¬ nI m ≤ nI i := nI_ge (by omega) (by omega)
    have hi1 : nI i + 1 = nI (i + 1) := (nI_succ i).symm
    have hw : c56 (N 49) (N 47) = s := by
      funext j
      unfold c56
      by_cases hj : j < 56
      · rw [if_pos hj]; exact h49 j hj
      · rw [if_neg hj]; exact h47 j (by omega)
    obtain ⟨b1, b2⟩ := back_eq N
    rw [hw] at b1
    have hGz : GS (upd s 2 z) n := (hG.r.zed (w := z)).gs
    obtain ⟨g1, g2⟩ := step6 (N := upm (upr N 47 s) 47 2 z) hGz (by rw [upm_at, upr_at])
    have em : upr (upm (upr N 47 s) 47 2 z) 47 (stepD (upd s 2 z) n) = upr N 47 (stepD (upd s 2 z) n) := by rw [upm_upr, upr_upr, upr_upr]
    rw [em] at g1
    obtain ⟨N2, e2⟩ : ∃ x, x = upr N 47 (stepD (upd s 2 z) n) := ⟨_, rfl⟩
    rw [← e2] at g1
    have n47 : N2 47 = stepD (upd s 2 z) n := by rw [e2, upr_at]
    have fr : ∀ q, q ≠ 47 → N2 q = N q := fun q hq => by rw [e2, upr_ne hq]
    have c2 : ∀ o, o < n → N2 52 o = c o := fun o ho => by rw [fr 52 (by decide)]; exact hc o ho
    obtain ⟨d1, d2⟩ := blown107 hGz.stepD (mX6_blown_71 f) (PX6_blown_71 f) (nI m) v (nI i) n47 c2 n 400 0 false (by have := hG.1; omega) (by omega)
    rw [Bool.false_or, hi1] at d1 d2
    obtain ⟨N', a1, a2, a3, a4⟩ := ih f (i + 1) (stepD (upd s 2 z) n 2) (v + b2i (dfb c (stepD (upd s 2 z) n) n 0)) N2 (by omega) (by omega) (fun j hj => by rw [fr 49 (by decide)]; exact h49 j hj) (fun j hj => by rw [n47, stepD_hi hGz hj, upd_ne (by omega)]) c2
    refine ⟨N', ?_, ?_, a3, fun q hq => (a4 q hq).trans (fr q hq)⟩
    · rw [mX6_blown_71, if_neg hq, b1]
      unfold mX6_blown_88 mX6_blown_99
      rw [g1]
      exact d1.trans a1
    · rw [PX6_blown_71]
      refine ⟨fun q => absurd q hq, fun _ => ⟨b2, ?_⟩⟩
      rw [b1]
      unfold PX6_blown_88 PX6_blown_99
      rw [g1]
      exact ⟨g2, d2 a2⟩
theorem blown31 {u : Nat → Int32} {n m : Nat} (hG : GS u n) (z : Int32) : ∀ (k fuel i : Nat) (N : Mem), k < fuel → i + k = n → N 47 = u → N 49 2 = z →
    ∃ N1, mX6_blown_31 fuel (nI m) (nI i) N = mX6_blown_71 400 (nI m) z 0 0 N1 ∧ (PX6_blown_71 400 (nI m) z 0 0 N1 → PX6_blown_31 fuel (nI m) (nI i) N) ∧ (∀ o, i ≤ o → o < n → N1 52 o = u (24 + 4 * o + 3)) ∧ (∀ o, o < i → N1 52 o = N 52 o) ∧ ∀ q, q ≠ 52 → N1 q = N q := by
  have hn := hG.1
  intro k
  induction k with
  | zero =>
    intro fuel i N hf hi h47 h49
    obtain ⟨f, rfl⟩ : ∃ f, fuel = f + 1 := ⟨fuel - 1, by omega⟩
    have hq : N 47 0 ≤ nI i := by rw [h47, hG.2.1]; exact nI_le (by omega) (by omega)
    refine ⟨N, ?_, ?_, fun o h1 h2 => by omega, fun _ _ => rfl, fun _ _ => rfl⟩
    · rw [mX6_blown_31, if_pos hq, h49]
    · intro hp
      rw [PX6_blown_31, h49]
      exact ⟨fun _ => hp, fun q => absurd hq q⟩
  | succ k ih =>
    intro fuel i N hf hi h47 h49
    obtain ⟨f, rfl⟩ : ∃ f, fuel = f + 1 := ⟨fuel - 1, by omega⟩
    have hq : ¬ N 47 0 ≤ nI i := by rw [h47, hG.2.1]; exact nI_ge (by omega) (by omega)
    have h8 : i < 8 := by omega
    have hi1 : nI i + 1 = nI (i + 1) := (nI_succ i).symm
    have ei : mX6_its (nI i) 3 N = u (24 + 4 * i + 3) := by rw [its3 h8, h47]
    obtain ⟨N1, a1, a2, a3, a4, a5⟩ := ih f (i + 1) (upm N 52 i (u (24 + 4 * i + 3))) (by omega) (by omega) ((upm_ne (by decide)).trans h47) (by rw [upm_ne (by decide)]; exact h49)
    refine ⟨N1, ?_, ?_, fun o h1 h2 => ?_, fun o h1 => ?_, fun q hq => (a5 q hq).trans (upm_ne hq)⟩
    · rw [mX6_blown_31, if_neg hq, ei, nIc (by omega), hi1]
      exact a1
    · intro hp
      rw [PX6_blown_31]
      refine ⟨fun q => absurd q hq, fun _ => ⟨pits3 h8, vin h8 (by decide), ?_⟩⟩
      rw [ei, nIc (by omega), hi1]
      exact a2 hp
    · by_cases e : o = i
      · subst e
        rw [a4 o (by omega), upm_at, upd_at]
      · exact a3 o (by omega) h2
    · rw [a4 o (by omega), upm_at, upd_ne (by omega)]
theorem ok_blown {M : Mem} (a : Int32) (h : Inv M) : OKm (PX5_blown a) (mX5_blown a) (PX6_blown a) (mX6_blown a) M := by
  obtain ⟨n, hR⟩ := h.1
  have hn := hR.1
  have ei : mX6_isIn a.toInt64 1 30 = mX5_isWithin a 1 30 := isIn_eq a 1 30
  unfold OKm mX5_blown mX6_blown PX5_blown PX6_blown
  rw [ei]
  by_cases hm : mX5_isWithin a 1 30 = true
  · obtain ⟨m, hmm, rfl⟩ := within_n (m := 30) (by decide) (isWithin_iff.mpr ⟨Int32.le_trans (by decide) (isWithin_iff.mp hm).1, (isWithin_iff.mp hm).2⟩)
    have hb := become_R TB15 TB1 (by decide) hR
    have hbf := (become_at TB15 TB1 (by decide) M).2.2.2.2
    obtain ⟨M0, e0⟩ : ∃ x, x = mX4_become 15 1 M := ⟨_, rfl⟩
    rw [← e0] at hb hbf
    obtain ⟨t1, t2, t3⟩ := takeStep_R hb
    obtain ⟨M1, e1⟩ : ∃ x, x = mX4_takeStep 15 M0 := ⟨_, rfl⟩
    rw [← e1] at t1 t3
    obtain ⟨M2, e2⟩ : ∃ x, x = upr M1 31 (va_cpy (M1 21) (M1 31) 0 0 8) := ⟨_, rfl⟩
    have fr : ∀ q, (q < 15 ∨ 21 < q) → q ≠ 31 → M2 q = M q := fun q h1 h2 => by rw [e2, upr_ne h2, t3 q (by omega) (by omega) (by omega), hbf q (by omega)]
    have hc : ∀ o, o < n → M2 31 o = stepS (M 47) n (24 + 4 * o + 3) := fun o ho => by
      rw [e2, upr_at]
      unfold va_cpy
      rw [if_pos (by omega), Nat.zero_add, Nat.sub_zero]
      exact (t1.ra ho).2.2.2.1
    have hz : M2 1 9 = M 47 2 := by rw [fr 1 (by omega) (by decide)]; exact hR.2.2.1
    obtain ⟨M', a1, a2, a3⟩ := blown61 (s := M 47) (n := n) (c := fun o => stepS (M 47) n (24 + 4 * o + 3)) hmm m 400 0 (M 47 2) 0 M2 (by omega) (by omega) (hR.congr (fun j hj => fr _ (by omega) (by omega)) (fun _ _ => rfl)) hc
    have a1' : mX5_blown_61 400 (nI m) (M 47 2) 0 0 M2 = _ := a1
    have all : ∀ q, (q < 15 ∨ 21 < q) → q ≠ 29 → q ≠ 30 → q ≠ 31 → q ≠ 32 → q ≠ 33 → M' q = M q := fun q h1 _ _ h2 _ _ => (a3 q h1).trans (fr q h1 h2)
    have s47 : M' 47 = M 47 := all 47 (by omega) (by decide) (by decide) (by decide) (by decide) (by decide)
    obtain ⟨b1, b2⟩ := aside_eq M'
    rw [s47] at b1
    obtain ⟨g1, g2⟩ := goesOn_eq (N := upr M' 49 (c56 (M 47) (M' 49))) hR.gs ((upr_ne (by decide)).trans s47)
    obtain ⟨N0, f0⟩ : ∃ x, x = upr (upr M' 49 (c56 (M 47) (M' 49))) 47 (stepS (M 47) n) := ⟨_, rfl⟩
    rw [← f0] at g1
    have n49 : ∀ j, j < 56 → N0 49 j = M 47 j := fun j hj => by rw [f0, upr_ne (by decide), upr_at, c56_at hj]
    obtain ⟨N1, c1, c2, c3, c4, c5⟩ := blown31 (m := m) hR.gs.step (M 47 2) n 400 0 N0 (by omega) (by omega) (by rw [f0, upr_at]) (n49 2 (by decide))
    have c1' : mX6_blown_31 400 (nI m) 0 N0 = _ := c1
    obtain ⟨N', d1, d2, d3, d4⟩ := blown71 (s := M 47) (n := n) (c := fun o => stepS (M 47) n (24 + 4 * o + 3)) hR.gs hmm m 400 0 (M 47 2) 0 N1 (by omega) (by omega) (fun j hj => by rw [c5 49 (by decide)]; exact n49 j hj) (fun j hj => by rw [c5 47 (by decide), f0, upr_at]; exact stepS_hi hR.gs hj) (fun o ho => c3 o (by omega) ho)
    have d1' : mX6_blown_71 400 (nI m) (M 47 2) 0 0 N1 = _ := d1
    have hF : Fr M' N' := ⟨fun p hp => by
      unfold PS at hp
      rw [d4 p (by omega), c5 p (by omega), f0, upr_ne (by omega), upr_ne (by omega)], fun k hk => by rw [d3 k hk, s47]⟩
    have r5 : mX5_blown_23 (nI m) M0 = (blw (fun o => stepS (M 47) n (24 + 4 * o + 3)) (M 47) n m (M 47 2) 0, M') := by
      unfold mX5_blown_23 mX5_blown_30
      rw [← e1, ← e2, hz]
      exact a1'
    have r6 : mX6_blown_25 (nI m) (upr M' 49 (c56 (M 47) (M' 49))) = (blw (fun o => stepS (M 47) n (24 + 4 * o + 3)) (M 47) n m (M 47 2) 0, N') := by
      unfold mX6_blown_25 mX6_blown_29
      rw [g1, c1']
      exact d1'
    rw [if_pos hm, ← e0, r5]
    simp only [if_pos hm, b1, r6]
    refine ⟨fun _ => ⟨pbecome _ _ _, ?_⟩, fun _ => ⟨b2, ?_⟩, trivial, Inv.fr ((Fr.of5 all).trans hF) h⟩
    · unfold PX5_blown_23 PX5_blown_30
      rw [← e1, ← e2, hz]
      exact ⟨t2, a2⟩
    · unfold PX6_blown_25 PX6_blown_29
      rw [g1]
      exact ⟨g2, c2 d2⟩
  · rw [if_neg hm]
    simp only [if_neg hm]
    exact ⟨fun q => absurd q hm, fun q => absurd q hm, trivial, h⟩
/-! FROM WHERE one fits what a sheet tells -/
def fitb (x w : Nat → Int32) : Nat → Nat → Bool
  | 0, _ => true
  | k + 1, i => if x i = -1 then fitb x w k (i + 1) else if x i = w (i + 1) then fitb x w k (i + 1) else false
def ftn (g : Nat → Bool) : Nat → Int32 → Int32 → Int32 × Int32
  | 0, c, l => (c, l)
  | k + 1, c, l => if g k = true then ftn g k (c + 1) (nI k) else ftn g k c l
theorem ftn_t {g : Nat → Bool} {k : Nat} {c l : Int32} (h : g k = true) : ftn g (k + 1) c l = ftn g k (c + 1) (nI k) := by
  rw [ftn, if_pos h]
theorem ftn_f {g : Nat → Bool} {k : Nat} {c l : Int32} (h : g k = false) : ftn g (k + 1) c l = ftn g k c l := by
  rw [ftn, if_neg (by rw [h]; decide)]
theorem fitb_ext {x w w' : Nat → Int32} (h : ∀ j, w j = w' j) : ∀ k i, fitb x w k i = fitb x w' k i := by
  intro k
  induction k with
  | zero => intro i; rfl
  | succ k ih =>
    intro i
    rw [fitb, fitb, ih, h]
theorem dn_succ (k : Nat) : nI (k + 1) + (-1) = nI k := by
  rw [nI_succ, Int32.add_assoc]
  exact Int32.add_zero _
theorem fits40 {x w : Nat → Int32} {q sz : Nat} {M : Mem} (hx : ∀ i, i < 40 → M (q + 1) i = x i) (hs : M q 2 = nI sz) (hsz : sz ≤ 40) (hw : ∀ j, j ≤ sz → M 29 j = w j) : ∀ (k fuel i : Nat), k < fuel → i + k = sz →
    mX5_fitsFrom_40 q fuel (nI i) M = (fitb x w k i, M) ∧ PX5_fitsFrom_40 q fuel (nI i) M := by
  intro k
  induction k with
  | zero =>
    intro fuel i hf hi
    obtain ⟨f, rfl⟩ : ∃ f, fuel = f + 1 := ⟨fuel - 1, by omega⟩
    have hc : M q 2 ≤ nI i := by rw [hs]; exact nI_le (by omega) (by omega)
    constructor
    · rw [mX5_fitsFrom_40, if_pos hc]
      rfl
    · rw [PX5_fitsFrom_40]
      exact fun z => absurd hc z
  | succ k ih =>
    intro fuel i hf hi
    obtain ⟨f, rfl⟩ : ∃ f, fuel = f + 1 := ⟨fuel - 1, by omega⟩
    have hc : ¬ M q 2 ≤ nI i := by rw [hs]; exact nI_ge (by omega) (by omega)
    have hi1 : nI i + 1 = nI (i + 1) := (nI_succ i).symm
    obtain ⟨e, p⟩ := ih f (i + 1) (by omega) (by omega)
    rw [mX5_fitsFrom_40, PX5_fitsFrom_40, if_neg hc]
    unfold mX5_fitsFrom_81 PX5_fitsFrom_81
    rw [hi1, nIc (show i < 2 ^ 31 by omega), nIc (show i + 1 < 2 ^ 31 by omega), hx i (by omega), hw (i + 1) (by omega), e, fitb]
    refine ⟨?_, fun _ => ⟨vin (by omega) (by decide), fun _ => p, fun _ => ⟨vin (by omega) (by decide), vin (by omega) (by decide), fun _ => p⟩⟩⟩
    by_cases q1 : x i = -1
    · rw [if_pos q1, if_pos q1]
    · rw [if_neg q1, if_neg q1]
      by_cases q2 : x i = w (i + 1)
      · rw [if_pos q2, if_pos q2]
      · rw [if_neg q2, if_neg q2]
theorem fitsFrom5 {x s : Nat → Int32} {q sz n o hh : Nat} {M : Mem} (hR : R M 1 s n) (ho : o < n) (hh16 : hh < 16) (hq : 34 ≤ q) (hx : ∀ i, i < 40 → M (q + 1) i = x i) (hs : M q 2 = nI sz) (hsz : sz ≤ 40) :
    ∃ M', mX5_fitsFrom q (nI hh) (nI o) M = (fitb x (fun j => stepsS (upd s (24 + 4 * o + 3) (nI hh)) n j (24 + 4 * o + 3)) sz 0, M') ∧ PX5_fitsFrom q (nI hh) (nI o) M ∧ ∀ z, (z < 15 ∨ 21 < z) → z ≠ 29 → M' z = M z := by
  have hn := hR.1
  have hb := become_R TB15 TB1 (by decide) hR
  have hbf := (become_at TB15 TB1 (by decide) M).2.2.2.2
  obtain ⟨M0, e0⟩ : ∃ y, y = mX4_become 15 1 M := ⟨_, rfl⟩
  rw [← e0] at hb hbf
  have ha : R (upm M0 21 o (nI hh)) 15 (upd s (24 + 4 * o + 3) (nI hh)) n := hb.air (j := 3) ho (by decide) (fun e => by cases e) (fun _ => ⟨hh, hh16, rfl⟩)
  obtain ⟨M1, e1⟩ : ∃ y, y = upm M0 21 o (nI hh) := ⟨_, rfl⟩
  rw [← e1] at ha
  have f1 : ∀ z, (z < 15 ∨ 21 < z) → M1 z = M z := fun z hz => by rw [e1, upm_ne (by omega), hbf z (by omega)]
  have s1 : M1 q 2 = nI sz := by rw [f1 q (by omega)]; exact hs
  obtain ⟨w1, w2, w3, w4⟩ := walk_eq (p := 29) (m := sz) (by decide) ho (by omega) ha
  obtain ⟨M2, e2⟩ : ∃ y, y = mX4_walk 15 29 61 (nI o) (nI sz) M1 := ⟨_, rfl⟩
  rw [← e2] at w2 w3
  have f2 : ∀ z, (z < 15 ∨ 21 < z) → z ≠ 29 → M2 z = M z := fun z h1 h2 => by rw [w3 z (by omega) (by omega) h2, f1 z h1]
  obtain ⟨c1, c2⟩ := fits40 (x := x) (w := fun j => stepsS (upd s (24 + 4 * o + 3) (nI hh)) n j (24 + 4 * o + 3)) (q := q) (M := M2) (fun i hi => by rw [f2 (q + 1) (by omega) (by omega)]; exact hx i hi) (by rw [f2 q (by omega) (by omega)]; exact hs) hsz w2 sz 400 0 (by omega) (by omega)
  refine ⟨M2, ?_, ?_, f2⟩
  · unfold mX5_fitsFrom mX5_fitsFrom_11 mX5_fitsFrom_37
    rw [← e0, nIc (by omega), ← e1, s1, ← e2]
    exact c1
  · unfold PX5_fitsFrom PX5_fitsFrom_11 PX5_fitsFrom_37
    rw [← e0, nIc (by omega), ← e1, s1, ← e2]
    exact ⟨pbecome _ _ _, vin (by omega) (by decide), w4, c2⟩
theorem fits56 {x s : Nat → Int32} {t sz n o : Nat} (ho : o < n) (ht : t < 4) (hsz : sz ≤ 40) {g : Nat → Bool} (hg : ∀ h, fitb x (fun j => stepsS (upd s (24 + 4 * o + 3) (nI h)) n j (24 + 4 * o + 3)) sz 0 = g h) (v3 : Int32) : ∀ (k fuel : Nat) (c l : Int32) (M : Mem), k < fuel → k ≤ 16 → R M 1 s n → (∀ i, i < 40 → M (34 + 2 * t + 1) i = x i) → M (34 + 2 * t) 2 = nI sz →
    ∃ M', mX5_fits_56 (nI t) fuel (nI o) v3 c l (nI k + (-1)) M = (if v3 = 0 then (ftn g k c l).1 else (ftn g k c l).2, M') ∧ PX5_fits_56 (nI t) fuel (nI o) v3 c l (nI k + (-1)) M ∧ ∀ z, (z < 15 ∨ 21 < z) → z ≠ 29 → M' z = M z := by
  intro k
  induction k with
  | zero =>
    intro fuel c l M hf hk hR hx hs
    obtain ⟨f, rfl⟩ : ∃ f, fuel = f + 1 := ⟨fuel - 1, by omega⟩
    have hc : nI 0 + (-1) < 0 := by decide
    refine ⟨M, ?_, ?_, fun _ _ _ => rfl⟩
    · rw [mX5_fits_56, if_pos hc]
      by_cases q : v3 = 0
      · rw [if_pos q, if_pos q]; rfl
      · rw [if_neg q, if_neg q]; rfl
    · rw [PX5_fits_56]
      exact fun z => absurd hc z
  | succ k ih =>
    intro fuel c l M hf hk hR hx hs
    obtain ⟨f, rfl⟩ : ∃ f, fuel = f + 1 := ⟨fuel - 1, by omega⟩
    rw [dn_succ]
    have hc : ¬ nI k < 0 := Int32.not_lt.mpr (nI_pos' (by omega))
    obtain ⟨M1, a1, a2, a3⟩ := fitsFrom5 (hh := k) (q := 34 + 2 * t) hR ho (by omega) (by omega) hx hs hsz
    rw [hg k] at a1
    have hR1 : R M1 1 s n := hR.congr (fun j hj => a3 _ (by omega) (by omega)) (fun _ _ => rfl)
    have hx1 : ∀ i, i < 40 → M1 (34 + 2 * t + 1) i = x i := fun i hi => by rw [a3 _ (by omega) (by omega)]; exact hx i hi
    have hs1 : M1 (34 + 2 * t) 2 = nI sz := by rw [a3 _ (by omega) (by omega)]; exact hs
    have z1 : ¬ b2i true = 0 := by decide
    have z0 : b2i false = 0 := by decide
    rw [mX5_fits_56, PX5_fits_56, if_neg hc, qpl_n ht, a1]
    unfold mX5_fits_70 PX5_fits_70 mX5_fits_80 PX5_fits_80
    cases hd : g k with
    | true =>
      obtain ⟨M', b1, b2, b3⟩ := ih f (c + 1) (nI k) M1 (by omega) (by omega) hR1 hx1 hs1
      refine ⟨M', ?_, fun _ => ⟨a2, fun z => absurd z z1, fun _ => b2⟩, fun z h1 h2 => (b3 z h1 h2).trans (a3 z h1 h2)⟩
      rw [if_neg z1, ftn_t hd]
      exact b1
    | false =>
      obtain ⟨M', b1, b2, b3⟩ := ih f c l M1 (by omega) (by omega) hR1 hx1 hs1
      refine ⟨M', ?_, fun _ => ⟨a2, fun _ => b2, fun z => absurd z0 z⟩, fun z h1 h2 => (b3 z h1 h2).trans (a3 z h1 h2)⟩
      rw [if_pos z0, ftn_f hd]
      exact b1
theorem told16 {u x : Nat → Int32} {n o t sz : Nat} (hG : GS u n) (ho : o < n) (ht : t < 4) (hsz : sz ≤ 40) : ∀ (k fuel i : Nat) (N : Mem), k + 1 < fuel → i + k = sz → N 47 = stepsS u n i → (∀ j, j < 56 → N 49 j = u j) → N 58 t = nI sz → (∀ i, i < 40 → N 59 (40 * t + i) = x i) →
    ∃ N', mX6_isTold_16 fuel (nI t) (nI o) 1 (nI i) N = (b2i (fitb x (fun j => stepsS u n j (24 + 4 * o + 3)) k i), N') ∧ PX6_isTold_16 fuel (nI t) (nI o) 1 (nI i) N ∧ (∀ j, j < 56 → N' 47 j = u j) ∧ ∀ q, q ≠ 47 → N' q = N q := by
  have h1 : ¬ (1 : Int32) = 0 := by decide
  have vt : vp_in (nI t) 4 := vin ht (by decide)
  have ct : (nI t).toNatClampNeg = t := nIc (by omega)
  intro k
  induction k with
  | zero =>
    intro fuel i N hf hi h47 h49 h58 h59
    obtain ⟨f, rfl⟩ : ∃ f, fuel = f + 1 := ⟨fuel - 1, by omega⟩
    have hc : N 58 t ≤ nI i := by rw [h58]; exact nI_le (by omega) (by omega)
    have x := back_ex (s := u) (N := N) h49
    rw [mX6_isTold_16, PX6_isTold_16, ct, if_pos hc]
    exact ⟨mX6_copyRow 49 56 47 56 N, rfl, ⟨vt, fun _ => ⟨(back_eq _).2, Or.inr rfl⟩, fun z => absurd hc z⟩, x.1, x.2⟩
  | succ k ih =>
    intro fuel i N hf hi h47 h49 h58 h59
    obtain ⟨f, rfl⟩ : ∃ f, fuel = f + 1 := ⟨fuel - 1, by omega⟩
    have hn := hG.1
    have h8 : o < 8 := by omega
    have hc : ¬ N 58 t ≤ nI i := by rw [h58]; exact nI_ge (by omega) (by omega)
    have hi1 : nI i + 1 = nI (i + 1) := (nI_succ i).symm
    obtain ⟨t1, t2⟩ := goesOn_eq (hG.steps i) h47
    rw [← stepsS_succ] at t1
    obtain ⟨N1, e1⟩ : ∃ y, y = mX6_goesOn N := ⟨_, rfl⟩
    rw [← e1] at t1
    have m47 : N1 47 = stepsS u n (i + 1) := by rw [t1, upr_at]
    have f1 : ∀ q, q ≠ 47 → N1 q = N q := fun q hq => by rw [t1, upr_ne hq]
    have a0 : mX6_its (nI o) 3 N1 = stepsS u n (i + 1) (24 + 4 * o + 3) := by rw [its3 h8, m47]
    have ex : N1 59 ((40 * nI t) + nI i).toNatClampNeg = x i := by rw [x40, nIc (by omega), f1 59 (by decide)]; exact h59 i (by omega)
    have vx : vp_in ((40 * nI t) + nI i) 160 := by rw [x40]; exact vin (by omega) (by decide)
    have n49 : ∀ j, j < 56 → N1 49 j = u j := fun j hj => by rw [f1 49 (by decide)]; exact h49 j hj
    have n58 : N1 58 t = nI sz := by rw [f1 58 (by decide)]; exact h58
    have n59 : ∀ i, i < 40 → N1 59 (40 * t + i) = x i := fun i hi => by rw [f1 59 (by decide)]; exact h59 i hi
    obtain ⟨Ng, c1, c2, c3, c4⟩ := ih f (i + 1) N1 (by omega) (by omega) m47 n49 n58 n59
    have bad : mX6_isTold_16 f (nI t) (nI o) 0 (nI (i + 1)) N1 = (0, mX6_copyRow 49 56 47 56 N1) ∧ PX6_isTold_16 f (nI t) (nI o) 0 (nI (i + 1)) N1 := by
      obtain ⟨g, rfl⟩ : ∃ g, f = g + 1 := ⟨f - 1, by omega⟩
      rw [mX6_isTold_16, PX6_isTold_16, ct]
      unfold mX6_isTold_84 PX6_isTold_84
      refine ⟨?_, vt, fun _ => ⟨(back_eq _).2, Or.inl rfl⟩, fun _ => ⟨fun _ => ⟨(back_eq _).2, Or.inl rfl⟩, fun q => absurd rfl q⟩⟩
      by_cases z : N1 58 t ≤ nI (i + 1)
      · rw [if_pos z]
      · rw [if_neg z, if_pos rfl]
    obtain ⟨b1, b2⟩ := bad
    have y := back_ex (s := u) (N := N1) n49
    have hP : PX6_isTold_16 (f + 1) (nI t) (nI o) 1 (nI i) N := by
      rw [PX6_isTold_16, ct]
      refine ⟨vt, fun z => absurd z hc, fun _ => ⟨fun z => absurd z h1, fun _ => ⟨t2, ?_⟩⟩⟩
      rw [← e1]
      unfold PX6_isTold_35 PX6_isTold_72 PX6_isTold_77
      rw [hi1]
      exact ⟨vx, fun _ => c2, fun _ => ⟨vx, pits3 h8, fun _ => c2, fun _ => b2⟩⟩
    have hM : mX6_isTold_16 (f + 1) (nI t) (nI o) 1 (nI i) N = if x i = -1 then mX6_isTold_16 f (nI t) (nI o) 1 (nI (i + 1)) N1 else if x i = stepsS u n (i + 1) (24 + 4 * o + 3) then mX6_isTold_16 f (nI t) (nI o) 1 (nI (i + 1)) N1 else mX6_isTold_16 f (nI t) (nI o) 0 (nI (i + 1)) N1 := by
      rw [mX6_isTold_16, ct, if_neg hc, if_neg h1, ← e1]
      unfold mX6_isTold_35 mX6_isTold_72 mX6_isTold_77
      rw [hi1, ex, a0]
    rw [hM, fitb]
    by_cases q1 : x i = -1
    · rw [if_pos q1, if_pos q1]
      exact ⟨Ng, c1, hP, c3, fun z hz => (c4 z hz).trans (f1 z hz)⟩
    · rw [if_neg q1, if_neg q1]
      by_cases q2 : x i = stepsS u n (i + 1) (24 + 4 * o + 3)
      · rw [if_pos q2, if_pos q2]
        exact ⟨Ng, c1, hP, c3, fun z hz => (c4 z hz).trans (f1 z hz)⟩
      · rw [if_neg q2, if_neg q2, b1]
        exact ⟨_, rfl, hP, y.1, fun z hz => (y.2 z hz).trans (f1 z hz)⟩
theorem fits69 {x s : Nat → Int32} {t sz n o : Nat} (ho : o < n) (ht : t < 4) (hsz : sz ≤ 40) (hG : ∀ h, h < 16 → GS (upd s (24 + 4 * o + 3) (nI h)) n) (hn : n ≤ 8) {g : Nat → Bool} (hg : ∀ h, fitb x (fun j => stepsS (upd s (24 + 4 * o + 3) (nI h)) n j (24 + 4 * o + 3)) sz 0 = g h) (v3 was : Int32) : ∀ (k fuel : Nat) (c l : Int32) (N : Mem), k < fuel → k ≤ 16 → (∀ j, j < 56 → j ≠ 24 + 4 * o + 3 → N 47 j = s j) → N 58 t = nI sz → (∀ i, i < 40 → N 59 (40 * t + i) = x i) →
    ∃ N', mX6_fits_69 fuel (nI t) (nI o) v3 ((24 + (4 * nI o)) + 3) was c l (nI k + (-1)) N = (if v3 = 0 then (ftn g k c l).1 else (ftn g k c l).2, N') ∧ PX6_fits_69 fuel (nI t) (nI o) v3 ((24 + (4 * nI o)) + 3) was c l (nI k + (-1)) N ∧ (∀ j, j < 56 → j ≠ 24 + 4 * o + 3 → N' 47 j = s j) ∧ N' 47 (24 + 4 * o + 3) = was ∧ ∀ p, p ≠ 47 → p ≠ 49 → N' p = N p := by
  have h8 : o < 8 := by omega
  have e3 := ix3 o h8
  have v3' := ixn3 o h8
  intro k
  induction k with
  | zero =>
    intro fuel c l N hf hk hN h58 h59
    obtain ⟨f, rfl⟩ : ∃ f, fuel = f + 1 := ⟨fuel - 1, by omega⟩
    have hc : nI 0 + (-1) < 0 := by decide
    refine ⟨upm N 47 (24 + 4 * o + 3) was, ?_, ?_, fun j hj e => by rw [upm_at, upd_ne e]; exact hN j hj e, by rw [upm_at, upd_at], fun p h1 _ => upm_ne h1⟩
    · rw [mX6_fits_69, if_pos hc, e3]
      by_cases q : v3 = 0
      · rw [if_pos q, if_pos q]; rfl
      · rw [if_neg q, if_neg q]; rfl
    · rw [PX6_fits_69]
      exact ⟨fun _ => v3', fun z => absurd hc z⟩
  | succ k ih =>
    intro fuel c l N hf hk hN h58 h59
    obtain ⟨f, rfl⟩ : ∃ f, fuel = f + 1 := ⟨fuel - 1, by omega⟩
    rw [dn_succ]
    have hc : ¬ nI k < 0 := Int32.not_lt.mpr (nI_pos' (by omega))
    have h56 := upd_56 (v := nI k) hN
    have hGk := hG k (by omega)
    obtain ⟨Na, ea⟩ : ∃ y, y = upm N 47 (24 + 4 * o + 3) (nI k) := ⟨_, rfl⟩
    have na47 : Na 47 = upd (N 47) (24 + 4 * o + 3) (nI k) := by rw [ea, upm_at]
    have hGu : GS (upd (N 47) (24 + 4 * o + 3) (nI k)) n := hGk.congr h56
    obtain ⟨g1, g2⟩ := aside_eq Na
    rw [na47] at g1
    obtain ⟨N1, a1, a2, a3, a4⟩ := told16 (x := x) hGu ho ht hsz sz 400 0 (upr Na 49 (c56 (upd (N 47) (24 + 4 * o + 3) (nI k)) (Na 49))) (by omega) (by omega) ((upr_ne (by decide)).trans na47) (fun j hj => by rw [upr_at, c56_at hj]) (by rw [upr_ne (by decide), ea, upm_ne (by decide)]; exact h58) (fun i hi => by rw [upr_ne (by decide), ea, upm_ne (by decide)]; exact h59 i hi)
    have a1' : mX6_isTold_16 400 (nI t) (nI o) 1 0 (upr Na 49 (c56 (upd (N 47) (24 + 4 * o + 3) (nI k)) (Na 49))) = _ := a1
    have ew : fitb x (fun j => stepsS (upd (N 47) (24 + 4 * o + 3) (nI k)) n j (24 + 4 * o + 3)) sz 0 = fitb x (fun j => stepsS (upd s (24 + 4 * o + 3) (nI k)) n j (24 + 4 * o + 3)) sz 0 := fitb_ext (fun j => at_56 hGk ho h56 j) sz 0
    rw [ew, hg k] at a1'
    have rT : mX6_isTold (nI t) (nI o) Na = (b2i (g k), N1) := by
      unfold mX6_isTold mX6_isTold_11
      rw [g1]
      exact a1'
    have pT : PX6_isTold (nI t) (nI o) Na := by
      unfold PX6_isTold PX6_isTold_11
      rw [g1]
      exact ⟨g2, a2⟩
    have fr : ∀ p, p ≠ 47 → p ≠ 49 → N1 p = N p := fun p h1 h2 => by rw [a4 p h1, upr_ne h2, ea, upm_ne h1]
    have hN1 : ∀ j, j < 56 → j ≠ 24 + 4 * o + 3 → N1 47 j = s j := fun j hj e => by rw [a3 j hj, upd_ne e]; exact hN j hj e
    have n58 : N1 58 t = nI sz := by rw [fr 58 (by decide) (by decide)]; exact h58
    have n59 : ∀ i, i < 40 → N1 59 (40 * t + i) = x i := fun i hi => by rw [fr 59 (by decide) (by decide)]; exact h59 i hi
    have z1 : ¬ b2i true = 0 := by decide
    have z0 : b2i false = 0 := by decide
    rw [mX6_fits_69, PX6_fits_69, if_neg hc, e3, ← ea, rT]
    unfold mX6_fits_89 PX6_fits_89 mX6_fits_103 PX6_fits_103 mX6_fits_118 PX6_fits_118
    cases hd : g k with
    | true =>
      obtain ⟨N', b1, b2, b3, b4, b5⟩ := ih f (c + 1) (nI k) N1 (by omega) (by omega) hN1 n58 n59
      refine ⟨N', ?_, ⟨fun z => absurd z hc, fun _ => ⟨v3', pT, fun z => absurd z z1, fun _ => ⟨fun z => absurd z z1, fun _ => b2⟩⟩⟩, b3, b4, fun p h1 h2 => (b5 p h1 h2).trans (fr p h1 h2)⟩
      rw [if_neg z1, if_neg z1, ftn_t hd]
      exact b1
    | false =>
      obtain ⟨N', b1, b2, b3, b4, b5⟩ := ih f c l N1 (by omega) (by omega) hN1 n58 n59
      have c0 : c + 0 = c := Int32.add_zero c
      refine ⟨N', ?_, ⟨fun z => absurd z hc, fun _ => ⟨v3', pT, fun _ => ⟨fun _ => by rw [c0]; exact b2, fun z => absurd z0 z⟩, fun z => absurd z0 z⟩⟩, b3, b4, fun p h1 h2 => (b5 p h1 h2).trans (fr p h1 h2)⟩
      rw [if_pos z0, if_pos z0, ftn_f hd, c0]
      exact b1
theorem ok_fits {M : Mem} (a c d : Int32) (h : Inv M) : OKm (PX5_fits a c d) (mX5_fits a c d) (PX6_fits a c d) (mX6_fits a c d) M := by
  obtain ⟨n, hR⟩ := h.1
  have hn := hR.1
  obtain ⟨e1, e2⟩ := has_eq (M := M) (N := M) (b := 1) (a := c) hR.2.1.1 hR.2.1.2 hn
  have es := isSheet_iff a
  have ei : mX6_isIn d.toInt64 0 1 = mX5_isWithin d 0 1 := isIn_eq d 0 1
  by_cases hh : 0 ≤ a ∧ a ≤ 3
  · have hh6 := es.mpr hh
    by_cases hc : mX4_has 1 c M = true
    · have hc6 : mX6_isOne c M = true := by rw [← e1]; exact hc
      by_cases hd : mX5_isWithin d 0 1 = true
      · obtain ⟨o, ho, rfl⟩ := e2 hc
        obtain ⟨t, ht, rfl⟩ := sheet_n hh
        have h8 : o < 8 := by omega
        have hv : vp_in (nI t) 4 := vin ht (by decide)
        have ct : (nI t).toNatClampNeg = t := nIc (by omega)
        rcases sheet_both h.2.2.2.2.1 ht with ⟨m1, m2⟩ | ⟨so, sz, hso, hsz, m1, m2, m3, m4, m5⟩
        · have ms := missing_t m1
          have nl : ¬ 0 ≤ M 57 t := by rw [m2]; decide
          have u5 : mX5_fits (nI t) (nI o) d M = (-11, M) := by
            unfold mX5_fits
            rw [if_pos hh, if_pos hc, if_pos hd, qpl_n ht, if_pos ms]
          have u6 : mX6_fits (nI t) (nI o) d M = (-11, M) := by
            unfold mX6_fits
            rw [if_pos hh6, if_pos hc6, ei, if_pos hd, ct, if_neg nl]
          unfold OKm
          rw [u5]
          dsimp only
          rw [u6]
          refine ⟨?_, ?_, rfl, h⟩
          · unfold PX5_fits
            rw [qpl_n ht]
            exact fun _ _ _ q => absurd ms q
          · unfold PX6_fits
            rw [ct]
            exact fun _ _ _ => ⟨hv, fun q => absurd q nl⟩
        · have ms := missing_f hso m1
          have nl : 0 ≤ M 57 t := by rw [m2]; exact nI_pos' (by omega)
          have e15 : nI 16 + (-1) = 15 := by decide
          obtain ⟨M1, a1, a2, a3⟩ := fits56 (x := fun i => M 59 (40 * t + i)) (s := M 47) ho ht hsz (fun _ => rfl) d 16 400 0 (-3) M (by decide) (by decide) hR m5 m3
          rw [e15] at a1 a2
          have all : ∀ q, (q < 15 ∨ 21 < q) → q ≠ 29 → q ≠ 30 → q ≠ 31 → q ≠ 32 → q ≠ 33 → M1 q = M q := fun q h1 h2 _ _ _ _ => a3 q h1 h2
          have s47 : M1 47 = M 47 := a3 47 (by omega) (by decide)
          have i1 : mX6_isOne (nI o) M1 = true := by
            unfold mX6_isOne at hc6 ⊢
            rw [s47]; exact hc6
          obtain ⟨N', b1, b2, b3, b4, b5⟩ := fits69 (x := fun i => M 59 (40 * t + i)) (s := M 47) ho ht hsz (fun k hk => (hR.air (j := 3) ho (by decide) (fun e => by cases e) (fun _ => ⟨k, hk, rfl⟩)).gs) hn (fun _ => rfl) d (M 47 (24 + 4 * o + 3)) 16 400 0 (-3) M1 (by decide) (by decide) (fun j _ _ => by rw [s47]) (by rw [a3 58 (by omega) (by decide)]; exact m4) (fun i _ => by rw [a3 59 (by omega) (by decide)])
          rw [e15] at b1 b2
          have n57 : M1 57 t = M 57 t := by rw [a3 57 (by omega) (by decide)]
          have u5 : mX5_fits (nI t) (nI o) d M = mX5_fits_56 (nI t) 400 (nI o) d 0 (-3) 15 M := by
            unfold mX5_fits
            rw [if_pos hh, if_pos hc, if_pos hd, qpl_n ht, if_neg ms]
          have u6 : mX6_fits (nI t) (nI o) d M1 = mX6_fits_69 400 (nI t) (nI o) d ((24 + (4 * nI o)) + 3) (M 47 (24 + 4 * o + 3)) 0 (-3) 15 M1 := by
            unfold mX6_fits
            rw [if_pos hh6, if_pos i1, ei, if_pos hd, ct, n57, if_pos nl, ix3 o h8, s47]
          have hF : Fr M1 N' := ⟨fun p hp => by
            unfold PS at hp
            rw [b5 p (by omega) (by omega)], fun k hk => by
            by_cases e : k = 24 + 4 * o + 3
            · rw [e, b4, s47]
            · rw [b3 k hk e, s47]⟩
          unfold OKm
          rw [u5, a1]
          dsimp only
          rw [u6, b1]
          refine ⟨?_, ?_, rfl, Inv.fr ((Fr.of5 all).trans hF) h⟩
          · unfold PX5_fits
            exact fun _ _ _ _ => a2
          · unfold PX6_fits
            rw [ct, n57, ix3 o h8, s47]
            exact fun _ _ _ => ⟨hv, fun _ => ⟨ixn3 o h8, b2⟩⟩
      · unfold OKm mX5_fits mX6_fits PX5_fits PX6_fits
        rw [if_pos hh, if_pos hc, if_neg hd]
        dsimp only
        rw [if_pos hh6, if_pos hc6, ei, if_neg hd]
        exact ⟨fun _ _ q => absurd q hd, fun _ _ q => absurd q hd, rfl, h⟩
    · have hc6 : ¬ mX6_isOne c M = true := by rw [← e1]; exact hc
      unfold OKm mX5_fits mX6_fits PX5_fits PX6_fits
      rw [if_pos hh, if_neg hc]
      dsimp only
      rw [if_pos hh6, if_neg hc6]
      exact ⟨fun _ q => absurd q hc, fun _ q => absurd q hc6, rfl, h⟩
  · have hh6 : ¬ mX6_isSheet a = true := fun q => hh (es.mp q)
    unfold OKm mX5_fits mX6_fits PX5_fits PX6_fits
    rw [if_neg hh]
    dsimp only
    rw [if_neg hh6]
    exact ⟨fun q => absurd q hh, fun q => absurd q hh6, rfl, h⟩
/-! FORCES out of a sheet -/
theorem held9_eq (v : Int32) : mX5_held v 9 = mX6_within v := by
  unfold mX5_held mX6_within mX6_bounded imax imin
  have e0 : (0 : Int32).toInt = 0 := by decide
  have e9 : (9 : Int32).toInt = 9 := by decide
  simp only [Int32.lt_iff_toInt_lt, Int32.le_iff_toInt_le, e0, e9]
  repeat' split
  all_goals first | rfl | omega | (apply Int32.toInt_inj.mp; omega)
def mdS (x : Nat → Int32) (o : Nat) : Nat → Nat → (Nat → Int32) → (Nat → Int32)
  | 0, _, s => s
  | k + 1, i, s => mdS x o k (i + 1) (upd s (24 + 4 * (o + i) + 1) (mX6_within (x i)))
theorem minds103 {x : Nat → Int32} {t i0 o m n : Nat} (ht : t < 4) (hm : m ≤ 8) (hon : o + m ≤ n) (hi0 : i0 + m ≤ 40) : ∀ (k fuel i : Nat) (M : Mem) (s : Nat → Int32), k < fuel → i + k = m → R M 1 s n → (∀ j, j < 40 → M (34 + 2 * t + 1) j = x j) →
    ∃ M', mX5_minds_103 (nI t) fuel (nI i0) (nI o) (nI m) (nI i) M = (nI m, M') ∧ PX5_minds_103 (nI t) fuel (nI i0) (nI o) (nI m) (nI i) M ∧ R M' 1 (mdS (fun j => x (i0 + j)) o k i s) n ∧ ∀ p, p ≠ 5 → M' p = M p := by
  intro k
  induction k with
  | zero =>
    intro fuel i M s hf hi hR hx
    obtain ⟨f, rfl⟩ : ∃ f, fuel = f + 1 := ⟨fuel - 1, by omega⟩
    have hc : nI m ≤ nI i := nI_le (by omega) (by omega)
    refine ⟨M, ?_, ?_, hR, fun _ _ => rfl⟩
    · rw [mX5_minds_103, if_pos hc]
    · rw [PX5_minds_103]
      exact fun q => absurd hc q
  | succ k ih =>
    intro fuel i M s hf hi hR hx
    obtain ⟨f, rfl⟩ : ∃ f, fuel = f + 1 := ⟨fuel - 1, by omega⟩
    have hn := hR.1
    have hc : ¬ nI m ≤ nI i := nI_ge (by omega) (by omega)
    have hi1 : nI i + 1 = nI (i + 1) := (nI_succ i).symm
    have ea : nI i0 + nI i = nI (i0 + i) := nI_add i0 i
    have eb : nI o + nI i = nI (o + i) := nI_add o i
    have ra := hR.air (o := o + i) (j := 1) (w := mX6_within (x (i0 + i))) (by omega) (by decide) (fun e => by cases e) (fun e => by omega)
    obtain ⟨M', a1, a2, a3, a4⟩ := ih f (i + 1) (upm M 5 (o + i) (mX6_within (x (i0 + i)))) (upd s (24 + 4 * (o + i) + 1) (mX6_within (x (i0 + i)))) (by omega) (by omega) ra (fun j hj => by rw [upm_ne (by omega)]; exact hx j hj)
    refine ⟨M', ?_, ?_, a3, fun p hp => (a4 p hp).trans (upm_ne hp)⟩
    · rw [mX5_minds_103, if_neg hc, ea, eb, qpl_n ht, nIc (show i0 + i < 2 ^ 31 by omega), nIc (show o + i < 2 ^ 31 by omega), hx (i0 + i) (by omega), held9_eq, hi1]
      exact a1
    · rw [PX5_minds_103]
      rw [ea, eb, qpl_n ht, nIc (show i0 + i < 2 ^ 31 by omega), nIc (show o + i < 2 ^ 31 by omega), hx (i0 + i) (by omega), held9_eq, hi1]
      exact fun _ => ⟨vin (by omega) (by decide), vin (by omega) (by decide), a2⟩
theorem minds98 {x : Nat → Int32} {t i0 o m n : Nat} (ht : t < 4) (hm : m ≤ 8) (hon : o + m ≤ n) (hn : n ≤ 8) (hi0 : i0 + m ≤ 40) : ∀ (k fuel i : Nat) (N : Mem) (s : Nat → Int32), k < fuel → i + k = m → N 47 = s → (∀ j, j < 40 → N 59 (40 * t + j) = x j) →
    mX6_minds_98 fuel (nI t) (nI i0) (nI o) (nI m) (nI i) N = (nI m, upr N 47 (mdS (fun j => x (i0 + j)) o k i s)) ∧ PX6_minds_98 fuel (nI t) (nI i0) (nI o) (nI m) (nI i) N := by
  intro k
  induction k with
  | zero =>
    intro fuel i N s hf hi h47 hx
    obtain ⟨f, rfl⟩ : ∃ f, fuel = f + 1 := ⟨fuel - 1, by omega⟩
    have hc : nI m ≤ nI i := nI_le (by omega) (by omega)
    constructor
    · rw [mX6_minds_98, if_pos hc, mdS, ← h47, upr_self]
    · rw [PX6_minds_98]
      exact fun q => absurd hc q
  | succ k ih =>
    intro fuel i N s hf hi h47 hx
    obtain ⟨f, rfl⟩ : ∃ f, fuel = f + 1 := ⟨fuel - 1, by omega⟩
    have hc : ¬ nI m ≤ nI i := nI_ge (by omega) (by omega)
    have hi1 : nI i + 1 = nI (i + 1) := (nI_succ i).symm
    have ea : (40 * nI t + nI i0) + nI i = nI (40 * t + (i0 + i)) := by rw [x40, nI_add, Nat.add_assoc]
    have eb : nI o + nI i = nI (o + i) := nI_add o i
    have h8 : o + i < 8 := by omega
    have em : upm N 47 (24 + 4 * (o + i) + 1) (mX6_within (x (i0 + i))) = upr N 47 (upd s (24 + 4 * (o + i) + 1) (mX6_within (x (i0 + i)))) := by rw [upm_upr, h47]
    obtain ⟨a1, a2⟩ := ih f (i + 1) (upr N 47 (upd s (24 + 4 * (o + i) + 1) (mX6_within (x (i0 + i))))) _ (by omega) (by omega) (upr_at _ _ _) (fun j hj => by rw [upr_ne (by decide)]; exact hx j hj)
    rw [upr_upr] at a1
    constructor
    · rw [mX6_minds_98, if_neg hc, ea, eb, ix1 (o + i) h8, nIc (show 40 * t + (i0 + i) < 2 ^ 31 by omega), hx (i0 + i) (by omega), hi1, em]
      exact a1
    · rw [PX6_minds_98]
      rw [ea, eb, ix1 (o + i) h8, nIc (show 40 * t + (i0 + i) < 2 ^ 31 by omega), hx (i0 + i) (by omega), hi1, em]
      exact fun _ => ⟨vin (by omega) (by decide), ixn1 (o + i) h8, a2⟩
theorem add64 : ∀ i, i < 41 → ∀ k, k < 9 → (nI i).toInt64 + (nI k).toInt64 = (nI (i + k)).toInt64 := by decide
theorem ok_minds {M : Mem} (a b c d : Int32) (h : Inv M) : OKm (PX5_minds a b c d) (mX5_minds a b c d) (PX6_minds a b c d) (mX6_minds a b c d) M := by
  obtain ⟨n, hR⟩ := h.1
  have hn := hR.1
  obtain ⟨e1, e2⟩ := has_eq (M := M) (N := M) (b := 1) (a := c) hR.2.1.1 hR.2.1.2 hn
  have z00 : (0 : Int32) = 0 := rfl
  have es := isSheet_iff a
  have ei : mX6_isIn d.toInt64 0 8 = mX5_isWithin d 0 8 := isIn_eq d 0 8
  by_cases hh : 0 ≤ a ∧ a ≤ 3
  case neg =>
    have hh6 : ¬ mX6_isSheet a = true := fun q => hh (es.mp q)
    unfold OKm mX5_minds mX6_minds PX5_minds PX6_minds
    rw [if_neg hh]
    dsimp only
    rw [if_neg hh6]
    exact ⟨fun q => absurd q hh, fun q => absurd q hh6, rfl, h⟩
  have hh6 := es.mpr hh
  by_cases hc : mX4_has 1 c M = true
  case neg =>
    have hc6 : ¬ mX6_isOne c M = true := by rw [← e1]; exact hc
    unfold OKm mX5_minds mX6_minds PX5_minds PX6_minds
    rw [if_pos hh, if_neg hc]
    dsimp only
    rw [if_pos hh6, if_neg hc6]
    exact ⟨fun _ q => absurd q hc, fun _ q => absurd q hc6, rfl, h⟩
  have hc6 : mX6_isOne c M = true := by rw [← e1]; exact hc
  by_cases hd : mX5_isWithin d 0 8 = true
  case neg =>
    unfold OKm mX5_minds mX6_minds PX5_minds PX6_minds
    rw [if_pos hh, if_pos hc, if_neg hd]
    dsimp only
    rw [if_pos hh6, if_pos hc6, ei, if_neg hd]
    exact ⟨fun _ _ q => absurd q hd, fun _ _ q => absurd q hd, rfl, h⟩
  obtain ⟨o, ho, rfl⟩ := e2 hc
  obtain ⟨t, ht, rfl⟩ := sheet_n hh
  obtain ⟨m, hm, rfl⟩ := within_n (m := 8) (by decide) hd
  have h8 : o < 8 := by omega
  have hv : vp_in (nI t) 4 := vin ht (by decide)
  have ct : (nI t).toNatClampNeg = t := nIc (by omega)
  have c5 : (nI m ≤ M 1 6 - nI o) ↔ o + m ≤ n := by
    rw [hR.2.1.1, nI_subc (by omega), nI_le_iff (by omega) (by omega)]
    omega
  have c6 : (nI o + nI m ≤ M 47 0) ↔ o + m ≤ n := by
    rw [hR.2.1.2, nI_add, nI_le_iff (by omega) (by omega)]
  by_cases hon : o + m ≤ n
  case neg =>
    have k5 : ¬ (nI m ≤ M 1 6 - nI o) := fun q => hon (c5.mp q)
    have k6 : ¬ (nI o + nI m ≤ M 47 0) := fun q => hon (c6.mp q)
    unfold OKm mX5_minds mX6_minds PX5_minds PX6_minds
    rw [if_pos hh, if_pos hc, if_pos hd, if_neg k5]
    dsimp only
    rw [if_pos hh6, if_pos hc6, ei, if_pos hd, if_neg k6]
    exact ⟨fun _ _ _ q => absurd q k5, fun _ _ _ q => absurd q k6, rfl, h⟩
  have k5 := c5.mpr hon
  have k6 := c6.mpr hon
  rcases sheet_both h.2.2.2.2.1 ht with ⟨m1, m2⟩ | ⟨so, sz, hso, hsz, m1, m2, m3, m4, m5⟩
  case inl =>
    have ms := missing_t m1
    have nl : ¬ 0 ≤ M 57 t := by rw [m2]; decide
    have el : mX6_lacks (nI t) 0 M = -11 := by unfold mX6_lacks; rw [ct, if_neg nl]
    have pl : PX6_lacks (nI t) 0 M := by unfold PX6_lacks; rw [ct]; exact ⟨hv, fun _ => hv⟩
    have nz : ¬ (-11 : Int32) = 0 := by decide
    unfold OKm mX5_minds mX6_minds PX5_minds PX6_minds
    rw [if_pos hh, if_pos hc, if_pos hd, if_pos k5, qpl_n ht, if_pos ms]
    dsimp only
    rw [if_pos hh6, if_pos hc6, ei, if_pos hd, if_pos k6, el, if_neg nz]
    exact ⟨fun _ _ _ _ q => absurd ms q, fun _ _ _ _ => ⟨pl, fun q => absurd q nz, fun _ => pl⟩, rfl, h⟩
  have ms := missing_f hso m1
  have nl : 0 ≤ M 57 t := by rw [m2]; exact nI_pos' (by omega)
  have pl : PX6_lacks (nI t) 0 M := by unfold PX6_lacks; rw [ct]; exact ⟨hv, fun _ => hv⟩
  by_cases hso0 : nI so = 0
  case neg =>
    have el : mX6_lacks (nI t) 0 M = -13 := by unfold mX6_lacks; rw [ct, if_pos nl, m2, if_neg hso0]
    have nz : ¬ (-13 : Int32) = 0 := by decide
    unfold OKm mX5_minds mX6_minds PX5_minds PX6_minds
    rw [if_pos hh, if_pos hc, if_pos hd, if_pos k5, qpl_n ht, if_neg ms, m1, if_neg hso0]
    dsimp only
    rw [if_pos hh6, if_pos hc6, ei, if_pos hd, if_pos k6, el, if_neg nz]
    exact ⟨fun _ _ _ _ _ q => absurd q hso0, fun _ _ _ _ => ⟨pl, fun q => absurd q nz, fun _ => pl⟩, rfl, h⟩
  have el : mX6_lacks (nI t) 0 M = 0 := by unfold mX6_lacks; rw [ct, if_pos nl, m2, if_pos hso0]
  have ej : mX6_isIn b.toInt64 0 ((nI sz).toInt64) = mX5_isWithin b 0 (nI sz) := isIn_eq b 0 (nI sz)
  by_cases hb : mX5_isWithin b 0 (nI sz) = true
  case neg =>
    have u5 : mX5_minds (nI t) b (nI o) (nI m) M = (-12, M) := by
      unfold mX5_minds
      rw [if_pos hh, if_pos hc, if_pos hd, if_pos k5, qpl_n ht, if_neg ms, m1, if_pos hso0, m3, if_neg hb]
    have u6 : mX6_minds (nI t) b (nI o) (nI m) M = (-12, M) := by
      unfold mX6_minds
      rw [if_pos hh6, if_pos hc6, ei, if_pos hd, if_pos k6, el, if_pos z00, ct, m4, ej, if_neg hb]
    unfold OKm
    rw [u5]
    dsimp only
    rw [u6]
    refine ⟨?_, ?_, rfl, h⟩
    · unfold PX5_minds
      rw [qpl_n ht, m3]
      exact fun _ _ _ _ _ _ q => absurd q hb
    · unfold PX6_minds
      rw [ct, m4, ej]
      exact fun _ _ _ _ => ⟨pl, fun _ => ⟨hv, fun q => absurd q hb⟩, fun q => absurd el q⟩
  obtain ⟨i0, hi0, rfl⟩ := within_n (m := sz) (by omega) hb
  have d5 : (nI m ≤ nI sz - nI i0) ↔ i0 + m ≤ sz := by
    rw [nI_subc hi0, nI_le_iff (by omega) (by omega)]
    omega
  have d6 : (lg_cmp ((nI i0).toInt64 + (nI m).toInt64) (nI sz).toInt64 ≤ 0) ↔ i0 + m ≤ sz := by
    rw [lg_cmp_le, add64 i0 (by omega) m (by omega), Int64.le_iff_toInt_le, toInt64_toInt, toInt64_toInt, ← Int32.le_iff_toInt_le, nI_le_iff (by omega) (by omega)]
  by_cases him : i0 + m ≤ sz
  case neg =>
    have k7 : ¬ (nI m ≤ nI sz - nI i0) := fun q => him (d5.mp q)
    have k8 : ¬ (lg_cmp ((nI i0).toInt64 + (nI m).toInt64) (nI sz).toInt64 ≤ 0) := fun q => him (d6.mp q)
    have u5 : mX5_minds (nI t) (nI i0) (nI o) (nI m) M = (-12, M) := by
      unfold mX5_minds
      rw [if_pos hh, if_pos hc, if_pos hd, if_pos k5, qpl_n ht, if_neg ms, m1, if_pos hso0, m3, if_pos hb, if_neg k7]
    have u6 : mX6_minds (nI t) (nI i0) (nI o) (nI m) M = (-12, M) := by
      unfold mX6_minds
      rw [if_pos hh6, if_pos hc6, ei, if_pos hd, if_pos k6, el, if_pos z00, ct, m4, ej, if_pos hb, if_neg k8]
    unfold OKm
    rw [u5]
    dsimp only
    rw [u6]
    refine ⟨?_, ?_, rfl, h⟩
    · unfold PX5_minds
      rw [qpl_n ht, m3]
      exact fun _ _ _ _ _ _ _ q => absurd q k7
    · unfold PX6_minds
      rw [ct, m4]
      exact fun _ _ _ _ => ⟨pl, fun _ => ⟨hv, fun _ => ⟨hv, fun q => absurd q k8⟩⟩, fun q => absurd el q⟩
  have k7 := d5.mpr him
  have k8 := d6.mpr him
  obtain ⟨M1, a1, a2, a3, a4⟩ := minds103 (x := fun j => M 59 (40 * t + j)) (n := n) ht hm hon (show i0 + m ≤ 40 by omega) m 400 0 M (M 47) (by omega) (by omega) hR m5
  have a1' : mX5_minds_103 (nI t) 400 (nI i0) (nI o) (nI m) 0 M = _ := a1
  have s47 : M1 47 = M 47 := a4 47 (by decide)
  obtain ⟨b1, b2⟩ := minds98 (x := fun j => M 59 (40 * t + j)) (n := n) ht hm hon hn (show i0 + m ≤ 40 by omega) m 400 0 M1 (M 47) (by omega) (by omega) s47 (fun j _ => by rw [a4 59 (by decide)])
  have b1' : mX6_minds_98 400 (nI t) (nI i0) (nI o) (nI m) 0 M1 = _ := b1
  have i1 : mX6_isOne (nI o) M1 = true := by
    unfold mX6_isOne at hc6 ⊢
    rw [s47]; exact hc6
  have k6' : nI o + nI m ≤ M1 47 0 := by rw [s47]; exact k6
  have pl' : PX6_lacks (nI t) 0 M1 := by unfold PX6_lacks; rw [ct]; exact ⟨hv, fun _ => hv⟩
  have el' : mX6_lacks (nI t) 0 M1 = 0 := by
    unfold mX6_lacks at el ⊢
    rw [a4 57 (by decide)]; exact el
  have m4' : M1 58 t = nI sz := by rw [a4 58 (by decide)]; exact m4
  have u5 : mX5_minds (nI t) (nI i0) (nI o) (nI m) M = mX5_minds_103 (nI t) 400 (nI i0) (nI o) (nI m) 0 M := by
    unfold mX5_minds
    rw [if_pos hh, if_pos hc, if_pos hd, if_pos k5, qpl_n ht, if_neg ms, m1, if_pos hso0, m3, if_pos hb, if_pos k7]
  have u6 : mX6_minds (nI t) (nI i0) (nI o) (nI m) M1 = mX6_minds_98 400 (nI t) (nI i0) (nI o) (nI m) 0 M1 := by
    unfold mX6_minds
    rw [if_pos hh6, if_pos i1, ei, if_pos hd, if_pos k6', el', if_pos z00, ct, m4', ej, if_pos hb, if_pos k8]
  unfold OKm
  rw [u5, a1']
  dsimp only
  rw [u6, b1']
  refine ⟨?_, ?_, rfl, ?_⟩
  · unfold PX5_minds
    exact fun _ _ _ _ _ _ _ _ => a2
  · unfold PX6_minds
    rw [ct, m4']
    exact fun _ _ _ _ => ⟨pl', fun _ => ⟨hv, fun _ => ⟨hv, fun _ => b2⟩⟩, fun q => absurd el' q⟩
  · change Inv (upr M1 47 (mdS (fun j => M 59 (40 * t + (i0 + j))) o m 0 (M 47)))
    refine h.now (fun p hp h7 => ?_) ⟨n, a3.congr (fun j hj => upr_ne (by omega)) (fun j hj => by rw [upr_at])⟩
    unfold PS at hp
    rw [upr_ne (by omega)]
    exact a4 p (by omega)
/-! ACTS: the class's bodies and the reference's methods, both tied to one picture -/
abbrev TT : Type := Nat × (Nat → Int32)
def TR (c : Int32) (g : Nat → Int32) (T : TT) : Prop := T.1 ≤ 30 ∧ c = nI T.1 ∧ ∀ i, i < T.1 → g i = T.2 i
def nt (b : Int32) (T : TT) : TT := if T.1 < 30 then (T.1 + 1, upd T.2 T.1 b) else T
theorem note_tr {c b : Int32} {g : Nat → Int32} {T : TT} (h : TR c g T) : (30 ≤ c → TR c g (nt b T)) ∧ (¬ 30 ≤ c → vp_in c 30 ∧ TR (c + 1) (upd g c.toNatClampNeg b) (nt b T)) := by
  obtain ⟨h1, h2, h3⟩ := h
  have hi : (30 : Int32) ≤ nI T.1 ↔ 30 ≤ T.1 := nI_le_iff (a := 30) (by decide) (by omega)
  rw [h2]
  constructor
  · intro q
    have := hi.mp q
    unfold nt
    rw [if_neg (by omega)]
    exact ⟨h1, rfl, h3⟩
  · intro q
    have : T.1 < 30 := by
      rcases Nat.lt_or_ge T.1 30 with z | z
      · exact z
      · exact absurd (hi.mpr z) q
    unfold nt
    rw [if_pos this, nIc (by omega)]
    refine ⟨vin this (by decide), this, (nI_succ T.1).symm, fun i hi => ?_⟩
    by_cases e : i = T.1
    · subst e
      rw [upd_at]
      exact (upd_at _ _ _).symm
    · rw [upd_ne e]
      have hi2 : i < T.1 + 1 := hi
      exact (h3 i (by omega)).trans (upd_ne e).symm
theorem r20_10 (kfR : Int32 → Int32 → Int32 → Mem → Int32 × Mem) (v2 v3 : Int32) (M : Mem) : mX0_run_20 kfR 10 v2 v3 M = (((v2 * 9) + (M 26 4)), M) := by
  unfold mX0_run_20
  rw [if_pos rfl]
theorem p20_10 (kfR : Int32 → Int32 → Int32 → Mem → Int32 × Mem) (kPR : Int32 → Int32 → Int32 → Mem → Prop) (v2 v3 : Int32) (M : Mem) : PX0_run_20 kfR kPR 10 v2 v3 M := by
  unfold PX0_run_20
  exact fun q => absurd rfl q
theorem r20_11 (kfR : Int32 → Int32 → Int32 → Mem → Int32 × Mem) (v2 v3 : Int32) (M : Mem) : mX0_run_20 kfR 11 v2 v3 M = (mX0_run_270 kfR ((kfR (mX0_bodyOf 0 M) v2 (v3 + 1) M).1) ((kfR (mX0_bodyOf 0 M) v2 (v3 + 1) M).2)) := by
  unfold mX0_run_20
  rw [if_neg (by decide), if_pos rfl]
theorem p20_11 (kfR : Int32 → Int32 → Int32 → Mem → Int32 × Mem) (kPR : Int32 → Int32 → Int32 → Mem → Prop) (v2 v3 : Int32) (M : Mem) (h : PX0_bodyOf 0 M ∧ (kPR (mX0_bodyOf 0 M) v2 (v3 + 1) M ∧ (PX0_run_270 kfR kPR ((kfR (mX0_bodyOf 0 M) v2 (v3 + 1) M).1) ((kfR (mX0_bodyOf 0 M) v2 (v3 + 1) M).2)))) : PX0_run_20 kfR kPR 11 v2 v3 M := by
  unfold PX0_run_20
  exact fun _ => ⟨fun _ => h, fun q => absurd rfl q⟩
theorem r20_12 (kfR : Int32 → Int32 → Int32 → Mem → Int32 × Mem) (v2 v3 : Int32) (M : Mem) : mX0_run_20 kfR 12 v2 v3 M = ((mX0_partedBy v2 ((M 26 5) - (M 26 4)) M).1, (mX0_partedBy v2 ((M 26 5) - (M 26 4)) M).2) := by
  unfold mX0_run_20
  rw [if_neg (by decide), if_neg (by decide), if_pos rfl]
theorem p20_12 (kfR : Int32 → Int32 → Int32 → Mem → Int32 × Mem) (kPR : Int32 → Int32 → Int32 → Mem → Prop) (v2 v3 : Int32) (M : Mem) (h : PX0_partedBy v2 ((M 26 5) - (M 26 4)) M) : PX0_run_20 kfR kPR 12 v2 v3 M := by
  unfold PX0_run_20
  exact fun _ => ⟨fun q => absurd q (by decide), fun _ => ⟨fun _ => h, fun q => absurd rfl q⟩⟩
theorem r20_13 (kfR : Int32 → Int32 → Int32 → Mem → Int32 × Mem) (v2 v3 : Int32) (M : Mem) : mX0_run_20 kfR 13 v2 v3 M = (mX0_run_305 kfR ((kfR (mX0_bodyOf 1 M) v2 (v3 + 1) M).1) ((kfR (mX0_bodyOf 1 M) v2 (v3 + 1) M).2)) := by
  unfold mX0_run_20
  rw [if_neg (by decide), if_neg (by decide), if_neg (by decide), if_pos rfl]
theorem p20_13 (kfR : Int32 → Int32 → Int32 → Mem → Int32 × Mem) (kPR : Int32 → Int32 → Int32 → Mem → Prop) (v2 v3 : Int32) (M : Mem) (h : PX0_bodyOf 1 M ∧ (kPR (mX0_bodyOf 1 M) v2 (v3 + 1) M ∧ (PX0_run_305 kfR kPR ((kfR (mX0_bodyOf 1 M) v2 (v3 + 1) M).1) ((kfR (mX0_bodyOf 1 M) v2 (v3 + 1) M).2)))) : PX0_run_20 kfR kPR 13 v2 v3 M := by
  unfold PX0_run_20
  exact fun _ => ⟨fun q => absurd q (by decide), fun _ => ⟨fun q => absurd q (by decide), fun _ => ⟨fun _ => h, fun q => absurd rfl q⟩⟩⟩
theorem r20_20 (kfR : Int32 → Int32 → Int32 → Mem → Int32 × Mem) (v2 v3 : Int32) (M : Mem) : mX0_run_20 kfR 20 v2 v3 M = (mX0_run_319 kfR ((kfR 11 v2 (v3 + 1) M).1) ((kfR 11 v2 (v3 + 1) M).2)) := by
  unfold mX0_run_20
  rw [if_neg (by decide), if_neg (by decide), if_neg (by decide), if_neg (by decide), if_neg (by decide), if_neg (by decide), if_neg (by decide), if_neg (by decide), if_neg (by decide), if_neg (by decide), if_pos rfl]
theorem p20_20 (kfR : Int32 → Int32 → Int32 → Mem → Int32 × Mem) (kPR : Int32 → Int32 → Int32 → Mem → Prop) (v2 v3 : Int32) (M : Mem) (h : kPR 11 v2 (v3 + 1) M ∧ (PX0_run_319 kfR kPR ((kfR 11 v2 (v3 + 1) M).1) ((kfR 11 v2 (v3 + 1) M).2))) : PX0_run_20 kfR kPR 20 v2 v3 M := by
  unfold PX0_run_20
  exact fun _ => ⟨fun q => absurd q (by decide), fun _ => ⟨fun q => absurd q (by decide), fun _ => ⟨fun q => absurd q (by decide), fun _ => fun _ => fun _ => fun _ => fun _ => fun _ => fun _ => ⟨fun _ => h, fun q => absurd rfl q⟩⟩⟩⟩
theorem r20_30 (kfR : Int32 → Int32 → Int32 → Mem → Int32 × Mem) (v2 v3 : Int32) (M : Mem) : mX0_run_20 kfR 30 v2 v3 M = (mX0_run_332 kfR ((kfR 10 v2 (v3 + 1) M).1) 0 ((kfR 10 v2 (v3 + 1) M).2)) := by
  unfold mX0_run_20
  rw [if_neg (by decide), if_neg (by decide), if_neg (by decide), if_neg (by decide), if_neg (by decide), if_neg (by decide), if_neg (by decide), if_neg (by decide), if_neg (by decide), if_neg (by decide), if_neg (by decide), if_neg (by decide), if_neg (by decide), if_neg (by decide), if_neg (by decide), if_neg (by decide), if_neg (by decide), if_neg (by decide), if_neg (by decide), if_neg (by decide), if_pos rfl]
theorem p20_30 (kfR : Int32 → Int32 → Int32 → Mem → Int32 × Mem) (kPR : Int32 → Int32 → Int32 → Mem → Prop) (v2 v3 : Int32) (M : Mem) (h : kPR 10 v2 (v3 + 1) M ∧ (PX0_run_332 kfR kPR ((kfR 10 v2 (v3 + 1) M).1) 0 ((kfR 10 v2 (v3 + 1) M).2))) : PX0_run_20 kfR kPR 30 v2 v3 M := by
  unfold PX0_run_20
  exact fun _ => ⟨fun q => absurd q (by decide), fun _ => ⟨fun q => absurd q (by decide), fun _ => ⟨fun q => absurd q (by decide), fun _ => fun _ => fun _ => fun _ => fun _ => fun _ => fun _ => ⟨fun q => absurd q (by decide), fun _ => fun _ => fun _ => fun _ => fun _ => fun _ => fun _ => fun _ => fun _ => fun _ => ⟨fun _ => h, fun q => absurd rfl q⟩⟩⟩⟩⟩
theorem r20_31 (kfR : Int32 → Int32 → Int32 → Mem → Int32 × Mem) (v2 v3 : Int32) (M : Mem) : mX0_run_20 kfR 31 v2 v3 M = (mX0_run_343 kfR (v3 + 1) ((kfR 13 v2 (v3 + 1) M).1) ((kfR 13 v2 (v3 + 1) M).2)) := by
  unfold mX0_run_20
  rw [if_neg (by decide), if_neg (by decide), if_neg (by decide), if_neg (by decide), if_neg (by decide), if_neg (by decide), if_neg (by decide), if_neg (by decide), if_neg (by decide), if_neg (by decide), if_neg (by decide), if_neg (by decide), if_neg (by decide), if_neg (by decide), if_neg (by decide), if_neg (by decide), if_neg (by decide), if_neg (by decide), if_neg (by decide), if_neg (by decide), if_neg (by decide), if_pos rfl]
theorem p20_31 (kfR : Int32 → Int32 → Int32 → Mem → Int32 × Mem) (kPR : Int32 → Int32 → Int32 → Mem → Prop) (v2 v3 : Int32) (M : Mem) (h : kPR 13 v2 (v3 + 1) M ∧ (PX0_run_343 kfR kPR (v3 + 1) ((kfR 13 v2 (v3 + 1) M).1) ((kfR 13 v2 (v3 + 1) M).2))) : PX0_run_20 kfR kPR 31 v2 v3 M := by
  unfold PX0_run_20
  exact fun _ => ⟨fun q => absurd q (by decide), fun _ => ⟨fun q => absurd q (by decide), fun _ => ⟨fun q => absurd q (by decide), fun _ => fun _ => fun _ => fun _ => fun _ => fun _ => fun _ => ⟨fun q => absurd q (by decide), fun _ => fun _ => fun _ => fun _ => fun _ => fun _ => fun _ => fun _ => fun _ => fun _ => ⟨fun q => absurd q (by decide), fun _ => ⟨fun _ => h, fun q => absurd rfl q⟩⟩⟩⟩⟩⟩
theorem r20_40 (kfR : Int32 → Int32 → Int32 → Mem → Int32 × Mem) (v2 v3 : Int32) (M : Mem) : mX0_run_20 kfR 40 v2 v3 M = (mX0_run_369 kfR ((kfR 30 v2 (v3 + 1) M).1) ((kfR 30 v2 (v3 + 1) M).2)) := by
  unfold mX0_run_20
  rw [if_neg (by decide), if_neg (by decide), if_neg (by decide), if_neg (by decide), if_neg (by decide), if_neg (by decide), if_neg (by decide), if_neg (by decide), if_neg (by decide), if_neg (by decide), if_neg (by decide), if_neg (by decide), if_neg (by decide), if_neg (by decide), if_neg (by decide), if_neg (by decide), if_neg (by decide), if_neg (by decide), if_neg (by decide), if_neg (by decide), if_neg (by decide), if_neg (by decide), if_neg (by decide), if_neg (by decide), if_neg (by decide), if_neg (by decide), if_neg (by decide), if_neg (by decide), if_neg (by decide), if_neg (by decide), if_pos rfl]
theorem p20_40 (kfR : Int32 → Int32 → Int32 → Mem → Int32 × Mem) (kPR : Int32 → Int32 → Int32 → Mem → Prop) (v2 v3 : Int32) (M : Mem) (h : kPR 30 v2 (v3 + 1) M ∧ (PX0_run_369 kfR kPR ((kfR 30 v2 (v3 + 1) M).1) ((kfR 30 v2 (v3 + 1) M).2))) : PX0_run_20 kfR kPR 40 v2 v3 M := by
  unfold PX0_run_20
  exact fun _ => ⟨fun q => absurd q (by decide), fun _ => ⟨fun q => absurd q (by decide), fun _ => ⟨fun q => absurd q (by decide), fun _ => fun _ => fun _ => fun _ => fun _ => fun _ => fun _ => ⟨fun q => absurd q (by decide), fun _ => fun _ => fun _ => fun _ => fun _ => fun _ => fun _ => fun _ => fun _ => fun _ => ⟨fun q => absurd q (by decide), fun _ => ⟨fun q => absurd q (by decide), fun _ => fun _ => fun _ => fun _ => fun _ => fun _ => fun _ => fun _ => fun _ => ⟨fun _ => h, fun q => absurd rfl q⟩⟩⟩⟩⟩⟩⟩
theorem r20_41 (kfR : Int32 → Int32 → Int32 → Mem → Int32 × Mem) (v2 v3 : Int32) (M : Mem) : mX0_run_20 kfR 41 v2 v3 M = (mX0_run_382 kfR (v3 + 1) ((kfR 11 v2 (v3 + 1) M).1) ((kfR 11 v2 (v3 + 1) M).2)) := by
  unfold mX0_run_20
  rw [if_neg (by decide), if_neg (by decide), if_neg (by decide), if_neg (by decide), if_neg (by decide), if_neg (by decide), if_neg (by decide), if_neg (by decide), if_neg (by decide), if_neg (by decide), if_neg (by decide), if_neg (by decide), if_neg (by decide), if_neg (by decide), if_neg (by decide), if_neg (by decide), if_neg (by decide), if_neg (by decide), if_neg (by decide), if_neg (by decide), if_neg (by decide), if_neg (by decide), if_neg (by decide), if_neg (by decide), if_neg (by decide), if_neg (by decide), if_neg (by decide), if_neg (by decide), if_neg (by decide), if_neg (by decide), if_neg (by decide), if_pos rfl]
theorem p20_41 (kfR : Int32 → Int32 → Int32 → Mem → Int32 × Mem) (kPR : Int32 → Int32 → Int32 → Mem → Prop) (v2 v3 : Int32) (M : Mem) (h : kPR 11 v2 (v3 + 1) M ∧ (PX0_run_382 kfR kPR (v3 + 1) ((kfR 11 v2 (v3 + 1) M).1) ((kfR 11 v2 (v3 + 1) M).2))) : PX0_run_20 kfR kPR 41 v2 v3 M := by
  unfold PX0_run_20
  exact fun _ => ⟨fun q => absurd q (by decide), fun _ => ⟨fun q => absurd q (by decide), fun _ => ⟨fun q => absurd q (by decide), fun _ => fun _ => fun _ => fun _ => fun _ => fun _ => fun _ => ⟨fun q => absurd q (by decide), fun _ => fun _ => fun _ => fun _ => fun _ => fun _ => fun _ => fun _ => fun _ => fun _ => ⟨fun q => absurd q (by decide), fun _ => ⟨fun q => absurd q (by decide), fun _ => fun _ => fun _ => fun _ => fun _ => fun _ => fun _ => fun _ => fun _ => ⟨fun q => absurd q (by decide), fun _ => ⟨fun _ => h, fun q => absurd rfl q⟩⟩⟩⟩⟩⟩⟩⟩
theorem r20_50 (kfR : Int32 → Int32 → Int32 → Mem → Int32 × Mem) (v2 v3 : Int32) (M : Mem) : mX0_run_20 kfR 50 v2 v3 M = (mX0_run_413 kfR ((kfR 12 (v2 - (M 26 5)) (v3 + 1) M).1) ((kfR 12 (v2 - (M 26 5)) (v3 + 1) M).2)) := by
  unfold mX0_run_20
  rw [if_neg (by decide), if_neg (by decide), if_neg (by decide), if_neg (by decide), if_neg (by decide), if_neg (by decide), if_neg (by decide), if_neg (by decide), if_neg (by decide), if_neg (by decide), if_neg (by decide), if_neg (by decide), if_neg (by decide), if_neg (by decide), if_neg (by decide), if_neg (by decide), if_neg (by decide), if_neg (by decide), if_neg (by decide), if_neg (by decide), if_neg (by decide), if_neg (by decide), if_neg (by decide), if_neg (by decide), if_neg (by decide), if_neg (by decide), if_neg (by decide), if_neg (by decide), if_neg (by decide), if_neg (by decide), if_neg (by decide), if_neg (by decide), if_neg (by decide), if_neg (by decide), if_neg (by decide), if_neg (by decide), if_neg (by decide), if_neg (by decide), if_neg (by decide), if_neg (by decide), if_pos rfl]
theorem p20_50 (kfR : Int32 → Int32 → Int32 → Mem → Int32 × Mem) (kPR : Int32 → Int32 → Int32 → Mem → Prop) (v2 v3 : Int32) (M : Mem) (h : kPR 12 (v2 - (M 26 5)) (v3 + 1) M ∧ (PX0_run_413 kfR kPR ((kfR 12 (v2 - (M 26 5)) (v3 + 1) M).1) ((kfR 12 (v2 - (M 26 5)) (v3 + 1) M).2))) : PX0_run_20 kfR kPR 50 v2 v3 M := by
  unfold PX0_run_20
  exact fun _ => ⟨fun q => absurd q (by decide), fun _ => ⟨fun q => absurd q (by decide), fun _ => ⟨fun q => absurd q (by decide), fun _ => fun _ => fun _ => fun _ => fun _ => fun _ => fun _ => ⟨fun q => absurd q (by decide), fun _ => fun _ => fun _ => fun _ => fun _ => fun _ => fun _ => fun _ => fun _ => fun _ => ⟨fun q => absurd q (by decide), fun _ => ⟨fun q => absurd q (by decide), fun _ => fun _ => fun _ => fun _ => fun _ => fun _ => fun _ => fun _ => fun _ => ⟨fun q => absurd q (by decide), fun _ => ⟨fun q => absurd q (by decide), fun _ => fun _ => fun _ => fun _ => fun _ => fun _ => fun _ => fun _ => fun _ => ⟨fun _ => h, fun q => absurd rfl q⟩⟩⟩⟩⟩⟩⟩⟩⟩
theorem r20_51 (kfR : Int32 → Int32 → Int32 → Mem → Int32 × Mem) (v2 v3 : Int32) (M : Mem) : mX0_run_20 kfR 51 v2 v3 M = (mX0_run_425 kfR ((kfR 10 v2 (v3 + 1) M).1) ((kfR 10 v2 (v3 + 1) M).2)) := by
  unfold mX0_run_20
  rw [if_neg (by decide), if_neg (by decide), if_neg (by decide), if_neg (by decide), if_neg (by decide), if_neg (by decide), if_neg (by decide), if_neg (by decide), if_neg (by decide), if_neg (by decide), if_neg (by decide), if_neg (by decide), if_neg (by decide), if_neg (by decide), if_neg (by decide), if_neg (by decide), if_neg (by decide), if_neg (by decide), if_neg (by decide), if_neg (by decide), if_neg (by decide), if_neg (by decide), if_neg (by decide), if_neg (by decide), if_neg (by decide), if_neg (by decide), if_neg (by decide), if_neg (by decide), if_neg (by decide), if_neg (by decide), if_neg (by decide), if_neg (by decide), if_neg (by decide), if_neg (by decide), if_neg (by decide), if_neg (by decide), if_neg (by decide), if_neg (by decide), if_neg (by decide), if_neg (by decide), if_neg (by decide), if_pos rfl]
theorem p20_51 (kfR : Int32 → Int32 → Int32 → Mem → Int32 × Mem) (kPR : Int32 → Int32 → Int32 → Mem → Prop) (v2 v3 : Int32) (M : Mem) (h : kPR 10 v2 (v3 + 1) M ∧ (PX0_run_425 kfR kPR ((kfR 10 v2 (v3 + 1) M).1) ((kfR 10 v2 (v3 + 1) M).2))) : PX0_run_20 kfR kPR 51 v2 v3 M := by
  unfold PX0_run_20
  exact fun _ => ⟨fun q => absurd q (by decide), fun _ => ⟨fun q => absurd q (by decide), fun _ => ⟨fun q => absurd q (by decide), fun _ => fun _ => fun _ => fun _ => fun _ => fun _ => fun _ => ⟨fun q => absurd q (by decide), fun _ => fun _ => fun _ => fun _ => fun _ => fun _ => fun _ => fun _ => fun _ => fun _ => ⟨fun q => absurd q (by decide), fun _ => ⟨fun q => absurd q (by decide), fun _ => fun _ => fun _ => fun _ => fun _ => fun _ => fun _ => fun _ => fun _ => ⟨fun q => absurd q (by decide), fun _ => ⟨fun q => absurd q (by decide), fun _ => fun _ => fun _ => fun _ => fun _ => fun _ => fun _ => fun _ => fun _ => ⟨fun q => absurd q (by decide), fun _ => ⟨fun _ => h, fun q => absurd rfl q⟩⟩⟩⟩⟩⟩⟩⟩⟩⟩
theorem r20_60 (kfR : Int32 → Int32 → Int32 → Mem → Int32 × Mem) (v2 v3 : Int32) (M : Mem) : mX0_run_20 kfR 60 v2 v3 M = (mX0_run_440 kfR ((kfR 13 v2 (v3 + 1) M).1) ((kfR 13 v2 (v3 + 1) M).2)) := by
  unfold mX0_run_20
  rw [if_neg (by decide), if_neg (by decide), if_neg (by decide), if_neg (by decide), if_neg (by decide), if_neg (by decide), if_neg (by decide), if_neg (by decide), if_neg (by decide), if_neg (by decide), if_neg (by decide), if_neg (by decide), if_neg (by decide), if_neg (by decide), if_neg (by decide), if_neg (by decide), if_neg (by decide), if_neg (by decide), if_neg (by decide), if_neg (by decide), if_neg (by decide), if_neg (by decide), if_neg (by decide), if_neg (by decide), if_neg (by decide), if_neg (by decide), if_neg (by decide), if_neg (by decide), if_neg (by decide), if_neg (by decide), if_neg (by decide), if_neg (by decide), if_neg (by decide), if_neg (by decide), if_neg (by decide), if_neg (by decide), if_neg (by decide), if_neg (by decide), if_neg (by decide), if_neg (by decide), if_neg (by decide), if_neg (by decide), if_neg (by decide), if_neg (by decide), if_neg (by decide), if_neg (by decide), if_neg (by decide), if_neg (by decide), if_neg (by decide), if_neg (by decide), if_pos rfl]
theorem p20_60 (kfR : Int32 → Int32 → Int32 → Mem → Int32 × Mem) (kPR : Int32 → Int32 → Int32 → Mem → Prop) (v2 v3 : Int32) (M : Mem) (h : kPR 13 v2 (v3 + 1) M ∧ (PX0_run_440 kfR kPR ((kfR 13 v2 (v3 + 1) M).1) ((kfR 13 v2 (v3 + 1) M).2))) : PX0_run_20 kfR kPR 60 v2 v3 M := by
  unfold PX0_run_20
  exact fun _ => ⟨fun q => absurd q (by decide), fun _ => ⟨fun q => absurd q (by decide), fun _ => ⟨fun q => absurd q (by decide), fun _ => fun _ => fun _ => fun _ => fun _ => fun _ => fun _ => ⟨fun q => absurd q (by decide), fun _ => fun _ => fun _ => fun _ => fun _ => fun _ => fun _ => fun _ => fun _ => fun _ => ⟨fun q => absurd q (by decide), fun _ => ⟨fun q => absurd q (by decide), fun _ => fun _ => fun _ => fun _ => fun _ => fun _ => fun _ => fun _ => fun _ => ⟨fun q => absurd q (by decide), fun _ => ⟨fun q => absurd q (by decide), fun _ => fun _ => fun _ => fun _ => fun _ => fun _ => fun _ => fun _ => fun _ => ⟨fun q => absurd q (by decide), fun _ => ⟨fun q => absurd q (by decide), fun _ => fun _ => fun _ => fun _ => fun _ => fun _ => fun _ => fun _ => fun _ => ⟨fun _ => h, fun q => absurd rfl q⟩⟩⟩⟩⟩⟩⟩⟩⟩⟩⟩
theorem r20_61 (kfR : Int32 → Int32 → Int32 → Mem → Int32 × Mem) (v2 v3 : Int32) (M : Mem) : mX0_run_20 kfR 61 v2 v3 M = (mX0_run_452 kfR (v3 + 1) ((kfR 12 v2 (v3 + 1) M).1) ((kfR 12 v2 (v3 + 1) M).2)) := by
  unfold mX0_run_20
  rw [if_neg (by decide), if_neg (by decide), if_neg (by decide), if_neg (by decide), if_neg (by decide), if_neg (by decide), if_neg (by decide), if_neg (by decide), if_neg (by decide), if_neg (by decide), if_neg (by decide), if_neg (by decide), if_neg (by decide), if_neg (by decide), if_neg (by decide), if_neg (by decide), if_neg (by decide), if_neg (by decide), if_neg (by decide), if_neg (by decide), if_neg (by decide), if_neg (by decide), if_neg (by decide), if_neg (by decide), if_neg (by decide), if_neg (by decide), if_neg (by decide), if_neg (by decide), if_neg (by decide), if_neg (by decide), if_neg (by decide), if_neg (by decide), if_neg (by decide), if_neg (by decide), if_neg (by decide), if_neg (by decide), if_neg (by decide), if_neg (by decide), if_neg (by decide), if_neg (by decide), if_neg (by decide), if_neg (by decide), if_neg (by decide), if_neg (by decide), if_neg (by decide), if_neg (by decide), if_neg (by decide), if_neg (by decide), if_neg (by decide), if_neg (by decide), if_neg (by decide), if_pos rfl]
theorem p20_61 (kfR : Int32 → Int32 → Int32 → Mem → Int32 × Mem) (kPR : Int32 → Int32 → Int32 → Mem → Prop) (v2 v3 : Int32) (M : Mem) (h : kPR 12 v2 (v3 + 1) M ∧ (PX0_run_452 kfR kPR (v3 + 1) ((kfR 12 v2 (v3 + 1) M).1) ((kfR 12 v2 (v3 + 1) M).2))) : PX0_run_20 kfR kPR 61 v2 v3 M := by
  unfold PX0_run_20
  exact fun _ => ⟨fun q => absurd q (by decide), fun _ => ⟨fun q => absurd q (by decide), fun _ => ⟨fun q => absurd q (by decide), fun _ => fun _ => fun _ => fun _ => fun _ => fun _ => fun _ => ⟨fun q => absurd q (by decide), fun _ => fun _ => fun _ => fun _ => fun _ => fun _ => fun _ => fun _ => fun _ => fun _ => ⟨fun q => absurd q (by decide), fun _ => ⟨fun q => absurd q (by decide), fun _ => fun _ => fun _ => fun _ => fun _ => fun _ => fun _ => fun _ => fun _ => ⟨fun q => absurd q (by decide), fun _ => ⟨fun q => absurd q (by decide), fun _ => fun _ => fun _ => fun _ => fun _ => fun _ => fun _ => fun _ => fun _ => ⟨fun q => absurd q (by decide), fun _ => ⟨fun q => absurd q (by decide), fun _ => fun _ => fun _ => fun _ => fun _ => fun _ => fun _ => fun _ => fun _ => ⟨fun q => absurd q (by decide), fun _ => fun _ => h⟩⟩⟩⟩⟩⟩⟩⟩⟩⟩⟩
def C5 (kd : Nat) (nm fc : Int32) (M : Mem) (pf : Bool) (T : TT) : Prop := M 26 2 = b2i pf ∧ M 26 3 = nI kd ∧ M 26 4 = nm ∧ M 26 5 = fc ∧ TR (M 26 1) (M 27) T
def F5 (M M' : Mem) : Prop := ∀ p, p ≠ 26 → p ≠ 27 → M' p = M p
theorem F5.trans {A B C : Mem} (h1 : F5 A B) (h2 : F5 B C) : F5 A C := fun p a b => (h2 p a b).trans (h1 p a b)
theorem note5 {kd : Nat} {nm fc b : Int32} {M : Mem} {pf : Bool} {T : TT} (h : C5 kd nm fc M pf T) : C5 kd nm fc (mX0_note b M) pf (nt b T) ∧ PX0_note b M ∧ F5 M (mX0_note b M) := by
  obtain ⟨h1, h2, h3, h4, h5⟩ := h
  obtain ⟨a1, a2⟩ := note_tr (b := b) h5
  unfold mX0_note PX0_note
  by_cases q : 30 ≤ M 26 1
  · rw [if_pos q]
    exact ⟨⟨h1, h2, h3, h4, a1 q⟩, fun z => absurd q z, fun _ _ _ => rfl⟩
  · rw [if_neg q]
    obtain ⟨b1, b2⟩ := a2 q
    have e26 : upm M 27 (M 26 1).toNatClampNeg b 26 = M 26 := upm_ne (by decide)
    have f : ∀ z, z ≠ 1 → upm (upm M 27 (M 26 1).toNatClampNeg b) 26 1 (upm M 27 (M 26 1).toNatClampNeg b 26 1 + 1) 26 z = M 26 z := fun z hz => by rw [upm_at, upd_ne hz, e26]
    refine ⟨⟨(f 2 (by decide)).trans h1, (f 3 (by decide)).trans h2, (f 4 (by decide)).trans h3, (f 5 (by decide)).trans h4, ?_⟩, fun _ => b1, fun p p1 p2 => by rw [upm_ne p1, upm_ne p2]⟩
    rw [upm_at, upd_at, e26, upm_ne (show 27 ≠ 26 by decide), upm_at]
    exact b2
def RN (kd : Nat) (nm fc : Int32) (L : Nat) (b x : Int32) (T : TT) (v : Int32) (pf : Bool) (T' : TT) : Prop := ∀ (f d : Nat) (M : Mem), L ≤ f → d + L ≤ 41 → C5 kd nm fc M false T →
  ∃ M', mX0_run f b x (nI d) M = (v, M') ∧ PX0_run f b x (nI d) M ∧ C5 kd nm fc M' pf T' ∧ F5 M M'
theorem RN.mono {kd : Nat} {nm fc b x v : Int32} {L L' : Nat} {T T' : TT} {pf : Bool} (h : RN kd nm fc L b x T v pf T') (hl : L ≤ L') : RN kd nm fc L' b x T v pf T' := fun f d M hf hd hC => h f d M (by omega) (by omega) hC
theorem run_in {kd f d : Nat} {nm fc x : Int32} (b : Int32) {M : Mem} {T : TT} (hd : d ≤ 40) (h : C5 kd nm fc M false T) :
    ∃ M1, mX0_run (f + 1) b x (nI d) M = mX0_run_20 (mX0_run f) b x (nI d) M1 ∧ (PX0_run_20 (mX0_run f) (PX0_run f) b x (nI d) M1 → PX0_run (f + 1) b x (nI d) M) ∧ C5 kd nm fc M1 false (nt b T) ∧ F5 M M1 := by
  obtain ⟨a1, a2, a3⟩ := note5 (b := b) h
  have h0 : M 26 2 = 0 := h.1
  have h4 : nI d ≤ 40 := nI_le (b := 40) hd (by decide)
  refine ⟨mX0_note b M, ?_, ?_, a1, a3⟩
  · rw [mX0_run, if_pos h0, if_pos h4]
  · intro hp
    rw [PX0_run]
    exact fun _ _ => ⟨a2, hp⟩
theorem run_off {kd f : Nat} {nm fc b x dd : Int32} {M : Mem} {T : TT} (h : C5 kd nm fc M true T) : mX0_run (f + 1) b x dd M = (0, M) ∧ PX0_run (f + 1) b x dd M := by
  have h0 : ¬ M 26 2 = 0 := by rw [h.1]; decide
  constructor
  · rw [mX0_run, if_neg h0]
  · rw [PX0_run]
    exact fun q => absurd q h0
def bd (kd a : Nat) : Int32 := st_3 (nI kd * 4 + nI a)
theorem bd_in : ∀ kd, kd < 6 → ∀ a, a < 4 → mX5_isWithin (nI kd * 4 + nI a) 0 ((24 : Int32) - 1) = true ∧ (nI kd * 4 + nI a).toNatClampNeg < 24 ∧ nI kd * 4 + nI a = nI (nI kd * 4 + nI a).toNatClampNeg := by decide
theorem bodyOf5 {kd a : Nat} {nm fc : Int32} {M : Mem} {pf : Bool} {T : TT} (hk : kd < 6) (ha : a < 4) (h : C5 kd nm fc M pf T) : mX0_bodyOf (nI a) M = bd kd a ∧ PX0_bodyOf (nI a) M := by
  obtain ⟨b1, b2, b3⟩ := bd_in kd hk a ha
  unfold mX0_bodyOf PX0_bodyOf bd
  rw [h.2.1, if_pos b1]
  refine ⟨rfl, fun _ => ?_⟩
  rw [b3]
  exact vin b2 (by decide)
theorem rn10 {kd : Nat} {nm fc : Int32} (x : Int32) (T : TT) : RN kd nm fc 1 10 x T (x * 9 + nm) false (nt 10 T) := by
  intro f d M hf hd hC
  obtain ⟨g, rfl⟩ : ∃ g, f = g + 1 := ⟨f - 1, by omega⟩
  obtain ⟨M1, e, p, c, fr⟩ := run_in (f := g) (d := d) (x := x) 10 (by omega) hC
  refine ⟨M1, ?_, p (p20_10 _ _ _ _ _), c, fr⟩
  rw [e, r20_10, c.2.2.1]
theorem rn12 {kd : Nat} {nm fc : Int32} (x : Int32) (T : TT) : RN kd nm fc 1 12 x T (if nm = fc then 0 else x / (fc - nm)) (decide (nm = fc)) (nt 12 T) := by
  intro f d M hf hd hC
  obtain ⟨g, rfl⟩ : ∃ g, f = g + 1 := ⟨f - 1, by omega⟩
  obtain ⟨M1, e, p, c, fr⟩ := run_in (f := g) (d := d) (x := x) 12 (by omega) hC
  have ez : fc - nm = 0 ↔ nm = fc := by
    constructor
    · intro q
      exact (Int32.sub_eq_iff_eq_add.mp q).trans (Int32.zero_add nm) |>.symm
    · intro q
      rw [q]
      exact Int32.sub_self fc
  by_cases q : nm = fc
  · have q0 := ez.mpr q
    refine ⟨upm M1 26 2 1, ?_, p (p20_12 _ _ _ _ _ (fun z => z)), ?_, fun p p1 p2 => by rw [upm_ne p1]; exact fr p p1 p2⟩
    · rw [e, r20_12, c.2.2.1, c.2.2.2.1]
      unfold mX0_partedBy
      rw [if_pos q0, if_pos q]
    · rw [decide_eq_true q]
      refine ⟨by rw [upm_at, upd_at]; rfl, by rw [upm_at, upd_ne (by decide)]; exact c.2.1, by rw [upm_at, upd_ne (by decide)]; exact c.2.2.1, by rw [upm_at, upd_ne (by decide)]; exact c.2.2.2.1, ?_⟩
      rw [upm_at, upd_ne (by decide), upm_ne (by decide)]
      exact c.2.2.2.2
  · have q0 : ¬ fc - nm = 0 := fun z => q (ez.mp z)
    refine ⟨M1, ?_, p (p20_12 _ _ _ _ _ (fun z => z)), ?_, fr⟩
    · rw [e, r20_12, c.2.2.1, c.2.2.2.1]
      unfold mX0_partedBy
      rw [if_neg q0, if_neg q]
    · rw [decide_eq_false q]
      exact c
theorem rn11 {kd L : Nat} {nm fc x v : Int32} {T T' : TT} (hk : kd < 6) (h : RN kd nm fc L (bd kd 0) x (nt 11 T) v false T') : RN kd nm fc (L + 1) 11 x T (v - fc * 3) false T' := by
  intro f d M hf hd hC
  obtain ⟨g, rfl⟩ : ∃ g, f = g + 1 := ⟨f - 1, by omega⟩
  obtain ⟨M1, e, p, c, fr⟩ := run_in (f := g) (d := d) (x := x) 11 (by omega) hC
  have hd1 : nI d + 1 = nI (d + 1) := (nI_succ d).symm
  have eb : mX0_bodyOf 0 M1 = bd kd 0 ∧ PX0_bodyOf 0 M1 := bodyOf5 (a := 0) hk (by decide) c
  obtain ⟨M2, e2, p2, c2, f2⟩ := h g (d + 1) M1 (by omega) (by omega) c
  refine ⟨M2, ?_, p (p20_11 _ _ _ _ _ ?_), c2, fr.trans f2⟩
  · rw [e, r20_11, hd1, eb.1, e2]
    unfold mX0_run_270
    dsimp only
    rw [c2.2.2.2.1]
  · rw [hd1, eb.1, e2]
    exact ⟨eb.2, p2, trivial⟩
theorem rn13 {kd L : Nat} {nm fc x v : Int32} {T T' : TT} (hk : kd < 6) (h : RN kd nm fc L (bd kd 1) x (nt 13 T) v false T') : RN kd nm fc (L + 1) 13 x T (v ^^^ 130) false T' := by
  intro f d M hf hd hC
  obtain ⟨g, rfl⟩ : ∃ g, f = g + 1 := ⟨f - 1, by omega⟩
  obtain ⟨M1, e, p, c, fr⟩ := run_in (f := g) (d := d) (x := x) 13 (by omega) hC
  have hd1 : nI d + 1 = nI (d + 1) := (nI_succ d).symm
  have eb : mX0_bodyOf 1 M1 = bd kd 1 ∧ PX0_bodyOf 1 M1 := bodyOf5 (a := 1) hk (by decide) c
  obtain ⟨M2, e2, p2, c2, f2⟩ := h g (d + 1) M1 (by omega) (by omega) c
  refine ⟨M2, ?_, p (p20_13 _ _ _ _ _ ?_), c2, fr.trans f2⟩
  · rw [e, r20_13, hd1, eb.1, e2]
    rfl
  · rw [hd1, eb.1, e2]
    exact ⟨eb.2, p2, trivial⟩
theorem rn20 {kd L : Nat} {nm fc x v : Int32} {T T' : TT} (h : RN kd nm fc L 11 x (nt 20 T) v false T') : RN kd nm fc (L + 1) 20 x T (v + 2) false T' := by
  intro f d M hf hd hC
  obtain ⟨g, rfl⟩ : ∃ g, f = g + 1 := ⟨f - 1, by omega⟩
  obtain ⟨M1, e, p, c, fr⟩ := run_in (f := g) (d := d) (x := x) 20 (by omega) hC
  have hd1 : nI d + 1 = nI (d + 1) := (nI_succ d).symm
  obtain ⟨M2, e2, p2, c2, f2⟩ := h g (d + 1) M1 (by omega) (by omega) c
  refine ⟨M2, ?_, p (p20_20 _ _ _ _ _ ?_), c2, fr.trans f2⟩
  · rw [e, r20_20, hd1, e2]
    rfl
  · rw [hd1, e2]
    exact ⟨p2, trivial⟩
theorem rn30 {kd L : Nat} {nm fc x v : Int32} {T T' : TT} (h : RN kd nm fc L 10 x (nt 30 T) v false T') : RN kd nm fc (L + 1) 30 x T (0 - v) false T' := by
  intro f d M hf hd hC
  obtain ⟨g, rfl⟩ : ∃ g, f = g + 1 := ⟨f - 1, by omega⟩
  obtain ⟨M1, e, p, c, fr⟩ := run_in (f := g) (d := d) (x := x) 30 (by omega) hC
  have hd1 : nI d + 1 = nI (d + 1) := (nI_succ d).symm
  obtain ⟨M2, e2, p2, c2, f2⟩ := h g (d + 1) M1 (by omega) (by omega) c
  refine ⟨M2, ?_, p (p20_30 _ _ _ _ _ ?_), c2, fr.trans f2⟩
  · rw [e, r20_30, hd1, e2]
    rfl
  · rw [hd1, e2]
    exact ⟨p2, trivial⟩
theorem rn40 {kd L : Nat} {nm fc x v : Int32} {T T' : TT} (h : RN kd nm fc L 30 x (nt 40 T) v false T') : RN kd nm fc (L + 1) 40 x T (v + 6) false T' := by
  intro f d M hf hd hC
  obtain ⟨g, rfl⟩ : ∃ g, f = g + 1 := ⟨f - 1, by omega⟩
  obtain ⟨M1, e, p, c, fr⟩ := run_in (f := g) (d := d) (x := x) 40 (by omega) hC
  have hd1 : nI d + 1 = nI (d + 1) := (nI_succ d).symm
  obtain ⟨M2, e2, p2, c2, f2⟩ := h g (d + 1) M1 (by omega) (by omega) c
  refine ⟨M2, ?_, p (p20_40 _ _ _ _ _ ?_), c2, fr.trans f2⟩
  · rw [e, r20_40, hd1, e2]
    rfl
  · rw [hd1, e2]
    exact ⟨p2, trivial⟩
theorem rn50 {kd L : Nat} {nm fc x v : Int32} {T T' : TT} {pf : Bool} (h : RN kd nm fc L 12 (x - fc) (nt 50 T) v pf T') : RN kd nm fc (L + 1) 50 x T (v * 2) pf T' := by
  intro f d M hf hd hC
  obtain ⟨g, rfl⟩ : ∃ g, f = g + 1 := ⟨f - 1, by omega⟩
  obtain ⟨M1, e, p, c, fr⟩ := run_in (f := g) (d := d) (x := x) 50 (by omega) hC
  have hd1 : nI d + 1 = nI (d + 1) := (nI_succ d).symm
  obtain ⟨M2, e2, p2, c2, f2⟩ := h g (d + 1) M1 (by omega) (by omega) c
  refine ⟨M2, ?_, p (p20_50 _ _ _ _ _ ?_), c2, fr.trans f2⟩
  · rw [e, r20_50, hd1, c.2.2.2.1, e2]
    rfl
  · rw [hd1, c.2.2.2.1, e2]
    exact ⟨p2, trivial⟩
theorem rn51 {kd L : Nat} {nm fc x v : Int32} {T T' : TT} (h : RN kd nm fc L 10 x (nt 51 T) v false T') : RN kd nm fc (L + 1) 51 x T (v + nm) false T' := by
  intro f d M hf hd hC
  obtain ⟨g, rfl⟩ : ∃ g, f = g + 1 := ⟨f - 1, by omega⟩
  obtain ⟨M1, e, p, c, fr⟩ := run_in (f := g) (d := d) (x := x) 51 (by omega) hC
  have hd1 : nI d + 1 = nI (d + 1) := (nI_succ d).symm
  obtain ⟨M2, e2, p2, c2, f2⟩ := h g (d + 1) M1 (by omega) (by omega) c
  refine ⟨M2, ?_, p (p20_51 _ _ _ _ _ ?_), c2, fr.trans f2⟩
  · rw [e, r20_51, hd1, e2]
    unfold mX0_run_425
    dsimp only
    rw [c2.2.2.1]
  · rw [hd1, e2]
    exact ⟨p2, trivial⟩
theorem rn60 {kd L : Nat} {nm fc x v : Int32} {T T' : TT} (h : RN kd nm fc L 13 x (nt 60 T) v false T') : RN kd nm fc (L + 1) 60 x T (v * 3) false T' := by
  intro f d M hf hd hC
  obtain ⟨g, rfl⟩ : ∃ g, f = g + 1 := ⟨f - 1, by omega⟩
  obtain ⟨M1, e, p, c, fr⟩ := run_in (f := g) (d := d) (x := x) 60 (by omega) hC
  have hd1 : nI d + 1 = nI (d + 1) := (nI_succ d).symm
  obtain ⟨M2, e2, p2, c2, f2⟩ := h g (d + 1) M1 (by omega) (by omega) c
  refine ⟨M2, ?_, p (p20_60 _ _ _ _ _ ?_), c2, fr.trans f2⟩
  · rw [e, r20_60, hd1, e2]
    rfl
  · rw [hd1, e2]
    exact ⟨p2, trivial⟩
theorem rn31 {kd L L2 : Nat} {nm fc x v w : Int32} {T T' T2 : TT} {pf : Bool} (hk : kd < 6) (h : RN kd nm fc L 13 x (nt 31 T) v false T') (h2 : RN kd nm fc L2 (bd kd 2) nm T' w pf T2) (hL : L2 ≤ L) : RN kd nm fc (L + 1) 31 x T (v - w) pf T2 := by
  intro f d M hf hd hC
  obtain ⟨g, rfl⟩ : ∃ g, f = g + 1 := ⟨f - 1, by omega⟩
  obtain ⟨M1, e, p, c, fr⟩ := run_in (f := g) (d := d) (x := x) 31 (by omega) hC
  have hd1 : nI d + 1 = nI (d + 1) := (nI_succ d).symm
  obtain ⟨M2, e2, p2, c2, f2⟩ := h g (d + 1) M1 (by omega) (by omega) c
  have eb : mX0_bodyOf 2 M2 = bd kd 2 ∧ PX0_bodyOf 2 M2 := bodyOf5 (a := 2) hk (by decide) c2
  obtain ⟨M3, e3, p3, c3, f3⟩ := h2 g (d + 1) M2 (by omega) (by omega) c2
  refine ⟨M3, ?_, p (p20_31 _ _ _ _ _ ?_), c3, (fr.trans f2).trans f3⟩
  · rw [e, r20_31, hd1, e2]
    unfold mX0_run_343
    dsimp only
    rw [eb.1, c2.2.2.1, e3]
    rfl
  · rw [hd1, e2]
    refine ⟨p2, ?_⟩
    unfold PX0_run_343
    dsimp only
    rw [eb.1, c2.2.2.1, e3]
    exact ⟨eb.2, p3, trivial⟩
theorem rn41 {kd L L2 : Nat} {nm fc x v w : Int32} {T T' T2 : TT} (hk : kd < 6) (h : RN kd nm fc L 11 x (nt 41 T) v false T') (h2 : RN kd nm fc L2 (bd kd 0) fc T' w false T2) (hL : L2 ≤ L) : RN kd nm fc (L + 1) 41 x T (v ^^^ w) false T2 := by
  intro f d M hf hd hC
  obtain ⟨g, rfl⟩ : ∃ g, f = g + 1 := ⟨f - 1, by omega⟩
  obtain ⟨M1, e, p, c, fr⟩ := run_in (f := g) (d := d) (x := x) 41 (by omega) hC
  have hd1 : nI d + 1 = nI (d + 1) := (nI_succ d).symm
  obtain ⟨M2, e2, p2, c2, f2⟩ := h g (d + 1) M1 (by omega) (by omega) c
  have eb : mX0_bodyOf 0 M2 = bd kd 0 ∧ PX0_bodyOf 0 M2 := bodyOf5 (a := 0) hk (by decide) c2
  obtain ⟨M3, e3, p3, c3, f3⟩ := h2 g (d + 1) M2 (by omega) (by omega) c2
  refine ⟨M3, ?_, p (p20_41 _ _ _ _ _ ?_), c3, (fr.trans f2).trans f3⟩
  · rw [e, r20_41, hd1, e2]
    unfold mX0_run_382
    dsimp only
    rw [eb.1, c2.2.2.2.1, e3]
    rfl
  · rw [hd1, e2]
    refine ⟨p2, ?_⟩
    unfold PX0_run_382
    dsimp only
    rw [eb.1, c2.2.2.2.1, e3]
    exact ⟨eb.2, p3, trivial⟩
theorem rn61 {kd L L2 : Nat} {nm fc x v w : Int32} {T T' T2 : TT} (hk : kd < 6) (h : RN kd nm fc L 12 x (nt 61 T) v false T') (h2 : RN kd nm fc L2 (bd kd 0) nm T' w false T2) (hL : L2 ≤ L) : RN kd nm fc (L + 1) 61 x T (v + w) false T2 := by
  intro f d M hf hd hC
  obtain ⟨g, rfl⟩ : ∃ g, f = g + 1 := ⟨f - 1, by omega⟩
  obtain ⟨M1, e, p, c, fr⟩ := run_in (f := g) (d := d) (x := x) 61 (by omega) hC
  have hd1 : nI d + 1 = nI (d + 1) := (nI_succ d).symm
  obtain ⟨M2, e2, p2, c2, f2⟩ := h g (d + 1) M1 (by omega) (by omega) c
  have eb : mX0_bodyOf 0 M2 = bd kd 0 ∧ PX0_bodyOf 0 M2 := bodyOf5 (a := 0) hk (by decide) c2
  obtain ⟨M3, e3, p3, c3, f3⟩ := h2 g (d + 1) M2 (by omega) (by omega) c2
  refine ⟨M3, ?_, p (p20_61 _ _ _ _ _ ?_), c3, (fr.trans f2).trans f3⟩
  · rw [e, r20_61, hd1, e2]
    unfold mX0_run_452
    dsimp only
    rw [eb.1, c2.2.2.1, e3]
    rfl
  · rw [hd1, e2]
    refine ⟨p2, ?_⟩
    unfold PX0_run_452
    dsimp only
    rw [eb.1, c2.2.2.1, e3]
    exact ⟨eb.2, p3, trivial⟩
theorem rn61t {kd L : Nat} {nm fc x v : Int32} {T T' : TT} (hk : kd < 6) (h : RN kd nm fc L 12 x (nt 61 T) v true T') (hL : 1 ≤ L) : RN kd nm fc (L + 1) 61 x T v true T' := by
  intro f d M hf hd hC
  obtain ⟨g, rfl⟩ : ∃ g, f = g + 1 := ⟨f - 1, by omega⟩
  obtain ⟨M1, e, p, c, fr⟩ := run_in (f := g) (d := d) (x := x) 61 (by omega) hC
  have hd1 : nI d + 1 = nI (d + 1) := (nI_succ d).symm
  obtain ⟨M2, e2, p2, c2, f2⟩ := h g (d + 1) M1 (by omega) (by omega) c
  have eb : mX0_bodyOf 0 M2 = bd kd 0 ∧ PX0_bodyOf 0 M2 := bodyOf5 (a := 0) hk (by decide) c2
  obtain ⟨k, rfl⟩ : ∃ k, g = k + 1 := ⟨g - 1, by omega⟩
  obtain ⟨e3, p3⟩ := run_off (f := k) (b := bd kd 0) (x := nm) (dd := nI (d + 1)) c2
  refine ⟨M2, ?_, p (p20_61 _ _ _ _ _ ?_), c2, fr.trans f2⟩
  · rw [e, r20_61, hd1, e2]
    unfold mX0_run_452
    dsimp only
    rw [eb.1, c2.2.2.1, e3]
    unfold mX0_run_467
    dsimp only
    rw [Int32.add_zero]
  · rw [hd1, e2]
    refine ⟨p2, ?_⟩
    unfold PX0_run_452
    dsimp only
    rw [eb.1, c2.2.2.1, e3]
    exact ⟨eb.2, p3, trivial⟩
/-! the picture -/
def sD (kd : Nat) (nm x : Int32) (T : TT) : Int32 × TT := if kd = 2 then (0 - (x * 9 + nm), nt 10 (nt 30 T)) else if kd = 3 then (x * 9 + nm + nm, nt 10 (nt 51 T)) else if kd = 4 then (0 - (x * 9 + nm) + 6, nt 10 (nt 30 (nt 40 T))) else (x * 9 + nm, nt 10 T)
def sDP (kd : Nat) (nm fc x : Int32) (T : TT) : Int32 × TT := ((sD kd nm x (nt 11 T)).1 - fc * 3, (sD kd nm x (nt 11 T)).2)
def sR (kd : Nat) (nm fc x : Int32) (T : TT) : Int32 × TT := if kd = 1 ∨ kd = 3 then ((sDP kd nm fc x (nt 20 T)).1 + 2, (sDP kd nm fc x (nt 20 T)).2) else if kd = 4 then ((sDP kd nm fc x (nt 41 T)).1 ^^^ (sD kd nm fc (sDP kd nm fc x (nt 41 T)).2).1, (sD kd nm fc (sDP kd nm fc x (nt 41 T)).2).2) else sDP kd nm fc x T
def sPP (nm fc x : Int32) (T : TT) : Int32 × Bool × TT := (if nm = fc then 0 else x / (fc - nm), decide (nm = fc), nt 12 T)
def sP (kd : Nat) (nm fc x : Int32) (T : TT) : Int32 × Bool × TT := if kd = 3 then ((sPP nm fc (x - fc) (nt 50 T)).1 * 2, (sPP nm fc (x - fc) (nt 50 T)).2) else if kd = 5 then (if nm = fc then (0, true, nt 12 (nt 61 T)) else (x / (fc - nm) + (sD kd nm nm (nt 12 (nt 61 T))).1, false, (sD kd nm nm (nt 12 (nt 61 T))).2)) else sPP nm fc x T
def sHP (kd : Nat) (nm fc x : Int32) (T : TT) : Int32 × TT := ((sR kd nm fc x (nt 13 T)).1 ^^^ 130, (sR kd nm fc x (nt 13 T)).2)
def sH (kd : Nat) (nm fc x : Int32) (T : TT) : Int32 × Bool × TT := if kd = 2 ∨ kd = 4 then ((sHP kd nm fc x (nt 31 T)).1 - (sP kd nm fc nm (sHP kd nm fc x (nt 31 T)).2).1, (sP kd nm fc nm (sHP kd nm fc x (nt 31 T)).2).2) else if kd = 5 then ((sHP kd nm fc x (nt 60 T)).1 * 3, false, (sHP kd nm fc x (nt 60 T)).2) else ((sHP kd nm fc x T).1, false, (sHP kd nm fc x T).2)
theorem k6 {kd : Nat} (h : kd < 6) : kd = 0 ∨ kd = 1 ∨ kd = 2 ∨ kd = 3 ∨ kd = 4 ∨ kd = 5 := by omega
theorem rnD {kd : Nat} (hk : kd < 6) (nm fc x : Int32) (T : TT) : RN kd nm fc 3 (bd kd 0) x T (sD kd nm x T).1 false (sD kd nm x T).2 := by
  rcases k6 hk with rfl | rfl | rfl | rfl | rfl | rfl
  · exact (rn10 x T).mono (by decide)
  · exact (rn10 x T).mono (by decide)
  · exact (rn30 (rn10 x _)).mono (by decide)
  · exact (rn51 (rn10 x _)).mono (by decide)
  · exact rn40 (rn30 (rn10 x _))
  · exact (rn10 x T).mono (by decide)
theorem rnDP {kd : Nat} (hk : kd < 6) (nm fc x : Int32) (T : TT) : RN kd nm fc 4 11 x T (sDP kd nm fc x T).1 false (sDP kd nm fc x T).2 := rn11 hk (rnD hk nm fc x (nt 11 T))
theorem rnR {kd : Nat} (hk : kd < 6) (nm fc x : Int32) (T : TT) : RN kd nm fc 5 (bd kd 1) x T (sR kd nm fc x T).1 false (sR kd nm fc x T).2 := by
  rcases k6 hk with rfl | rfl | rfl | rfl | rfl | rfl
  · exact (rnDP hk nm fc x T).mono (by decide)
  · exact rn20 (rnDP hk nm fc x _)
  · exact (rnDP hk nm fc x T).mono (by decide)
  · exact rn20 (rnDP hk nm fc x _)
  · exact rn41 hk (rnDP hk nm fc x _) (rnD hk nm fc fc _) (by decide)
  · exact (rnDP hk nm fc x T).mono (by decide)
theorem rnP {kd : Nat} (hk : kd < 6) (nm fc x : Int32) (T : TT) : RN kd nm fc 4 (bd kd 2) x T (sP kd nm fc x T).1 (sP kd nm fc x T).2.1 (sP kd nm fc x T).2.2 := by
  rcases k6 hk with rfl | rfl | rfl | rfl | rfl | rfl
  · exact (rn12 x T).mono (by decide)
  · exact (rn12 x T).mono (by decide)
  · exact (rn12 x T).mono (by decide)
  · exact (rn50 (rn12 (x - fc) (nt 50 T))).mono (by decide)
  · exact (rn12 x T).mono (by decide)
  · have h := rn12 (kd := 5) (nm := nm) (fc := fc) x (nt 61 T)
    have e : sP 5 nm fc x T = if nm = fc then (0, true, nt 12 (nt 61 T)) else (x / (fc - nm) + (sD 5 nm nm (nt 12 (nt 61 T))).1, false, (sD 5 nm nm (nt 12 (nt 61 T))).2) := rfl
    rw [e]
    by_cases q : nm = fc
    · rw [if_pos q, decide_eq_true q] at h
      rw [if_pos q]
      exact (rn61t (by decide) h (by decide)).mono (by decide)
    · rw [if_neg q, decide_eq_false q] at h
      rw [if_neg q]
      exact rn61 (by decide) (h.mono (show 1 ≤ 3 by decide)) (rnD (by decide) nm fc nm _) (by decide)
theorem rnHP {kd : Nat} (hk : kd < 6) (nm fc x : Int32) (T : TT) : RN kd nm fc 6 13 x T (sHP kd nm fc x T).1 false (sHP kd nm fc x T).2 := rn13 hk (rnR hk nm fc x (nt 13 T))
theorem rnH {kd : Nat} (hk : kd < 6) (nm fc x : Int32) (T : TT) : RN kd nm fc 7 (bd kd 3) x T (sH kd nm fc x T).1 (sH kd nm fc x T).2.1 (sH kd nm fc x T).2.2 := by
  rcases k6 hk with rfl | rfl | rfl | rfl | rfl | rfl
  · exact (rnHP hk nm fc x T).mono (by decide)
  · exact (rnHP hk nm fc x T).mono (by decide)
  · exact rn31 hk (rnHP hk nm fc x _) (rnP hk nm fc nm _) (by decide)
  · exact (rnHP hk nm fc x T).mono (by decide)
  · exact rn31 hk (rnHP hk nm fc x _) (rnP hk nm fc nm _) (by decide)
  · exact rn60 (rnHP hk nm fc x _)
/-! THE REFERENCE's acts, tied to the same picture -/
def C6 (kd : Nat) (nm fc : Int32) (N : Mem) (pf : Bool) (T : TT) : Prop := N 46 29 = b2i pf ∧ N 46 26 = nI kd ∧ N 46 27 = nm ∧ N 46 28 = fc ∧ TR (N 46 25) (N 63) T
def F6 (N N' : Mem) : Prop := (∀ p, p ≠ 46 → p ≠ 63 → N' p = N p) ∧ ∀ z, z < 25 → N' 46 z = N 46 z
theorem F6.trans {A B C : Mem} (h1 : F6 A B) (h2 : F6 B C) : F6 A C := ⟨fun p a b => (h2.1 p a b).trans (h1.1 p a b), fun z hz => (h2.2 z hz).trans (h1.2 z hz)⟩
theorem runs6 {kd : Nat} {nm fc b : Int32} {N : Mem} {pf : Bool} {T : TT} (h : C6 kd nm fc N pf T) : C6 kd nm fc (mX6_runs b N) pf (nt b T) ∧ PX6_runs b N ∧ F6 N (mX6_runs b N) := by
  obtain ⟨h1, h2, h3, h4, h5⟩ := h
  obtain ⟨a1, a2⟩ := note_tr (b := b) h5
  unfold mX6_runs PX6_runs
  by_cases q : 30 ≤ N 46 25
  · rw [if_pos q]
    exact ⟨⟨h1, h2, h3, h4, a1 q⟩, fun z => absurd q z, fun _ _ _ => rfl, fun _ _ => rfl⟩
  · rw [if_neg q]
    obtain ⟨b1, b2⟩ := a2 q
    have e26 : upm N 63 (N 46 25).toNatClampNeg b 46 = N 46 := upm_ne (by decide)
    have f : ∀ z, z ≠ 25 → upm (upm N 63 (N 46 25).toNatClampNeg b) 46 25 (upm N 63 (N 46 25).toNatClampNeg b 46 25 + 1) 46 z = N 46 z := fun z hz => by rw [upm_at, upd_ne hz, e26]
    refine ⟨⟨(f 29 (by decide)).trans h1, (f 26 (by decide)).trans h2, (f 27 (by decide)).trans h3, (f 28 (by decide)).trans h4, ?_⟩, fun _ => b1, fun p p1 p2 => by rw [upm_ne p1, upm_ne p2], fun z hz => f z (by omega)⟩
    rw [upm_at, upd_at, e26, upm_ne (show 63 ≠ 46 by decide), upm_at]
    exact b2
def RM (kd : Nat) (nm fc : Int32) (g : Mem → Int32 × Mem) (P : Mem → Prop) (T : TT) (v : Int32) (pf : Bool) (T' : TT) : Prop := ∀ (N : Mem), C6 kd nm fc N false T → ∃ N', g N = (v, N') ∧ P N ∧ C6 kd nm fc N' pf T' ∧ F6 N N'
theorem rm_runs {kd : Nat} {nm fc v : Int32} {b : Int32} {g k : Mem → Int32 × Mem} {P Q : Mem → Prop} {T T' : TT} {pf : Bool} (hg : ∀ N, g N = k (mX6_runs b N)) (hP : ∀ N, PX6_runs b N → Q (mX6_runs b N) → P N) (h : RM kd nm fc k Q (nt b T) v pf T') : RM kd nm fc g P T v pf T' := by
  intro N hC
  obtain ⟨a1, a2, a3⟩ := runs6 (b := b) hC
  obtain ⟨N', b1, b2, b3, b4⟩ := h _ a1
  exact ⟨N', (hg N).trans b1, hP N a2 b2, b3, a3.trans b4⟩
theorem rm_of {kd : Nat} {nm fc v : Int32} {g k : Mem → Int32 × Mem} {P Q : Mem → Prop} {T T' : TT} {pf : Bool} (hg : ∀ N, C6 kd nm fc N false T → g N = k N) (hP : ∀ N, C6 kd nm fc N false T → Q N → P N) (h : RM kd nm fc k Q T v pf T') : RM kd nm fc g P T v pf T' := by
  intro N hC
  obtain ⟨N', b1, b2, b3, b4⟩ := h N hC
  exact ⟨N', (hg N hC).trans b1, hP N hC b2, b3, b4⟩
/-- one call, then what it answers made another -/
theorem rm_then {kd : Nat} {nm fc v w : Int32} {g k : Mem → Int32 × Mem} {P Q : Mem → Prop} {T T' : TT} {pf : Bool} (h : RM kd nm fc k Q T v pf T') (hg : ∀ N N', k N = (v, N') → C6 kd nm fc N' pf T' → g N = (w, N')) (hP : ∀ N N', k N = (v, N') → C6 kd nm fc N' pf T' → Q N → P N) : RM kd nm fc g P T w pf T' := by
  intro N hC
  obtain ⟨N', b1, b2, b3, b4⟩ := h N hC
  exact ⟨N', hg N N' b1 b3, hP N N' b1 b3 b2, b3, b4⟩
/-- one call, then another -/
theorem rm_two {kd : Nat} {nm fc v w r : Int32} {g k k2 : Mem → Int32 × Mem} {P Q Q2 : Mem → Prop} {T T' T2 : TT} {pf : Bool} (h : RM kd nm fc k Q T v false T') (h2 : RM kd nm fc k2 Q2 T' w pf T2) (hg : ∀ N N' N2, k N = (v, N') → C6 kd nm fc N' false T' → k2 N' = (w, N2) → g N = (r, N2)) (hP : ∀ N N' N2, k N = (v, N') → C6 kd nm fc N' false T' → k2 N' = (w, N2) → Q N → Q2 N' → P N) : RM kd nm fc g P T r pf T2 := by
  intro N hC
  obtain ⟨N', b1, b2, b3, b4⟩ := h N hC
  obtain ⟨N2, c1, c2, c3, c4⟩ := h2 N' b3
  exact ⟨N2, hg N N' N2 b1 b3 c1, hP N N' N2 b1 b3 c1 b2 c2, c3, b4.trans c4⟩
theorem rmDpl {kd : Nat} {nm fc : Int32} (x : Int32) (T : TT) : RM kd nm fc (mX6_driftsPlain x) (PX6_driftsPlain x) T (x * 9 + nm) false (nt 10 T) := by
  intro N hC
  obtain ⟨a1, a2, a3⟩ := runs6 (b := 10) hC
  refine ⟨mX6_runs 10 N, ?_, ⟨a2, trivial⟩, a1, a3⟩
  unfold mX6_driftsPlain mX6_driftsPlain_6
  rw [a1.2.2.1]
theorem rmDf {kd : Nat} {nm fc : Int32} (x : Int32) (T : TT) : RM kd nm fc (mX6_driftsOfFog x) (PX6_driftsOfFog x) T (0 - (x * 9 + nm)) false (nt 10 (nt 30 T)) := by
  refine rm_runs (k := mX6_driftsOfFog_6 x) (Q := PX6_driftsOfFog_6 x) (fun N => rfl) (fun N a b => ⟨a, b⟩) ?_
  refine rm_then (rmDpl x _) (fun N N' e _ => ?_) (fun N N' e _ q => ⟨q, trivial⟩)
  unfold mX6_driftsOfFog_6 mX6_driftsOfFog_12
  rw [e]
theorem rmD {kd : Nat} (hk : kd < 6) (nm fc x : Int32) (T : TT) : RM kd nm fc (mX6_drifts x) (PX6_drifts x) T (sD kd nm x T).1 false (sD kd nm x T).2 := by
  have n2 : ∀ N : Mem, C6 kd nm fc N false T → N 46 26 = nI kd := fun N h => h.2.1
  rcases k6 hk with rfl | rfl | rfl | rfl | rfl | rfl
  · refine rm_of (k := mX6_driftsPlain x) (Q := PX6_driftsPlain x) (fun N hC => ?_) (fun N hC q => ?_) (rmDpl x T)
    · unfold mX6_drifts
      rw [n2 N hC, if_neg (by decide), if_neg (by decide), if_neg (by decide)]
    · unfold PX6_drifts
      rw [n2 N hC]
      exact ⟨fun z => absurd z (by decide), fun _ => ⟨fun z => absurd z (by decide), fun _ => ⟨fun z => absurd z (by decide), fun _ => q⟩⟩⟩
  · refine rm_of (k := mX6_driftsPlain x) (Q := PX6_driftsPlain x) (fun N hC => ?_) (fun N hC q => ?_) (rmDpl x T)
    · unfold mX6_drifts
      rw [n2 N hC, if_neg (by decide), if_neg (by decide), if_neg (by decide)]
    · unfold PX6_drifts
      rw [n2 N hC]
      exact ⟨fun z => absurd z (by decide), fun _ => ⟨fun z => absurd z (by decide), fun _ => ⟨fun z => absurd z (by decide), fun _ => q⟩⟩⟩
  · refine rm_of (k := mX6_driftsOfFog x) (Q := PX6_driftsOfFog x) (fun N hC => ?_) (fun N hC q => ?_) (rmDf x T)
    · unfold mX6_drifts
      rw [n2 N hC, if_pos (by decide)]
    · unfold PX6_drifts
      rw [n2 N hC]
      exact ⟨fun _ => q, fun z => absurd (by decide) z⟩
  · refine rm_of (k := fun N => mX6_drifts_59 x (mX6_runs 51 N)) (Q := fun N => PX6_runs 51 N ∧ PX6_drifts_59 x (mX6_runs 51 N)) (fun N hC => ?_) (fun N hC q => ?_) ?_
    · unfold mX6_drifts
      rw [n2 N hC, if_neg (by decide), if_pos (by decide)]
    · unfold PX6_drifts
      rw [n2 N hC]
      exact ⟨fun z => absurd z (by decide), fun _ => ⟨fun _ => q, fun z => absurd (by decide) z⟩⟩
    · refine rm_runs (k := mX6_drifts_59 x) (Q := PX6_drifts_59 x) (fun N => rfl) (fun N a b => ⟨a, b⟩) ?_
      refine rm_then (rmDpl x _) (fun N N' e c => ?_) (fun N N' e _ q => ⟨q, trivial⟩)
      unfold mX6_drifts_59 mX6_drifts_64
      rw [e]
      dsimp only
      rw [c.2.2.1]
      rfl
  · refine rm_of (k := fun N => mX6_drifts_44 x (mX6_runs 40 N)) (Q := fun N => PX6_runs 40 N ∧ PX6_drifts_44 x (mX6_runs 40 N)) (fun N hC => ?_) (fun N hC q => ?_) ?_
    · unfold mX6_drifts
      rw [n2 N hC, if_neg (by decide), if_neg (by decide), if_pos (by decide)]
    · unfold PX6_drifts
      rw [n2 N hC]
      exact ⟨fun z => absurd z (by decide), fun _ => ⟨fun z => absurd z (by decide), fun _ => ⟨fun _ => q, fun z => absurd (by decide) z⟩⟩⟩
    · refine rm_runs (k := mX6_drifts_44 x) (Q := PX6_drifts_44 x) (fun N => rfl) (fun N a b => ⟨a, b⟩) ?_
      refine rm_then (rmDf x _) (fun N N' e c => ?_) (fun N N' e _ q => ⟨q, trivial⟩)
      unfold mX6_drifts_44 mX6_drifts_49
      rw [e]
      rfl
  · refine rm_of (k := mX6_driftsPlain x) (Q := PX6_driftsPlain x) (fun N hC => ?_) (fun N hC q => ?_) (rmDpl x T)
    · unfold mX6_drifts
      rw [n2 N hC, if_neg (by decide), if_neg (by decide), if_neg (by decide)]
    · unfold PX6_drifts
      rw [n2 N hC]
      exact ⟨fun z => absurd z (by decide), fun _ => ⟨fun z => absurd z (by decide), fun _ => ⟨fun z => absurd z (by decide), fun _ => q⟩⟩⟩
theorem rmDP {kd : Nat} (hk : kd < 6) (nm fc x : Int32) (T : TT) : RM kd nm fc (mX6_dripsPlain x) (PX6_dripsPlain x) T (sDP kd nm fc x T).1 false (sDP kd nm fc x T).2 := by
  refine rm_runs (k := mX6_dripsPlain_6 x) (Q := PX6_dripsPlain_6 x) (fun N => rfl) (fun N a b => ⟨a, b⟩) ?_
  refine rm_then (rmD hk nm fc x (nt 11 T)) (fun N N' e c => ?_) (fun N N' e _ q => ⟨q, trivial⟩)
  unfold mX6_dripsPlain_6 mX6_dripsPlain_11
  rw [e]
  dsimp only
  rw [c.2.2.2.1]
  rfl
theorem rmR20 {kd : Nat} (hk : kd < 6) (nm fc x : Int32) (T : TT) : RM kd nm fc (mX6_drips_16 x) (PX6_drips_16 x) T ((sDP kd nm fc x (nt 20 T)).1 + 2) false (sDP kd nm fc x (nt 20 T)).2 := by
  refine rm_runs (k := mX6_drips_22 x) (Q := PX6_drips_22 x) (fun N => rfl) (fun N a b => ⟨a, b⟩) ?_
  refine rm_then (rmDP hk nm fc x (nt 20 T)) (fun N N' e c => ?_) (fun N N' e _ q => ⟨q, trivial⟩)
  unfold mX6_drips_22
  rw [e]
  rfl
theorem rmR {kd : Nat} (hk : kd < 6) (nm fc x : Int32) (T : TT) : RM kd nm fc (mX6_drips x) (PX6_drips x) T (sR kd nm fc x T).1 false (sR kd nm fc x T).2 := by
  have n2 : ∀ N : Mem, C6 kd nm fc N false T → N 46 26 = nI kd := fun N h => h.2.1
  have plain : (kd = 0 ∨ kd = 2 ∨ kd = 5) → RM kd nm fc (mX6_drips x) (PX6_drips x) T (sDP kd nm fc x T).1 false (sDP kd nm fc x T).2 := by
    intro hkd
    have q1 : ¬ nI kd = 1 := by rcases hkd with rfl | rfl | rfl <;> decide
    have q3 : ¬ nI kd = 3 := by rcases hkd with rfl | rfl | rfl <;> decide
    have q4 : ¬ nI kd = 4 := by rcases hkd with rfl | rfl | rfl <;> decide
    refine rm_of (k := mX6_dripsPlain x) (Q := PX6_dripsPlain x) (fun N hC => ?_) (fun N hC q => ?_) (rmDP hk nm fc x T)
    · unfold mX6_drips
      rw [n2 N hC, if_neg q1, if_neg q3, if_neg q4]
    · unfold PX6_drips
      rw [n2 N hC]
      exact ⟨fun z => absurd z q1, fun _ => ⟨fun z => absurd z q3, fun _ => ⟨fun z => absurd z q4, fun _ => q⟩⟩⟩
  rcases k6 hk with rfl | rfl | rfl | rfl | rfl | rfl
  · exact plain (by decide)
  · refine rm_of (k := mX6_drips_16 x) (Q := PX6_drips_16 x) (fun N hC => ?_) (fun N hC q => ?_) (rmR20 hk nm fc x T)
    · unfold mX6_drips
      rw [n2 N hC, if_pos (by decide)]
    · unfold PX6_drips
      rw [n2 N hC]
      exact ⟨fun _ => q, fun z => absurd (by decide) z⟩
  · exact plain (by decide)
  · refine rm_of (k := mX6_drips_16 x) (Q := PX6_drips_16 x) (fun N hC => ?_) (fun N hC q => ?_) (rmR20 hk nm fc x T)
    · unfold mX6_drips
      rw [n2 N hC, if_neg (by decide), if_pos (by decide)]
    · unfold PX6_drips
      rw [n2 N hC]
      exact ⟨fun z => absurd z (by decide), fun _ => ⟨fun _ => q, fun z => absurd (by decide) z⟩⟩
  · refine rm_of (k := fun N => mX6_drips_44 x (mX6_runs 41 N)) (Q := fun N => PX6_runs 41 N ∧ PX6_drips_44 x (mX6_runs 41 N)) (fun N hC => ?_) (fun N hC q => ?_) ?_
    · unfold mX6_drips
      rw [n2 N hC, if_neg (by decide), if_neg (by decide), if_pos (by decide)]
    · unfold PX6_drips
      rw [n2 N hC]
      exact ⟨fun z => absurd z (by decide), fun _ => ⟨fun z => absurd z (by decide), fun _ => ⟨fun _ => q, fun z => absurd (by decide) z⟩⟩⟩
    · refine rm_runs (k := mX6_drips_44 x) (Q := PX6_drips_44 x) (fun N => rfl) (fun N a b => ⟨a, b⟩) ?_
      refine rm_two (rmDP hk nm fc x (nt 41 T)) (rmD hk nm fc fc _) (fun N N' N2 e c e2 => ?_) (fun N N' N2 e c e2 q q2 => ?_)
      · unfold mX6_drips_44 mX6_drips_49 mX6_drips_59
        rw [e]
        dsimp only
        rw [c.2.2.2.1, e2]
        rfl
      · unfold PX6_drips_44 PX6_drips_49
        rw [e]
        dsimp only
        rw [c.2.2.2.1]
        exact ⟨q, q2, trivial⟩
  · exact plain (by decide)
theorem rmPP {kd : Nat} (nm fc x : Int32) (T : TT) : RM kd nm fc (mX6_partsPlain x) (PX6_partsPlain x) T (sPP nm fc x T).1 (sPP nm fc x T).2.1 (sPP nm fc x T).2.2 := by
  refine rm_runs (k := mX6_partsPlain_6 x) (Q := PX6_partsPlain_6 x) (fun N => rfl) (fun N a b => ⟨a, b⟩) ?_
  intro N c
  have h29 : N 46 29 = 0 := c.1
  have fr : ∀ v, F6 N (upm N 46 29 v) := fun v => ⟨fun p p1 _ => upm_ne p1, fun z hz => by rw [upm_at, upd_ne (by omega)]⟩
  have cc : ∀ v : Bool, C6 kd nm fc (upm N 46 29 (b2i v)) v (nt 12 T) := fun v => by
    refine ⟨by rw [upm_at, upd_at], by rw [upm_at, upd_ne (by decide)]; exact c.2.1, by rw [upm_at, upd_ne (by decide)]; exact c.2.2.1, by rw [upm_at, upd_ne (by decide)]; exact c.2.2.2.1, ?_⟩
    rw [upm_at, upd_ne (by decide), upm_ne (by decide)]
    exact c.2.2.2.2
  have e29 : ∀ v, upm N 46 29 v 46 29 = v := fun v => by rw [upm_at, upd_at]
  have e28 : ∀ v, upm N 46 29 v 46 28 = fc := fun v => by rw [upm_at, upd_ne (by decide)]; exact c.2.2.2.1
  have e27 : ∀ v, upm N 46 29 v 46 27 = nm := fun v => by rw [upm_at, upd_ne (by decide)]; exact c.2.2.1
  have n1 : ¬ (1 : Int32) = 0 := by decide
  unfold sPP
  dsimp only
  unfold mX6_partsPlain_6 PX6_partsPlain_6 mX6_partsPlain_25 PX6_partsPlain_25 mX6_partsPlain_30 PX6_partsPlain_30
  rw [h29, c.2.2.1, c.2.2.2.1, if_pos rfl]
  simp only [e29, e28, e27]
  by_cases q : nm = fc
  · rw [if_pos q, if_pos q, if_neg n1, decide_eq_true q]
    exact ⟨upm N 46 29 1, rfl, ⟨fun _ => ⟨fun _ => ⟨Or.inr trivial, fun z => absurd z n1⟩, fun z => absurd q z⟩, fun z => absurd rfl z⟩, cc true, fr _⟩
  · have q0 : ¬ fc - nm = 0 := fun z => q (((Int32.sub_eq_iff_eq_add.mp z).trans (Int32.zero_add nm)).symm)
    rw [if_neg q, if_neg q, if_pos rfl, decide_eq_false q]
    exact ⟨upm N 46 29 0, rfl, ⟨fun _ => ⟨fun z => absurd z q, fun _ => ⟨Or.inl trivial, fun _ => q0⟩⟩, fun z => absurd rfl z⟩, cc false, fr _⟩
