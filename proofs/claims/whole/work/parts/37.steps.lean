/-! STEPS, a STEP BY DRAWS: how many are at their errands then -/
theorem nI_or (a b : Nat) : nI a ||| nI b = nI (a ||| b) := by
  apply Int32.toBitVec_inj.mp
  rw [Int32.toBitVec_or]
  show BitVec.ofNat 32 a ||| BitVec.ofNat 32 b = BitVec.ofNat 32 (a ||| b)
  rw [BitVec.ofNat_or]
theorem bit1 : ∀ i, i < 16 → (1 : Int32) <<< (nI i &&& 31) = nI (2 ^ i) := by decide
theorem or_lt {a b k : Nat} (ha : a < 2 ^ k) (hb : b < 2 ^ k) : a ||| b < 2 ^ k := Nat.or_lt_two_pow ha hb
theorem setN_lt (q : Nat → Bool) : ∀ (k i a : Nat), i + k ≤ 16 → a < 2 ^ (i + k) → ∃ x, x < 2 ^ (i + k) ∧ setN q k i (nI a) = nI x := by
  intro k
  induction k with
  | zero => intro i a h ha; exact ⟨a, ha, rfl⟩
  | succ k ih =>
    intro i a h ha
    have e : i + (k + 1) = (i + 1) + k := by omega
    rw [e] at ha ⊢
    rw [setN]
    by_cases z : q i = true
    · rw [if_pos z, bit1 i (by omega), nI_or]
      exact ih (i + 1) _ (by omega) (or_lt ha (Nat.pow_lt_pow_right (by decide) (by omega)))
    · rw [if_neg z]
      have e0 : nI a ||| 0 = nI a := by
        have := nI_or a 0
        rw [Nat.or_zero] at this
        exact this
      rw [e0]
      exact ih (i + 1) _ (by omega) ha
theorem useN_lt (f : Nat → Int32) (n : Nat) (hf : ∀ j, j < n → HO (f j)) : ∀ (k i a : Nat), i + k = n → a < 65536 → ∃ x, x < 65536 ∧ useN f k i (nI a) = nI x := by
  intro k
  induction k with
  | zero => intro i a h ha; exact ⟨a, ha, rfl⟩
  | succ k ih =>
    intro i a h ha
    rw [useN]
    obtain ⟨g, hg, e⟩ := hf i (by omega)
    rw [e, bit1 g hg, nI_or]
    exact ih (i + 1) _ (by omega) (or_lt (k := 16) ha (Nat.pow_lt_pow_right (by decide) (by omega)))
theorem stopped_lt {N : Mem} {s : Nat → Int32} {n : Nat} (hG : GS s n) (hs : N 47 = s) : ∃ x, x < 65536 ∧ mX6_stopped N = nI x := by
  have hn := hG.1
  obtain ⟨e6, -⟩ := stopped4 hG hs n 400 0 0 (by omega) (by omega)
  obtain ⟨x, hx, e⟩ := setN_lt (fun j => decide (s (24 + 4 * j + 3) = s (24 + 4 * j + 2))) n 0 0 (by omega) (Nat.pow_pos (by decide))
  refine ⟨x, Nat.lt_of_lt_of_le hx (Nat.pow_le_pow_right (n := 2) (by decide) (show 0 + n ≤ 16 by omega)), ?_⟩
  exact e6.trans e
theorem inUse_lt {N : Mem} {s : Nat → Int32} {n : Nat} (hG : GS s n) (hs : N 47 = s) : ∃ x, x < 65536 ∧ mX6_housesInUse N = nI x := by
  have hn := hG.1
  obtain ⟨e6, -⟩ := inUse4 hG hs n 400 0 0 (by omega) (by omega)
  obtain ⟨x, hx, e⟩ := useN_lt (fun j => s (24 + 4 * j + 3)) n (fun j hj => hG.ho hj) n 0 0 (by omega) (by decide)
  exact ⟨x, hx, e6.trans e⟩
theorem wetBy_lt {N : Mem} (v : Int32) : ∃ x, x < 65536 ∧ mX6_wetBy v N = nI x := by
  obtain ⟨e6, -⟩ := wetBy6 (N := N) (s := N 47) rfl v 16 400 0 0 (by omega) (by omega)
  obtain ⟨x, hx, e⟩ := setN_lt (fun j => decide (¬ N 47 (8 + j) < v)) 16 0 0 (by omega) (by decide)
  exact ⟨x, hx, e6.trans e⟩
theorem count_eq {S : Int32} (h : ∃ x, x < 65536 ∧ S = nI x) (N : Mem) : mJ6_bitCount_0f7a4 S = mX6_size S N ∧ PX6_size S N := by
  obtain ⟨x, hx, rfl⟩ := h
  exact bit_eq hx N
theorem steps14 {n m : Nat} (hm : m ≤ 60) : ∀ (k fuel i : Nat) (M : Mem) (s : Nat → Int32), k < fuel → i + k = m → R M 1 s n →
    ∃ M', mX5_steps_14 fuel (nI m) (nI i) M = (mJ6_bitCount_0f7a4 (mX4_airsAtErrands 1 M'), M') ∧ R M' 1 (stepsS s n k) n ∧ (∀ p, p = 0 ∨ 7 < p → M' p = M p) ∧ PX5_steps_14 fuel (nI m) (nI i) M := by
  intro k
  induction k with
  | zero =>
    intro fuel i M s hf hi hR
    obtain ⟨f, rfl⟩ : ∃ f, fuel = f + 1 := ⟨fuel - 1, by omega⟩
    have hc : nI m ≤ nI i := nI_le (by omega) (by omega)
    obtain ⟨x1, x2, x3⟩ := errands_eq (N := upr M 47 s) hR (upr_at _ _ _)
    refine ⟨M, ?_, hR, fun _ _ => rfl, ?_⟩
    · rw [mX5_steps_14, if_pos hc]
    · rw [PX5_steps_14]
      exact ⟨fun _ => x2, fun q => absurd hc q⟩
  | succ k ih =>
    intro fuel i M s hf hi hR
    obtain ⟨f, rfl⟩ : ∃ f, fuel = f + 1 := ⟨fuel - 1, by omega⟩
    have hc : ¬ nI m ≤ nI i := nI_ge (by omega) (by omega)
    have hi1 : nI i + 1 = nI (i + 1) := (nI_succ i).symm
    obtain ⟨r, p, fr⟩ := takeStep_R hR
    obtain ⟨M', a1, a2, a3, a4⟩ := ih f (i + 1) (mX4_takeStep 1 M) (stepS s n) (by omega) (by omega) r
    refine ⟨M', ?_, a2, fun p hp => (a3 p hp).trans (fr p (by omega) (by omega) (by omega)), ?_⟩
    · rw [mX5_steps_14, if_neg hc]
      unfold mX5_steps_26
      rw [hi1]
      exact a1
    · rw [PX5_steps_14]
      refine ⟨fun q => absurd q hc, fun _ => ⟨p, ?_⟩⟩
      unfold PX5_steps_26
      rw [hi1]
      exact a4
theorem within_60 {a : Int32} {lo hi : Nat} (hh : hi < 2 ^ 31) (h : mX5_isWithin a (nI lo) (nI hi) = true) : ∃ k, lo ≤ k ∧ k ≤ hi ∧ a = nI k ∨ (hi < lo) := by
  by_cases z : hi < lo
  · exact ⟨0, Or.inr z⟩
  · have hb := isWithin_iff.mp h
    obtain ⟨k, hk, rfl⟩ := nI_rg (m := hi) hh (Int32.le_trans (nI_pos' (by omega)) hb.1) hb.2
    exact ⟨k, Or.inl ⟨(nI_le_iff (by omega) (by omega)).mp hb.1, hk, rfl⟩⟩
theorem ok_steps {M : Mem} (a : Int32) (h : Inv M) : OKm (PX5_steps a) (mX5_steps a) (PX6_steps a) (mX6_steps a) M := by
  obtain ⟨n, hR⟩ := h.1
  have ei : mX6_isIn a.toInt64 1 60 = mX5_isWithin a 1 60 := isIn_eq a 1 60
  unfold OKm mX5_steps mX6_steps PX5_steps PX6_steps mX6_steps_19 PX6_steps_19
  rw [ei]
  by_cases hc : mX5_isWithin a 1 60 = true
  · obtain ⟨k, hk1, hk, rfl⟩ : ∃ k, 1 ≤ k ∧ k ≤ 60 ∧ a = nI k := by
      obtain ⟨k, hk | hk⟩ := within_60 (lo := 1) (hi := 60) (by decide) hc
      · exact ⟨k, hk⟩
      · exact absurd hk (by decide)
    obtain ⟨M', a1, a2, a3, a4⟩ := steps14 (n := n) hk k 400 0 M (M 47) (by omega) (by omega) hR
    have s47 : M' 47 = M 47 := a3 47 (by omega)
    obtain ⟨g1, g2⟩ := goes_n (N := M') (m := k) (by omega) hR.gs s47
    obtain ⟨x1, x2, x3⟩ := errands_eq (N := upr M' 47 (stepsS (M 47) n k)) a2 (upr_at _ _ _)
    obtain ⟨c1, c2⟩ := count_eq (stopped_lt (N := upr M' 47 (stepsS (M 47) n k)) (hR.gs.steps k) (upr_at _ _ _)) (upr M' 47 (stepsS (M 47) n k))
    rw [if_pos hc, show (0 : Int32) = nI 0 from rfl, a1]
    simp only [g1]
    refine ⟨fun _ => a4, fun _ => ⟨g2, x3, c2⟩, ?_, ?_⟩
    · rw [if_pos hc, x1]
      exact c1
    · rw [if_pos hc]
      show Inv (upr M' 47 (stepsS (M 47) n k))
      refine h.now (fun p hp h7 => ?_) ⟨n, a2.congr (fun j hj => upr_ne (by omega)) (fun j hj => by rw [upr_at])⟩
      unfold PS at hp
      rw [upr_ne (by omega)]
      exact a3 p h7
  · rw [if_neg hc]
    refine ⟨fun q => absurd q hc, fun q => absurd q hc, ?_, ?_⟩
    · rw [if_neg hc]
    · rw [if_neg hc]; exact h
theorem ok_many {M : Mem} (a : Int32) (h : Inv M) : OKq (PX5_many a) (mX5_many a) (PX6_many a) (mX6_many a) M := by
  obtain ⟨n, hR⟩ := h.1
  obtain ⟨u1, u2, u3⟩ := inUse_eq (N := M) hR rfl
  obtain ⟨s1, s2, s3⟩ := errands_eq (N := M) hR rfl
  obtain ⟨b1, b2, b3⟩ := wetBy_eq (N := M) hR rfl 1
  obtain ⟨c1, c2⟩ := count_eq (stopped_lt (N := M) hR.gs rfl) M
  obtain ⟨d1, d2⟩ := count_eq (inUse_lt (N := M) hR.gs rfl) M
  obtain ⟨f1, f2⟩ := count_eq (wetBy_lt (N := M) 1) M
  have e0 : M 1 6 = M 47 0 := hR.2.1.1.trans hR.2.1.2.symm
  obtain ⟨tp, -, t1, t2, -⟩ := h.2.2.1
  obtain ⟨rn, -, r1, r2, -⟩ := h.2.2.2.1
  obtain ⟨tr, -, x1, x2, -⟩ := h.2.2.2.2.2.2
  unfold OKq mX5_many mX6_many PX5_many PX6_many
  rw [u1, s1, b1, c1, d1, f1, e0, t1, t2, r1, r2, x1, x2]
  exact ⟨fun _ => ⟨fun _ => s2, fun _ => ⟨fun _ => u2, fun _ _ => b2⟩⟩, fun _ => ⟨fun _ => ⟨s3, c2⟩, fun _ => ⟨fun _ => ⟨u3, d2⟩, fun _ _ => ⟨b3, f2⟩⟩⟩, rfl⟩
