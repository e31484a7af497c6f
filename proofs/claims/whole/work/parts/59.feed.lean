/-! THE TAPE takes bytes -/
theorem byte_sh : ∀ i, i < 8 → (((8 * nI i) : Int32).toInt64.toUInt64 &&& Int64.toUInt64 63).toBitVec % 64 = BitVec.ofNat 64 (8 * i) := by decide
theorem byte_ss : ∀ i, i < 8 → (((8 * nI i) : Int32).toInt64 &&& 63).toBitVec.smod 64 = BitVec.ofNat 64 (8 * i) := by decide
def by5 (v : Int64) (i : Nat) : Int32 := ((((v : Int64).toUInt64 >>> (((8 * nI i) : Int32).toInt64.toUInt64 &&& Int64.toUInt64 63)).toInt64) : Int64).toInt32 &&& 255
def by6 (v : Int64) (i : Nat) : Int32 := (((v >>> (((8 * nI i) : Int32).toInt64 &&& 63)) &&& 255) : Int64).toInt32
theorem c255a {j : Nat} (hj : j < 32) : ((255 : Int32).toBitVec).getLsbD j = decide (j < 8) := by
  show (BitVec.ofNat 32 255).getLsbD j = decide (j < 8)
  rw [BitVec.getLsbD_ofNat, decide_eq_true hj, show (255 : Nat) = 2 ^ 8 - 1 from rfl, Nat.testBit_two_pow_sub_one, Bool.true_and]
theorem c255b {j : Nat} (hj : j < 64) : ((255 : Int64).toBitVec).getLsbD j = decide (j < 8) := by
  show (BitVec.ofNat 64 255).getLsbD j = decide (j < 8)
  rw [BitVec.getLsbD_ofNat, decide_eq_true hj, show (255 : Nat) = 2 ^ 8 - 1 from rfl, Nat.testBit_two_pow_sub_one, Bool.true_and]
theorem byte_eq (v : Int64) {i : Nat} (hi : i < 8) : by5 v i = by6 v i := by
  unfold by5 by6
  apply Int32.toBitVec_inj.mp
  have e8 : (BitVec.ofNat 64 (8 * i)).toNat = 8 * i := by
    rw [BitVec.toNat_ofNat]
    exact Nat.mod_eq_of_lt (by omega)
  rw [Int32.toBitVec_and, Int64.toBitVec_toInt32, UInt64.toBitVec_toInt64, UInt64.toBitVec_shiftRight, byte_sh i hi, Int64.toBitVec_toUInt64, Int64.toBitVec_toInt32, Int64.toBitVec_and, Int64.toBitVec_shiftRight, byte_ss i hi, BitVec.ushiftRight_eq', e8, BitVec.eq_of_getLsbD_eq_iff]
  intro j hj
  rw [BitVec.getLsbD_and, BitVec.getLsbD_signExtend, BitVec.getLsbD_signExtend, if_pos (show j < 64 by omega), if_pos (show j < 64 by omega), BitVec.getLsbD_and, BitVec.getLsbD_ushiftRight, BitVec.getLsbD_sshiftRight', e8, c255a hj, c255b (show j < 64 by omega), decide_eq_true hj]
  by_cases q : j < 8
  · rw [if_pos (show 8 * i + j < 64 by omega), decide_eq_true q, decide_eq_false (show ¬ 64 ≤ j by omega)]
    rfl
  · rw [decide_eq_false q, Bool.and_false, Bool.and_false, Bool.and_false]
theorem by5_n (v : Int64) (i : Nat) : ∃ c, c < 256 ∧ by5 v i = nI c := by
  unfold by5
  obtain ⟨x, ex⟩ : ∃ x, x = ((((v : Int64).toUInt64 >>> (((8 * nI i) : Int32).toInt64.toUInt64 &&& Int64.toUInt64 63)).toInt64) : Int64).toInt32 := ⟨_, rfl⟩
  rw [← ex]
  have e : x = nI x.toBitVec.toNat := by
    apply Int32.toBitVec_inj.mp
    show x.toBitVec = BitVec.ofNat 32 x.toBitVec.toNat
    rw [BitVec.ofNat_toNat, BitVec.setWidth_eq]
  refine ⟨x.toBitVec.toNat % 2 ^ 8, Nat.mod_lt _ (by decide), ?_⟩
  rw [e, pk_andN (by have := x.toBitVec.isLt; omega) 8 (by decide), ← e]
theorem take17 {v : Int64} {n tp : Nat} (hn : n ≤ 8) (ht : tp + n ≤ 200) : ∀ (k f i : Nat) (M : Mem), k < f → i + k = n → M 22 1 = nI tp →
    ∃ M', mX3_takeBytes_17 f v (nI n) (nI i) M = (true, M') ∧ PX3_takeBytes_17 f v (nI n) (nI i) M ∧ M' 22 1 = nI (tp + n) ∧ (∀ z, z ≠ 1 → M' 22 z = M 22 z) ∧ (∀ j, i ≤ j → j < n → M' 23 (tp + j) = by5 v j) ∧ (∀ z, z < tp + i → M' 23 z = M 23 z) ∧ ∀ q, q ≠ 22 → q ≠ 23 → M' q = M q := by
  intro k
  induction k with
  | zero =>
    intro f i M hf hi h22
    obtain ⟨g, rfl⟩ : ∃ g, f = g + 1 := ⟨f - 1, by omega⟩
    have hc : nI n ≤ nI i := nI_le (by omega) (by omega)
    refine ⟨upm M 22 1 (nI (tp + n)), ?_, ?_, by rw [upm_at, upd_at], fun z hz => by rw [upm_at, upd_ne hz], fun j h1 h2 => by omega, fun z _ => by rw [upm_ne (by decide)], fun q h1 _ => upm_ne h1⟩
    · rw [mX3_takeBytes_17, if_pos hc, h22, nI_add]
    · rw [PX3_takeBytes_17]
      exact fun q => absurd hc q
  | succ k ih =>
    intro f i M hf hi h22
    obtain ⟨g, rfl⟩ : ∃ g, f = g + 1 := ⟨f - 1, by omega⟩
    have hc : ¬ nI n ≤ nI i := nI_ge (by omega) (by omega)
    have h1 : nI i + 1 = nI (i + 1) := (nI_succ i).symm
    have ei : nI tp + nI i = nI (tp + i) := nI_add tp i
    obtain ⟨M', a1, a2, a3, a4, a5, a6, a7⟩ := ih g (i + 1) (upm M 23 (tp + i) (by5 v i)) (by omega) (by omega) (by rw [upm_ne (by decide)]; exact h22)
    refine ⟨M', ?_, ?_, a3, fun z hz => (a4 z hz).trans (by rw [upm_ne (by decide)]), fun j q1 q2 => ?_, fun z hz => ?_, fun q q1 q2 => (a7 q q1 q2).trans (upm_ne q2)⟩
    · rw [mX3_takeBytes_17, if_neg hc, h22, ei, nIc (by omega), h1]
      exact a1
    · rw [PX3_takeBytes_17, h22, ei, nIc (by omega), h1]
      exact fun _ => ⟨vin (by omega) (by decide), a2⟩
    · by_cases e : j = i
      · subst e
        rw [a6 (tp + j) (by omega), upm_at, upd_at]
      · exact a5 j (by omega) q2
    · rw [a6 z (by omega), upm_at, upd_ne (by omega)]
theorem feed32 {v : Int64} {n tp : Nat} (hn : n ≤ 8) (ht : tp + n ≤ 200) : ∀ (k f i : Nat) (N : Mem), k < f → i + k = n → N 46 6 = nI (tp + i) →
    ∃ N', mX6_feed_32 f v (nI n) (nI i) N = (nI (tp + n), N') ∧ PX6_feed_32 f v (nI n) (nI i) N ∧ N' 46 6 = nI (tp + n) ∧ (∀ z, z ≠ 6 → N' 46 z = N 46 z) ∧ (∀ j, i ≤ j → j < n → N' 51 (tp + j) = by6 v j) ∧ (∀ z, z < tp + i → N' 51 z = N 51 z) ∧ ∀ q, q ≠ 46 → q ≠ 51 → N' q = N q := by
  intro k
  induction k with
  | zero =>
    intro f i N hf hi h46
    obtain ⟨g, rfl⟩ : ∃ g, f = g + 1 := ⟨f - 1, by omega⟩
    have hc : nI n ≤ nI i := nI_le (by omega) (by omega)
    obtain rfl : i = n := by omega
    refine ⟨N, ?_, ?_, h46, fun z hz => rfl, fun j h1 h2 => by omega, fun z _ => rfl, fun q h1 _ => rfl⟩
    · rw [mX6_feed_32, if_pos hc, h46]
    · rw [PX6_feed_32]
      exact fun q => absurd hc q
  | succ k ih =>
    intro f i N hf hi h46
    obtain ⟨g, rfl⟩ : ∃ g, f = g + 1 := ⟨f - 1, by omega⟩
    have hc : ¬ nI n ≤ nI i := nI_ge (by omega) (by omega)
    have h1 : nI i + 1 = nI (i + 1) := (nI_succ i).symm
    have e46 : upm N 51 (tp + i) (by6 v i) 46 6 + 1 = nI (tp + (i + 1)) := by
      rw [upm_ne (by decide), h46]
      exact (nI_succ (tp + i)).symm
    obtain ⟨N', a1, a2, a3, a4, a5, a6, a7⟩ := ih g (i + 1) (upm (upm N 51 (tp + i) (by6 v i)) 46 6 (nI (tp + (i + 1)))) (by omega) (by omega) (by rw [upm_at, upd_at])
    refine ⟨N', ?_, ?_, a3, fun z hz => (a4 z hz).trans (by rw [upm_at, upd_ne hz, upm_ne (by decide)]), fun j q1 q2 => ?_, fun z hz => ?_, fun q q1 q2 => (a7 q q1 q2).trans (by rw [upm_ne q1, upm_ne q2])⟩
    · rw [mX6_feed_32, if_neg hc, h46, nIc (by omega)]
      change mX6_feed_32 g v (nI n) (nI i + 1) (upm (upm N 51 (tp + i) (by6 v i)) 46 6 (upm N 51 (tp + i) (by6 v i) 46 6 + 1)) = _
      rw [e46, h1]
      exact a1
    · rw [PX6_feed_32, h46, nIc (by omega)]
      refine fun _ => ⟨vin (by omega) (by decide), ?_⟩
      change PX6_feed_32 g v (nI n) (nI i + 1) (upm (upm N 51 (tp + i) (by6 v i)) 46 6 (upm N 51 (tp + i) (by6 v i) 46 6 + 1))
      rw [e46, h1]
      exact a2
    · by_cases e : j = i
      · subst e
        rw [a6 (tp + j) (by omega), upm_ne (by decide), upm_at, upd_at]
      · exact a5 j (by omega) q2
    · rw [a6 z (by omega), upm_ne (by decide), upm_at, upd_ne (by omega)]
theorem Inv.tape {M M' : Mem} (h : Inv M) (g : ∀ p, p ≠ 22 → p ≠ 23 → p ≠ 46 → p ≠ 51 → M' p = M p) (g46 : ∀ z, z ≠ 6 → M' 46 z = M 46 z) (hT : InvT M') : Inv M' := by
  obtain ⟨⟨n, hR⟩, hK, -, hW, hS, hV, hA⟩ := h
  have g0 := g 0 (by decide) (by decide) (by decide) (by decide)
  exact ⟨InvR.of hR (fun p h1 h2 => g p (by omega) (by omega) (by omega) (by omega)) (fun k _ => by rw [g 47 (by decide) (by decide) (by decide) (by decide)]), hK.of (by rw [g0]) (g46 4 (by decide)) (fun p h1 h2 => g p (by omega) (by omega) (by omega) (by omega)) (g 48 (by decide) (by decide) (by decide) (by decide)), hT, hW.of (by rw [g0]) (g46 17 (by decide)) (g 28 (by decide) (by decide) (by decide) (by decide)) (g 56 (by decide) (by decide) (by decide) (by decide)), hS.of (fun p h1 h2 => g p (by omega) (by omega) (by omega) (by omega)) (g 57 (by decide) (by decide) (by decide) (by decide)) (g 58 (by decide) (by decide) (by decide) (by decide)) (g 59 (by decide) (by decide) (by decide) (by decide)), hV.of (fun p h1 h2 => g p (by omega) (by omega) (by omega) (by omega)) (g 60 (by decide) (by decide) (by decide) (by decide)) (g 61 (by decide) (by decide) (by decide) (by decide)) (g 62 (by decide) (by decide) (by decide) (by decide)), hA.of (by rw [g 26 (by decide) (by decide) (by decide) (by decide)]) (g46 25 (by decide)) (g 27 (by decide) (by decide) (by decide) (by decide)) (g 63 (by decide) (by decide) (by decide) (by decide))⟩
theorem ok_feed {M : Mem} (v : Int64) (a : Int32) (h : Inv M) : OKm (PX5_feed v a) (mX5_feed v a) (PX6_feed v a) (mX6_feed v a) M := by
  obtain ⟨tp, htp, t1, t2, t3⟩ := h.2.2.1
  have ei : mX6_isIn a.toInt64 1 8 = mX5_isWithin a 1 8 := isIn_eq a 1 8
  by_cases hm : mX5_isWithin a 1 8 = true
  case neg =>
    unfold OKm mX5_feed mX6_feed PX5_feed PX6_feed
    rw [if_neg hm]
    dsimp only
    rw [ei, if_neg hm]
    exact ⟨fun q => absurd q hm, fun q => absurd q hm, rfl, h⟩
  obtain ⟨n, hn, rfl⟩ := within_n (m := 8) (by decide) (isWithin_iff.mpr ⟨Int32.le_trans (by decide) (isWithin_iff.mp hm).1, (isWithin_iff.mp hm).2⟩)
  have c5 : (nI n ≤ 200 - M 22 1) ↔ tp + n ≤ 200 := by
    rw [t1, show (200 : Int32) - nI tp = nI (200 - tp) from nI_subc (a := 200) htp, nI_le_iff (by omega) (by omega)]
    omega
  have c6 : (M 46 6 + nI n ≤ 200) ↔ tp + n ≤ 200 := by
    rw [t2, nI_add]
    exact nI_le_iff (b := 200) (by omega) (by decide)
  have z1 : ¬ b2i true = 0 := by decide
  have z0 : b2i false = 0 := by decide
  by_cases hf : tp + n ≤ 200
  case neg =>
    have k5 : ¬ (nI n ≤ 200 - M 22 1) := fun q => hf (c5.mp q)
    have k6 : ¬ (M 46 6 + nI n ≤ 200) := fun q => hf (c6.mp q)
    have u5 : mX5_feed v (nI n) M = (-2, M) := by
      unfold mX5_feed mX3_takeBytes mX5_feed_21
      rw [if_pos hm, if_neg k5]
      dsimp only
      rw [if_pos z0]
    have u6 : mX6_feed v (nI n) M = (-2, M) := by
      unfold mX6_feed
      rw [ei, if_pos hm, if_neg k6]
    unfold OKm
    rw [u5]
    dsimp only
    rw [u6]
    refine ⟨?_, ?_, rfl, h⟩
    · unfold PX5_feed PX3_takeBytes PX5_feed_21
      exact fun _ => ⟨fun q => absurd q k5, trivial⟩
    · unfold PX6_feed
      exact fun _ q => absurd q k6
  have k5 := c5.mpr hf
  have k6 := c6.mpr hf
  obtain ⟨M1, a1, a2, a3, a4, a5, a6, a7⟩ := take17 (v := v) hn hf n 400 0 M (by omega) (by omega) t1
  have a1' : mX3_takeBytes_17 400 v (nI n) 0 M = _ := a1
  have m46 : M1 46 = M 46 := a7 46 (by decide) (by decide)
  obtain ⟨N', b1, b2, b3, b4, b5, b6, b7⟩ := feed32 (v := v) hn hf n 400 0 M1 (by omega) (by omega) (by rw [m46]; exact t2)
  have b1' : mX6_feed_32 400 v (nI n) 0 M1 = _ := b1
  have k6' : M1 46 6 + nI n ≤ 200 := by rw [m46]; exact k6
  have u5 : mX5_feed v (nI n) M = (nI (tp + n), M1) := by
    unfold mX5_feed mX3_takeBytes mX5_feed_21
    rw [if_pos hm, if_pos k5, a1']
    dsimp only
    rw [if_neg z1, a3]
  have u6 : mX6_feed v (nI n) M1 = (nI (tp + n), N') := by
    unfold mX6_feed
    rw [ei, if_pos hm, if_pos k6', b1']
  unfold OKm
  rw [u5]
  dsimp only
  rw [u6]
  refine ⟨?_, ?_, rfl, ?_⟩
  · unfold PX5_feed PX3_takeBytes PX5_feed_21
    exact fun _ => ⟨fun _ => a2, trivial⟩
  · unfold PX6_feed
    exact fun _ _ => b2
  · change Inv N'
    refine h.tape (fun p p1 p2 p3 p4 => by rw [b7 p p3 p4, a7 p p1 p2]) (fun z hz => by rw [b4 z hz, m46]) ⟨tp + n, hf, by rw [b7 22 (by decide) (by decide)]; exact a3, b3, fun i hi => ?_⟩
    have e23 : N' 23 i = M1 23 i := by rw [b7 23 (by decide) (by decide)]
    rw [e23]
    by_cases q : i < tp
    · rw [a6 i (by omega), b6 i (by omega), a7 51 (by decide) (by decide)]
      exact t3 i q
    · obtain ⟨j, rfl⟩ : ∃ j, i = tp + j := ⟨i - tp, by omega⟩
      rw [a5 j (Nat.zero_le _) (by omega), b5 j (Nat.zero_le _) (by omega), ← byte_eq v (show j < 8 by omega)]
      exact ⟨rfl, by5_n v j⟩
