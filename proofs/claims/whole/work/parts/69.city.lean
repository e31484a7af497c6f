/-! A CITY told -/
theorem tell_both {t : Nat → Nat} {tp : Nat} : ∀ (k f f' i q : Nat) (M N : Mem) (n : Nat), k + 1 < f → k + 1 < f' → tp ≤ q + k → i ≤ q → CS M t tp q (-1) → rn isB t tp q = q → LEX N t tp q → N 46 11 = 0 → R M 15 (N 47) n →
    ∃ F M' N1, mX3_tell_16 15 f (nI i) M = (F, M') ∧ PX3_tell_16 15 f (nI i) M ∧ mX6_city_29 f' N = mX6_city_50 N1 ∧ (PX6_city_50 N1 → PX6_city_29 f' N) ∧ G15 M M' ∧ F6c N N1 ∧ ((F = -1 ∧ N1 46 11 = 0 ∧ ∃ n', R M' 15 (N1 47) n') ∨ ∃ q', q' ≤ 200 ∧ F = nI q' ∧ N1 46 11 = 1 ∧ N1 46 8 = nI q') := by
  intro k
  induction k with
  | zero =>
    intro f f' i q M N n hf hf' hk hi hc hqb hl hw hR
    obtain ⟨g, rfl⟩ : ∃ g, f = g + 1 := ⟨f - 1, by omega⟩
    obtain ⟨g', rfl⟩ : ∃ g', f' = g' + 1 := ⟨f' - 1, by omega⟩
    have h200 := hc.1.1
    have hq := hc.2.1
    have c1 : M 22 1 ≤ M 22 2 := by rw [hc.1.2.2.1, hc.2.2.1]; exact nI_le (by omega) (by omega)
    have ck : N 46 7 = 0 := by
      rw [hl.2.2.2.2.1]
      unfold tk
      rw [if_neg (by omega)]
      rfl
    refine ⟨-1, M, N, ?_, ?_, ?_, ?_, G15.rf M, F6c.rf N, Or.inl ⟨rfl, hw, n, hR⟩⟩
    · rw [mX3_tell_16, if_pos c1]
      unfold mX3_tell_56
      rw [hc.2.2.2]
      by_cases z : (200 : Int32) ≤ nI i
      · rw [if_pos z]
      · rw [if_neg z]
    · rw [PX3_tell_16]
      exact ⟨fun _ => trivial, fun _ => ⟨fun _ => trivial, fun z => absurd c1 z⟩⟩
    · rw [mX6_city_29, if_pos hw, if_pos ck]
    · intro p
      rw [PX6_city_29]
      exact ⟨fun _ => ⟨fun _ => p, fun z => absurd ck z⟩, fun z => absurd hw z⟩
  | succ k ih =>
    intro f f' i q M N n hf hf' hk hi hc hqb hl hw hR
    by_cases hlt : tp ≤ q
    · exact ih f f' i q M N n (by omega) (by omega) (by omega) hi hc hqb hl hw hR
    obtain ⟨g, rfl⟩ : ∃ g, f = g + 1 := ⟨f - 1, by omega⟩
    obtain ⟨g', rfl⟩ : ∃ g', f' = g' + 1 := ⟨f' - 1, by omega⟩
    have h200 := hc.1.1
    have hi1 : nI i + 1 = nI (i + 1) := (nI_succ i).symm
    have c0 : ¬ (200 : Int32) ≤ nI i := nI_ge (b := 200) (by omega) (by decide)
    have c1 : ¬ M 22 1 ≤ M 22 2 := by rw [hc.1.2.2.1, hc.2.2.1]; exact nI_ge (by omega) (by omega)
    have c2 : ¬ 0 ≤ M 22 3 := by rw [hc.2.2.2]; decide
    have ck : ¬ N 46 7 = 0 := fun z => by
      have := (hl.tk_iff 0 (by decide)).mp z
      unfold tk at this
      rw [if_pos (by omega)] at this
      revert this
      repeat' split
      all_goals decide
    obtain ⟨a1, a2, a3, a4, a5⟩ := item_sim hc hl hw hR rfl
    obtain ⟨M1, e1⟩ : ∃ y, y = mX3_tellOne 15 M := ⟨_, rfl⟩
    obtain ⟨N1, e2⟩ : ∃ y, y = mX6_itemHere N := ⟨_, rfl⟩
    rw [← e1, ← e2] at a1
    rw [← e1] at a2
    rw [← e2] at a3
    obtain ⟨J, s0, n0, R0⟩ := a1
    have m5 : mX3_tell_16 15 (g + 1) (nI i) M = mX3_tell_16 15 g (nI (i + 1)) (mX3_skipBlanks M1) := by
      rw [mX3_tell_16, if_neg c0, if_neg c1, if_neg c2]
      unfold mX3_tell_46 mX3_tell_50
      rw [← e1, hi1]
    have p5 : PX3_skipBlanks M1 → PX3_tell_16 15 g (nI (i + 1)) (mX3_skipBlanks M1) → PX3_tell_16 15 (g + 1) (nI i) M := by
      intro x1 x2
      rw [PX3_tell_16]
      unfold PX3_tell_46 PX3_tell_50
      rw [← e1, hi1]
      exact ⟨fun _ => trivial, fun _ => ⟨fun _ => trivial, fun _ => ⟨fun _ => trivial, fun _ => ⟨a4, x1, x2⟩⟩⟩⟩
    have m6 : mX6_city_29 (g' + 1) N = mX6_city_29 g' N1 := by
      rw [mX6_city_29, if_pos hw, if_neg ck]
      unfold mX6_city_47
      rw [← e2]
    have p6 : PX6_city_29 g' N1 → PX6_city_29 (g' + 1) N := by
      intro x
      rw [PX6_city_29]
      unfold PX6_city_47
      rw [← e2]
      exact ⟨fun _ => ⟨fun z => absurd z ck, fun _ => ⟨a5, x⟩⟩, fun z => absurd hw z⟩
    rcases J with ⟨p', h1, h2, h3, h4, n', h5⟩ | ⟨p', q', h1, h2, h3⟩
    · obtain ⟨s1, s2, s3⟩ := h1.skip
      have hge : p' ≤ rn isB t tp p' := rn_ge
      obtain ⟨F, M', N2, b1, b2, b3, b4, b5, b6, b7⟩ := ih g g' (i + 1) (rn isB t tp p') (mX3_skipBlanks M1) N1 n' (by omega) (by omega) (by omega) (by omega) s1 (rn_idem h1.2.1) h2 h3 (s2.R h5)
      exact ⟨F, M', N2, m5.trans b1, p5 s3 b2, m6.trans b3, fun p => p6 (b4 p), a2.trans (s2.g.trans b5), a3.trans b6, b7⟩
    · obtain ⟨s1, s2, s3⟩ := h1.skip
      obtain ⟨M2, e3⟩ : ∃ y, y = mX3_skipBlanks M1 := ⟨_, rfl⟩
      rw [← e3] at s1 s2
      obtain ⟨z, rfl⟩ : ∃ z, g = z + 1 := ⟨g - 1, by omega⟩
      obtain ⟨z', rfl⟩ : ∃ z', g' = z' + 1 := ⟨g' - 1, by omega⟩
      have hq' := h2.2.1
      have f0 : 0 ≤ M2 22 3 := by rw [s1.2.2.2]; exact nI_pos' (by omega)
      have w1 : ¬ N1 46 11 = 0 := by rw [h3]; decide
      have x5 : mX3_tell_16 15 (z + 1) (nI (i + 1)) M2 = (nI q', M2) := by
        rw [mX3_tell_16]
        unfold mX3_tell_56
        rw [s1.2.2.2]
        by_cases y1 : (200 : Int32) ≤ nI (i + 1)
        · rw [if_pos y1]
        · rw [if_neg y1]
          by_cases y2 : M2 22 1 ≤ M2 22 2
          · rw [if_pos y2]
          · rw [if_neg y2, if_pos (by rw [s1.2.2.2] at f0; exact f0)]
      have x6 : PX3_tell_16 15 (z + 1) (nI (i + 1)) M2 := by
        rw [PX3_tell_16]
        exact ⟨fun _ => trivial, fun _ => ⟨fun _ => trivial, fun _ => ⟨fun _ => trivial, fun y => absurd f0 y⟩⟩⟩
      rw [← e3] at m5 p5
      refine ⟨nI q', M2, N1, m5.trans x5, p5 s3 x6, m6.trans ?_, fun p => p6 ?_, a2.trans s2.g, a3, Or.inr ⟨q', by omega, rfl, h3, h2.2.2.2.1⟩⟩
      · rw [mX6_city_29, if_neg w1]
      · rw [PX6_city_29]
        exact ⟨fun y => absurd y w1, fun _ => p⟩
theorem begins9 {v1 : Int32} : ∀ (k f i : Nat) (N : Mem), k < f → i + k = 56 →
    ∃ N', mX6_begins_9 f v1 (nI i) N = N' ∧ PX6_begins_9 f v1 (nI i) N ∧ N' 47 2 = v1 ∧ N' 47 4 = 3 ∧ N' 47 5 = 6 ∧ N' 47 6 = 2 ∧ N' 47 7 = 20 ∧ (∀ j, i ≤ j → j < 56 → j ≠ 2 → j ≠ 4 → j ≠ 5 → j ≠ 6 → j ≠ 7 → N' 47 j = 0) ∧ (∀ j, j < i → j ≠ 2 → j ≠ 4 → j ≠ 5 → j ≠ 6 → j ≠ 7 → N' 47 j = N 47 j) ∧ ∀ p, p ≠ 47 → N' p = N p := by
  intro k
  induction k with
  | zero =>
    intro f i N hf hi
    obtain ⟨g, rfl⟩ : ∃ g, f = g + 1 := ⟨f - 1, by omega⟩
    have hc : (56 : Int32) ≤ nI i := nI_le (a := 56) (by omega) (by omega)
    rw [mX6_begins_9, PX6_begins_9, if_pos hc]
    refine ⟨_, rfl, fun q => absurd hc q, ?_, ?_, ?_, ?_, ?_, fun j h1 h2 => by omega, fun j h1 h2 h4 h5 h6 h7 => ?_, fun p hp => by rw [upm_ne hp, upm_ne hp, upm_ne hp, upm_ne hp, upm_ne hp]⟩
    · rw [upm_at, upd_ne (by decide), upm_at, upd_ne (by decide), upm_at, upd_ne (by decide), upm_at, upd_ne (by decide), upm_at, upd_at]
    · rw [upm_at, upd_ne (by decide), upm_at, upd_ne (by decide), upm_at, upd_ne (by decide), upm_at, upd_at]
    · rw [upm_at, upd_ne (by decide), upm_at, upd_ne (by decide), upm_at, upd_at]
    · rw [upm_at, upd_ne (by decide), upm_at, upd_at]
    · rw [upm_at, upd_at]
    · rw [upm_at, upd_ne h7, upm_at, upd_ne h6, upm_at, upd_ne h5, upm_at, upd_ne h4, upm_at, upd_ne h2]
  | succ k ih =>
    intro f i N hf hi
    obtain ⟨g, rfl⟩ : ∃ g, f = g + 1 := ⟨f - 1, by omega⟩
    have hc : ¬ (56 : Int32) ≤ nI i := nI_ge (b := 56) (by omega) (by omega)
    have hi1 : nI i + 1 = nI (i + 1) := (nI_succ i).symm
    obtain ⟨N', a1, a2, a3, a4, a5, a6, a7, a8, a9, a10⟩ := ih g (i + 1) (upm N 47 i 0) (by omega) (by omega)
    rw [mX6_begins_9, PX6_begins_9, if_neg hc, nIc (by omega), hi1]
    refine ⟨N', a1, fun _ => ⟨vin (by omega) (by decide), a2⟩, a3, a4, a5, a6, a7, fun j h1 h2 h3 h4 h5 h6 h7 => ?_, fun j h1 h2 h4 h5 h6 h7 => ?_, fun p hp => (a10 p hp).trans (upm_ne hp)⟩
    · by_cases e : j = i
      · rw [a9 j (by omega) h3 h4 h5 h6 h7, upm_at, e, upd_at]
      · exact a8 j (by omega) h2 h3 h4 h5 h6 h7
    · rw [a9 j (by omega) h2 h4 h5 h6 h7, upm_at, upd_ne (by omega)]
theorem law0 : ∀ k, k < 4 → (stT_0).getD k 0 = (if k = 0 then 3 else if k = 1 then 6 else if k = 2 then 2 else 20) := by decide
/-- a town as at first, and the row as at first -/
theorem first_R {M M2 : Mem} {s : Nat → Int32} (hM : M2 = upm (mX4_clear 15 M) 15 9 (mX4_clear 15 M 1 9)) (hz : M 1 9 = s 2) (h4 : s 4 = 3) (h5 : s 5 = 6) (h6 : s 6 = 2) (h7 : s 7 = 20) (h0 : ∀ j, j < 56 → j ≠ 2 → j ≠ 4 → j ≠ 5 → j ≠ 6 → j ≠ 7 → s j = 0) : R M2 15 s 0 ∧ (∀ p, p ≠ 15 → p ≠ 16 → p ≠ 17 → M2 p = M p) ∧ PX4_clear 15 M := by
  obtain ⟨f1, f2⟩ := fill_eq (p := 17) (n := 16) (by decide) (upr M 16 (va_cpy (fun i => (stT_0).getD i 0) (M 16) 0 0 4))
  have ec : mX4_clear 15 M = upm (upm (upm (upr (upr M 16 (va_cpy (fun i => (stT_0).getD i 0) (M 16) 0 0 4)) 17 (fun j => if j < 16 then 0 else upr M 16 (va_cpy (fun i => (stT_0).getD i 0) (M 16) 0 0 4) 17 j)) 15 6 0) 15 7 0) 15 8 0 := by
    unfold mX4_clear mX4_clear_21
    rw [f1]
  have fr : ∀ p, p ≠ 15 → p ≠ 16 → p ≠ 17 → M2 p = M p := fun p a b c => by
    rw [hM, upm_ne a, ec, upm_ne a, upm_ne a, upm_ne a, upr_ne c, upr_ne b]
  have e1 : mX4_clear 15 M 1 9 = s 2 := by
    rw [ec, upm_ne (by decide), upm_ne (by decide), upm_ne (by decide), upr_ne (by decide), upr_ne (by decide)]
    exact hz
  have g15 : ∀ z, M2 15 z = if z = 9 then s 2 else if z = 8 then 0 else if z = 7 then 0 else if z = 6 then 0 else M 15 z := by
    intro z
    rw [hM, upm_at, e1, ec, upm_at, upm_at, upm_at, upr_ne (by decide), upr_ne (by decide)]
    rfl
  have g17 : ∀ h, h < 16 → M2 17 h = 0 := by
    intro h hh
    rw [hM, upm_ne (by decide), ec, upm_ne (by decide), upm_ne (by decide), upm_ne (by decide), upr_at, if_pos hh]
  have g16 : ∀ k, k < 4 → M2 16 k = s (4 + k) := by
    intro k hk
    rw [hM, upm_ne (by decide), ec, upm_ne (by decide), upm_ne (by decide), upm_ne (by decide), upr_ne (by decide), upr_at]
    unfold va_cpy
    rw [if_pos (by omega), Nat.zero_add, Nat.sub_zero]
    show (stT_0).getD k 0 = s (4 + k)
    rw [law0 k hk]
    have : k = 0 ∨ k = 1 ∨ k = 2 ∨ k = 3 := by omega
    rcases this with rfl | rfl | rfl | rfl
    · exact h4.symm
    · exact h5.symm
    · exact h6.symm
    · exact h7.symm
  have z0 := h0 0 (by decide) (by decide) (by decide) (by decide) (by decide) (by decide)
  have z1 := h0 1 (by decide) (by decide) (by decide) (by decide) (by decide) (by decide)
  have z3 := h0 3 (by decide) (by decide) (by decide) (by decide) (by decide) (by decide)
  refine ⟨⟨by decide, ⟨by rw [g15]; rfl, z0⟩, by rw [g15]; rfl, fun h hh => ?_, ⟨by rw [g15, z1]; rfl, ⟨by rw [g15, z3]; rfl, ⟨0, by decide, z3⟩⟩, g16, ⟨3, by decide, by decide, h4⟩, ⟨20, by decide, h7⟩⟩, fun i hi => absurd hi (Nat.not_lt_zero i)⟩, fr, ?_⟩
  · have := h0 (8 + h) (by omega) (by omega) (by omega) (by omega) (by omega) (by omega)
    rw [this]
    exact g17 h hh
  · unfold PX4_clear
    exact ⟨f2, trivial⟩
theorem before_eq (N : Mem) : mX6_copyRow 47 56 50 56 N = upr N 50 (c56 (N 47) (N 50)) ∧ PX6_copyRow 47 56 50 56 N := copy_eq (by decide) N
theorem undo_eq (N : Mem) : mX6_copyRow 50 56 47 56 N = upr N 47 (c56 (N 50) (N 47)) ∧ PX6_copyRow 50 56 47 56 N := copy_eq (by decide) N
theorem ok_city {M : Mem} (h : Inv M) : OKm PX5_city mX5_city PX6_city mX6_city M := by
  obtain ⟨n, hR⟩ := h.1
  have hn := hR.1
  obtain ⟨tp, htp, t1, t2, t3⟩ := h.2.2.1
  obtain ⟨t, et⟩ : ∃ t : Nat → Nat, t = fun i => if i < tp then (M 51 i).toNatClampNeg else 0 := ⟨_, rfl⟩
  have ht : ∀ i, i < tp → M 51 i = nI (t i) := by
    intro i hi
    obtain ⟨_, c, hc, e⟩ := t3 i hi
    rw [et]
    dsimp only
    rw [if_pos hi, e, nIc (by omega)]
  have ht256 : ∀ i, t i < 256 := by
    intro i
    rw [et]
    dsimp only
    by_cases hi : i < tp
    · obtain ⟨_, c, hc, e⟩ := t3 i hi
      rw [if_pos hi, e, nIc (by omega)]
      exact hc
    · rw [if_neg hi]; decide
  -- the class begins
  obtain ⟨M2, e2⟩ : ∃ y, y = upm (mX4_clear 15 M) 15 9 (mX4_clear 15 M 1 9) := ⟨_, rfl⟩
  -- the row as at first
  obtain ⟨s0, es0⟩ : ∃ s0 : Nat → Int32, s0 = fun j => if j = 2 then M 47 2 else if j = 4 then 3 else if j = 5 then 6 else if j = 6 then 2 else if j = 7 then 20 else 0 := ⟨_, rfl⟩
  obtain ⟨r1, r2, r3⟩ := first_R (s := s0) e2 (by rw [es0]; exact hR.2.2.1) (by rw [es0]; rfl) (by rw [es0]; rfl) (by rw [es0]; rfl) (by rw [es0]; rfl) (fun j h1 h2 h3 h4 h5 h6 => by
    rw [es0]
    dsimp only
    rw [if_neg h2, if_neg h3, if_neg h4, if_neg h5, if_neg h6])
  obtain ⟨M3, e3⟩ : ∃ y, y = upm (upm M2 22 2 0) 22 3 (-1) := ⟨_, rfl⟩
  have g3 : ∀ p, p ≠ 22 → M3 p = M2 p := fun p hp => by rw [e3, upm_ne hp, upm_ne hp]
  have hc3 : CS M3 t tp 0 (-1) := by
    refine ⟨⟨htp, ht256, ?_, fun i hi => ?_⟩, Nat.zero_le _, ?_, ?_⟩
    · rw [e3, upm_at, upd_ne (by decide), upm_at, upd_ne (by decide), r2 22 (by decide) (by decide) (by decide)]; exact t1
    · rw [g3 23 (by decide), r2 23 (by decide) (by decide) (by decide), (t3 i hi).1]; exact ht i hi
    · rw [e3, upm_at, upd_ne (by decide), upm_at, upd_at]; rfl
    · rw [e3, upm_at, upd_at]
  obtain ⟨k1, k2, k3⟩ := hc3.skip
  obtain ⟨M4, e4⟩ : ∃ y, y = mX3_skipBlanks M3 := ⟨_, rfl⟩
  rw [← e4] at k1 k2
  have hR4 : R M4 15 s0 0 := r1.congr (fun j hj => by rw [k2 _ (by omega), g3 _ (by omega)]) (fun _ _ => rfl)
  have frM4 : ∀ p, (p < 15 ∨ 22 < p) → M4 p = M p := fun p hp => by rw [k2 p (by omega), g3 p (by omega), r2 p (by omega) (by omega) (by omega)]
  -- the reference, from a memory that differs in the class's places alone
  have ref : ∀ Mf : Mem, (∀ p, 22 < p → Mf p = M p) → ∃ N2, mX6_city Mf = mX6_city_29 400 N2 ∧ (PX6_city_29 400 N2 → PX6_city Mf) ∧ LEX N2 t tp (rn isB t tp 0) ∧ N2 46 11 = 0 ∧ (∀ j, j < 56 → N2 47 j = s0 j) ∧ (∀ j, j < 56 → N2 50 j = M 47 j) ∧ (∀ p, p ≠ 46 → p ≠ 47 → p ≠ 50 → N2 p = Mf p) ∧ (∀ z, z < 7 ∨ 11 < z → N2 46 z = M 46 z) := by
    intro Mf hf
    obtain ⟨b1, b2⟩ := before_eq Mf
    obtain ⟨Na, ea⟩ : ∃ y, y = mX6_copyRow 47 56 50 56 Mf := ⟨_, rfl⟩
    rw [← ea] at b1
    have na : ∀ p, p ≠ 50 → Na p = Mf p := fun p hp => by rw [b1, upr_ne hp]
    obtain ⟨Nb, x1, x2, x3, x4, x5, x6, x7, x8, _, x10⟩ := begins9 (v1 := Na 47 2) 56 400 0 Na (by decide) (by decide)
    have x1' : mX6_begins Na = Nb := x1
    have x2' : PX6_begins Na := x2
    obtain ⟨Nc, ec⟩ : ∃ y, y = upm (upm Nb 46 9 0) 46 11 0 := ⟨_, rfl⟩
    have nc : ∀ p, p ≠ 46 → Nc p = Nb p := fun p hp => by rw [ec, upm_ne hp, upm_ne hp]
    have nc46 : ∀ z, z ≠ 9 → z ≠ 11 → Nc 46 z = M 46 z := fun z z9 z11 => by rw [ec, upm_at, upd_ne z11, upm_at, upd_ne z9, x10 46 (by decide), na 46 (by decide), hf 46 (by decide)]
    have hT : T6 Nc t tp := ⟨htp, ht256, by rw [nc46 6 (by decide) (by decide)]; exact t2, fun i hi => by rw [nc 51 (by decide), x10 51 (by decide), na 51 (by decide), hf 51 (by decide)]; exact ht i hi⟩
    have n9 : Nc 46 9 = nI 0 := by rw [ec, upm_at, upd_ne (by decide), upm_at, upd_at]; rfl
    have n11 : Nc 46 11 = 0 := by rw [ec, upm_at, upd_at]
    obtain ⟨y1, y2, y3⟩ := next6 hT (Nat.zero_le _) n9
    refine ⟨mX6_nextToken Nc, ?_, fun p => ?_, y1, (y2.2 11 (by omega)).trans n11, fun j hj => ?_, fun j hj => ?_, fun p p1 p2 p3 => ?_, fun z hz => ?_⟩
    · unfold mX6_city mX6_city_11 mX6_city_15
      rw [← ea, x1', ← ec]
    · unfold PX6_city PX6_city_11 PX6_city_15
      rw [← ea, x1', ← ec]
      exact ⟨b2, x2', y3, p⟩
    · rw [y2.1 47 (by decide), nc 47 (by decide), es0]
      dsimp only
      by_cases j2 : j = 2
      · rw [if_pos j2, j2, x3, na 47 (by decide), hf 47 (by decide)]
      · rw [if_neg j2]
        by_cases j4 : j = 4
        · rw [if_pos j4, j4]; exact x4
        · rw [if_neg j4]
          by_cases j5 : j = 5
          · rw [if_pos j5, j5]; exact x5
          · rw [if_neg j5]
            by_cases j6 : j = 6
            · rw [if_pos j6, j6]; exact x6
            · rw [if_neg j6]
              by_cases j7 : j = 7
              · rw [if_pos j7, j7]; exact x7
              · rw [if_neg j7]
                exact x8 j (Nat.zero_le _) hj j2 j4 j5 j6 j7
    · rw [y2.1 50 (by decide), nc 50 (by decide), x10 50 (by decide), b1, upr_at, c56_at hj, hf 47 (by decide)]
    · rw [y2.1 p p1, nc p p1, x10 p p2, na p p3]
    · rw [y2.2 z (by omega), nc46 z (by omega) (by omega)]
  -- the class's run alone: what it comes to
  obtain ⟨N2, v1, v2, v3, v4, v5, v6, v7, v8⟩ := ref M (fun _ _ => rfl)
  obtain ⟨F, M5, N3, q1, q2, q3, q4, q5, q6, q7⟩ := tell_both tp 400 400 0 (rn isB t tp 0) M4 N2 0 (by omega) (by omega) (by omega) (Nat.zero_le _) k1 (rn_idem (Nat.zero_le _)) v3 v4 (hR4.congr (fun _ _ => rfl) v5)
  have q1' : mX3_tell_16 15 400 0 M4 = (F, M5) := q1
  have q2' : PX3_tell_16 15 400 0 M4 := q2
  have mt : mX3_tell 15 M2 = (F, M5) ∧ PX3_tell 15 M2 := by
    unfold mX3_tell mX3_tell_14 PX3_tell PX3_tell_14
    rw [← e3, ← e4]
    exact ⟨q1', k3, q2'⟩
  have frM5 : ∀ p, (p < 15 ∨ 22 < p) → M5 p = M p := fun p hp => (q5 p hp).trans (frM4 p hp)
  obtain ⟨M6, e6⟩ : ∃ y, y = upm M5 22 1 0 := ⟨_, rfl⟩
  have frM6 : ∀ p, (p < 15 ∨ 22 < p) → M6 p = M p := fun p hp => by rw [e6, upm_ne (by omega)]; exact frM5 p hp
  have u5 : mX5_city M = mX5_city_32 F M5 := by
    unfold mX5_city mX5_city_7
    rw [← e2, mt.1]
  have pu5 : PX5_city_32 F M5 → PX5_city M := by
    intro p
    unfold PX5_city PX5_city_7
    rw [← e2, mt.1]
    exact ⟨r3, mt.2, p⟩
  rcases q7 with ⟨z1, _, _⟩ | ⟨q0, z1, z2, _, _⟩
  · -- all is right
    subst z1
    obtain ⟨M7, e7⟩ : ∃ y, y = upm (mX4_become 1 15 M6) 0 13 0 := ⟨_, rfl⟩
    have w5 : mX5_city M = (M7 1 6, M7) := by
      rw [u5]
      unfold mX5_city_32 mX5_city_61
      rw [if_pos (by decide), ← e6, ← e7]
    have hbf := (become_at TB1 TB15 (by decide) M6).2.2.2.2
    have frM7 : ∀ p, 7 < p → (p < 15 ∨ 22 < p) → M7 p = M p := fun p p1 p2 => by rw [e7, upm_ne (by omega), hbf p (by omega), frM6 p p2]
    obtain ⟨Nf, y1, y2, y3, y4, y5, y6, y7, y8⟩ := ref M7 (fun p hp => frM7 p (by omega) (by omega))
    obtain ⟨F', M5', N4, c1, c2, c3, c4, c5, c6, c7⟩ := tell_both tp 400 400 0 (rn isB t tp 0) M4 Nf 0 (by omega) (by omega) (by omega) (Nat.zero_le _) k1 (rn_idem (Nat.zero_le _)) y3 y4 (hR4.congr (fun _ _ => rfl) y5)
    have eq := q1.symm.trans c1
    obtain ⟨rfl, rfl⟩ := Prod.mk.inj eq
    rcases c7 with ⟨_, d1, n', d2⟩ | ⟨q0, _, d1, _⟩
    case inr => exact absurd d1 (by
      intro z
      have := congrArg (fun y => decide ((0 : Int32) ≤ y)) z
      have h0 : (0 : Int32) ≤ nI q0 := nI_pos' (by omega)
      revert this
      simp [h0])
    have hR6 : R M6 15 (N4 47) n' := d2.congr (fun j hj => by rw [e6, upm_ne (by omega)]) (fun _ _ => rfl)
    have hR7 : R M7 1 (N4 47) n' := (become_R TB1 TB15 (by decide) hR6).congr (fun j hj => by rw [e7, upm_ne (by omega)]) (fun _ _ => rfl)
    obtain ⟨N5, e5⟩ : ∃ y, y = upm (upm N4 46 6 0) 46 17 0 := ⟨_, rfl⟩
    have w11 : upm N4 46 6 0 46 11 = 0 := by rw [upm_at, upd_ne (by decide)]; exact d1
    have w6 : mX6_city M7 = (N5 47 0, N5) := by
      rw [y1, c3]
      unfold mX6_city_50
      rw [if_pos w11, ← e5]
    have p50 : PX6_city_50 N4 := by
      unfold PX6_city_50
      exact fun z => absurd w11 z
    have n5 : ∀ p, p ≠ 46 → N5 p = N4 p := fun p hp => by rw [e5, upm_ne hp, upm_ne hp]
    have n5f : ∀ p, p ≠ 46 → p ≠ 47 → p ≠ 50 → N5 p = M7 p := fun p p1 p2 p3 => by rw [n5 p p1, c6.1 p p1 p2, y7 p p1 p2 p3]
    have n546 : ∀ z, z ≠ 6 → z ≠ 17 → (z < 7 ∨ 11 < z) → N5 46 z = M 46 z := fun z z6 z17 hz => by rw [e5, upm_at, upd_ne z17, upm_at, upd_ne z6, c6.2 z hz, y8 z hz]
    unfold OKm
    rw [w5]
    dsimp only
    rw [w6]
    refine ⟨pu5 ?_, y2 (c4 p50), ?_, ?_⟩
    · unfold PX5_city_32 PX5_city_61
      first | exact fun _ => ⟨pbecome _ _ _, trivial⟩ | exact fun _ => pbecome _ _ _
    · dsimp only
      rw [hR7.2.1.1, n5 47 (by decide), hR7.2.1.2]
    · change Inv N5
      obtain ⟨-, hK, -, -, hS, hV, hA⟩ := h
      have g0 : ∀ z, z ≠ 13 → N5 0 z = M 0 z := fun z hz => by rw [n5f 0 (by decide) (by decide) (by decide), e7, upm_at, upd_ne hz, hbf 0 (by decide), frM6 0 (by decide)]
      have gp : ∀ p, 7 < p → (p < 15 ∨ 22 < p) → p ≠ 46 → p ≠ 47 → p ≠ 50 → N5 p = M p := fun p a b c d e => by rw [n5f p c d e, frM7 p a b]
      refine ⟨⟨n', hR7.congr (fun j hj => n5f _ (by omega) (by omega) (by omega)) (fun j _ => by rw [n5 47 (by decide)])⟩, hK.of (g0 14 (by decide)) (n546 4 (by decide) (by decide) (by decide)) (fun p h1 h2 => gp p (by omega) (by omega) (by omega) (by omega) (by omega)) (gp 48 (by decide) (by decide) (by decide) (by decide) (by decide)), ⟨0, by decide, ?_, ?_, fun i hi => absurd hi (Nat.not_lt_zero i)⟩, ⟨0, by decide, ?_, ?_, fun i hi => absurd hi (by omega)⟩, hS.of (fun p h1 h2 => gp p (by omega) (by omega) (by omega) (by omega) (by omega)) (gp 57 (by decide) (by decide) (by decide) (by decide) (by decide)) (gp 58 (by decide) (by decide) (by decide) (by decide) (by decide)) (gp 59 (by decide) (by decide) (by decide) (by decide) (by decide)), hV.of (fun p h1 h2 => gp p (by omega) (by omega) (by omega) (by omega) (by omega)) (gp 60 (by decide) (by decide) (by decide) (by decide) (by decide)) (gp 61 (by decide) (by decide) (by decide) (by decide) (by decide)) (gp 62 (by decide) (by decide) (by decide) (by decide) (by decide)), hA.of (by rw [gp 26 (by decide) (by decide) (by decide) (by decide) (by decide)]) (n546 25 (by decide) (by decide) (by decide)) (gp 27 (by decide) (by decide) (by decide) (by decide) (by decide)) (gp 63 (by decide) (by decide) (by decide) (by decide) (by decide))⟩
      · rw [n5f 22 (by decide) (by decide) (by decide), e7, upm_ne (by decide), hbf 22 (by decide), e6, upm_at, upd_at]; rfl
      · rw [e5, upm_at, upd_ne (by decide), upm_at, upd_at]; rfl
      · rw [n5f 0 (by decide) (by decide) (by decide), e7, upm_at, upd_at]; rfl
      · rw [e5, upm_at, upd_at]; rfl
  · -- a fault
    have hneg : ¬ F < 0 := by rw [z2]; exact Int32.not_lt.mpr (nI_pos' (by omega))
    have w5 : mX5_city M = (-100 - F, M6) := by
      rw [u5]
      unfold mX5_city_32
      rw [if_neg hneg, ← e6]
    obtain ⟨Nf, y1, y2, y3, y4, y5, y6, y7, y8⟩ := ref M6 (fun p hp => frM6 p (by omega))
    obtain ⟨F', M5', N4, c1, c2, c3, c4, c5, c6, c7⟩ := tell_both tp 400 400 0 (rn isB t tp 0) M4 Nf 0 (by omega) (by omega) (by omega) (Nat.zero_le _) k1 (rn_idem (Nat.zero_le _)) y3 y4 (hR4.congr (fun _ _ => rfl) y5)
    have eq := q1.symm.trans c1
    obtain ⟨rfl, rfl⟩ := Prod.mk.inj eq
    rcases c7 with ⟨d0, _, _⟩ | ⟨q9, _, d1, d2, d3⟩
    case inl => exact absurd (by rw [d0]; decide) hneg
    obtain ⟨N5, e5⟩ : ∃ y, y = upm N4 46 6 0 := ⟨_, rfl⟩
    have w11 : ¬ N5 46 11 = 0 := by rw [e5, upm_at, upd_ne (by decide), d2]; decide
    obtain ⟨x1, x2⟩ := undo_eq N5
    have n8 : upr N5 47 (c56 (N5 50) (N5 47)) 46 8 = F := by rw [upr_ne (by decide), e5, upm_at, upd_ne (by decide), d3, d1]
    have w6 : mX6_city M6 = (-100 - F, upr N5 47 (c56 (N5 50) (N5 47))) := by
      rw [y1, c3]
      unfold mX6_city_50 mX6_city_73
      rw [← e5, if_neg w11, x1, n8]
    have p50 : PX6_city_50 N4 := by
      unfold PX6_city_50
      rw [← e5]
      exact fun _ => ⟨x2, trivial⟩
    have n5 : ∀ p, p ≠ 46 → p ≠ 47 → p ≠ 50 → N5 p = M6 p := fun p p1 p2 p3 => by rw [e5, upm_ne p1, c6.1 p p1 p2, y7 p p1 p2 p3]
    have n50 : ∀ j, j < 56 → N5 50 j = M 47 j := fun j hj => by rw [e5, upm_ne (by decide), c6.1 50 (by decide) (by decide)]; exact y6 j hj
    have n546 : ∀ z, z ≠ 6 → (z < 7 ∨ 11 < z) → N5 46 z = M 46 z := fun z z6 hz => by rw [e5, upm_at, upd_ne z6, c6.2 z hz, y8 z hz]
    unfold OKm
    rw [w5]
    dsimp only
    rw [w6]
    refine ⟨pu5 ?_, y2 (c4 p50), rfl, ?_⟩
    · unfold PX5_city_32
      exact fun z => absurd z hneg
    · change Inv (upr N5 47 (c56 (N5 50) (N5 47)))
      obtain ⟨N6, e9⟩ : ∃ y, y = upr N5 47 (c56 (N5 50) (N5 47)) := ⟨_, rfl⟩
      rw [← e9]
      have gp : ∀ p, (p < 15 ∨ 22 < p) → p ≠ 46 → p ≠ 47 → p ≠ 50 → N6 p = M p := fun p a b c d => by rw [e9, upr_ne c, n5 p b c d, frM6 p a]
      have g46 : ∀ z, z ≠ 6 → (z < 7 ∨ 11 < z) → N6 46 z = M 46 z := fun z z6 hz => by rw [e9, upr_ne (by decide)]; exact n546 z z6 hz
      have g47 : ∀ j, j < 56 → N6 47 j = M 47 j := fun j hj => by rw [e9, upr_at, c56_at hj]; exact n50 j hj
      obtain ⟨-, hK, -, hW, hS, hV, hA⟩ := h
      have g0 := gp 0 (by decide) (by decide) (by decide) (by decide)
      refine ⟨InvR.of hR (fun p h1 h2 => gp p (by omega) (by omega) (by omega) (by omega)) g47, hK.of (by rw [g0]) (g46 4 (by decide) (by decide)) (fun p h1 h2 => gp p (by omega) (by omega) (by omega) (by omega)) (gp 48 (by decide) (by decide) (by decide) (by decide)), ⟨0, by decide, ?_, ?_, fun i hi => absurd hi (Nat.not_lt_zero i)⟩, hW.of (by rw [g0]) (g46 17 (by decide) (by decide)) (gp 28 (by decide) (by decide) (by decide) (by decide)) (gp 56 (by decide) (by decide) (by decide) (by decide)), hS.of (fun p h1 h2 => gp p (by omega) (by omega) (by omega) (by omega)) (gp 57 (by decide) (by decide) (by decide) (by decide)) (gp 58 (by decide) (by decide) (by decide) (by decide)) (gp 59 (by decide) (by decide) (by decide) (by decide)), hV.of (fun p h1 h2 => gp p (by omega) (by omega) (by omega) (by omega)) (gp 60 (by decide) (by decide) (by decide) (by decide)) (gp 61 (by decide) (by decide) (by decide) (by decide)) (gp 62 (by decide) (by decide) (by decide) (by decide)), hA.of (by rw [gp 26 (by decide) (by decide) (by decide) (by decide)]) (g46 25 (by decide) (by decide)) (gp 27 (by decide) (by decide) (by decide) (by decide)) (gp 63 (by decide) (by decide) (by decide) (by decide))⟩
      · rw [e9, upr_ne (by decide), n5 22 (by decide) (by decide) (by decide), e6, upm_at, upd_at]; rfl
      · rw [e9, upr_ne (by decide), e5, upm_at, upd_at]; rfl
