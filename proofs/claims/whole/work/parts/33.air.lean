theorem R.push {M M5 : Mem} {b : Nat} {s s5 : Nat → Int32} {n : Nat} {a1 a2 a3 a4 : Int32} (h : R M b s n) (hn : n < 8) (k1 : KD a1) (k3 : HO a3) (k4 : HO a4)
    (h0 : M5 b = upd (M b) 6 (nI (n + 1))) (hb1 : M5 (b + 1) = M (b + 1)) (hb2 : M5 (b + 2) = M (b + 2)) (h3 : M5 (b + 3) = upd (M (b + 3)) n a1) (h4 : M5 (b + 4) = upd (M (b + 4)) n a2) (h5 : M5 (b + 5) = upd (M (b + 5)) n a3) (h6 : M5 (b + 6) = upd (M (b + 6)) n a4)
    (s0 : s5 0 = nI (n + 1)) (t1 : s5 (24 + 4 * n) = a1) (t2 : s5 (24 + 4 * n + 1) = a2) (t3 : s5 (24 + 4 * n + 2) = a3) (t4 : s5 (24 + 4 * n + 3) = a4) (hs : ∀ z, z ≠ 0 → (z < 24 + 4 * n ∨ 24 + 4 * n + 3 < z) → s5 z = s z) : R M5 b s5 (n + 1) := by
  obtain ⟨g1, ⟨g2, g3⟩, g4, g5, ⟨c1, ⟨c2, c3⟩, c4, c5, c6⟩, g6⟩ := h
  have z1 := hs 1 (by decide) (by omega)
  have z2 := hs 2 (by decide) (by omega)
  have z3 := hs 3 (by decide) (by omega)
  have z4 := hs 4 (by decide) (by omega)
  have z7 := hs 7 (by decide) (by omega)
  refine ⟨by omega, ⟨by rw [h0, upd_at], s0⟩, by rw [h0, upd_ne (by decide), z2]; exact g4, fun k hk => by rw [hb2, hs _ (by omega) (by omega)]; exact g5 k hk, ⟨by rw [h0, upd_ne (by decide), z1]; exact c1, ⟨by rw [h0, upd_ne (by decide), z3]; exact c2, by rw [z3]; exact c3⟩, fun k hk => by rw [hb1, hs _ (by omega) (by omega)]; exact c4 k hk, by rw [z4]; exact c5, by rw [z7]; exact c6⟩, fun i hi => ?_⟩
  unfold RA
  rw [h3, h4, h5, h6]
  by_cases e : i = n
  · subst e
    rw [upd_at, upd_at, upd_at, upd_at, t1, t2, t3, t4]
    exact ⟨rfl, rfl, rfl, rfl, k1, k3, k4⟩
  · rw [upd_ne e, upd_ne e, upd_ne e, upd_ne e, hs _ (by omega) (by omega), hs _ (by omega) (by omega), hs _ (by omega) (by omega), hs _ (by omega) (by omega)]
    exact g6 i (by omega)
theorem add_eq {M : Mem} {b n : Nat} {a1 a2 a3 a4 : Int32} (hb : M b 6 = nI n) (hn : n < 8) : ∃ M5, mX4_add b a1 a2 a3 a4 M = (true, M5) ∧ M5 b = upd (M b) 6 (nI (n + 1)) ∧ M5 (b + 1) = M (b + 1) ∧ M5 (b + 2) = M (b + 2) ∧ M5 (b + 3) = upd (M (b + 3)) n a1 ∧ M5 (b + 4) = upd (M (b + 4)) n a2 ∧ M5 (b + 5) = upd (M (b + 5)) n a3 ∧ M5 (b + 6) = upd (M (b + 6)) n a4 ∧ (∀ p, p < b ∨ b + 6 < p → M5 p = M p) ∧ PX4_add b a1 a2 a3 a4 M := by
  have hc : M b 6 < 8 := by rw [hb]; exact nI_lt (b := 8) hn (by decide)
  have hv : vp_in (M b 6) 8 := by rw [hb]; exact vin hn (by decide)
  have e : mX4_add b a1 a2 a3 a4 M = (true, upm (upm (upm (upm (upm M (b + 3) n a1) (b + 4) n a2) (b + 5) n a3) (b + 6) n a4) b 6 (nI (n + 1))) := by
    unfold mX4_add
    rw [if_pos hc]
    have r1 : ∀ (A : Mem) (p k : Nat) (x : Int32), p ≠ b → upm A p k x b = A b := fun A p k x hp => upm_ne (Ne.symm hp)
    simp only [r1 _ _ _ _ (show b + 3 ≠ b by omega), r1 _ _ _ _ (show b + 4 ≠ b by omega), r1 _ _ _ _ (show b + 5 ≠ b by omega), r1 _ _ _ _ (show b + 6 ≠ b by omega), hb, nIc (show n < 2 ^ 31 by omega), ← nI_succ]
  refine ⟨_, e, ?_, ?_, ?_, ?_, ?_, ?_, ?_, fun p hp => ?_, ?_⟩
  · rw [upm_at, upm_ne (by omega), upm_ne (by omega), upm_ne (by omega), upm_ne (by omega)]
  · rw [upm_ne (by omega), upm_ne (by omega), upm_ne (by omega), upm_ne (by omega), upm_ne (by omega)]
  · rw [upm_ne (by omega), upm_ne (by omega), upm_ne (by omega), upm_ne (by omega), upm_ne (by omega)]
  · rw [upm_ne (by omega), upm_ne (by omega), upm_ne (by omega), upm_ne (by omega), upm_at]
  · rw [upm_ne (by omega), upm_ne (by omega), upm_ne (by omega), upm_at, upm_ne (by omega)]
  · rw [upm_ne (by omega), upm_ne (by omega), upm_at, upm_ne (by omega), upm_ne (by omega)]
  · rw [upm_ne (by omega), upm_at, upm_ne (by omega), upm_ne (by omega), upm_ne (by omega)]
  · rw [upm_ne (by omega), upm_ne (by omega), upm_ne (by omega), upm_ne (by omega), upm_ne (by omega)]
  · unfold PX4_add
    have r1 : ∀ (A : Mem) (p k : Nat) (x : Int32), p ≠ b → upm A p k x b = A b := fun A p k x hp => upm_ne (Ne.symm hp)
    simp only [r1 _ _ _ _ (show b + 3 ≠ b by omega), r1 _ _ _ _ (show b + 4 ≠ b by omega), r1 _ _ _ _ (show b + 5 ≠ b by omega), r1 _ _ _ _ (show b + 6 ≠ b by omega)]
    exact fun _ => ⟨hv, hv, hv, hv⟩
def comeS (s : Nat → Int32) (n : Nat) (a1 a2 a3 a4 : Int32) : Nat → Int32 := upd (upd (upd (upd (upd s (24 + 4 * n) a1) (24 + 4 * n + 1) a2) (24 + 4 * n + 2) a3) (24 + 4 * n + 3) a4) 0 (nI (n + 1))
theorem comes_eq {N : Mem} {n : Nat} {a1 a2 a3 a4 : Int32} (hb : N 47 0 = nI n) (hn : n < 8) : mX6_comes a1 a2 a3 a4 N = upr N 47 (comeS (N 47) n a1 a2 a3 a4) ∧ PX6_comes a1 a2 a3 a4 N := by
  constructor
  · unfold mX6_comes
    rw [hb, ix1 n hn, ix2 n hn, ix3 n hn, ixk n hn]
    have e : upm (upm (upm (upm N 47 (24 + 4 * n) a1) 47 (24 + 4 * n + 1) a2) 47 (24 + 4 * n + 2) a3) 47 (24 + 4 * n + 3) a4 47 0 = nI n := by
      rw [upm_at, upd_ne (by omega), upm_at, upd_ne (by omega), upm_at, upd_ne (by omega), upm_at, upd_ne (by omega)]
      exact hb
    rw [e, ← nI_succ]
    funext q
    by_cases hq : q = 47
    · subst hq
      rw [upr_at, upm_at, upm_at, upm_at, upm_at, upm_at]
      rfl
    · rw [upr_ne hq, upm_ne hq, upm_ne hq, upm_ne hq, upm_ne hq, upm_ne hq]
  · unfold PX6_comes
    rw [hb]
    exact ⟨ixnk n hn, ixn1 n hn, ixn2 n hn, ixn3 n hn⟩
theorem come_R {M M5 : Mem} {b n : Nat} {s : Nat → Int32} {a1 a2 a3 a4 : Int32} (h : R M b s n) (hn : n < 8) (k1 : KD a1) (k3 : HO a3) (k4 : HO a4)
    (h0 : M5 b = upd (M b) 6 (nI (n + 1))) (hb1 : M5 (b + 1) = M (b + 1)) (hb2 : M5 (b + 2) = M (b + 2)) (h3 : M5 (b + 3) = upd (M (b + 3)) n a1) (h4 : M5 (b + 4) = upd (M (b + 4)) n a2) (h5 : M5 (b + 5) = upd (M (b + 5)) n a3) (h6 : M5 (b + 6) = upd (M (b + 6)) n a4) : R M5 b (comeS s n a1 a2 a3 a4) (n + 1) := by
  unfold comeS
  refine h.push hn k1 k3 k4 h0 hb1 hb2 h3 h4 h5 h6 (by rw [upd_at]) ?_ ?_ ?_ ?_ (fun z z0 hz => ?_)
  · rw [upd_ne (by omega), upd_ne (by omega), upd_ne (by omega), upd_ne (by omega), upd_at]
  · rw [upd_ne (by omega), upd_ne (by omega), upd_ne (by omega), upd_at]
  · rw [upd_ne (by omega), upd_ne (by omega), upd_at]
  · rw [upd_ne (by omega), upd_at]
  · rw [upd_ne z0, upd_ne (by omega), upd_ne (by omega), upd_ne (by omega), upd_ne (by omega)]
theorem ok_air {M : Mem} (a1 a2 a3 a4 : Int32) (h : Inv M) : OKm (PX5_air a1 a2 a3 a4) (mX5_air a1 a2 a3 a4) (PX6_air a1 a2 a3 a4) (mX6_air a1 a2 a3 a4) M := by
  obtain ⟨n, hR⟩ := h.1
  have hn := hR.1
  unfold OKm mX5_air PX5_air mX6_air PX6_air
  simp only [isKind_eq, isForce_eq, ← isHouse_eq]
  by_cases c1 : mX5_isKind a1 = true
  · by_cases c2 : mX5_isForce a2 = true
    · by_cases c3 : mX5_isHouse a3 = true
      · by_cases c4 : mX5_isHouse a4 = true
        · simp only [c1, c2, c3, c4, if_true]
          unfold mX5_air_43 PX5_air_43 mX6_air_64 PX6_air_64
          by_cases h8 : n = 8
          · subst h8
            have hc : ¬ M 1 6 < 8 := by rw [hR.2.1.1]; decide
            have e : mX4_add 1 a1 a2 a3 a4 M = (false, M) := by
              unfold mX4_add
              rw [if_neg hc]
            have e2 : M 47 0 = 8 := hR.2.1.2
            rw [e]
            simp only [show b2i false = 0 from rfl, if_true, e2]
            refine ⟨fun _ _ _ _ => ⟨?_, trivial⟩, fun _ _ _ _ q => absurd trivial q, trivial, h⟩
            unfold PX4_add
            exact fun q => absurd q hc
          · have hl : n < 8 := by omega
            obtain ⟨M5, e, m0, m1, m2, m3, m4, m5, m6, mf, mp⟩ := add_eq (b := 1) (a1 := a1) (a2 := a2) (a3 := a3) (a4 := a4) hR.2.1.1 hl
            have s47 : M5 47 = M 47 := mf 47 (by omega)
            have e0 : M5 47 0 = nI n := by rw [s47]; exact hR.2.1.2
            have n8 : ¬ M5 47 0 = 8 := by
              rw [e0]
              intro q
              exact h8 ((nI_inj (a := n) (b := 8) (by omega) (by decide)).mp q)
            obtain ⟨g1, g2⟩ := comes_eq (a1 := a1) (a2 := a2) (a3 := a3) (a4 := a4) e0 hl
            have r : R M5 1 (comeS (M 47) n a1 a2 a3 a4) (n + 1) := come_R hR hl (kind_n c1) (house_n c3) (house_n c4) m0 m1 m2 m3 m4 m5 m6
            rw [e]
            simp only [show ¬ b2i true = 0 by decide, if_false, n8, g1]
            refine ⟨fun _ _ _ _ => ⟨mp, trivial⟩, fun _ _ _ _ _ => ⟨g2, trivial⟩, ?_, ?_⟩
            · rw [upr_at, s47, r.2.1.1, r.2.1.2]
            · refine h.now (fun p hp h7 => ?_) ⟨n + 1, r.congr (fun j hj => upr_ne (by omega)) (fun k hk => by rw [upr_at, s47])⟩
              unfold PS at hp
              rw [upr_ne (by omega)]
              exact mf p (by omega)
        · simp only [c1, c2, c3, if_true, if_neg c4]
          exact ⟨fun _ _ _ q => absurd q c4, fun _ _ _ q => absurd q c4, trivial, h⟩
      · simp only [c1, c2, if_true, if_neg c3]
        exact ⟨fun _ _ q => absurd q c3, fun _ _ q => absurd q c3, trivial, h⟩
    · simp only [c1, if_true, if_neg c2]
      exact ⟨fun _ q => absurd q c2, fun _ q => absurd q c2, trivial, h⟩
  · simp only [if_neg c1]
    exact ⟨fun q => absurd q c1, fun q => absurd q c1, trivial, h⟩
theorem ok_mind {M : Mem} (a c f : Int32) (h : Inv M) : OKm (PX5_mind a c f) (mX5_mind a c f) (PX6_mind a c f) (mX6_mind a c f) M := by
  obtain ⟨n, hR⟩ := h.1
  have hn := hR.1
  obtain ⟨e1, e2⟩ := has_eq (M := M) (N := M) (b := 1) (a := a) hR.2.1.1 hR.2.1.2 hn
  unfold OKm mX5_mind mX6_mind PX5_mind PX6_mind mX6_becomes PX6_becomes
  simp only [isKind_eq, isForce_eq]
  by_cases hh : mX4_has 1 a M = true
  · by_cases hc : mX5_isKind c = true
    · by_cases hf : mX5_isForce f = true
      · obtain ⟨o, ho, rfl⟩ := e2 hh
        have h8 : o < 8 := by omega
        have i1 : mX6_isOne (nI o) (upm (upm M 4 o c) 5 o f) = true := by
          unfold mX6_isOne at e1 ⊢
          rw [upm_ne (by decide), upm_ne (by decide), ← e1]; exact hh
        simp only [hh, hc, hf, if_true, nIc (show o < 2 ^ 31 by omega), i1, ix1 o h8, ixk o h8]
        have r1 := hR.air (j := 0) (w := c) ho (by decide) (fun _ => kind_n hc) (fun q => absurd q (by decide))
        have r2 := r1.air (j := 1) (w := f) ho (by decide) (fun q => absurd q (by decide)) (fun q => absurd q (by decide))
        refine ⟨fun _ _ _ => ⟨vin h8 (by decide), vin h8 (by decide), vin h8 (by decide)⟩, fun _ _ _ => ⟨ixn1 o h8, ixnk o h8, ixnk o h8⟩, ?_, ?_⟩
        · rw [upm_at, upd_ne (by omega), upm_ne (by decide), upm_ne (by decide)]
          exact (hR.ra ho).1
        · refine h.now (fun p hp h7 => ?_) ⟨n, r2.congr (fun j hj => ?_) (fun k hk => ?_)⟩
          · unfold PS at hp
            rw [upm_ne (by omega), upm_ne (by omega), upm_ne (by omega), upm_ne (by omega)]
          · rw [upm_ne (by omega), upm_ne (by omega)]
          · rw [upm_at, upm_at, upm_ne (by decide), upm_ne (by decide)]
            show upd (upd (M 47) (24 + 4 * o + 1) f) (24 + 4 * o) c k = upd (upd (M 47) (24 + 4 * o) c) (24 + 4 * o + 1) f k
            by_cases z1 : k = 24 + 4 * o
            · subst z1
              rw [upd_at, upd_ne (by omega), upd_at]
            · rw [upd_ne z1]
              by_cases z2 : k = 24 + 4 * o + 1
              · subst z2
                rw [upd_at, upd_at]
              · rw [upd_ne z2, upd_ne z2, upd_ne z1]
      · simp only [hh, hc, if_true, if_neg hf, ← e1]
        exact ⟨fun _ _ q => absurd q hf, fun _ _ q => absurd q hf, trivial, h⟩
    · simp only [hh, if_true, if_neg hc, ← e1]
      exact ⟨fun _ q => absurd q hc, fun _ q => absurd q hc, trivial, h⟩
  · simp only [if_neg hh, ← e1]
    exact ⟨fun q => absurd q hh, fun q => absurd q hh, trivial, h⟩
