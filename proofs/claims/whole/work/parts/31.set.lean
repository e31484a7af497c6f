/-! WHAT SETS ONE THING OF THE CITY -/
theorem Inv.now {M M' : Mem} (h : Inv M) (hF : ∀ p, PS p → (p = 0 ∨ 7 < p) → M' p = M p) (hR : ∃ n, R M' 1 (M' 47) n) : Inv M' := by
  have g := fun p (hp : PS p) (h7 : p = 0 ∨ 7 < p) => hF p hp h7
  have p0 := g 0 (by unfold PS; omega) (by omega)
  have p46 := g 46 (by unfold PS; omega) (by omega)
  obtain ⟨-, hK, hT, hW, hS, hV, hA⟩ := h
  refine ⟨hR, ?_, ?_, ?_, ?_, ?_, ?_⟩
  · unfold InvK at hK ⊢
    rw [p0, p46]
    refine ⟨hK.1, hK.2.imp id (fun ⟨a, m, b⟩ => ⟨a, m, b.congr (fun j hj => g _ (by unfold PS; omega) (by omega)) (fun k _ => by rw [g 48 (by unfold PS; omega) (by omega)])⟩)⟩
  · unfold InvT at hT ⊢
    rw [g 22 (by unfold PS; omega) (by omega), p46, g 23 (by unfold PS; omega) (by omega), g 51 (by unfold PS; omega) (by omega)]
    exact hT
  · unfold InvW at hW ⊢
    rw [p0, p46, g 28 (by unfold PS; omega) (by omega), g 56 (by unfold PS; omega) (by omega)]
    exact hW
  · intro t ht
    rw [g (34 + 2 * t) (by unfold PS; omega) (by omega), g (34 + 2 * t + 1) (by unfold PS; omega) (by omega), g 57 (by unfold PS; omega) (by omega), g 58 (by unfold PS; omega) (by omega), g 59 (by unfold PS; omega) (by omega)]
    exact hS t ht
  · intro v hv
    rw [g (42 + v) (by unfold PS; omega) (by omega), g 60 (by unfold PS; omega) (by omega), g 61 (by unfold PS; omega) (by omega), g 62 (by unfold PS; omega) (by omega)]
    exact hV v hv
  · unfold InvA at hA ⊢
    rw [g 26 (by unfold PS; omega) (by omega), p46, g 27 (by unfold PS; omega) (by omega), g 63 (by unfold PS; omega) (by omega)]
    exact hA
theorem set_ok {M : Mem} {n p k k' : Nat} {w w' : Int32} (h : Inv M) (hp : 1 ≤ p ∧ p ≤ 7) (hR : R (upm M p k w) 1 (upd (M 47) k' w') n) : Inv (upm (upm M p k w) 47 k' w') := by
  refine h.now (fun q hq h7 => ?_) ⟨n, hR.congr (fun j hj => upm_ne (by omega)) (fun j hj => ?_)⟩
  · unfold PS at hq
    rw [upm_ne (by omega), upm_ne (by omega)]
  · rw [upm_at, upm_ne (by omega)]
theorem isHouse_eq (a : Int32) : mX5_isHouse a = mX6_isHouse a := by
  unfold mX5_isHouse mX5_isWithin mX6_isHouse
  have e15 : (15 : Int32).toInt = 15 := by decide
  have e16 : (16 : Int32).toInt = 16 := by decide
  simp only [Int32.lt_iff_toInt_lt, Int32.le_iff_toInt_le, e15, e16]
  have e : (15 < a.toInt) = (16 ≤ a.toInt) := by
    apply propext
    omega
  simp only [e]
theorem house_n {a : Int32} (h : mX5_isHouse a = true) : ∃ k, k < 16 ∧ a = nI k := by
  obtain ⟨k, hk, e⟩ := within_n (m := 15) (by decide) h
  exact ⟨k, by omega, e⟩
theorem kind_n {a : Int32} (h : mX5_isKind a = true) : ∃ k, k < 6 ∧ a = nI k := by
  obtain ⟨k, hk, e⟩ := within_n (m := 5) (by decide) h
  exact ⟨k, by omega, e⟩
theorem isKind_eq (a : Int32) : mX6_isIn a.toInt64 0 5 = mX5_isKind a := isIn_eq a 0 5
theorem isForce_eq (a : Int32) : mX6_isIn a.toInt64 0 9 = mX5_isForce a := isIn_eq a 0 9
theorem ok_bring {M : Mem} (a c : Int32) (h : Inv M) : OKm (PX5_bring a c) (mX5_bring a c) (PX6_bring a c) (mX6_bring a c) M := by
  obtain ⟨n, hR⟩ := h.1
  have hn := hR.1
  obtain ⟨e1, e2⟩ := has_eq (M := M) (N := M) (b := 1) (a := a) hR.2.1.1 hR.2.1.2 hn
  have eh := isHouse_eq c
  unfold OKm mX5_bring mX6_bring PX5_bring PX6_bring mX6_bring_28 PX6_bring_28 mX6_becomes PX6_becomes
  by_cases hh : mX4_has 1 a M = true
  · by_cases hc : mX5_isHouse c = true
    · obtain ⟨o, ho, rfl⟩ := e2 hh
      obtain ⟨k, hk, rfl⟩ := house_n hc
      have h8 : o < 8 := by omega
      have i1 : mX6_isOne (nI o) (upm M 7 o (nI k)) = true := by
        unfold mX6_isOne at e1 ⊢
        rw [upm_ne (by decide), ← e1]; exact hh
      have ek : mX6_isHouse (nI k) = true := by rw [← eh]; exact hc
      rw [if_pos hh, if_pos hc, nIc (show o < 2 ^ 31 by omega)]
      simp only [i1, ek, if_true, ix3 o h8]
      refine ⟨fun _ _ => ⟨vin h8 (by decide), vin h8 (by decide)⟩, fun _ _ => ⟨⟨ixn3 o h8, ixn3 o h8⟩, trivial⟩, ?_, ?_⟩
      · rw [upm_ne (by decide)]
        exact (hR.ra ho).2.2.2.1
      · exact set_ok h (by decide) (hR.air (j := 3) ho (by decide) (fun q => by cases q) (fun _ => ⟨k, hk, rfl⟩))
    · rw [if_pos hh, if_neg hc]
      refine ⟨fun _ q => absurd q hc, fun _ q => absurd q (by rw [← eh]; exact hc), ?_, ?_⟩
      · rw [← e1, if_pos hh, ← eh, if_neg hc]
      · rw [← e1, if_pos hh, ← eh, if_neg hc]; exact h
  · rw [if_neg hh]
    refine ⟨fun q => absurd q hh, fun q => absurd q (by rw [← e1]; exact hh), ?_, ?_⟩
    · rw [← e1, if_neg hh]
    · rw [← e1, if_neg hh]; exact h
theorem ok_send {M : Mem} (a c : Int32) (h : Inv M) : OKm (PX5_send a c) (mX5_send a c) (PX6_send a c) (mX6_send a c) M := by
  obtain ⟨n, hR⟩ := h.1
  have hn := hR.1
  obtain ⟨e1, e2⟩ := has_eq (M := M) (N := M) (b := 1) (a := a) hR.2.1.1 hR.2.1.2 hn
  have eh := isHouse_eq c
  unfold OKm mX5_send mX6_send PX5_send PX6_send mX6_send_28 PX6_send_28 mX6_becomes PX6_becomes
  by_cases hh : mX4_has 1 a M = true
  · by_cases hc : mX5_isHouse c = true
    · obtain ⟨o, ho, rfl⟩ := e2 hh
      obtain ⟨k, hk, rfl⟩ := house_n hc
      have h8 : o < 8 := by omega
      have i1 : mX6_isOne (nI o) (upm M 6 o (nI k)) = true := by
        unfold mX6_isOne at e1 ⊢
        rw [upm_ne (by decide), ← e1]; exact hh
      have ek : mX6_isHouse (nI k) = true := by rw [← eh]; exact hc
      rw [if_pos hh, if_pos hc, nIc (show o < 2 ^ 31 by omega)]
      simp only [i1, ek, if_true, ix2 o h8]
      refine ⟨fun _ _ => ⟨vin h8 (by decide), vin h8 (by decide)⟩, fun _ _ => ⟨⟨ixn2 o h8, ixn2 o h8⟩, trivial⟩, ?_, ?_⟩
      · rw [upm_ne (by decide)]
        exact (hR.ra ho).2.2.1
      · exact set_ok h (by decide) (hR.air (j := 2) ho (by decide) (fun q => by cases q) (fun _ => ⟨k, hk, rfl⟩))
    · rw [if_pos hh, if_neg hc]
      refine ⟨fun _ q => absurd q hc, fun _ q => absurd q (by rw [← eh]; exact hc), ?_, ?_⟩
      · rw [← e1, if_pos hh, ← eh, if_neg hc]
      · rw [← e1, if_pos hh, ← eh, if_neg hc]; exact h
  · rw [if_neg hh]
    refine ⟨fun q => absurd q hh, fun q => absurd q (by rw [← e1]; exact hh), ?_, ?_⟩
    · rw [← e1, if_neg hh]
    · rw [← e1, if_neg hh]; exact h
theorem ok_seed {M : Mem} (a : Int32) (h : Inv M) : OKm (fun _ => True) (mX5_seed a) (PX6_seed a) (mX6_seed a) M := by
  obtain ⟨n, hR⟩ := h.1
  unfold OKm mX5_seed mX6_seed PX6_seed mX6_becomes PX6_becomes
  have e2 : (2 : Int32).toNatClampNeg = 2 := by decide
  have v2 : vp_in 2 56 := vin_l (by decide) (by decide)
  simp only [e2]
  refine ⟨trivial, ⟨v2, v2⟩, ?_, ?_⟩
  · rw [upm_ne (by decide)]
    exact hR.2.2.1
  · exact set_ok h (by decide) hR.zed
theorem ok_blow {M : Mem} (a : Int32) (h : Inv M) : OKm (fun _ => True) (mX5_blow a) (PX6_blow a) (mX6_blow a) M := by
  obtain ⟨n, hR⟩ := h.1
  have ei : mX6_isIn a.toInt64 0 3 = mX5_isWithin a 0 3 := isIn_eq a 0 3
  have e3 : (3 : Int32).toNatClampNeg = 3 := by decide
  have v3 : vp_in 3 56 := vin_l (by decide) (by decide)
  unfold OKm mX5_blow mX6_blow PX6_blow mX6_blow_18 PX6_blow_18 mX6_becomes PX6_becomes
  rw [ei]
  by_cases hc : mX5_isWithin a 0 3 = true
  · obtain ⟨k, hk, rfl⟩ := within_n (m := 3) (by decide) hc
    simp only [hc, if_true, e3]
    refine ⟨trivial, fun _ => ⟨⟨v3, v3⟩, trivial⟩, ?_, ?_⟩
    · rw [upm_ne (by decide)]
      exact hR.rc.2.1.1
    · exact set_ok h (by decide) (hR.wind ⟨k, by omega, rfl⟩)
  · simp only [if_neg hc]
    exact ⟨trivial, fun q => absurd q hc, trivial, h⟩
theorem ok_pour {M : Mem} (a c : Int32) (h : Inv M) : OKm (PX5_pour a c) (mX5_pour a c) (PX6_pour a c) (mX6_pour a c) M := by
  obtain ⟨n, hR⟩ := h.1
  have ei : mX6_isIn c.toInt64 0 99 = mX5_isWithin c 0 99 := isIn_eq c 0 99
  unfold OKm mX5_pour mX6_pour PX5_pour PX6_pour mX6_pour_28 PX6_pour_28 mX6_becomes PX6_becomes
  rw [ei, ← isHouse_eq a]
  by_cases hh : mX5_isHouse a = true
  · by_cases hc : mX5_isWithin c 0 99 = true
    · obtain ⟨k, hk, rfl⟩ := house_n hh
      simp only [hh, hc, if_true, nIc (show k < 2 ^ 31 by omega), ixw k hk]
      refine ⟨fun _ _ => ⟨vin hk (by decide), vin hk (by decide)⟩, fun _ _ => ⟨⟨ixnw k hk, ixnw k hk⟩, trivial⟩, ?_, ?_⟩
      · rw [upm_ne (by decide)]
        exact hR.2.2.2.1 k hk
      · exact set_ok h (by decide) (hR.wet hk)
    · simp only [hh, if_true, if_neg hc]
      exact ⟨fun _ q => absurd q hc, fun _ q => absurd q hc, trivial, h⟩
  · simp only [if_neg hh]
    exact ⟨fun q => absurd q hh, fun q => absurd q hh, trivial, h⟩
