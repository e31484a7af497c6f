/-! SHELVES -/
theorem InvV.one {M M' : Mem} (h : InvV M) {t : Nat} (g : ∀ p, 42 ≤ p → p ≤ 45 → p ≠ 42 + t → M' p = M p) (e60 : ∀ k, k ≠ t → M' 60 k = M 60 k) (e61 : ∀ k, k ≠ t → M' 61 k = M 61 k) (e62 : ∀ k, k ≠ t → M' 62 k = M 62 k)
    (hT : (M' (42 + t) 0 = 0 ∧ M' 60 t = 1 ∧ M' (42 + t) 1 = M' 61 t ∧ ∃ k, k < 8 ∧ M' 61 t = nI k) ∨ (M' (42 + t) 0 = 1 ∧ M' 60 t = 2 ∧ M' (42 + t) 2 = M' 61 t ∧ (∃ so, so < 4 ∧ M' 61 t = nI so) ∧ M' (42 + t) 3 = M' 62 t ∧ ∃ sz, sz ≤ 40 ∧ M' 62 t = nI sz) ∨ (M' (42 + t) 0 = 2 ∧ M' 60 t = 0)) : InvV M' := by
  intro u hu
  by_cases e : u = t
  · subst e; exact hT
  · rw [g (42 + u) (by omega) (by omega) (by omega), e60 u e, e61 u e, e62 u e]
    exact h u hu
theorem shelf_inv {M M1 : Mem} {t : Nat} {x y z : Int32} (h : Inv M) (ht : t < 4) (f1 : ∀ p, p ≠ 42 + t → M1 p = M p)
    (hT : (M1 (42 + t) 0 = 0 ∧ x = 1 ∧ M1 (42 + t) 1 = y ∧ ∃ k, k < 8 ∧ y = nI k) ∨ (M1 (42 + t) 0 = 1 ∧ x = 2 ∧ M1 (42 + t) 2 = y ∧ (∃ so, so < 4 ∧ y = nI so) ∧ M1 (42 + t) 3 = z ∧ ∃ sz, sz ≤ 40 ∧ z = nI sz) ∨ (M1 (42 + t) 0 = 2 ∧ x = 0)) : Inv (upm (upm (upm M1 60 t x) 61 t y) 62 t z) := by
  obtain ⟨⟨n, hR⟩, hK, hTp, hW, hS, hV, hA⟩ := h
  have g : ∀ p, p ≠ 42 + t → p ≠ 60 → p ≠ 61 → p ≠ 62 → upm (upm (upm M1 60 t x) 61 t y) 62 t z p = M p := fun p a b c d => by rw [upm_ne d, upm_ne c, upm_ne b, f1 p a]
  have s : ∀ p, 42 ≤ p → p ≤ 45 → upm (upm (upm M1 60 t x) 61 t y) 62 t z p = M1 p := fun p a b => by rw [upm_ne (by omega), upm_ne (by omega), upm_ne (by omega)]
  have g0 := g 0 (by omega) (by decide) (by decide) (by decide)
  have g46 := g 46 (by omega) (by decide) (by decide) (by decide)
  have q60 : ∀ k, upm (upm (upm M1 60 t x) 61 t y) 62 t z 60 k = upd (M 60) t x k := fun k => by rw [upm_ne (by decide), upm_ne (by decide), upm_at, f1 60 (by omega)]
  have q61 : ∀ k, upm (upm (upm M1 60 t x) 61 t y) 62 t z 61 k = upd (M 61) t y k := fun k => by rw [upm_ne (by decide), upm_at, upm_ne (by decide), f1 61 (by omega)]
  have q62 : ∀ k, upm (upm (upm M1 60 t x) 61 t y) 62 t z 62 k = upd (M 62) t z k := fun k => by rw [upm_at, upm_ne (by decide), upm_ne (by decide), f1 62 (by omega)]
  refine ⟨InvR.of hR (fun p h1 h2 => g p (by omega) (by omega) (by omega) (by omega)) (fun k _ => by rw [g 47 (by omega) (by decide) (by decide) (by decide)]), hK.of (by rw [g0]) (by rw [g46]) (fun p h1 h2 => g p (by omega) (by omega) (by omega) (by omega)) (g 48 (by omega) (by decide) (by decide) (by decide)), hTp.of (by rw [g 22 (by omega) (by decide) (by decide) (by decide)]) (by rw [g46]) (g 23 (by omega) (by decide) (by decide) (by decide)) (g 51 (by omega) (by decide) (by decide) (by decide)), hW.of (by rw [g0]) (by rw [g46]) (g 28 (by omega) (by decide) (by decide) (by decide)) (g 56 (by omega) (by decide) (by decide) (by decide)), hS.of (fun p h1 h2 => g p (by omega) (by omega) (by omega) (by omega)) (g 57 (by omega) (by decide) (by decide) (by decide)) (g 58 (by omega) (by decide) (by decide) (by decide)) (g 59 (by omega) (by decide) (by decide) (by decide)), ?_, hA.of (by rw [g 26 (by omega) (by decide) (by decide) (by decide)]) (by rw [g46]) (g 27 (by omega) (by decide) (by decide) (by decide)) (g 63 (by omega) (by decide) (by decide) (by decide))⟩
  refine hV.one (t := t) (fun p h1 h2 h3 => g p h3 (by omega) (by omega) (by omega)) (fun k hk => by rw [q60, upd_ne hk]) (fun k hk => by rw [q61, upd_ne hk]) (fun k hk => by rw [q62, upd_ne hk]) ?_
  rw [s (42 + t) (by omega) (by omega), q60, q61, q62, upd_at, upd_at, upd_at]
  exact hT
theorem shelf89 {t : Nat} (ht : t < 4) (v2 v3 v4 k0 : Int32) (N : Mem) (h3 : v4 = 0 ∨ vp_in v3 4) :
    mX6_shelf_89 (nI t) v2 v3 v4 k0 (nI t) N = (1, upm (upm (upm N 60 t k0) 61 t (if v2 = 0 then v3 else if v4 = 0 then 0 else N 57 v3.toNatClampNeg)) 62 t (if v4 = 0 then 0 else N 58 v3.toNatClampNeg)) ∧ PX6_shelf_89 (nI t) v2 v3 v4 k0 (nI t) N := by
  have hv : vp_in (nI t) 4 := vin ht (by decide)
  have ct : (nI t).toNatClampNeg = t := nIc (by omega)
  have a57 : ∀ k, upm N 60 t k0 57 k = N 57 k := fun k => by rw [upm_ne (by decide)]
  have a58 : ∀ y k, upm (upm N 60 t k0) 61 t y 58 k = N 58 k := fun y k => by rw [upm_ne (by decide), upm_ne (by decide)]
  unfold mX6_shelf_89 mX6_shelf_118 mX6_shelf_139 PX6_shelf_89 PX6_shelf_118 PX6_shelf_139
  rw [ct]
  simp only [a57, a58]
  constructor
  · by_cases q2 : v2 = 0
    · rw [if_pos q2, if_pos q2]
      by_cases q4 : v4 = 0
      · rw [if_pos q4, if_pos q4]
      · rw [if_neg q4, if_neg q4]
    · rw [if_neg q2, if_neg q2]
      by_cases q4 : v4 = 0
      · rw [if_pos q4, if_pos q4, if_pos q4, if_pos q4]
      · rw [if_neg q4, if_neg q4, if_neg q4, if_neg q4]
  · have k3 : ¬ v4 = 0 → vp_in v3 4 := fun q => h3.resolve_left q
    exact ⟨hv, fun _ => ⟨hv, fun _ => hv, fun q => ⟨k3 q, hv⟩⟩, fun _ => ⟨fun _ => ⟨hv, fun _ => hv, fun q => ⟨k3 q, hv⟩⟩, fun q => ⟨k3 q, hv, fun _ => hv, fun q => ⟨k3 q, hv⟩⟩⟩⟩
theorem isIn2 (a : Int32) : mX6_isIn a.toInt64 0 2 = true ↔ a = 0 ∨ a = 1 ∨ a = 2 := by
  rw [show mX6_isIn a.toInt64 0 2 = mX5_isWithin a 0 2 from isIn_eq a 0 2]
  constructor
  · intro h
    obtain ⟨k, hk, rfl⟩ := within_n (m := 2) (by decide) h
    have : k = 0 ∨ k = 1 ∨ k = 2 := by omega
    rcases this with rfl | rfl | rfl
    · exact Or.inl rfl
    · exact Or.inr (Or.inl rfl)
    · exact Or.inr (Or.inr rfl)
  · rintro (rfl | rfl | rfl) <;> decide
theorem ok_shelf {M : Mem} (a b c : Int32) (h : Inv M) : OKm (PX5_shelf a b c) (mX5_shelf a b c) (PX6_shelf a b c) (mX6_shelf a b c) M := by
  have es := isShelf_iff a
  by_cases hh : 0 ≤ a ∧ a ≤ 3
  case neg =>
    have hh6 : ¬ mX6_isShelf a = true := fun q => hh (es.mp q)
    unfold OKm mX5_shelf mX6_shelf PX5_shelf PX6_shelf
    rw [if_neg hh]
    dsimp only
    rw [if_neg hh6]
    exact ⟨fun q => absurd q hh, fun q => absurd q hh6, rfl, h⟩
  have hh6 := es.mpr hh
  obtain ⟨t, ht, rfl⟩ := sheet_n hh
  have n10 : ¬ (1 : Int32) = 0 := by decide
  have n20 : ¬ (2 : Int32) = 0 := by decide
  have n21 : ¬ (2 : Int32) = 1 := by decide
  have p00 : (0 : Int32) = 0 := rfl
  have p11 : (1 : Int32) = 1 := rfl
  have p22 : (2 : Int32) = 2 := rfl
  have n01 : ¬ (0 : Int32) = 1 := by decide
  by_cases b0 : b = 0
  · subst b0
    have in2 : mX6_isIn (0 : Int32).toInt64 0 2 = true := (isIn2 0).mpr (Or.inl rfl)
    obtain ⟨n, hR⟩ := h.1
    have hn := hR.1
    obtain ⟨e1, e2⟩ := has_eq (M := M) (N := M) (b := 1) (a := c) hR.2.1.1 hR.2.1.2 hn
    by_cases hc : mX4_has 1 c M = true
    · obtain ⟨o, ho, rfl⟩ := e2 hc
      have hc6 : mX6_isOne (nI o) M = true := by rw [← e1]; exact hc
      have u5 : mX5_shelf (nI t) 0 (nI o) M = (1, upm (upm M (42 + t) 0 0) (42 + t) 1 (nI o)) := by
        unfold mX5_shelf
        rw [if_pos hh, if_pos p00, if_pos hc, vpl_n ht]
        rfl
      have f1 : ∀ p, p ≠ 42 + t → upm (upm M (42 + t) 0 0) (42 + t) 1 (nI o) p = M p := fun p hp => by rw [upm_ne hp, upm_ne hp]
      obtain ⟨M1, e⟩ : ∃ y, y = upm (upm M (42 + t) 0 0) (42 + t) 1 (nI o) := ⟨_, rfl⟩
      have m0 : M1 (42 + t) 0 = 0 := by rw [e, upm_at, upd_ne (by decide), upm_at, upd_at]
      have m1 : M1 (42 + t) 1 = nI o := by rw [e, upm_at, upd_at]
      rw [← e] at u5 f1
      have i1 : mX6_isOne (nI o) M1 = true := by
        unfold mX6_isOne at hc6 ⊢
        rw [f1 47 (by omega)]; exact hc6
      obtain ⟨s1, s2⟩ := shelf89 ht 0 (nI o) 0 1 M1 (Or.inl rfl)
      rw [if_pos p00, if_pos p00] at s1
      have u6 : mX6_shelf (nI t) 0 (nI o) M1 = mX6_shelf_89 (nI t) 0 (nI o) 0 1 (nI t) M1 := by
        unfold mX6_shelf mX6_shelf_31 mX6_shelf_45 mX6_shelf_63 mX6_shelf_64
        rw [if_pos hh6, if_pos in2, if_pos p00, if_pos i1, if_neg n01, if_neg n01, if_pos p00]
      unfold OKm
      rw [u5]
      dsimp only
      rw [u6, s1]
      refine ⟨fun _ q => absurd rfl q, ?_, rfl, shelf_inv h ht f1 (Or.inl ⟨m0, rfl, m1, o, by omega, rfl⟩)⟩
      unfold PX6_shelf PX6_shelf_31 PX6_shelf_45 PX6_shelf_63 PX6_shelf_64
      exact fun _ _ => ⟨fun _ _ => ⟨fun q => absurd q n01, fun _ => ⟨fun q => absurd q n01, fun _ => ⟨fun _ => s2, fun q => absurd rfl q⟩⟩⟩, fun q => absurd rfl q⟩
    · have hc6 : ¬ mX6_isOne c M = true := by rw [← e1]; exact hc
      have u5 : mX5_shelf (nI t) 0 c M = (-1, M) := by
        unfold mX5_shelf
        rw [if_pos hh, if_pos p00, if_neg hc]
      have u6 : mX6_shelf (nI t) 0 c M = (-1, M) := by
        unfold mX6_shelf
        rw [if_pos hh6, if_pos in2, if_pos p00, if_neg hc6]
      unfold OKm
      rw [u5]
      dsimp only
      rw [u6]
      refine ⟨fun _ q => absurd rfl q, ?_, rfl, h⟩
      unfold PX6_shelf
      exact fun _ _ => ⟨fun _ q => absurd q hc6, fun q => absurd rfl q⟩
  by_cases b1 : b = 1
  · subst b1
    have in2 : mX6_isIn (1 : Int32).toInt64 0 2 = true := (isIn2 1).mpr (Or.inr (Or.inl rfl))
    by_cases hc : 0 ≤ c ∧ c ≤ 3
    · have hc6 : mX6_isSheet c = true := (isSheet_iff c).mpr hc
      obtain ⟨w, hw, rfl⟩ := sheet_n hc
      have cw : (nI w).toNatClampNeg = w := nIc (by omega)
      have vw : vp_in (nI w) 4 := vin hw (by decide)
      rcases sheet_both h.2.2.2.2.1 hw with ⟨m1, m2⟩ | ⟨so, sz, hso, hsz, m1, m2, m3, m4, m5⟩
      · have ms := missing_t m1
        have nl : M 57 w < 0 := by rw [m2]; decide
        obtain ⟨M1, e⟩ : ∃ y, y = upm (upm (upm M (42 + t) 0 2) (42 + t) 2 (upm M (42 + t) 0 2 (34 + 2 * w) 1)) (42 + t) 3 (upm (upm M (42 + t) 0 2) (42 + t) 2 (upm M (42 + t) 0 2 (34 + 2 * w) 1) (34 + 2 * w) 2) := ⟨_, rfl⟩
        have u5 : mX5_shelf (nI t) 1 (nI w) M = (1, M1) := by
          unfold mX5_shelf mX2_holdRow mX2_holdRow_13
          rw [if_pos hh, if_neg n10, if_pos p11, if_pos hc, vpl_n ht, qpl_n hw, if_pos ms, e]
        have f1 : ∀ p, p ≠ 42 + t → M1 p = M p := fun p hp => by rw [e, upm_ne hp, upm_ne hp, upm_ne hp]
        have m0 : M1 (42 + t) 0 = 2 := by rw [e, upm_at, upd_ne (by decide), upm_at, upd_ne (by decide), upm_at, upd_at]
        have nl1 : M1 57 w < 0 := by rw [f1 57 (by omega)]; exact nl
        obtain ⟨s1, s2⟩ := shelf89 ht 1 (nI w) 0 0 M1 (Or.inl rfl)
        rw [if_neg n10, if_pos p00, if_pos p00] at s1
        have u6 : mX6_shelf (nI t) 1 (nI w) M1 = mX6_shelf_89 (nI t) 1 (nI w) 0 0 (nI t) M1 := by
          unfold mX6_shelf mX6_shelf_31 mX6_shelf_45 mX6_shelf_63 mX6_shelf_64
          rw [if_pos hh6, if_pos in2, if_neg n10, if_pos p11, if_pos hc6, if_pos p11, cw, if_pos nl1, if_neg n10, if_pos p00]
        unfold OKm
        rw [u5]
        dsimp only
        rw [u6, s1]
        refine ⟨fun _ _ _ _ => ⟨fun _ => trivial, fun _ => trivial⟩, ?_, rfl, shelf_inv h ht f1 (Or.inr (Or.inr ⟨m0, rfl⟩))⟩
        unfold PX6_shelf PX6_shelf_31 PX6_shelf_45 PX6_shelf_63 PX6_shelf_64
        rw [cw]
        exact fun _ _ => ⟨fun q => absurd q n10, fun _ => ⟨fun _ _ => ⟨fun _ => ⟨vw, fun _ => ⟨fun q => absurd q n10, fun _ => ⟨fun _ => s2, fun q => absurd rfl q⟩⟩, fun q => absurd nl1 q⟩, fun q => absurd rfl q⟩, fun q => absurd rfl q⟩⟩
      · have ms := missing_f hso m1
        have nl : ¬ M 57 w < 0 := by rw [m2]; exact Int32.not_lt.mpr (nI_pos' (by omega))
        obtain ⟨M1, e⟩ : ∃ y, y = upm (upm (upm M (42 + t) 0 1) (42 + t) 2 (upm M (42 + t) 0 1 (34 + 2 * w) 1)) (42 + t) 3 (upm (upm M (42 + t) 0 1) (42 + t) 2 (upm M (42 + t) 0 1 (34 + 2 * w) 1) (34 + 2 * w) 2) := ⟨_, rfl⟩
        have u5 : mX5_shelf (nI t) 1 (nI w) M = (1, M1) := by
          unfold mX5_shelf mX2_holdRow mX2_holdRow_13
          rw [if_pos hh, if_neg n10, if_pos p11, if_pos hc, vpl_n ht, qpl_n hw, if_neg ms, e]
        have f1 : ∀ p, p ≠ 42 + t → M1 p = M p := fun p hp => by rw [e, upm_ne hp, upm_ne hp, upm_ne hp]
        have m0 : M1 (42 + t) 0 = 1 := by rw [e, upm_at, upd_ne (by decide), upm_at, upd_ne (by decide), upm_at, upd_at]
        have r2 : M1 (42 + t) 2 = nI so := by rw [e, upm_at, upd_ne (by decide), upm_at, upd_at, upm_ne (by omega), m1]
        have r3 : M1 (42 + t) 3 = nI sz := by rw [e, upm_at, upd_at, upm_ne (by omega), upm_ne (by omega), m3]
        have nl1 : ¬ M1 57 w < 0 := by rw [f1 57 (by omega)]; exact nl
        obtain ⟨s1, s2⟩ := shelf89 ht 1 (nI w) 1 2 M1 (Or.inr vw)
        rw [if_neg n10, if_neg n10, if_neg n10, cw, f1 57 (by omega), f1 58 (by omega), m2, m4] at s1
        have u6 : mX6_shelf (nI t) 1 (nI w) M1 = mX6_shelf_89 (nI t) 1 (nI w) 1 2 (nI t) M1 := by
          unfold mX6_shelf mX6_shelf_31 mX6_shelf_45 mX6_shelf_63 mX6_shelf_64
          rw [if_pos hh6, if_pos in2, if_neg n10, if_pos p11, if_pos hc6, if_pos p11, cw, if_neg nl1, if_neg n10, if_neg n10]
        unfold OKm
        rw [u5]
        dsimp only
        rw [u6, s1]
        refine ⟨fun _ _ _ _ => ⟨fun _ => trivial, fun _ => trivial⟩, ?_, rfl, shelf_inv h ht f1 (Or.inr (Or.inl ⟨m0, rfl, r2, ⟨so, hso, rfl⟩, r3, sz, hsz, rfl⟩))⟩
        unfold PX6_shelf PX6_shelf_31 PX6_shelf_45 PX6_shelf_63 PX6_shelf_64
        rw [cw]
        exact fun _ _ => ⟨fun q => absurd q n10, fun _ => ⟨fun _ _ => ⟨fun _ => ⟨vw, fun q => absurd q nl1, fun _ => ⟨fun q => absurd q n10, fun _ => ⟨fun q => absurd q n10, fun _ => s2⟩⟩⟩, fun q => absurd rfl q⟩, fun q => absurd rfl q⟩⟩
    · have hc6 : ¬ mX6_isSheet c = true := fun q => hc ((isSheet_iff c).mp q)
      have u5 : mX5_shelf (nI t) 1 c M = (-1, M) := by
        unfold mX5_shelf
        rw [if_pos hh, if_neg n10, if_pos p11, if_neg hc]
      have u6 : mX6_shelf (nI t) 1 c M = (-1, M) := by
        unfold mX6_shelf mX6_shelf_31
        rw [if_pos hh6, if_pos in2, if_neg n10, if_pos p11, if_neg hc6]
      unfold OKm
      rw [u5]
      dsimp only
      rw [u6]
      refine ⟨fun _ _ _ q => absurd q hc, ?_, rfl, h⟩
      unfold PX6_shelf PX6_shelf_31
      exact fun _ _ => ⟨fun q => absurd q n10, fun _ => ⟨fun _ q => absurd q hc6, fun q => absurd rfl q⟩⟩
  by_cases b2 : b = 2
  · subst b2
    have in2 : mX6_isIn (2 : Int32).toInt64 0 2 = true := (isIn2 2).mpr (Or.inr (Or.inr rfl))
    have u5 : mX5_shelf (nI t) 2 c M = (1, upm M (42 + t) 0 2) := by
      unfold mX5_shelf
      rw [if_pos hh, if_neg n20, if_neg n21, if_pos p22, vpl_n ht]
    obtain ⟨M1, e⟩ : ∃ y, y = upm M (42 + t) 0 2 := ⟨_, rfl⟩
    rw [← e] at u5
    have f1 : ∀ p, p ≠ 42 + t → M1 p = M p := fun p hp => by rw [e, upm_ne hp]
    have m0 : M1 (42 + t) 0 = 2 := by rw [e, upm_at, upd_at]
    obtain ⟨s1, s2⟩ := shelf89 ht 2 c 0 0 M1 (Or.inl rfl)
    rw [if_neg n20, if_pos p00, if_pos p00] at s1
    have u6 : mX6_shelf (nI t) 2 c M1 = mX6_shelf_89 (nI t) 2 c 0 0 (nI t) M1 := by
      unfold mX6_shelf mX6_shelf_31 mX6_shelf_45 mX6_shelf_63 mX6_shelf_64
      rw [if_pos hh6, if_pos in2, if_neg n20, if_neg n21, if_neg n21, if_neg n20, if_pos p00]
    unfold OKm
    rw [u5]
    dsimp only
    rw [u6, s1]
    refine ⟨fun _ _ q => absurd q n21, ?_, rfl, shelf_inv h ht f1 (Or.inr (Or.inr ⟨m0, rfl⟩))⟩
    unfold PX6_shelf PX6_shelf_31 PX6_shelf_45 PX6_shelf_63 PX6_shelf_64
    exact fun _ _ => ⟨fun q => absurd q n20, fun _ => ⟨fun q => absurd q n21, fun _ => ⟨fun q => absurd q n21, fun _ => ⟨fun q => absurd q n20, fun _ => ⟨fun _ => s2, fun q => absurd rfl q⟩⟩⟩⟩⟩
  have in2 : ¬ mX6_isIn b.toInt64 0 2 = true := fun q => by
    rcases (isIn2 b).mp q with r | r | r
    · exact b0 r
    · exact b1 r
    · exact b2 r
  unfold OKm mX5_shelf mX6_shelf PX5_shelf PX6_shelf
  rw [if_pos hh, if_neg b0, if_neg b1, if_neg b2]
  dsimp only
  rw [if_pos hh6, if_neg in2]
  exact ⟨fun _ _ q => absurd q b1, fun _ q => absurd q in2, rfl, h⟩
