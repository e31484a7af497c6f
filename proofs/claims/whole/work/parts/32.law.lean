theorem set6 {a c lo hi : Int32} (N : Mem) (ha : (a = 0 ∧ lo = 1 ∧ hi = 9) ∨ (a = 1 ∧ lo = 0 ∧ hi = 99) ∨ (a = 2 ∧ lo = 0 ∧ hi = 9) ∨ (a = 3 ∧ lo = 0 ∧ hi = 99)) :
    mX6_set a c N = (if mX5_isWithin c lo hi = true then (N 47 (4 + a).toNatClampNeg, upm N 47 (4 + a).toNatClampNeg c) else (-1, N)) ∧ PX6_set a c N := by
  have v : vp_in (4 + a) 56 := by rcases ha with ⟨rfl, -⟩ | ⟨rfl, -⟩ | ⟨rfl, -⟩ | ⟨rfl, -⟩ <;> exact vin_l (by decide) (by decide)
  have i3 : mX6_isIn a.toInt64 0 3 = true := by rcases ha with ⟨rfl, -⟩ | ⟨rfl, -⟩ | ⟨rfl, -⟩ | ⟨rfl, -⟩ <;> decide
  have e : mX6_isIn c.toInt64 lo.toInt64 hi.toInt64 = mX5_isWithin c lo hi := isIn_eq c lo hi
  have n10 : ¬ (1 : Int32) = 0 := by decide
  have key : ∀ b : Bool, (if b = true then mX6_set_53 a c 1 N else mX6_set_52 a c N) = (if b = true then (N 47 (4 + a).toNatClampNeg, upm N 47 (4 + a).toNatClampNeg c) else (-1, N)) := by
    intro b
    unfold mX6_set_52 mX6_set_53 mX6_set_66 mX6_becomes
    rw [if_neg n10, if_pos rfl]
  have key2 : ∀ b : Bool, (b = true → PX6_set_53 a c 1 N) ∧ (¬ b = true → PX6_set_52 a c N) := by
    intro b
    unfold PX6_set_52 PX6_set_53 PX6_set_66 PX6_becomes
    exact ⟨fun _ _ => ⟨⟨v, v⟩, trivial⟩, fun _ q => absurd rfl q⟩
  unfold mX6_set PX6_set
  rw [if_pos i3]
  rcases ha with ⟨rfl, rfl, rfl⟩ | ⟨rfl, rfl, rfl⟩ | ⟨rfl, rfl, rfl⟩ | ⟨rfl, rfl, rfl⟩
  · refine ⟨?_, fun _ => ⟨fun _ => ?_, fun q => absurd rfl q⟩, fun q => absurd i3 q⟩
    · rw [if_pos rfl]
      unfold mX6_set_23 mX6_set_33 mX6_set_42
      rw [if_neg (by decide), if_neg (by decide), ← key, ← e]
      rfl
    · unfold PX6_set_23 PX6_set_33 PX6_set_42
      refine ⟨fun q => absurd q (by decide), fun _ => ⟨fun q => absurd q (by decide), fun _ => key2 _⟩⟩
  · refine ⟨?_, fun _ => ⟨fun q => absurd q (by decide), fun _ => ?_⟩, fun q => absurd i3 q⟩
    · rw [if_neg (by decide)]
      unfold mX6_set_23 mX6_set_33 mX6_set_42
      rw [if_pos rfl, ← key, ← e]
      rfl
    · unfold PX6_set_23 PX6_set_33 PX6_set_42
      exact ⟨fun _ => key2 _, fun q => absurd rfl q⟩
  · refine ⟨?_, fun _ => ⟨fun q => absurd q (by decide), fun _ => ?_⟩, fun q => absurd i3 q⟩
    · rw [if_neg (by decide)]
      unfold mX6_set_23 mX6_set_33 mX6_set_42
      rw [if_neg (by decide), if_neg (by decide), ← key, ← e]
      rfl
    · unfold PX6_set_23 PX6_set_33 PX6_set_42
      refine ⟨fun q => absurd q (by decide), fun _ => ⟨fun q => absurd q (by decide), fun _ => key2 _⟩⟩
  · refine ⟨?_, fun _ => ⟨fun q => absurd q (by decide), fun _ => ?_⟩, fun q => absurd i3 q⟩
    · rw [if_neg (by decide)]
      unfold mX6_set_23 mX6_set_33 mX6_set_42
      rw [if_neg (by decide), if_pos rfl, ← key, ← e]
      rfl
    · unfold PX6_set_23 PX6_set_33 PX6_set_42
      refine ⟨fun q => absurd q (by decide), fun _ => ⟨fun _ => key2 _, fun q => absurd rfl q⟩⟩
theorem law_case {a : Int32} (h : mX5_isLaw a = true) : ∃ lo hi q, q < 4 ∧ a = nI q ∧ (4 + a).toNatClampNeg = 4 + q ∧ st_1 a = lo ∧ st_2 a = hi ∧ ((a = 0 ∧ lo = 1 ∧ hi = 9) ∨ (a = 1 ∧ lo = 0 ∧ hi = 99) ∨ (a = 2 ∧ lo = 0 ∧ hi = 9) ∨ (a = 3 ∧ lo = 0 ∧ hi = 99)) := by
  have h' := isWithin_iff.mp h
  rcases i3_cases h' with rfl | rfl | rfl | rfl
  · exact ⟨1, 9, 0, by decide, rfl, by decide, by decide, by decide, Or.inl ⟨rfl, rfl, rfl⟩⟩
  · exact ⟨0, 99, 1, by decide, rfl, by decide, by decide, by decide, Or.inr (Or.inl ⟨rfl, rfl, rfl⟩)⟩
  · exact ⟨0, 9, 2, by decide, rfl, by decide, by decide, by decide, Or.inr (Or.inr (Or.inl ⟨rfl, rfl, rfl⟩))⟩
  · exact ⟨0, 99, 3, by decide, rfl, by decide, by decide, by decide, Or.inr (Or.inr (Or.inr ⟨rfl, rfl, rfl⟩))⟩
theorem ok_set {M : Mem} (a c : Int32) (h : Inv M) : OKm (PX5_set a c) (mX5_set a c) (PX6_set a c) (mX6_set a c) M := by
  obtain ⟨n, hR⟩ := h.1
  have ei : mX6_isIn a.toInt64 0 3 = mX5_isLaw a := isIn_eq a 0 3
  by_cases hl : mX5_isLaw a = true
  · obtain ⟨lo, hi, q, hq, eq, e4, s1, s2, hcs⟩ := law_case hl
    have hv : vp_in a 4 := by rw [eq]; exact vin hq (by decide)
    unfold OKm mX5_set PX5_set
    rw [if_pos hl, s1, s2]
    by_cases hc : mX5_isWithin c lo hi = true
    · rw [if_pos hc]
      obtain ⟨e6, p6⟩ := set6 (c := c) (upm M 2 a.toNatClampNeg c) hcs
      refine ⟨fun _ => ⟨hv, hv, fun _ => ⟨hv, hv⟩⟩, p6, ?_, ?_⟩
      · rw [e6, if_pos hc, e4, upm_ne (by decide), eq, nIc (by omega)]
        exact hR.rc.2.2.1 q hq
      · rw [e6, if_pos hc, e4, eq, nIc (by omega)]
        refine set_ok h (by decide) (hR.law hq (fun z => ?_) (fun z => ?_))
        · subst z
          have : lo = 1 ∧ hi = 9 := by
            rcases hcs with ⟨-, x, y⟩ | ⟨x, -⟩ | ⟨x, -⟩ | ⟨x, -⟩
            · exact ⟨x, y⟩
            · rw [eq] at x; exact absurd x (by decide)
            · rw [eq] at x; exact absurd x (by decide)
            · rw [eq] at x; exact absurd x (by decide)
          obtain ⟨rfl, rfl⟩ := this
          have hb := isWithin_iff.mp hc
          obtain ⟨k, hk, rfl⟩ := nI_rg (m := 9) (by decide) (Int32.le_trans (by decide) hb.1) hb.2
          have k1 := (nI_le_iff (a := 1) (b := k) (by decide) (by omega)).mp hb.1
          exact ⟨k, k1, hk, rfl⟩
        · subst z
          have : lo = 0 ∧ hi = 99 := by
            rcases hcs with ⟨x, -⟩ | ⟨x, -⟩ | ⟨x, -⟩ | ⟨-, x, y⟩
            · rw [eq] at x; exact absurd x (by decide)
            · rw [eq] at x; exact absurd x (by decide)
            · rw [eq] at x; exact absurd x (by decide)
            · exact ⟨x, y⟩
          obtain ⟨rfl, rfl⟩ := this
          exact within_n (m := 99) (by decide) hc
    · rw [if_neg hc]
      obtain ⟨e6, p6⟩ := set6 (c := c) M hcs
      refine ⟨fun _ => ⟨hv, hv, fun q => absurd q hc⟩, p6, ?_, ?_⟩
      · rw [e6, if_neg hc]
      · rw [e6, if_neg hc]; exact h
  · unfold OKm mX5_set PX5_set mX6_set PX6_set
    rw [if_neg hl]
    have hl6 : ¬ mX6_isIn a.toInt64 0 3 = true := by rw [ei]; exact hl
    unfold mX6_set_52 mX6_set_53 PX6_set_52 PX6_set_53
    refine ⟨fun q => absurd q hl, ⟨fun q => absurd q hl6, fun _ q => absurd rfl q⟩, ?_, ?_⟩
    · rw [if_neg hl6, if_pos rfl]
    · rw [if_neg hl6, if_pos rfl]; exact h
/-- a question: the class answers out of M, the reference out of the same -/
def OKq (P5 : Mem → Prop) (f5 : Mem → Int32) (P6 : Mem → Prop) (f6 : Mem → Int32) (M : Mem) : Prop := P5 M ∧ P6 M ∧ f5 M = f6 M
theorem ok_lawOf {M : Mem} (a : Int32) (h : Inv M) : OKq (PX5_lawOf a) (mX5_lawOf a) (PX6_lawOf a) (mX6_lawOf a) M := by
  obtain ⟨n, hR⟩ := h.1
  have ei : mX6_isIn a.toInt64 0 3 = mX5_isLaw a := isIn_eq a 0 3
  unfold OKq mX5_lawOf mX6_lawOf PX5_lawOf PX6_lawOf
  rw [ei]
  by_cases hl : mX5_isLaw a = true
  · obtain ⟨lo, hi, q, hq, eq, e4, -⟩ := law_case hl
    rw [if_pos hl, if_pos hl, e4]
    refine ⟨fun _ => ?_, fun _ => ?_, ?_⟩
    · rw [eq]; exact vin hq (by decide)
    · refine vin_l ?_ (by rw [e4]; omega)
      rw [eq]
      have : ∀ q, q < 4 → ¬ (4 + nI q) < 0 := by decide
      exact this q hq
    · rw [eq, nIc (by omega)]
      exact hR.rc.2.2.1 q hq
  · rw [if_neg hl, if_neg hl]
    exact ⟨fun q => absurd q hl, fun q => absurd q hl, rfl⟩
