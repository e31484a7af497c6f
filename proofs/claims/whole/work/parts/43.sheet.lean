/-! SHEETS -/
theorem nI_mulc (a b : Nat) : nI a * nI b = nI (a * b) := (Int32.ofNat_mul a b).symm
theorem nI_subc {a b : Nat} (h : b ≤ a) : nI a - nI b = nI (a - b) := by
  have e : nI a = nI (a - b) + nI b := by rw [nI_add, Nat.sub_add_cancel h]
  rw [e, Int32.add_sub_cancel]
theorem within_sub1 {a : Int32} {sz : Nat} (hs : sz ≤ 1000) (q : mX5_isWithin a 0 (nI sz - 1) = true) : ∃ i, i < sz ∧ a = nI i := by
  cases sz with
  | zero =>
    obtain ⟨h1, h2⟩ := isWithin_iff.mp q
    exact absurd (Int32.le_trans h1 h2) (by decide)
  | succ s =>
    have e : nI (s + 1) - 1 = nI s := nI_subc (a := s + 1) (b := 1) (by omega)
    rw [e] at q
    obtain ⟨k, hk, ek⟩ := within_n (m := s) (by omega) q
    exact ⟨k, by omega, ek⟩
theorem sheet_n {a : Int32} (h : 0 ≤ a ∧ a ≤ 3) : ∃ t, t < 4 ∧ a = nI t := by
  obtain ⟨k, hk, e⟩ := nI_rg (m := 3) (by decide) h.1 h.2
  exact ⟨k, by omega, e⟩
theorem isSheet_iff (a : Int32) : mX6_isSheet a = true ↔ 0 ≤ a ∧ a ≤ 3 := by
  have e : mX6_isSheet a = mX5_isWithin a 0 3 := isIn_eq a 0 3
  rw [e]
  exact isWithin_iff
theorem isShelf_iff (a : Int32) : mX6_isShelf a = true ↔ 0 ≤ a ∧ a ≤ 3 := by
  have e : mX6_isShelf a = mX5_isWithin a 0 3 := isIn_eq a 0 3
  rw [e]
  exact isWithin_iff
theorem qpl_n {t : Nat} (h : t < 4) : qpl (nI t) = 34 + 2 * t := by
  unfold qpl
  rw [nIc (by omega)]
theorem vpl_n {t : Nat} (h : t < 4) : vpl (nI t) = 42 + t := by
  unfold vpl
  rw [nIc (by omega)]
theorem x40 (t i : Nat) : (40 * nI t) + nI i = nI (40 * t + i) := by
  show nI 40 * nI t + nI i = _
  rw [nI_mulc, nI_add]
theorem fill5 {p n : Nat} (hn : n < 400) : ∀ (k fuel i : Nat) (M : Mem), k < fuel → i + k = n →
    mJ7_fill_53178_5 p n fuel 0 (nI i) (nI n) M = upr M p (fun j => if i ≤ j ∧ j < n then 0 else M p j) ∧ PJ7_fill_53178_5 p n fuel 0 (nI i) (nI n) M := by
  intro k
  induction k with
  | zero =>
    intro fuel i M hf hi
    obtain ⟨f, rfl⟩ : ∃ f, fuel = f + 1 := ⟨fuel - 1, by omega⟩
    have hc : nI n ≤ nI i := nI_le (by omega) (by omega)
    constructor
    · rw [mJ7_fill_53178_5, if_pos hc]
      have e : (fun j => if i ≤ j ∧ j < n then 0 else M p j) = M p := by
        funext j
        rw [if_neg (by omega)]
      rw [e, upr_self]
    · rw [PJ7_fill_53178_5]
      exact fun q => absurd hc q
  | succ k ih =>
    intro fuel i M hf hi
    obtain ⟨f, rfl⟩ : ∃ f, fuel = f + 1 := ⟨fuel - 1, by omega⟩
    have hc : ¬ nI n ≤ nI i := nI_ge (by omega) (by omega)
    have hv : vp_in (nI i) n := vin (by omega) (by omega)
    have hi1 : nI i + 1 = nI (i + 1) := (nI_succ i).symm
    obtain ⟨e, q⟩ := ih f (i + 1) (upm M p i 0) (by omega) (by omega)
    have ef : (fun j => if i + 1 ≤ j ∧ j < n then 0 else upm M p i 0 p j) = (fun j => if i ≤ j ∧ j < n then 0 else M p j) := by
      funext j
      rw [upm_at]
      by_cases hj : j = i
      · subst hj
        rw [if_neg (by omega), upd_at, if_pos (by omega)]
      · rw [upd_ne hj]
        by_cases h2 : i + 1 ≤ j ∧ j < n
        · rw [if_pos h2, if_pos (by omega)]
        · rw [if_neg h2, if_neg (by omega)]
    constructor
    · rw [mJ7_fill_53178_5, if_neg hc, nIc (by omega), hi1, e, ef, upm_upr M, upr_upr]
    · rw [PJ7_fill_53178_5]
      refine fun _ => ⟨hv, ?_⟩
      rw [nIc (by omega), hi1]
      exact q
theorem fill_eq {p n : Nat} (hn : n < 400) (M : Mem) : mJ7_fill_53178 p n 0 M = upr M p (fun j => if j < n then 0 else M p j) ∧ PJ7_fill_53178 p n 0 M := by
  obtain ⟨e, q⟩ := fill5 (p := p) hn n 400 0 M (by omega) (by omega)
  refine ⟨e.trans ?_, q⟩
  have ef : (fun j => if 0 ≤ j ∧ j < n then 0 else M p j) = (fun j => if j < n then 0 else M p j) := by
    funext j
    simp
  rw [ef]
theorem sheet69 {t : Nat} (ht : t < 4) : ∀ (k fuel i : Nat) (N : Mem), k < fuel → i + k = 40 →
    mX6_sheet_69 fuel (nI t) (nI i) N = (1, upr N 59 (fun j => if 40 * t + i ≤ j ∧ j < 40 * t + 40 then 0 else N 59 j)) ∧ PX6_sheet_69 fuel (nI t) (nI i) N := by
  intro k
  induction k with
  | zero =>
    intro fuel i N hf hi
    obtain ⟨f, rfl⟩ : ∃ f, fuel = f + 1 := ⟨fuel - 1, by omega⟩
    have hc : (40 : Int32) ≤ nI i := nI_le (a := 40) (by omega) (by omega)
    constructor
    · rw [mX6_sheet_69, if_pos hc]
      have e : (fun j => if 40 * t + i ≤ j ∧ j < 40 * t + 40 then 0 else N 59 j) = N 59 := by
        funext j
        rw [if_neg (by omega)]
      rw [e, upr_self]
    · rw [PX6_sheet_69]
      exact fun q => absurd hc q
  | succ k ih =>
    intro fuel i N hf hi
    obtain ⟨f, rfl⟩ : ∃ f, fuel = f + 1 := ⟨fuel - 1, by omega⟩
    have hc : ¬ (40 : Int32) ≤ nI i := nI_ge (b := 40) (by omega) (by omega)
    have hi1 : nI i + 1 = nI (i + 1) := (nI_succ i).symm
    obtain ⟨e, p⟩ := ih f (i + 1) (upm N 59 (40 * t + i) 0) (by omega) (by omega)
    have ef : (fun j => if 40 * t + (i + 1) ≤ j ∧ j < 40 * t + 40 then 0 else upm N 59 (40 * t + i) 0 59 j) = (fun j => if 40 * t + i ≤ j ∧ j < 40 * t + 40 then 0 else N 59 j) := by
      funext j
      rw [upm_at]
      by_cases hj : j = 40 * t + i
      · subst hj
        rw [if_neg (by omega), upd_at, if_pos (by omega)]
      · rw [upd_ne hj]
        by_cases h2 : 40 * t + (i + 1) ≤ j ∧ j < 40 * t + 40
        · rw [if_pos h2, if_pos (by omega)]
        · rw [if_neg h2, if_neg (by omega)]
    constructor
    · rw [mX6_sheet_69, if_neg hc, x40, nIc (by omega), hi1, e, ef, upm_upr N, upr_upr]
    · rw [PX6_sheet_69]
      refine fun _ => ⟨by rw [x40]; exact vin (by omega) (by decide), ?_⟩
      rw [x40, nIc (by omega), hi1]
      exact p
/-- a sheet that is another than t is as before -/
theorem InvS.one {M M' : Mem} (h : InvS M) {t : Nat} (ht : t < 4) (g : ∀ p, 34 ≤ p → p ≤ 41 → p ≠ 34 + 2 * t → p ≠ 35 + 2 * t → M' p = M p) (e57 : ∀ k, k ≠ t → M' 57 k = M 57 k) (e58 : ∀ k, k ≠ t → M' 58 k = M 58 k) (e59 : ∀ k, (k < 40 * t ∨ 40 * t + 40 ≤ k) → M' 59 k = M 59 k)
    (hT : M' (34 + 2 * t) 1 = M' 57 t ∧ (M' 57 t = -1 ∨ ((∃ so, so < 4 ∧ M' 57 t = nI so) ∧ ∃ sz, sz ≤ 40 ∧ M' (34 + 2 * t) 2 = nI sz ∧ M' 58 t = nI sz ∧ ∀ i, i < 40 → M' (34 + 2 * t + 1) i = M' 59 (40 * t + i)))) : InvS M' := by
  intro u hu
  by_cases e : u = t
  · subst e; exact hT
  · rw [g (34 + 2 * u) (by omega) (by omega) (by omega) (by omega), g (34 + 2 * u + 1) (by omega) (by omega) (by omega) (by omega), e57 u e, e58 u e]
    obtain ⟨h1, h2⟩ := h u hu
    refine ⟨h1, h2.imp id (fun ⟨a, sz, b1, b2, b3, b4⟩ => ⟨a, sz, b1, b2, b3, fun i hi => (b4 i hi).trans (e59 _ (by omega)).symm⟩)⟩
/-- what touches a sheet alone -/
theorem Inv.sheet {M M' : Mem} (h : Inv M) (g : ∀ p, (p < 34 ∨ 41 < p) → p ≠ 57 → p ≠ 58 → p ≠ 59 → M' p = M p) (hS : InvS M') : Inv M' := by
  obtain ⟨⟨n, hR⟩, hK, hT, hW, -, hV, hA⟩ := h
  have g0 : M' 0 = M 0 := g 0 (by decide) (by decide) (by decide) (by decide)
  have g46 : M' 46 = M 46 := g 46 (by decide) (by decide) (by decide) (by decide)
  refine ⟨InvR.of hR (fun p h1 h2 => g p (by omega) (by omega) (by omega) (by omega)) (fun k _ => by rw [g 47 (by decide) (by decide) (by decide) (by decide)]), hK.of (by rw [g0]) (by rw [g46]) (fun p h1 h2 => g p (by omega) (by omega) (by omega) (by omega)) ?_, hT.of ?_ (by rw [g46]) ?_ ?_, hW.of (by rw [g0]) (by rw [g46]) ?_ ?_, hS, hV.of (fun p h1 h2 => g p (by omega) (by omega) (by omega) (by omega)) ?_ ?_ ?_, hA.of ?_ (by rw [g46]) ?_ ?_⟩
  all_goals (rw [g _ (by decide) (by decide) (by decide) (by decide)])
theorem ok_sheet {M : Mem} (a c d : Int32) (h : Inv M) : OKm (PX5_sheet a c d) (mX5_sheet a c d) (PX6_sheet a c d) (mX6_sheet a c d) M := by
  have ei : mX6_isIn c.toInt64 (-1) 3 = mX5_isWithin c (-1) 3 := isIn_eq c (-1) 3
  have es := isSheet_iff a
  unfold OKm mX5_sheet mX6_sheet PX5_sheet PX6_sheet
  rw [ei]
  by_cases hh : 0 ≤ a ∧ a ≤ 3
  · have hh6 := es.mpr hh
    by_cases hc : mX5_isWithin c (-1) 3 = true
    · rw [if_pos hh, if_pos hc]
      obtain ⟨t, ht, rfl⟩ := sheet_n hh
      have hv : vp_in (nI t) 4 := vin ht (by decide)
      by_cases hm : c = -1
      · subst hm
        rw [if_pos rfl, qpl_n ht]
        obtain ⟨s1, s2⟩ := sheet69 ht 40 400 0 (upm (upm (upm M (34 + 2 * t) 1 (-1)) 57 t (-1)) 58 t 0) (by decide) (by decide)
        have s1' : mX6_sheet_69 400 (nI t) 0 (upm (upm (upm M (34 + 2 * t) 1 (-1)) 57 t (-1)) 58 t 0) = _ := s1
        have f6 : mX6_sheet_33 (nI t) (-1) d (upm M (34 + 2 * t) 1 (-1)) = mX6_sheet_69 400 (nI t) 0 (upm (upm (upm M (34 + 2 * t) 1 (-1)) 57 t (-1)) 58 t 0) := by
          unfold mX6_sheet_33 mX6_sheet_44 mX6_sheet_65
          rw [if_pos (by decide), if_neg (by decide), nIc (by omega)]
        have hd : (-1 : Int32) < 0 := by decide
        refine ⟨fun _ _ q => absurd rfl q, fun _ _ => ⟨fun _ => ?_, fun q => absurd hd q⟩, ?_, ?_⟩
        · unfold PX6_sheet_33 PX6_sheet_44 PX6_sheet_65
          refine ⟨fun _ => ⟨hv, fun q => absurd q (by decide), fun _ => ⟨hv, ?_⟩⟩, fun q => absurd hd q⟩
          rw [nIc (by omega)]
          exact s2
        · rw [if_pos hh6, if_pos hc, if_pos hd]
          show 1 = (mX6_sheet_33 (nI t) (-1) d (upm M (34 + 2 * t) 1 (-1))).1
          rw [f6, s1']
        · rw [if_pos hh6, if_pos hc, if_pos hd]
          show Inv (mX6_sheet_33 (nI t) (-1) d (upm M (34 + 2 * t) 1 (-1))).2
          rw [f6, s1']
          refine inv2 ?_
          refine h.sheet (fun p h1 h2 h3 h4 => by rw [upr_ne h4, upm_ne h3, upm_ne h2, upm_ne (by omega)]) ?_
          refine h.2.2.2.2.1.one ht (fun p h1 h2 h3 h4 => by rw [upr_ne (by omega), upm_ne (by omega), upm_ne (by omega), upm_ne h3]) (fun k hk => ?_) (fun k hk => ?_) (fun k hk => ?_) ⟨?_, Or.inl ?_⟩
          · rw [upr_ne (by decide), upm_ne (by decide), upm_at, upd_ne hk, upm_ne (by omega)]
          · rw [upr_ne (by decide), upm_at, upd_ne hk, upm_ne (by decide), upm_ne (by omega)]
          · rw [upr_at, if_neg (by omega), upm_ne (by decide), upm_ne (by decide), upm_ne (by omega)]
          · rw [upr_ne (by omega), upm_ne (by omega), upm_ne (by omega), upm_at, upd_at, upr_ne (by decide), upm_ne (by decide), upm_at, upd_at]
          · rw [upr_ne (by decide), upm_ne (by decide), upm_at, upd_at]
      · obtain ⟨so, hso, rfl⟩ : ∃ so, so < 4 ∧ c = nI so := by
          obtain ⟨x1, x2⟩ := isWithin_iff.mp hc
          have x0 : 0 ≤ c := by
            have y1 := Int32.le_iff_toInt_le.mp x1
            have e1 : (-1 : Int32).toInt = -1 := by decide
            have e0 : (0 : Int32).toInt = 0 := by decide
            have y3 : c.toInt ≠ -1 := fun z => hm (Int32.toInt_inj.mp (z.trans e1.symm))
            apply Int32.le_iff_toInt_le.mpr
            omega
          exact sheet_n ⟨x0, x2⟩
        have n0 : ¬ nI so < 0 := Int32.not_lt.mpr (nI_pos' (by omega))
        rw [if_neg hm]
        by_cases h40 : d ≤ 40
        · rw [if_pos h40]
          by_cases h0 : 0 ≤ d
          · rw [if_pos h0]
            obtain ⟨sz, hsz, rfl⟩ := nI_rg (m := 40) (by decide) h0 h40
            obtain ⟨f1, f2⟩ := fill_eq (p := 34 + 2 * t + 1) (n := 40) (by decide) M
            have f5 : mX1_becomeRow (qpl (nI t)) (nI so) (nI sz) M = upm (upm (upr M (34 + 2 * t + 1) (fun j => if j < 40 then 0 else M (34 + 2 * t + 1) j)) (34 + 2 * t) 1 (nI so)) (34 + 2 * t) 2 (nI sz) := by
              unfold mX1_becomeRow mX1_becomeRow_8
              rw [qpl_n ht, f1]
            obtain ⟨M1, e1⟩ : ∃ x, x = mX1_becomeRow (qpl (nI t)) (nI so) (nI sz) M := ⟨_, rfl⟩
            rw [f5] at e1
            obtain ⟨s1, s2⟩ := sheet69 ht 40 400 0 (upm (upm M1 57 t (nI so)) 58 t (nI sz)) (by decide) (by decide)
            have s1' : mX6_sheet_69 400 (nI t) 0 (upm (upm M1 57 t (nI so)) 58 t (nI sz)) = _ := s1
            have g0 : 0 ≤ nI so := nI_pos' (by omega)
            have f6 : mX6_sheet_33 (nI t) (nI so) (nI sz) M1 = mX6_sheet_69 400 (nI t) 0 (upm (upm M1 57 t (nI so)) 58 t (nI sz)) := by
              unfold mX6_sheet_33 mX6_sheet_44 mX6_sheet_65
              rw [if_neg n0, if_pos h0, if_pos g0, nIc (by omega)]
            rw [f5, ← e1]
            refine ⟨fun _ _ _ _ _ => ⟨?_, trivial⟩, fun _ _ => ⟨fun q => absurd q n0, fun _ _ => ?_⟩, ?_, ?_⟩
            · rw [qpl_n ht]; exact f2
            · unfold PX6_sheet_33 PX6_sheet_44 PX6_sheet_65
              refine ⟨fun q => absurd q n0, fun _ _ => ⟨hv, fun _ => ⟨hv, ?_⟩, fun q => absurd g0 q⟩⟩
              rw [nIc (by omega)]
              exact s2
            · rw [if_pos hh6, if_pos hc, if_neg n0, if_pos h40]
              show 1 = (mX6_sheet_33 (nI t) (nI so) (nI sz) M1).1
              rw [f6, s1']
            · rw [if_pos hh6, if_pos hc, if_neg n0, if_pos h40]
              show Inv (mX6_sheet_33 (nI t) (nI so) (nI sz) M1).2
              rw [f6, s1']
              refine inv2 ?_
              refine h.sheet (fun p h1 h2 h3 h4 => by rw [upr_ne h4, upm_ne h3, upm_ne h2, e1, upm_ne (by omega), upm_ne (by omega), upr_ne (by omega)]) ?_
              refine h.2.2.2.2.1.one ht (fun p h1 h2 h3 h4 => by rw [upr_ne (by omega), upm_ne (by omega), upm_ne (by omega), e1, upm_ne h3, upm_ne h3, upr_ne (by omega)]) (fun k hk => ?_) (fun k hk => ?_) (fun k hk => ?_) ⟨?_, Or.inr ⟨⟨so, hso, ?_⟩, sz, hsz, ?_, ?_, fun i hi => ?_⟩⟩
              · rw [upr_ne (by decide), upm_ne (by decide), upm_at, upd_ne hk, e1, upm_ne (by omega), upm_ne (by omega), upr_ne (by omega)]
              · rw [upr_ne (by decide), upm_at, upd_ne hk, upm_ne (by decide), e1, upm_ne (by omega), upm_ne (by omega), upr_ne (by omega)]
              · rw [upr_at, if_neg (by omega), upm_ne (by decide), upm_ne (by decide), e1, upm_ne (by omega), upm_ne (by omega), upr_ne (by omega)]
              · rw [upr_ne (by omega), upm_ne (by omega), upm_ne (by omega), upr_ne (by decide), upm_ne (by decide), upm_at, upd_at, e1, upm_at, upd_ne (by decide), upm_at, upd_at]
              · rw [upr_ne (by decide), upm_ne (by decide), upm_at, upd_at]
              · rw [upr_ne (by omega), upm_ne (by omega), upm_ne (by omega), e1, upm_at, upd_at]
              · rw [upr_ne (by decide), upm_at, upd_at]
              · rw [upr_ne (by omega), upm_ne (by omega), upm_ne (by omega), e1, upm_ne (by omega), upm_ne (by omega), upr_at, if_pos hi, upr_at, if_pos (by omega)]
          · rw [if_neg h0]
            refine ⟨fun _ _ _ _ q => absurd q h0, fun _ _ => ⟨fun q => absurd q n0, fun _ _ => ?_⟩, ?_, ?_⟩
            · unfold PX6_sheet_33
              exact ⟨fun q => absurd q n0, fun _ q => absurd q h0⟩
            · rw [if_pos hh6, if_pos hc, if_neg n0, if_pos h40]
              unfold mX6_sheet_33
              rw [if_neg n0, if_neg h0]
            · rw [if_pos hh6, if_pos hc, if_neg n0, if_pos h40]
              unfold mX6_sheet_33
              rw [if_neg n0, if_neg h0]
              exact h
        · rw [if_neg h40]
          refine ⟨fun _ _ _ q => absurd q h40, fun _ _ => ⟨fun q => absurd q n0, fun _ q => absurd q h40⟩, ?_, ?_⟩
          · rw [if_pos hh6, if_pos hc, if_neg n0, if_neg h40]
          · rw [if_pos hh6, if_pos hc, if_neg n0, if_neg h40]; exact h
    · rw [if_pos hh, if_neg hc]
      refine ⟨fun _ q => absurd q hc, fun _ q => absurd q hc, ?_, ?_⟩
      · rw [if_pos hh6, if_neg hc]
      · rw [if_pos hh6, if_neg hc]; exact h
  · have hh6 : ¬ mX6_isSheet a = true := fun q => hh (es.mp q)
    rw [if_neg hh]
    refine ⟨fun q => absurd q hh, fun q => absurd q hh6, ?_, ?_⟩
    · rw [if_neg hh6]
    · rw [if_neg hh6]; exact h
