/-! FORCES out of a sheet -/
theorem held9_eq (v : Int32) : mX5_held v 9 = mX6_within v := by
  unfold mX5_held mX6_within mX6_bounded imax imin
  have e0 : (0 : Int32).toInt = 0 := by decide
  have e9 : (9 : Int32).toInt = 9 := by decide
  simp only [Int32.lt_iff_toInt_lt, Int32.le_iff_toInt_le, e0, e9]
  repeat' split
  all_goals first | rfl | omega | (apply Int32.toInt_inj.mp; omega)
def mdS (x : Nat → Int32) (o : Nat) : Nat → Nat → (Nat → Int32) → (Nat → Int32)
  | 0, _, s => s
  | k + 1, i, s => mdS x o k (i + 1) (upd s (24 + 4 * (o + i) + 1) (mX6_within (x i)))
theorem minds103 {x : Nat → Int32} {t i0 o m n : Nat} (ht : t < 4) (hm : m ≤ 8) (hon : o + m ≤ n) (hi0 : i0 + m ≤ 40) : ∀ (k fuel i : Nat) (M : Mem) (s : Nat → Int32), k < fuel → i + k = m → R M 1 s n → (∀ j, j < 40 → M (34 + 2 * t + 1) j = x j) →
    ∃ M', mX5_minds_103 (nI t) fuel (nI i0) (nI o) (nI m) (nI i) M = (nI m, M') ∧ PX5_minds_103 (nI t) fuel (nI i0) (nI o) (nI m) (nI i) M ∧ R M' 1 (mdS (fun j => x (i0 + j)) o k i s) n ∧ ∀ p, p ≠ 5 → M' p = M p := by
  intro k
  induction k with
  | zero =>
    intro fuel i M s hf hi hR hx
    obtain ⟨f, rfl⟩ : ∃ f, fuel = f + 1 := ⟨fuel - 1, by omega⟩
    have hc : nI m ≤ nI i := nI_le (by omega) (by omega)
    refine ⟨M, ?_, ?_, hR, fun _ _ => rfl⟩
    · rw [mX5_minds_103, if_pos hc]
    · rw [PX5_minds_103]
      exact fun q => absurd hc q
  | succ k ih =>
    intro fuel i M s hf hi hR hx
    obtain ⟨f, rfl⟩ : ∃ f, fuel = f + 1 := ⟨fuel - 1, by omega⟩
    have hn := hR.1
    have hc : ¬ nI m ≤ nI i := nI_ge (by omega) (by omega)
    have hi1 : nI i + 1 = nI (i + 1) := (nI_succ i).symm
    have ea : nI i0 + nI i = nI (i0 + i) := nI_add i0 i
    have eb : nI o + nI i = nI (o + i) := nI_add o i
    have ra := hR.air (o := o + i) (j := 1) (w := mX6_within (x (i0 + i))) (by omega) (by decide) (fun e => by cases e) (fun e => by omega)
    obtain ⟨M', a1, a2, a3, a4⟩ := ih f (i + 1) (upm M 5 (o + i) (mX6_within (x (i0 + i)))) (upd s (24 + 4 * (o + i) + 1) (mX6_within (x (i0 + i)))) (by omega) (by omega) ra (fun j hj => by rw [upm_ne (by omega)]; exact hx j hj)
    refine ⟨M', ?_, ?_, a3, fun p hp => (a4 p hp).trans (upm_ne hp)⟩
    · rw [mX5_minds_103, if_neg hc, ea, eb, qpl_n ht, nIc (show i0 + i < 2 ^ 31 by omega), nIc (show o + i < 2 ^ 31 by omega), hx (i0 + i) (by omega), held9_eq, hi1]
      exact a1
    · rw [PX5_minds_103]
      rw [ea, eb, qpl_n ht, nIc (show i0 + i < 2 ^ 31 by omega), nIc (show o + i < 2 ^ 31 by omega), hx (i0 + i) (by omega), held9_eq, hi1]
      exact fun _ => ⟨vin (by omega) (by decide), vin (by omega) (by decide), a2⟩
theorem minds98 {x : Nat → Int32} {t i0 o m n : Nat} (ht : t < 4) (hm : m ≤ 8) (hon : o + m ≤ n) (hn : n ≤ 8) (hi0 : i0 + m ≤ 40) : ∀ (k fuel i : Nat) (N : Mem) (s : Nat → Int32), k < fuel → i + k = m → N 47 = s → (∀ j, j < 40 → N 59 (40 * t + j) = x j) →
    mX6_minds_98 fuel (nI t) (nI i0) (nI o) (nI m) (nI i) N = (nI m, upr N 47 (mdS (fun j => x (i0 + j)) o k i s)) ∧ PX6_minds_98 fuel (nI t) (nI i0) (nI o) (nI m) (nI i) N := by
  intro k
  induction k with
  | zero =>
    intro fuel i N s hf hi h47 hx
    obtain ⟨f, rfl⟩ : ∃ f, fuel = f + 1 := ⟨fuel - 1, by omega⟩
    have hc : nI m ≤ nI i := nI_le (by omega) (by omega)
    constructor
    · rw [mX6_minds_98, if_pos hc, mdS, ← h47, upr_self]
    · rw [PX6_minds_98]
      exact fun q => absurd hc q
  | succ k ih =>
    intro fuel i N s hf hi h47 hx
    obtain ⟨f, rfl⟩ : ∃ f, fuel = f + 1 := ⟨fuel - 1, by omega⟩
    have hc : ¬ nI m ≤ nI i := nI_ge (by omega) (by omega)
    have hi1 : nI i + 1 = nI (i + 1) := (nI_succ i).symm
    have ea : (40 * nI t + nI i0) + nI i = nI (40 * t + (i0 + i)) := by rw [x40, nI_add, Nat.add_assoc]
    have eb : nI o + nI i = nI (o + i) := nI_add o i
    have h8 : o + i < 8 := by omega
    have em : upm N 47 (24 + 4 * (o + i) + 1) (mX6_within (x (i0 + i))) = upr N 47 (upd s (24 + 4 * (o + i) + 1) (mX6_within (x (i0 + i)))) := by rw [upm_upr, h47]
    obtain ⟨a1, a2⟩ := ih f (i + 1) (upr N 47 (upd s (24 + 4 * (o + i) + 1) (mX6_within (x (i0 + i))))) _ (by omega) (by omega) (upr_at _ _ _) (fun j hj => by rw [upr_ne (by decide)]; exact hx j hj)
    rw [upr_upr] at a1
    constructor
    · rw [mX6_minds_98, if_neg hc, ea, eb, ix1 (o + i) h8, nIc (show 40 * t + (i0 + i) < 2 ^ 31 by omega), hx (i0 + i) (by omega), hi1, em]
      exact a1
    · rw [PX6_minds_98]
      rw [ea, eb, ix1 (o + i) h8, nIc (show 40 * t + (i0 + i) < 2 ^ 31 by omega), hx (i0 + i) (by omega), hi1, em]
      exact fun _ => ⟨vin (by omega) (by decide), ixn1 (o + i) h8, a2⟩
theorem add64 : ∀ i, i < 41 → ∀ k, k < 9 → (nI i).toInt64 + (nI k).toInt64 = (nI (i + k)).toInt64 := by decide
theorem ok_minds {M : Mem} (a b c d : Int32) (h : Inv M) : OKm (PX5_minds a b c d) (mX5_minds a b c d) (PX6_minds a b c d) (mX6_minds a b c d) M := by
  obtain ⟨n, hR⟩ := h.1
  have hn := hR.1
  obtain ⟨e1, e2⟩ := has_eq (M := M) (N := M) (b := 1) (a := c) hR.2.1.1 hR.2.1.2 hn
  have z00 : (0 : Int32) = 0 := rfl
  have es := isSheet_iff a
  have ei : mX6_isIn d.toInt64 0 8 = mX5_isWithin d 0 8 := isIn_eq d 0 8
  by_cases hh : 0 ≤ a ∧ a ≤ 3
  case neg =>
    have hh6 : ¬ mX6_isSheet a = true := fun q => hh (es.mp q)
    unfold OKm mX5_minds mX6_minds PX5_minds PX6_minds
    rw [if_neg hh]
    dsimp only
    rw [if_neg hh6]
    exact ⟨fun q => absurd q hh, fun q => absurd q hh6, rfl, h⟩
  have hh6 := es.mpr hh
  by_cases hc : mX4_has 1 c M = true
  case neg =>
    have hc6 : ¬ mX6_isOne c M = true := by rw [← e1]; exact hc
    unfold OKm mX5_minds mX6_minds PX5_minds PX6_minds
    rw [if_pos hh, if_neg hc]
    dsimp only
    rw [if_pos hh6, if_neg hc6]
    exact ⟨fun _ q => absurd q hc, fun _ q => absurd q hc6, rfl, h⟩
  have hc6 : mX6_isOne c M = true := by rw [← e1]; exact hc
  by_cases hd : mX5_isWithin d 0 8 = true
  case neg =>
    unfold OKm mX5_minds mX6_minds PX5_minds PX6_minds
    rw [if_pos hh, if_pos hc, if_neg hd]
    dsimp only
    rw [if_pos hh6, if_pos hc6, ei, if_neg hd]
    exact ⟨fun _ _ q => absurd q hd, fun _ _ q => absurd q hd, rfl, h⟩
  obtain ⟨o, ho, rfl⟩ := e2 hc
  obtain ⟨t, ht, rfl⟩ := sheet_n hh
  obtain ⟨m, hm, rfl⟩ := within_n (m := 8) (by decide) hd
  have h8 : o < 8 := by omega
  have hv : vp_in (nI t) 4 := vin ht (by decide)
  have ct : (nI t).toNatClampNeg = t := nIc (by omega)
  have c5 : (nI m ≤ M 1 6 - nI o) ↔ o + m ≤ n := by
    rw [hR.2.1.1, nI_subc (by omega), nI_le_iff (by omega) (by omega)]
    omega
  have c6 : (nI o + nI m ≤ M 47 0) ↔ o + m ≤ n := by
    rw [hR.2.1.2, nI_add, nI_le_iff (by omega) (by omega)]
  by_cases hon : o + m ≤ n
  case neg =>
    have k5 : ¬ (nI m ≤ M 1 6 - nI o) := fun q => hon (c5.mp q)
    have k6 : ¬ (nI o + nI m ≤ M 47 0) := fun q => hon (c6.mp q)
    unfold OKm mX5_minds mX6_minds PX5_minds PX6_minds
    rw [if_pos hh, if_pos hc, if_pos hd, if_neg k5]
    dsimp only
    rw [if_pos hh6, if_pos hc6, ei, if_pos hd, if_neg k6]
    exact ⟨fun _ _ _ q => absurd q k5, fun _ _ _ q => absurd q k6, rfl, h⟩
  have k5 := c5.mpr hon
  have k6 := c6.mpr hon
  rcases sheet_both h.2.2.2.2.1 ht with ⟨m1, m2⟩ | ⟨so, sz, hso, hsz, m1, m2, m3, m4, m5⟩
  case inl =>
    have ms := missing_t m1
    have nl : ¬ 0 ≤ M 57 t := by rw [m2]; decide
    have el : mX6_lacks (nI t) 0 M = -11 := by unfold mX6_lacks; rw [ct, if_neg nl]
    have pl : PX6_lacks (nI t) 0 M := by unfold PX6_lacks; rw [ct]; exact ⟨hv, fun _ => hv⟩
    have nz : ¬ (-11 : Int32) = 0 := by decide
    unfold OKm mX5_minds mX6_minds PX5_minds PX6_minds
    rw [if_pos hh, if_pos hc, if_pos hd, if_pos k5, qpl_n ht, if_pos ms]
    dsimp only
    rw [if_pos hh6, if_pos hc6, ei, if_pos hd, if_pos k6, el, if_neg nz]
    exact ⟨fun _ _ _ _ q => absurd ms q, fun _ _ _ _ => ⟨pl, fun q => absurd q nz, fun _ => pl⟩, rfl, h⟩
  have ms := missing_f hso m1
  have nl : 0 ≤ M 57 t := by rw [m2]; exact nI_pos' (by omega)
  have pl : PX6_lacks (nI t) 0 M := by unfold PX6_lacks; rw [ct]; exact ⟨hv, fun _ => hv⟩
  by_cases hso0 : nI so = 0
  case neg =>
    have el : mX6_lacks (nI t) 0 M = -13 := by unfold mX6_lacks; rw [ct, if_pos nl, m2, if_neg hso0]
    have nz : ¬ (-13 : Int32) = 0 := by decide
    unfold OKm mX5_minds mX6_minds PX5_minds PX6_minds
    rw [if_pos hh, if_pos hc, if_pos hd, if_pos k5, qpl_n ht, if_neg ms, m1, if_neg hso0]
    dsimp only
    rw [if_pos hh6, if_pos hc6, ei, if_pos hd, if_pos k6, el, if_neg nz]
    exact ⟨fun _ _ _ _ _ q => absurd q hso0, fun _ _ _ _ => ⟨pl, fun q => absurd q nz, fun _ => pl⟩, rfl, h⟩
  have el : mX6_lacks (nI t) 0 M = 0 := by unfold mX6_lacks; rw [ct, if_pos nl, m2, if_pos hso0]
  have ej : mX6_isIn b.toInt64 0 ((nI sz).toInt64) = mX5_isWithin b 0 (nI sz) := isIn_eq b 0 (nI sz)
  by_cases hb : mX5_isWithin b 0 (nI sz) = true
  case neg =>
    have u5 : mX5_minds (nI t) b (nI o) (nI m) M = (-12, M) := by
      unfold mX5_minds
      rw [if_pos hh, if_pos hc, if_pos hd, if_pos k5, qpl_n ht, if_neg ms, m1, if_pos hso0, m3, if_neg hb]
    have u6 : mX6_minds (nI t) b (nI o) (nI m) M = (-12, M) := by
      unfold mX6_minds
      rw [if_pos hh6, if_pos hc6, ei, if_pos hd, if_pos k6, el, if_pos z00, ct, m4, ej, if_neg hb]
    unfold OKm
    rw [u5]
    dsimp only
    rw [u6]
    refine ⟨?_, ?_, rfl, h⟩
    · unfold PX5_minds
      rw [qpl_n ht, m3]
      exact fun _ _ _ _ _ _ q => absurd q hb
    · unfold PX6_minds
      rw [ct, m4, ej]
      exact fun _ _ _ _ => ⟨pl, fun _ => ⟨hv, fun q => absurd q hb⟩, fun q => absurd el q⟩
  obtain ⟨i0, hi0, rfl⟩ := within_n (m := sz) (by omega) hb
  have d5 : (nI m ≤ nI sz - nI i0) ↔ i0 + m ≤ sz := by
    rw [nI_subc hi0, nI_le_iff (by omega) (by omega)]
    omega
  have d6 : (lg_cmp ((nI i0).toInt64 + (nI m).toInt64) (nI sz).toInt64 ≤ 0) ↔ i0 + m ≤ sz := by
    rw [lg_cmp_le, add64 i0 (by omega) m (by omega), Int64.le_iff_toInt_le, toInt64_toInt, toInt64_toInt, ← Int32.le_iff_toInt_le, nI_le_iff (by omega) (by omega)]
  by_cases him : i0 + m ≤ sz
  case neg =>
    have k7 : ¬ (nI m ≤ nI sz - nI i0) := fun q => him (d5.mp q)
    have k8 : ¬ (lg_cmp ((nI i0).toInt64 + (nI m).toInt64) (nI sz).toInt64 ≤ 0) := fun q => him (d6.mp q)
    have u5 : mX5_minds (nI t) (nI i0) (nI o) (nI m) M = (-12, M) := by
      unfold mX5_minds
      rw [if_pos hh, if_pos hc, if_pos hd, if_pos k5, qpl_n ht, if_neg ms, m1, if_pos hso0, m3, if_pos hb, if_neg k7]
    have u6 : mX6_minds (nI t) (nI i0) (nI o) (nI m) M = (-12, M) := by
      unfold mX6_minds
      rw [if_pos hh6, if_pos hc6, ei, if_pos hd, if_pos k6, el, if_pos z00, ct, m4, ej, if_pos hb, if_neg k8]
    unfold OKm
    rw [u5]
    dsimp only
    rw [u6]
    refine ⟨?_, ?_, rfl, h⟩
    · unfold PX5_minds
      rw [qpl_n ht, m3]
      exact fun _ _ _ _ _ _ _ q => absurd q k7
    · unfold PX6_minds
      rw [ct, m4]
      exact fun _ _ _ _ => ⟨pl, fun _ => ⟨hv, fun _ => ⟨hv, fun q => absurd q k8⟩⟩, fun q => absurd el q⟩
  have k7 := d5.mpr him
  have k8 := d6.mpr him
  obtain ⟨M1, a1, a2, a3, a4⟩ := minds103 (x := fun j => M 59 (40 * t + j)) (n := n) ht hm hon (show i0 + m ≤ 40 by omega) m 400 0 M (M 47) (by omega) (by omega) hR m5
  have a1' : mX5_minds_103 (nI t) 400 (nI i0) (nI o) (nI m) 0 M = _ := a1
  have s47 : M1 47 = M 47 := a4 47 (by decide)
  obtain ⟨b1, b2⟩ := minds98 (x := fun j => M 59 (40 * t + j)) (n := n) ht hm hon hn (show i0 + m ≤ 40 by omega) m 400 0 M1 (M 47) (by omega) (by omega) s47 (fun j _ => by rw [a4 59 (by decide)])
  have b1' : mX6_minds_98 400 (nI t) (nI i0) (nI o) (nI m) 0 M1 = _ := b1
  have i1 : mX6_isOne (nI o) M1 = true := by
    unfold mX6_isOne at hc6 ⊢
    rw [s47]; exact hc6
  have k6' : nI o + nI m ≤ M1 47 0 := by rw [s47]; exact k6
  have pl' : PX6_lacks (nI t) 0 M1 := by unfold PX6_lacks; rw [ct]; exact ⟨hv, fun _ => hv⟩
  have el' : mX6_lacks (nI t) 0 M1 = 0 := by
    unfold mX6_lacks at el ⊢
    rw [a4 57 (by decide)]; exact el
  have m4' : M1 58 t = nI sz := by rw [a4 58 (by decide)]; exact m4
  have u5 : mX5_minds (nI t) (nI i0) (nI o) (nI m) M = mX5_minds_103 (nI t) 400 (nI i0) (nI o) (nI m) 0 M := by
    unfold mX5_minds
    rw [if_pos hh, if_pos hc, if_pos hd, if_pos k5, qpl_n ht, if_neg ms, m1, if_pos hso0, m3, if_pos hb, if_pos k7]
  have u6 : mX6_minds (nI t) (nI i0) (nI o) (nI m) M1 = mX6_minds_98 400 (nI t) (nI i0) (nI o) (nI m) 0 M1 := by
    unfold mX6_minds
    rw [if_pos hh6, if_pos i1, ei, if_pos hd, if_pos k6', el', if_pos z00, ct, m4', ej, if_pos hb, if_pos k8]
  unfold OKm
  rw [u5, a1']
  dsimp only
  rw [u6, b1']
  refine ⟨?_, ?_, rfl, ?_⟩
  · unfold PX5_minds
    exact fun _ _ _ _ _ _ _ _ => a2
  · unfold PX6_minds
    rw [ct, m4']
    exact fun _ _ _ _ => ⟨pl', fun _ => ⟨hv, fun _ => ⟨hv, fun _ => b2⟩⟩, fun q => absurd el' q⟩
  · change Inv (upr M1 47 (mdS (fun j => M 59 (40 * t + (i0 + j))) o m 0 (M 47)))
    refine h.now (fun p hp h7 => ?_) ⟨n, a3.congr (fun j hj => upr_ne (by omega)) (fun j hj => by rw [upr_at])⟩
    unfold PS at hp
    rw [upr_ne (by omega)]
    exact a4 p (by omega)
