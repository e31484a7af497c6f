/-! FROM WHERE one fits what a sheet tells -/
def fitb (x w : Nat → Int32) : Nat → Nat → Bool
  | 0, _ => true
  | k + 1, i => if x i = -1 then fitb x w k (i + 1) else if x i = w (i + 1) then fitb x w k (i + 1) else false
def ftn (g : Nat → Bool) : Nat → Int32 → Int32 → Int32 × Int32
  | 0, c, l => (c, l)
  | k + 1, c, l => if g k = true then ftn g k (c + 1) (nI k) else ftn g k c l
theorem ftn_t {g : Nat → Bool} {k : Nat} {c l : Int32} (h : g k = true) : ftn g (k + 1) c l = ftn g k (c + 1) (nI k) := by
  rw [ftn, if_pos h]
theorem ftn_f {g : Nat → Bool} {k : Nat} {c l : Int32} (h : g k = false) : ftn g (k + 1) c l = ftn g k c l := by
  rw [ftn, if_neg (by rw [h]; decide)]
theorem fitb_ext {x w w' : Nat → Int32} (h : ∀ j, w j = w' j) : ∀ k i, fitb x w k i = fitb x w' k i := by
  intro k
  induction k with
  | zero => intro i; rfl
  | succ k ih =>
    intro i
    rw [fitb, fitb, ih, h]
theorem dn_succ (k : Nat) : nI (k + 1) + (-1) = nI k := by
  rw [nI_succ, Int32.add_assoc]
  exact Int32.add_zero _
theorem fits40 {x w : Nat → Int32} {q sz : Nat} {M : Mem} (hx : ∀ i, i < 40 → M (q + 1) i = x i) (hs : M q 2 = nI sz) (hsz : sz ≤ 40) (hw : ∀ j, j ≤ sz → M 29 j = w j) : ∀ (k fuel i : Nat), k < fuel → i + k = sz →
    mX5_fitsFrom_40 q fuel (nI i) M = (fitb x w k i, M) ∧ PX5_fitsFrom_40 q fuel (nI i) M := by
  intro k
  induction k with
  | zero =>
    intro fuel i hf hi
    obtain ⟨f, rfl⟩ : ∃ f, fuel = f + 1 := ⟨fuel - 1, by omega⟩
    have hc : M q 2 ≤ nI i := by rw [hs]; exact nI_le (by omega) (by omega)
    constructor
    · rw [mX5_fitsFrom_40, if_pos hc]
      rfl
    · rw [PX5_fitsFrom_40]
      exact fun z => absurd hc z
  | succ k ih =>
    intro fuel i hf hi
    obtain ⟨f, rfl⟩ : ∃ f, fuel = f + 1 := ⟨fuel - 1, by omega⟩
    have hc : ¬ M q 2 ≤ nI i := by rw [hs]; exact nI_ge (by omega) (by omega)
    have hi1 : nI i + 1 = nI (i + 1) := (nI_succ i).symm
    obtain ⟨e, p⟩ := ih f (i + 1) (by omega) (by omega)
    rw [mX5_fitsFrom_40, PX5_fitsFrom_40, if_neg hc]
    unfold mX5_fitsFrom_81 PX5_fitsFrom_81
    rw [hi1, nIc (show i < 2 ^ 31 by omega), nIc (show i + 1 < 2 ^ 31 by omega), hx i (by omega), hw (i + 1) (by omega), e, fitb]
    refine ⟨?_, fun _ => ⟨vin (by omega) (by decide), fun _ => p, fun _ => ⟨vin (by omega) (by decide), vin (by omega) (by decide), fun _ => p⟩⟩⟩
    by_cases q1 : x i = -1
    · rw [if_pos q1, if_pos q1]
    · rw [if_neg q1, if_neg q1]
      by_cases q2 : x i = w (i + 1)
      · rw [if_pos q2, if_pos q2]
      · rw [if_neg q2, if_neg q2]
theorem fitsFrom5 {x s : Nat → Int32} {q sz n o hh : Nat} {M : Mem} (hR : R M 1 s n) (ho : o < n) (hh16 : hh < 16) (hq : 34 ≤ q) (hx : ∀ i, i < 40 → M (q + 1) i = x i) (hs : M q 2 = nI sz) (hsz : sz ≤ 40) :
    ∃ M', mX5_fitsFrom q (nI hh) (nI o) M = (fitb x (fun j => stepsS (upd s (24 + 4 * o + 3) (nI hh)) n j (24 + 4 * o + 3)) sz 0, M') ∧ PX5_fitsFrom q (nI hh) (nI o) M ∧ ∀ z, (z < 15 ∨ 21 < z) → z ≠ 29 → M' z = M z := by
  have hn := hR.1
  have hb := become_R TB15 TB1 (by decide) hR
  have hbf := (become_at TB15 TB1 (by decide) M).2.2.2.2
  obtain ⟨M0, e0⟩ : ∃ y, y = mX4_become 15 1 M := ⟨_, rfl⟩
  rw [← e0] at hb hbf
  have ha : R (upm M0 21 o (nI hh)) 15 (upd s (24 + 4 * o + 3) (nI hh)) n := hb.air (j := 3) ho (by decide) (fun e => by cases e) (fun _ => ⟨hh, hh16, rfl⟩)
  obtain ⟨M1, e1⟩ : ∃ y, y = upm M0 21 o (nI hh) := ⟨_, rfl⟩
  rw [← e1] at ha
  have f1 : ∀ z, (z < 15 ∨ 21 < z) → M1 z = M z := fun z hz => by rw [e1, upm_ne (by omega), hbf z (by omega)]
  have s1 : M1 q 2 = nI sz := by rw [f1 q (by omega)]; exact hs
  obtain ⟨w1, w2, w3, w4⟩ := walk_eq (p := 29) (m := sz) (by decide) ho (by omega) ha
  obtain ⟨M2, e2⟩ : ∃ y, y = mX4_walk 15 29 61 (nI o) (nI sz) M1 := ⟨_, rfl⟩
  rw [← e2] at w2 w3
  have f2 : ∀ z, (z < 15 ∨ 21 < z) → z ≠ 29 → M2 z = M z := fun z h1 h2 => by rw [w3 z (by omega) (by omega) h2, f1 z h1]
  obtain ⟨c1, c2⟩ := fits40 (x := x) (w := fun j => stepsS (upd s (24 + 4 * o + 3) (nI hh)) n j (24 + 4 * o + 3)) (q := q) (M := M2) (fun i hi => by rw [f2 (q + 1) (by omega) (by omega)]; exact hx i hi) (by rw [f2 q (by omega) (by omega)]; exact hs) hsz w2 sz 400 0 (by omega) (by omega)
  refine ⟨M2, ?_, ?_, f2⟩
  · unfold mX5_fitsFrom mX5_fitsFrom_11 mX5_fitsFrom_37
    rw [← e0, nIc (by omega), ← e1, s1, ← e2]
    exact c1
  · unfold PX5_fitsFrom PX5_fitsFrom_11 PX5_fitsFrom_37
    rw [← e0, nIc (by omega), ← e1, s1, ← e2]
    exact ⟨pbecome _ _ _, vin (by omega) (by decide), w4, c2⟩
theorem fits56 {x s : Nat → Int32} {t sz n o : Nat} (ho : o < n) (ht : t < 4) (hsz : sz ≤ 40) {g : Nat → Bool} (hg : ∀ h, fitb x (fun j => stepsS (upd s (24 + 4 * o + 3) (nI h)) n j (24 + 4 * o + 3)) sz 0 = g h) (v3 : Int32) : ∀ (k fuel : Nat) (c l : Int32) (M : Mem), k < fuel → k ≤ 16 → R M 1 s n → (∀ i, i < 40 → M (34 + 2 * t + 1) i = x i) → M (34 + 2 * t) 2 = nI sz →
    ∃ M', mX5_fits_56 (nI t) fuel (nI o) v3 c l (nI k + (-1)) M = (if v3 = 0 then (ftn g k c l).1 else (ftn g k c l).2, M') ∧ PX5_fits_56 (nI t) fuel (nI o) v3 c l (nI k + (-1)) M ∧ ∀ z, (z < 15 ∨ 21 < z) → z ≠ 29 → M' z = M z := by
  intro k
  induction k with
  | zero =>
    intro fuel c l M hf hk hR hx hs
    obtain ⟨f, rfl⟩ : ∃ f, fuel = f + 1 := ⟨fuel - 1, by omega⟩
    have hc : nI 0 + (-1) < 0 := by decide
    refine ⟨M, ?_, ?_, fun _ _ _ => rfl⟩
    · rw [mX5_fits_56, if_pos hc]
      by_cases q : v3 = 0
      · rw [if_pos q, if_pos q]; rfl
      · rw [if_neg q, if_neg q]; rfl
    · rw [PX5_fits_56]
      exact fun z => absurd hc z
  | succ k ih =>
    intro fuel c l M hf hk hR hx hs
    obtain ⟨f, rfl⟩ : ∃ f, fuel = f + 1 := ⟨fuel - 1, by omega⟩
    rw [dn_succ]
    have hc : ¬ nI k < 0 := Int32.not_lt.mpr (nI_pos' (by omega))
    obtain ⟨M1, a1, a2, a3⟩ := fitsFrom5 (hh := k) (q := 34 + 2 * t) hR ho (by omega) (by omega) hx hs hsz
    rw [hg k] at a1
    have hR1 : R M1 1 s n := hR.congr (fun j hj => a3 _ (by omega) (by omega)) (fun _ _ => rfl)
    have hx1 : ∀ i, i < 40 → M1 (34 + 2 * t + 1) i = x i := fun i hi => by rw [a3 _ (by omega) (by omega)]; exact hx i hi
    have hs1 : M1 (34 + 2 * t) 2 = nI sz := by rw [a3 _ (by omega) (by omega)]; exact hs
    have z1 : ¬ b2i true = 0 := by decide
    have z0 : b2i false = 0 := by decide
    rw [mX5_fits_56, PX5_fits_56, if_neg hc, qpl_n ht, a1]
    unfold mX5_fits_70 PX5_fits_70 mX5_fits_80 PX5_fits_80
    cases hd : g k with
    | true =>
      obtain ⟨M', b1, b2, b3⟩ := ih f (c + 1) (nI k) M1 (by omega) (by omega) hR1 hx1 hs1
      refine ⟨M', ?_, fun _ => ⟨a2, fun z => absurd z z1, fun _ => b2⟩, fun z h1 h2 => (b3 z h1 h2).trans (a3 z h1 h2)⟩
      rw [if_neg z1, ftn_t hd]
      exact b1
    | false =>
      obtain ⟨M', b1, b2, b3⟩ := ih f c l M1 (by omega) (by omega) hR1 hx1 hs1
      refine ⟨M', ?_, fun _ => ⟨a2, fun _ => b2, fun z => absurd z0 z⟩, fun z h1 h2 => (b3 z h1 h2).trans (a3 z h1 h2)⟩
      rw [if_pos z0, ftn_f hd]
      exact b1
theorem told16 {u x : Nat → Int32} {n o t sz : Nat} (hG : GS u n) (ho : o < n) (ht : t < 4) (hsz : sz ≤ 40) : ∀ (k fuel i : Nat) (N : Mem), k + 1 < fuel → i + k = sz → N 47 = stepsS u n i → (∀ j, j < 56 → N 49 j = u j) → N 58 t = nI sz → (∀ i, i < 40 → N 59 (40 * t + i) = x i) →
    ∃ N', mX6_isTold_16 fuel (nI t) (nI o) 1 (nI i) N = (b2i (fitb x (fun j => stepsS u n j (24 + 4 * o + 3)) k i), N') ∧ PX6_isTold_16 fuel (nI t) (nI o) 1 (nI i) N ∧ (∀ j, j < 56 → N' 47 j = u j) ∧ ∀ q, q ≠ 47 → N' q = N q := by
  have h1 : ¬ (1 : Int32) = 0 := by decide
  have vt : vp_in (nI t) 4 := vin ht (by decide)
  have ct : (nI t).toNatClampNeg = t := nIc (by omega)
  intro k
  induction k with
  | zero =>
    intro fuel i N hf hi h47 h49 h58 h59
    obtain ⟨f, rfl⟩ : ∃ f, fuel = f + 1 := ⟨fuel - 1, by omega⟩
    have hc : N 58 t ≤ nI i := by rw [h58]; exact nI_le (by omega) (by omega)
    have x := back_ex (s := u) (N := N) h49
    rw [mX6_isTold_16, PX6_isTold_16, ct, if_pos hc]
    exact ⟨mX6_copyRow 49 56 47 56 N, rfl, ⟨vt, fun _ => ⟨(back_eq _).2, Or.inr rfl⟩, fun z => absurd hc z⟩, x.1, x.2⟩
  | succ k ih =>
    intro fuel i N hf hi h47 h49 h58 h59
    obtain ⟨f, rfl⟩ : ∃ f, fuel = f + 1 := ⟨fuel - 1, by omega⟩
    have hn := hG.1
    have h8 : o < 8 := by omega
    have hc : ¬ N 58 t ≤ nI i := by rw [h58]; exact nI_ge (by omega) (by omega)
    have hi1 : nI i + 1 = nI (i + 1) := (nI_succ i).symm
    obtain ⟨t1, t2⟩ := goesOn_eq (hG.steps i) h47
    rw [← stepsS_succ] at t1
    obtain ⟨N1, e1⟩ : ∃ y, y = mX6_goesOn N := ⟨_, rfl⟩
    rw [← e1] at t1
    have m47 : N1 47 = stepsS u n (i + 1) := by rw [t1, upr_at]
    have f1 : ∀ q, q ≠ 47 → N1 q = N q := fun q hq => by rw [t1, upr_ne hq]
    have a0 : mX6_its (nI o) 3 N1 = stepsS u n (i + 1) (24 + 4 * o + 3) := by rw [its3 h8, m47]
    have ex : N1 59 ((40 * nI t) + nI i).toNatClampNeg = x i := by rw [x40, nIc (by omega), f1 59 (by decide)]; exact h59 i (by omega)
    have vx : vp_in ((40 * nI t) + nI i) 160 := by rw [x40]; exact vin (by omega) (by decide)
    have n49 : ∀ j, j < 56 → N1 49 j = u j := fun j hj => by rw [f1 49 (by decide)]; exact h49 j hj
    have n58 : N1 58 t = nI sz := by rw [f1 58 (by decide)]; exact h58
    have n59 : ∀ i, i < 40 → N1 59 (40 * t + i) = x i := fun i hi => by rw [f1 59 (by decide)]; exact h59 i hi
    obtain ⟨Ng, c1, c2, c3, c4⟩ := ih f (i + 1) N1 (by omega) (by omega) m47 n49 n58 n59
    have bad : mX6_isTold_16 f (nI t) (nI o) 0 (nI (i + 1)) N1 = (0, mX6_copyRow 49 56 47 56 N1) ∧ PX6_isTold_16 f (nI t) (nI o) 0 (nI (i + 1)) N1 := by
      obtain ⟨g, rfl⟩ : ∃ g, f = g + 1 := ⟨f - 1, by omega⟩
      rw [mX6_isTold_16, PX6_isTold_16, ct]
      unfold mX6_isTold_84 PX6_isTold_84
      refine ⟨?_, vt, fun _ => ⟨(back_eq _).2, Or.inl rfl⟩, fun _ => ⟨fun _ => ⟨(back_eq _).2, Or.inl rfl⟩, fun q => absurd rfl q⟩⟩
      by_cases z : N1 58 t ≤ nI (i + 1)
      · rw [if_pos z]
      · rw [if_neg z, if_pos rfl]
    obtain ⟨b1, b2⟩ := bad
    have y := back_ex (s := u) (N := N1) n49
    have hP : PX6_isTold_16 (f + 1) (nI t) (nI o) 1 (nI i) N := by
      rw [PX6_isTold_16, ct]
      refine ⟨vt, fun z => absurd z hc, fun _ => ⟨fun z => absurd z h1, fun _ => ⟨t2, ?_⟩⟩⟩
      rw [← e1]
      unfold PX6_isTold_35 PX6_isTold_72 PX6_isTold_77
      rw [hi1]
      exact ⟨vx, fun _ => c2, fun _ => ⟨vx, pits3 h8, fun _ => c2, fun _ => b2⟩⟩
    have hM : mX6_isTold_16 (f + 1) (nI t) (nI o) 1 (nI i) N = if x i = -1 then mX6_isTold_16 f (nI t) (nI o) 1 (nI (i + 1)) N1 else if x i = stepsS u n (i + 1) (24 + 4 * o + 3) then mX6_isTold_16 f (nI t) (nI o) 1 (nI (i + 1)) N1 else mX6_isTold_16 f (nI t) (nI o) 0 (nI (i + 1)) N1 := by
      rw [mX6_isTold_16, ct, if_neg hc, if_neg h1, ← e1]
      unfold mX6_isTold_35 mX6_isTold_72 mX6_isTold_77
      rw [hi1, ex, a0]
    rw [hM, fitb]
    by_cases q1 : x i = -1
    · rw [if_pos q1, if_pos q1]
      exact ⟨Ng, c1, hP, c3, fun z hz => (c4 z hz).trans (f1 z hz)⟩
    · rw [if_neg q1, if_neg q1]
      by_cases q2 : x i = stepsS u n (i + 1) (24 + 4 * o + 3)
      · rw [if_pos q2, if_pos q2]
        exact ⟨Ng, c1, hP, c3, fun z hz => (c4 z hz).trans (f1 z hz)⟩
      · rw [if_neg q2, if_neg q2, b1]
        exact ⟨_, rfl, hP, y.1, fun z hz => (y.2 z hz).trans (f1 z hz)⟩
theorem fits69 {x s : Nat → Int32} {t sz n o : Nat} (ho : o < n) (ht : t < 4) (hsz : sz ≤ 40) (hG : ∀ h, h < 16 → GS (upd s (24 + 4 * o + 3) (nI h)) n) (hn : n ≤ 8) {g : Nat → Bool} (hg : ∀ h, fitb x (fun j => stepsS (upd s (24 + 4 * o + 3) (nI h)) n j (24 + 4 * o + 3)) sz 0 = g h) (v3 was : Int32) : ∀ (k fuel : Nat) (c l : Int32) (N : Mem), k < fuel → k ≤ 16 → (∀ j, j < 56 → j ≠ 24 + 4 * o + 3 → N 47 j = s j) → N 58 t = nI sz → (∀ i, i < 40 → N 59 (40 * t + i) = x i) →
    ∃ N', mX6_fits_69 fuel (nI t) (nI o) v3 ((24 + (4 * nI o)) + 3) was c l (nI k + (-1)) N = (if v3 = 0 then (ftn g k c l).1 else (ftn g k c l).2, N') ∧ PX6_fits_69 fuel (nI t) (nI o) v3 ((24 + (4 * nI o)) + 3) was c l (nI k + (-1)) N ∧ (∀ j, j < 56 → j ≠ 24 + 4 * o + 3 → N' 47 j = s j) ∧ N' 47 (24 + 4 * o + 3) = was ∧ ∀ p, p ≠ 47 → p ≠ 49 → N' p = N p := by
  have h8 : o < 8 := by omega
  have e3 := ix3 o h8
  have v3' := ixn3 o h8
  intro k
  induction k with
  | zero =>
    intro fuel c l N hf hk hN h58 h59
    obtain ⟨f, rfl⟩ : ∃ f, fuel = f + 1 := ⟨fuel - 1, by omega⟩
    have hc : nI 0 + (-1) < 0 := by decide
    refine ⟨upm N 47 (24 + 4 * o + 3) was, ?_, ?_, fun j hj e => by rw [upm_at, upd_ne e]; exact hN j hj e, by rw [upm_at, upd_at], fun p h1 _ => upm_ne h1⟩
    · rw [mX6_fits_69, if_pos hc, e3]
      by_cases q : v3 = 0
      · rw [if_pos q, if_pos q]; rfl
      · rw [if_neg q, if_neg q]; rfl
    · rw [PX6_fits_69]
      exact ⟨fun _ => v3', fun z => absurd hc z⟩
  | succ k ih =>
    intro fuel c l N hf hk hN h58 h59
    obtain ⟨f, rfl⟩ : ∃ f, fuel = f + 1 := ⟨fuel - 1, by omega⟩
    rw [dn_succ]
    have hc : ¬ nI k < 0 := Int32.not_lt.mpr (nI_pos' (by omega))
    have h56 := upd_56 (v := nI k) hN
    have hGk := hG k (by omega)
    obtain ⟨Na, ea⟩ : ∃ y, y = upm N 47 (24 + 4 * o + 3) (nI k) := ⟨_, rfl⟩
    have na47 : Na 47 = upd (N 47) (24 + 4 * o + 3) (nI k) := by rw [ea, upm_at]
    have hGu : GS (upd (N 47) (24 + 4 * o + 3) (nI k)) n := hGk.congr h56
    obtain ⟨g1, g2⟩ := aside_eq Na
    rw [na47] at g1
    obtain ⟨N1, a1, a2, a3, a4⟩ := told16 (x := x) hGu ho ht hsz sz 400 0 (upr Na 49 (c56 (upd (N 47) (24 + 4 * o + 3) (nI k)) (Na 49))) (by omega) (by omega) ((upr_ne (by decide)).trans na47) (fun j hj => by rw [upr_at, c56_at hj]) (by rw [upr_ne (by decide), ea, upm_ne (by decide)]; exact h58) (fun i hi => by rw [upr_ne (by decide), ea, upm_ne (by decide)]; exact h59 i hi)
    have a1' : mX6_isTold_16 400 (nI t) (nI o) 1 0 (upr Na 49 (c56 (upd (N 47) (24 + 4 * o + 3) (nI k)) (Na 49))) = _ := a1
    have ew : fitb x (fun j => stepsS (upd (N 47) (24 + 4 * o + 3) (nI k)) n j (24 + 4 * o + 3)) sz 0 = fitb x (fun j => stepsS (upd s (24 + 4 * o + 3) (nI k)) n j (24 + 4 * o + 3)) sz 0 := fitb_ext (fun j => at_56 hGk ho h56 j) sz 0
    rw [ew, hg k] at a1'
    have rT : mX6_isTold (nI t) (nI o) Na = (b2i (g k), N1) := by
      unfold mX6_isTold mX6_isTold_11
      rw [g1]
      exact a1'
    have pT : PX6_isTold (nI t) (nI o) Na := by
      unfold PX6_isTold PX6_isTold_11
      rw [g1]
      exact ⟨g2, a2⟩
    have fr : ∀ p, p ≠ 47 → p ≠ 49 → N1 p = N p := fun p h1 h2 => by rw [a4 p h1, upr_ne h2, ea, upm_ne h1]
    have hN1 : ∀ j, j < 56 → j ≠ 24 + 4 * o + 3 → N1 47 j = s j := fun j hj e => by rw [a3 j hj, upd_ne e]; exact hN j hj e
    have n58 : N1 58 t = nI sz := by rw [fr 58 (by decide) (by decide)]; exact h58
    have n59 : ∀ i, i < 40 → N1 59 (40 * t + i) = x i := fun i hi => by rw [fr 59 (by decide) (by decide)]; exact h59 i hi
    have z1 : ¬ b2i true = 0 := by decide
    have z0 : b2i false = 0 := by decide
    rw [mX6_fits_69, PX6_fits_69, if_neg hc, e3, ← ea, rT]
    unfold mX6_fits_89 PX6_fits_89 mX6_fits_103 PX6_fits_103 mX6_fits_118 PX6_fits_118
    cases hd : g k with
    | true =>
      obtain ⟨N', b1, b2, b3, b4, b5⟩ := ih f (c + 1) (nI k) N1 (by omega) (by omega) hN1 n58 n59
      refine ⟨N', ?_, ⟨fun z => absurd z hc, fun _ => ⟨v3', pT, fun z => absurd z z1, fun _ => ⟨fun z => absurd z z1, fun _ => b2⟩⟩⟩, b3, b4, fun p h1 h2 => (b5 p h1 h2).trans (fr p h1 h2)⟩
      rw [if_neg z1, if_neg z1, ftn_t hd]
      exact b1
    | false =>
      obtain ⟨N', b1, b2, b3, b4, b5⟩ := ih f c l N1 (by omega) (by omega) hN1 n58 n59
      have c0 : c + 0 = c := Int32.add_zero c
      refine ⟨N', ?_, ⟨fun z => absurd z hc, fun _ => ⟨v3', pT, fun _ => ⟨fun _ => by rw [c0]; exact b2, fun z => absurd z0 z⟩, fun z => absurd z0 z⟩⟩, b3, b4, fun p h1 h2 => (b5 p h1 h2).trans (fr p h1 h2)⟩
      rw [if_pos z0, if_pos z0, ftn_f hd, c0]
      exact b1
theorem ok_fits {M : Mem} (a c d : Int32) (h : Inv M) : OKm (PX5_fits a c d) (mX5_fits a c d) (PX6_fits a c d) (mX6_fits a c d) M := by
  obtain ⟨n, hR⟩ := h.1
  have hn := hR.1
  obtain ⟨e1, e2⟩ := has_eq (M := M) (N := M) (b := 1) (a := c) hR.2.1.1 hR.2.1.2 hn
  have es := isSheet_iff a
  have ei : mX6_isIn d.toInt64 0 1 = mX5_isWithin d 0 1 := isIn_eq d 0 1
  by_cases hh : 0 ≤ a ∧ a ≤ 3
  · have hh6 := es.mpr hh
    by_cases hc : mX4_has 1 c M = true
    · have hc6 : mX6_isOne c M = true := by rw [← e1]; exact hc
      by_cases hd : mX5_isWithin d 0 1 = true
      · obtain ⟨o, ho, rfl⟩ := e2 hc
        obtain ⟨t, ht, rfl⟩ := sheet_n hh
        have h8 : o < 8 := by omega
        have hv : vp_in (nI t) 4 := vin ht (by decide)
        have ct : (nI t).toNatClampNeg = t := nIc (by omega)
        rcases sheet_both h.2.2.2.2.1 ht with ⟨m1, m2⟩ | ⟨so, sz, hso, hsz, m1, m2, m3, m4, m5⟩
        · have ms := missing_t m1
          have nl : ¬ 0 ≤ M 57 t := by rw [m2]; decide
          have u5 : mX5_fits (nI t) (nI o) d M = (-11, M) := by
            unfold mX5_fits
            rw [if_pos hh, if_pos hc, if_pos hd, qpl_n ht, if_pos ms]
          have u6 : mX6_fits (nI t) (nI o) d M = (-11, M) := by
            unfold mX6_fits
            rw [if_pos hh6, if_pos hc6, ei, if_pos hd, ct, if_neg nl]
          unfold OKm
          rw [u5]
          dsimp only
          rw [u6]
          refine ⟨?_, ?_, rfl, h⟩
          · unfold PX5_fits
            rw [qpl_n ht]
            exact fun _ _ _ q => absurd ms q
          · unfold PX6_fits
            rw [ct]
            exact fun _ _ _ => ⟨hv, fun q => absurd q nl⟩
        · have ms := missing_f hso m1
          have nl : 0 ≤ M 57 t := by rw [m2]; exact nI_pos' (by omega)
          have e15 : nI 16 + (-1) = 15 := by decide
          obtain ⟨M1, a1, a2, a3⟩ := fits56 (x := fun i => M 59 (40 * t + i)) (s := M 47) ho ht hsz (fun _ => rfl) d 16 400 0 (-3) M (by decide) (by decide) hR m5 m3
          rw [e15] at a1 a2
          have all : ∀ q, (q < 15 ∨ 21 < q) → q ≠ 29 → q ≠ 30 → q ≠ 31 → q ≠ 32 → q ≠ 33 → M1 q = M q := fun q h1 h2 _ _ _ _ => a3 q h1 h2
          have s47 : M1 47 = M 47 := a3 47 (by omega) (by decide)
          have i1 : mX6_isOne (nI o) M1 = true := by
            unfold mX6_isOne at hc6 ⊢
            rw [s47]; exact hc6
          obtain ⟨N', b1, b2, b3, b4, b5⟩ := fits69 (x := fun i => M 59 (40 * t + i)) (s := M 47) ho ht hsz (fun k hk => (hR.air (j := 3) ho (by decide) (fun e => by cases e) (fun _ => ⟨k, hk, rfl⟩)).gs) hn (fun _ => rfl) d (M 47 (24 + 4 * o + 3)) 16 400 0 (-3) M1 (by decide) (by decide) (fun j _ _ => by rw [s47]) (by rw [a3 58 (by omega) (by decide)]; exact m4) (fun i _ => by rw [a3 59 (by omega) (by decide)])
          rw [e15] at b1 b2
          have n57 : M1 57 t = M 57 t := by rw [a3 57 (by omega) (by decide)]
          have u5 : mX5_fits (nI t) (nI o) d M = mX5_fits_56 (nI t) 400 (nI o) d 0 (-3) 15 M := by
            unfold mX5_fits
            rw [if_pos hh, if_pos hc, if_pos hd, qpl_n ht, if_neg ms]
          have u6 : mX6_fits (nI t) (nI o) d M1 = mX6_fits_69 400 (nI t) (nI o) d ((24 + (4 * nI o)) + 3) (M 47 (24 + 4 * o + 3)) 0 (-3) 15 M1 := by
            unfold mX6_fits
            rw [if_pos hh6, if_pos i1, ei, if_pos hd, ct, n57, if_pos nl, ix3 o h8, s47]
          have hF : Fr M1 N' := ⟨fun p hp => by
            unfold PS at hp
            rw [b5 p (by omega) (by omega)], fun k hk => by
            by_cases e : k = 24 + 4 * o + 3
            · rw [e, b4, s47]
            · rw [b3 k hk e, s47]⟩
          unfold OKm
          rw [u5, a1]
          dsimp only
          rw [u6, b1]
          refine ⟨?_, ?_, rfl, Inv.fr ((Fr.of5 all).trans hF) h⟩
          · unfold PX5_fits
            exact fun _ _ _ _ => a2
          · unfold PX6_fits
            rw [ct, n57, ix3 o h8, s47]
            exact fun _ _ _ => ⟨hv, fun _ => ⟨ixn3 o h8, b2⟩⟩
      · unfold OKm mX5_fits mX6_fits PX5_fits PX6_fits
        rw [if_pos hh, if_pos hc, if_neg hd]
        dsimp only
        rw [if_pos hh6, if_pos hc6, ei, if_neg hd]
        exact ⟨fun _ _ q => absurd q hd, fun _ _ q => absurd q hd, rfl, h⟩
    · have hc6 : ¬ mX6_isOne c M = true := by rw [← e1]; exact hc
      unfold OKm mX5_fits mX6_fits PX5_fits PX6_fits
      rw [if_pos hh, if_neg hc]
      dsimp only
      rw [if_pos hh6, if_neg hc6]
      exact ⟨fun _ q => absurd q hc, fun _ q => absurd q hc6, rfl, h⟩
  · have hh6 : ¬ mX6_isSheet a = true := fun q => hh (es.mp q)
    unfold OKm mX5_fits mX6_fits PX5_fits PX6_fits
    rw [if_neg hh]
    dsimp only
    rw [if_neg hh6]
    exact ⟨fun q => absurd q hh, fun q => absurd q hh6, rfl, h⟩
