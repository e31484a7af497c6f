/-! THE REFERENCE makes the step -/
theorem GS.ho {s : Nat → Int32} {n o : Nat} (h : GS s n) (ho : o < n) : HO (s (24 + 4 * o + 3)) := (h.2.2.2.2.2 o ho).2.2
theorem GS.hr {s : Nat → Int32} {n o : Nat} (h : GS s n) (ho : o < n) : HO (s (24 + 4 * o + 2)) := (h.2.2.2.2.2 o ho).2.1
theorem GS.way {s : Nat → Int32} {n o : Nat} (h : GS s n) (ho : o < n) : ∃ k, k < 5 ∧ wayS s o = nI k := wayS_in h.r ho
theorem GS.mv1 {s : Nat → Int32} {n o : Nat} (h : GS s n) (ho : o < n) : GS (mv1 s o) n := (mv1_R h.r ho).gs
theorem GS.wt1 {s : Nat → Int32} {n o : Nat} (h : GS s n) (ho : o < n) : GS (wt1 s o) n := (wt1_R h.r ho).gs
theorem GS.turn {s : Nat → Int32} {n : Nat} (h : GS s n) : GS (turnS s) n := (turn_R h.r).1.gs
theorem GS.mvR {n : Nat} : ∀ (k i : Nat) (s : Nat → Int32), i + k ≤ n → GS s n → GS (mvR s i k) n
  | 0, _, _, _, h => h
  | k + 1, i, s, hi, h => GS.mvR k (i + 1) _ (by omega) (h.mv1 (by omega))
theorem pits0 {M : Mem} {o : Nat} (h : o < 8) : PX6_its (nI o) 0 M := ixn0 o h
theorem pits1 {M : Mem} {o : Nat} (h : o < 8) : PX6_its (nI o) 1 M := ixn1 o h
theorem pits2 {M : Mem} {o : Nat} (h : o < 8) : PX6_its (nI o) 2 M := ixn2 o h
theorem pits3 {M : Mem} {o : Nat} (h : o < 8) : PX6_its (nI o) 3 M := ixn3 o h
theorem pwayOf {M : Mem} {o : Nat} (h : o < 8) : PX6_wayOf (nI o) M := by
  have e0 := pits0 (M := M) h
  have e1 := pits1 (M := M) h
  have e2 := pits2 (M := M) h
  have e3 := pits3 (M := M) h
  unfold PX6_wayOf PX6_wayOf_70 PX6_wayOf_95 PX6_wayOf_133 PX6_towards PX6_wayOf_147 PX6_wayOf_165
  simp [e0, e1, e2, e3]
theorem pwets {M : Mem} {o : Nat} (h : o < 8) : PX6_wets (nI o) M := by
  have e0 := pits0 (M := M) h
  have e1 := pits1 (M := M) h
  have e2 := pits2 (M := M) h
  have e3 := pits3 (M := M) h
  unfold PX6_wets
  simp [e0, e1, e2, e3]
theorem on43 {n : Nat} : ∀ (k fuel i : Nat) (N : Mem) (s : Nat → Int32), k < fuel → i + k = n → GS s n → N 47 = s →
    mX6_goesOn_43 fuel (nI i) N = mX6_goesOn_104 400 0 (upr N 47 (mvR s i k)) ∧ (PX6_goesOn_104 400 0 (upr N 47 (mvR s i k)) → PX6_goesOn_43 fuel (nI i) N) := by
  intro k
  induction k with
  | zero =>
    intro fuel i N s hf hi hG hs
    obtain ⟨f, rfl⟩ : ∃ f, fuel = f + 1 := ⟨fuel - 1, by omega⟩
    have hn := hG.1
    have hc : N 47 0 ≤ nI i := by rw [hs, hG.2.1]; exact nI_le (by omega) (by omega)
    have eN : upr N 47 (mvR s i 0) = N := by
      show upr N 47 s = N
      rw [← hs]
      exact upr_self N 47
    rw [eN]
    constructor
    · rw [mX6_goesOn_43, if_pos hc]
    · intro hp
      rw [PX6_goesOn_43]
      exact ⟨fun _ => hp, fun q => absurd hc q⟩
  | succ k ih =>
    intro fuel i N s hf hi hG hs
    obtain ⟨f, rfl⟩ : ∃ f, fuel = f + 1 := ⟨fuel - 1, by omega⟩
    have hn := hG.1
    have hc : ¬ N 47 0 ≤ nI i := by rw [hs, hG.2.1]; exact nI_ge (by omega) (by omega)
    have hin : i < n := by omega
    have h8 : i < 8 := by omega
    have hw := wayOf_eq h8 hs (hG.ho hin) (hG.way hin)
    have gc := goC_eq (hG.ho hin) (hG.way hin)
    have hi1 : nI i + 1 = nI (i + 1) := (nI_succ i).symm
    have em : ∀ v, upm N 47 (24 + 4 * i + 3) v = upr N 47 (upd s (24 + 4 * i + 3) v) := fun v => by rw [upm_upr, hs]
    have eN : upr (upr N 47 (mv1 s i)) 47 (mvR (mv1 s i) (i + 1) k) = upr N 47 (mvR s i (k + 1)) := upr_upr _ _ _ _
    obtain ⟨e, p⟩ := ih f (i + 1) (upr N 47 (mv1 s i)) (mv1 s i) (by omega) (by omega) (hG.mv1 hin) (upr_at _ _ _)
    rw [eN] at e p
    change mX6_wayOf (nI i) N = goC (s (24 + 4 * i + 3)) (wayS s i) at hw
    constructor
    · rw [mX6_goesOn_43, if_neg hc]
      unfold mX6_goesOn_95
      rw [hw, ix3 i h8, its3 h8, hs, hi1, em, em]
      by_cases q : goC (s (24 + 4 * i + 3)) (wayS s i) = 4
      · rw [if_pos q]
        have z : upd s (24 + 4 * i + 3) (s (24 + 4 * i + 3)) = mv1 s i := by
          unfold mv1
          rw [gc.2.2.2 q]
        rw [z]
        exact e
      · rw [if_neg q, ← gc.2.2.1 q]
        exact e
    · intro hp
      rw [PX6_goesOn_43]
      refine ⟨fun q => absurd q hc, fun _ => ⟨pwayOf h8, fun q => ⟨pits3 h8, ixn3 i h8, ?_⟩, fun q => ⟨pits3 h8, ixn3 i h8, ?_⟩⟩⟩
      · rw [hw] at q
        rw [ix3 i h8, its3 h8, hs, hi1, em]
        have z : upd s (24 + 4 * i + 3) (s (24 + 4 * i + 3)) = mv1 s i := by
          unfold mv1
          rw [gc.2.2.2 q]
        rw [z]
        exact p hp
      · rw [hw] at q
        rw [hw, ix3 i h8, its3 h8, hs, hi1, em, ← gc.2.2.1 q]
        exact p hp
theorem on104 {n : Nat} : ∀ (k fuel i : Nat) (N : Mem) (s : Nat → Int32), k < fuel → i + k = n → GS s n → N 47 = s →
    mX6_goesOn_104 fuel (nI i) N = upr N 47 (tick (wtR s i k)) ∧ PX6_goesOn_104 fuel (nI i) N := by
  intro k
  induction k with
  | zero =>
    intro fuel i N s hf hi hG hs
    obtain ⟨f, rfl⟩ : ∃ f, fuel = f + 1 := ⟨fuel - 1, by omega⟩
    have hn := hG.1
    have hc : N 47 0 ≤ nI i := by rw [hs, hG.2.1]; exact nI_le (by omega) (by omega)
    constructor
    · rw [mX6_goesOn_104, if_pos hc, upm_upr, hs]
      rfl
    · rw [PX6_goesOn_104]
      exact fun q => absurd hc q
  | succ k ih =>
    intro fuel i N s hf hi hG hs
    obtain ⟨f, rfl⟩ : ∃ f, fuel = f + 1 := ⟨fuel - 1, by omega⟩
    have hn := hG.1
    have hc : ¬ N 47 0 ≤ nI i := by rw [hs, hG.2.1]; exact nI_ge (by omega) (by omega)
    have hin : i < n := by omega
    have h8 : i < 8 := by omega
    have hi1 : nI i + 1 = nI (i + 1) := (nI_succ i).symm
    obtain ⟨q, hq, eq⟩ := hG.ho hin
    have ew : (8 + s (24 + 4 * i + 3)).toNatClampNeg = 8 + (s (24 + 4 * i + 3)).toNatClampNeg := by rw [eq, ixw q hq, nIc (by omega)]
    have hv : vp_in (8 + s (24 + 4 * i + 3)) 56 := by rw [eq]; exact ixnw q hq
    have em : ∀ j v, upm N 47 j v = upr N 47 (upd s j v) := fun j v => by rw [upm_upr, hs]
    obtain ⟨e, p⟩ := ih f (i + 1) (upr N 47 (wt1 s i)) (wt1 s i) (by omega) (by omega) (hG.wt1 hin) (upr_at _ _ _)
    rw [upr_upr] at e
    constructor
    · rw [mX6_goesOn_104, if_neg hc, its3 h8, hs, ew, wets_eq6 h8 hs, hi1, em]
      exact e
    · rw [PX6_goesOn_104]
      refine fun _ => ⟨pits3 h8, ?_, pwets h8, ?_, ?_⟩
      · rw [its3 h8, hs]; exact hv
      · rw [its3 h8, hs]; exact hv
      · rw [its3 h8, hs, ew, wets_eq6 h8 hs, hi1, em]
        exact p
theorem goesOn_eq {N : Mem} {s : Nat → Int32} {n : Nat} (hG : GS s n) (hs : N 47 = s) : mX6_goesOn N = upr N 47 (stepS s n) ∧ PX6_goesOn N := by
  have hn := hG.1
  obtain ⟨k, k1, k9, ek⟩ := hG.2.2.2.1
  have hk0 : ¬ nI k = 0 := nI_ne0 (by omega) (by omega)
  have key : ∀ N2 : Mem, N2 = upr N 47 (turnS s) → mX6_goesOn_41 N2 = upr N 47 (stepS s n) ∧ PX6_goesOn_41 N2 := by
    intro N2 e2
    have hN2 : N2 47 = turnS s := by rw [e2]; exact upr_at _ _ _
    obtain ⟨e, p⟩ := on43 (n := n) n 400 0 N2 (turnS s) (by omega) (by omega) hG.turn hN2
    obtain ⟨e', p'⟩ := on104 (n := n) n 400 0 (upr N2 47 (mvR (turnS s) 0 n)) (mvR (turnS s) 0 n) (by omega) (by omega) (GS.mvR n 0 _ (by omega) hG.turn) (upr_at _ _ _)
    refine ⟨?_, p p'⟩
    unfold mX6_goesOn_41
    refine e.trans (e'.trans ?_)
    rw [upr_upr, e2, upr_upr]
    rfl
  have self : turnS s = s → N = upr N 47 (turnS s) := fun e => by rw [e, ← hs]; exact (upr_self N 47).symm
  constructor
  · unfold mX6_goesOn
    rw [hs, ek]
    by_cases q : s 1 ≤ 0
    · rw [if_pos q]
      exact (key N (self (by unfold turnS; rw [if_pos q]))).1
    · rw [if_neg q]
      by_cases r : irem (s 1) (nI k) = 0
      · rw [if_pos r]
        refine (key _ ?_).1
        rw [upm_upr, hs]
        unfold turnS
        rw [if_neg q, ek, if_pos r]
      · rw [if_neg r]
        exact (key N (self (by unfold turnS; rw [if_neg q, ek, if_neg r]))).1
  · unfold PX6_goesOn
    rw [hs, ek]
    refine ⟨fun q => (key N (self (by unfold turnS; rw [if_pos q]))).2, fun q => ⟨hk0, fun r => (key _ ?_).2, fun r => (key N (self (by unfold turnS; rw [if_neg q, ek, if_neg r]))).2⟩⟩
    rw [upm_upr, hs]
    unfold turnS
    rw [if_neg q, ek, if_pos r]
/-! n steps -/
def stepsS (s : Nat → Int32) (n : Nat) : Nat → (Nat → Int32)
  | 0 => s
  | k + 1 => stepsS (stepS s n) n k
theorem GS.steps {n : Nat} : ∀ (k : Nat) (s : Nat → Int32), GS s n → GS (stepsS s n k) n
  | 0, _, h => h
  | k + 1, s, h => GS.steps k _ h.step
theorem goes2 {n m : Nat} (hm : m < 2 ^ 31) : ∀ (k fuel i : Nat) (N : Mem) (s : Nat → Int32), k < fuel → i + k = m → GS s n → N 47 = s →
    mX6_goes_2 fuel (nI m) (nI i) N = upr N 47 (stepsS s n k) ∧ PX6_goes_2 fuel (nI m) (nI i) N := by
  intro k
  induction k with
  | zero =>
    intro fuel i N s hf hi hG hs
    obtain ⟨f, rfl⟩ : ∃ f, fuel = f + 1 := ⟨fuel - 1, by omega⟩
    have hc : nI m ≤ nI i := nI_le (by omega) (by omega)
    constructor
    · rw [mX6_goes_2, if_pos hc]
      show N = upr N 47 s
      rw [← hs]
      exact (upr_self N 47).symm
    · rw [PX6_goes_2]
      exact fun q => absurd hc q
  | succ k ih =>
    intro fuel i N s hf hi hG hs
    obtain ⟨f, rfl⟩ : ∃ f, fuel = f + 1 := ⟨fuel - 1, by omega⟩
    have hc : ¬ nI m ≤ nI i := nI_ge (by omega) (by omega)
    have hi1 : nI i + 1 = nI (i + 1) := (nI_succ i).symm
    obtain ⟨e1, p1⟩ := goesOn_eq hG hs
    obtain ⟨e, p⟩ := ih f (i + 1) (upr N 47 (stepS s n)) (stepS s n) (by omega) (by omega) hG.step (upr_at _ _ _)
    constructor
    · rw [mX6_goes_2, if_neg hc]
      unfold mX6_goes_11
      rw [e1, hi1, e, upr_upr]
      rfl
    · rw [PX6_goes_2]
      refine fun _ => ⟨p1, ?_⟩
      unfold PX6_goes_11
      rw [e1, hi1]
      exact p
theorem goes_n {n m : Nat} (hm : m < 400) {N : Mem} {s : Nat → Int32} (hG : GS s n) (hs : N 47 = s) : mX6_goes (nI m) N = upr N 47 (stepsS s n m) ∧ PX6_goes (nI m) N :=
  goes2 (m := m) (by omega) m 400 0 N s hm (by omega) hG hs
/-! rows copied -/
def c56 (f g : Nat → Int32) : Nat → Int32 := fun k => if k < 56 then f k else g k
theorem copy2 {p0 p1 : Nat} (hp : p0 ≠ p1) : ∀ (k fuel i : Nat) (N : Mem), k < fuel → i + k = 56 →
    mX6_copyRow_2 p0 56 p1 56 fuel (nI i) N = upr N p1 (fun j => if i ≤ j ∧ j < 56 then N p0 j else N p1 j) ∧ PX6_copyRow_2 p0 56 p1 56 fuel (nI i) N := by
  intro k
  induction k with
  | zero =>
    intro fuel i N hf hi
    obtain ⟨f, rfl⟩ : ∃ f, fuel = f + 1 := ⟨fuel - 1, by omega⟩
    have hc : (56 : Int32) ≤ nI i := nI_le (a := 56) (by omega) (by omega)
    constructor
    · rw [mX6_copyRow_2, if_pos hc]
      have e : (fun j => if i ≤ j ∧ j < 56 then N p0 j else N p1 j) = N p1 := by
        funext j
        rw [if_neg (by omega)]
      rw [e]
      exact (upr_self N p1).symm
    · rw [PX6_copyRow_2]
      exact fun q => absurd hc q
  | succ k ih =>
    intro fuel i N hf hi
    obtain ⟨f, rfl⟩ : ∃ f, fuel = f + 1 := ⟨fuel - 1, by omega⟩
    have hc : ¬ (56 : Int32) ≤ nI i := nI_ge (b := 56) (by omega) (by omega)
    have hv : vp_in (nI i) 56 := vin (by omega) (by decide)
    have hi1 : nI i + 1 = nI (i + 1) := (nI_succ i).symm
    obtain ⟨e, p⟩ := ih f (i + 1) (upm N p1 i (N p0 i)) (by omega) (by omega)
    constructor
    · rw [mX6_copyRow_2, if_neg hc, nIc (by omega), hi1, e, upm_upr, upr_upr]
      congr 1
      funext j
      rw [upr_ne hp, upr_at]
      by_cases hj : j = i
      · subst hj
        rw [if_neg (by omega), upd_at, if_pos (by omega)]
      · rw [upd_ne hj]
        by_cases h2 : i + 1 ≤ j ∧ j < 56
        · rw [if_pos h2, if_pos (by omega)]
        · rw [if_neg h2, if_neg (by omega)]
    · rw [PX6_copyRow_2]
      refine fun _ => ⟨hv, hv, ?_⟩
      rw [nIc (by omega), hi1]
      exact p
theorem copy_eq {p0 p1 : Nat} (hp : p0 ≠ p1) (N : Mem) : mX6_copyRow p0 56 p1 56 N = upr N p1 (c56 (N p0) (N p1)) ∧ PX6_copyRow p0 56 p1 56 N := by
  obtain ⟨e, p⟩ := copy2 hp 56 400 0 N (by decide) (by decide)
  refine ⟨e.trans ?_, p⟩
  congr 1
  funext j
  simp [c56]
