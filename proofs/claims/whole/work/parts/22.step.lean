/-! A STEP: the row behind it, and that both make it -/
def wayS (s : Nat → Int32) (o : Nat) : Int32 := wayC (s (24 + 4 * o)) (s (24 + 4 * o + 1)) (s (24 + 4 * o + 2)) (s (24 + 4 * o + 3)) (s 3) (s 1) (s 6)
def mv1 (s : Nat → Int32) (o : Nat) : Nat → Int32 := upd s (24 + 4 * o + 3) (mX5_nextHouse (s (24 + 4 * o + 3)) (wayS s o))
def mvR (s : Nat → Int32) (i : Nat) : Nat → (Nat → Int32)
  | 0 => s
  | k + 1 => mvR (mv1 s i) (i + 1) k
def wt1 (s : Nat → Int32) (o : Nat) : Nat → Int32 := upd s (8 + (s (24 + 4 * o + 3)).toNatClampNeg) (mX6_bounded (s (8 + (s (24 + 4 * o + 3)).toNatClampNeg) + wetC (s (24 + 4 * o)) (s (24 + 4 * o + 1)) (s (24 + 4 * o + 2)) (s (24 + 4 * o + 3))) 99)
def wtR (s : Nat → Int32) (i : Nat) : Nat → (Nat → Int32)
  | 0 => s
  | k + 1 => wtR (wt1 s i) (i + 1) k
def tick (s : Nat → Int32) : Nat → Int32 := upd s 1 (s 1 + 1)
def stepS (s : Nat → Int32) (n : Nat) : Nat → Int32 := tick (wtR (mvR (turnS s) 0 n) 0 n)
/-- what holds of a row by itself -/
def GS (s : Nat → Int32) (n : Nat) : Prop :=
  n ≤ 8 ∧ s 0 = nI n ∧ WY (s 3) ∧ (∃ k, 1 ≤ k ∧ k ≤ 9 ∧ s 4 = nI k) ∧ (∃ k, k ≤ 99 ∧ s 7 = nI k) ∧ ∀ i, i < n → KD (s (24 + 4 * i)) ∧ HO (s (24 + 4 * i + 2)) ∧ HO (s (24 + 4 * i + 3))
theorem R.gs {M : Mem} {b : Nat} {s : Nat → Int32} {n : Nat} (h : R M b s n) : GS s n := by
  obtain ⟨h1, ⟨h2, h3⟩, h4, h5, ⟨c1, ⟨c2, c3⟩, c4, c5, c6⟩, h6⟩ := h
  exact ⟨h1, h3, c3, c5, c6, fun i hi => ⟨(h6 i hi).2.2.2.2.1, (h6 i hi).2.2.2.2.2.1, (h6 i hi).2.2.2.2.2.2⟩⟩
/-- a row, seen as a town at place 0 -/
def vw (s : Nat → Int32) : Mem := fun j i =>
  if j = 0 then (if i = 6 then s 0 else if i = 7 then s 1 else if i = 8 then s 3 else s 2)
  else if j = 1 then s (4 + i) else if j = 2 then s (8 + i) else s (24 + 4 * i + (j - 3))
theorem GS.r {s : Nat → Int32} {n : Nat} (h : GS s n) : R (vw s) 0 s n := by
  obtain ⟨h1, h2, h3, h4, h5, h6⟩ := h
  refine ⟨h1, ⟨by simpa [vw] using h2, h2⟩, by simp [vw], fun k hk => by simp [vw], ⟨by simp [vw], ⟨by simp [vw], h3⟩, fun k hk => by simp [vw], h4, h5⟩, fun i hi => ?_⟩
  obtain ⟨a, b, c⟩ := h6 i hi
  exact ⟨by simp [vw], by simp [vw], by simp [vw], by simp [vw], a, b, c⟩
theorem R.ra {M : Mem} {b : Nat} {s : Nat → Int32} {n : Nat} (h : R M b s n) {i : Nat} (hi : i < n) : RA M b s i := h.2.2.2.2.2 i hi
theorem R.rc {M : Mem} {b : Nat} {s : Nat → Int32} {n : Nat} (h : R M b s n) : RC M b s := h.2.2.2.2.1
theorem wayS_in {M : Mem} {b : Nat} {s : Nat → Int32} {n o : Nat} (h : R M b s n) (ho : o < n) : ∃ k, k < 5 ∧ wayS s o = nI k := wayC_in h.rc (h.ra ho) rfl
theorem next_HO {a w : Int32} (ha : HO a) (hw : ∃ k, k < 5 ∧ w = nI k) : HO (mX5_nextHouse a w) := by
  obtain ⟨h, hh, rfl⟩ := ha
  obtain ⟨k, hk, rfl⟩ := hw
  have := next_in h hh k hk
  exact ⟨_, this.1, this.2⟩
theorem mv1_R {M : Mem} {b : Nat} {s : Nat → Int32} {n o : Nat} (h : R M b s n) (ho : o < n) : R (upm M (b + 6) o (mX5_nextHouse (s (24 + 4 * o + 3)) (wayS s o))) b (mv1 s o) n :=
  h.air (j := 3) ho (by decide) (fun e => by cases e) (fun _ => next_HO (h.ra ho).2.2.2.2.2.2 (wayS_in h ho))
theorem tk6 {b n : Nat} : ∀ (k fuel i : Nat) (M : Mem) (s : Nat → Int32), k < fuel → i + k = n → R M b s n →
    ∃ M' : Mem, mX4_takeStep_6 b fuel (nI i) M = mX4_takeStep_42 b 400 0 M' ∧ R M' b (mvR s i k) n ∧ (PX4_takeStep_42 b 400 0 M' → PX4_takeStep_6 b fuel (nI i) M) ∧ ∀ p, p ≠ b + 6 → M' p = M p := by
  intro k
  induction k with
  | zero =>
    intro fuel i M s hf hi hR
    obtain ⟨f, rfl⟩ : ∃ f, fuel = f + 1 := ⟨fuel - 1, by omega⟩
    have hn := hR.1
    have hc : M b 6 ≤ nI i := by rw [hR.2.1.1]; exact nI_le (by omega) (by omega)
    refine ⟨M, ?_, hR, fun hp => ?_, fun _ _ => rfl⟩
    · rw [mX4_takeStep_6, if_pos hc]
    · rw [PX4_takeStep_6]
      exact ⟨fun _ => hp, fun q => absurd hc q⟩
  | succ k ih =>
    intro fuel i M s hf hi hR
    obtain ⟨f, rfl⟩ : ∃ f, fuel = f + 1 := ⟨fuel - 1, by omega⟩
    have hn := hR.1
    have hc : ¬ M b 6 ≤ nI i := by rw [hR.2.1.1]; exact nI_ge (by omega) (by omega)
    have hin : i < n := by omega
    have hv : vp_in (nI i) 8 := vin (by omega) (by decide)
    obtain ⟨g, gp⟩ := goes_eq (show i < 8 by omega) hR.rc (hR.ra hin)
    have hval : mX5_nextHouse (M (b + 6) (nI i).toNatClampNeg) (mX4_goes b (nI i) M) = mX5_nextHouse (s (24 + 4 * i + 3)) (wayS s i) := by
      rw [nIc (by omega), (hR.ra hin).2.2.2.1, g]
      exact (goC_eq (hR.ra hin).2.2.2.2.2.2 (wayS_in hR hin)).2.1
    obtain ⟨M', e, r, p, fr⟩ := ih f (i + 1) _ _ (by omega) (by omega) (mv1_R hR hin)
    have hi1 : nI i + 1 = nI (i + 1) := (nI_succ i).symm
    refine ⟨M', ?_, r, fun hp => ?_, fun q hq => (fr q hq).trans (upm_ne hq)⟩
    · rw [mX4_takeStep_6, if_neg hc, hval, nIc (by omega), hi1]
      exact e
    · rw [PX4_takeStep_6]
      refine ⟨fun q => absurd q hc, fun _ => ⟨hv, gp, hv, ?_⟩⟩
      rw [hval, nIc (by omega), hi1]
      exact p hp
theorem wt1_R {M : Mem} {b : Nat} {s : Nat → Int32} {n o : Nat} (h : R M b s n) (ho : o < n) : R (upm M (b + 2) (s (24 + 4 * o + 3)).toNatClampNeg (mX6_bounded (s (8 + (s (24 + 4 * o + 3)).toNatClampNeg) + wetC (s (24 + 4 * o)) (s (24 + 4 * o + 1)) (s (24 + 4 * o + 2)) (s (24 + 4 * o + 3))) 99)) b (wt1 s o) n := by
  obtain ⟨k, hk, e⟩ := (h.ra ho).2.2.2.2.2.2
  refine h.wet ?_
  rw [e, nIc (by omega)]
  exact hk
theorem tk42 {b n : Nat} : ∀ (k fuel i : Nat) (M : Mem) (s : Nat → Int32), k < fuel → i + k = n → R M b s n →
    R (mX4_takeStep_42 b fuel (nI i) M) b (tick (wtR s i k)) n ∧ PX4_takeStep_42 b fuel (nI i) M ∧ ∀ p, p ≠ b → p ≠ b + 2 → mX4_takeStep_42 b fuel (nI i) M p = M p := by
  intro k
  induction k with
  | zero =>
    intro fuel i M s hf hi hR
    obtain ⟨f, rfl⟩ : ∃ f, fuel = f + 1 := ⟨fuel - 1, by omega⟩
    have hn := hR.1
    have hc : M b 6 ≤ nI i := by rw [hR.2.1.1]; exact nI_le (by omega) (by omega)
    refine ⟨?_, ?_, fun p hp _ => ?_⟩
    · rw [mX4_takeStep_42, if_pos hc, hR.rc.1]
      exact hR.step
    · rw [PX4_takeStep_42]
      exact fun q => absurd hc q
    · rw [mX4_takeStep_42, if_pos hc]
      exact upm_ne hp
  | succ k ih =>
    intro fuel i M s hf hi hR
    obtain ⟨f, rfl⟩ : ∃ f, fuel = f + 1 := ⟨fuel - 1, by omega⟩
    have hn := hR.1
    have hc : ¬ M b 6 ≤ nI i := by rw [hR.2.1.1]; exact nI_ge (by omega) (by omega)
    have hin : i < n := by omega
    have hv : vp_in (nI i) 8 := vin (by omega) (by decide)
    obtain ⟨g, gp⟩ := wets_eq (show i < 8 by omega) (hR.ra hin)
    obtain ⟨q, hq, eq⟩ := (hR.ra hin).2.2.2.2.2.2
    have hat : M (b + 6) (nI i).toNatClampNeg = s (24 + 4 * i + 3) := by rw [nIc (by omega), (hR.ra hin).2.2.2.1]
    have hwt : M (b + 2) (s (24 + 4 * i + 3)).toNatClampNeg = s (8 + (s (24 + 4 * i + 3)).toNatClampNeg) := by
      rw [eq, nIc (by omega)]
      exact hR.2.2.2.1 q hq
    have hv2 : vp_in (s (24 + 4 * i + 3)) 16 := by rw [eq]; exact vin hq (by decide)
    obtain ⟨r, p, fr⟩ := ih f (i + 1) _ _ (by omega) (by omega) (wt1_R hR hin)
    have hi1 : nI i + 1 = nI (i + 1) := (nI_succ i).symm
    have unf : mX4_takeStep_42 b (f + 1) (nI i) M = mX4_takeStep_42 b f (nI (i + 1)) (upm M (b + 2) (s (24 + 4 * i + 3)).toNatClampNeg (mX6_bounded (s (8 + (s (24 + 4 * i + 3)).toNatClampNeg) + wetC (s (24 + 4 * i)) (s (24 + 4 * i + 1)) (s (24 + 4 * i + 2)) (s (24 + 4 * i + 3))) 99)) := by
      rw [mX4_takeStep_42, if_neg hc, hat, hwt, g, held_eq, hi1]
    rw [unf]
    refine ⟨r, ?_, fun z h1 h2 => (fr z h1 h2).trans (upm_ne h2)⟩
    rw [PX4_takeStep_42]
    refine fun _ => ⟨hv, hv, ?_, gp, ?_, ?_⟩
    · rw [hat]; exact hv2
    · rw [hat]; exact hv2
    · rw [hat, hwt, g, held_eq, hi1]
      exact p
/-- THE CLASS makes the step -/
theorem takeStep_R {M : Mem} {b : Nat} {s : Nat → Int32} {n : Nat} (h : R M b s n) : R (mX4_takeStep b M) b (stepS s n) n ∧ PX4_takeStep b M ∧ ∀ p, p ≠ b → p ≠ b + 2 → p ≠ b + 6 → mX4_takeStep b M p = M p := by
  have hn := h.1
  obtain ⟨t1, t2, t3⟩ := turn_R h
  obtain ⟨M', e, r, p, fr⟩ := tk6 (b := b) (n := n) n 400 0 _ _ (by omega) (by omega) t1
  obtain ⟨r2, p2, fr2⟩ := tk42 (b := b) (n := n) n 400 0 _ _ (by omega) (by omega) r
  have e0 : (0 : Int32) = nI 0 := rfl
  have unf : mX4_takeStep b M = mX4_takeStep_42 b 400 (nI 0) M' := by
    unfold mX4_takeStep mX4_takeStep_4
    exact e
  rw [unf]
  refine ⟨r2, ⟨t2, p p2⟩, fun q h1 h2 h3 => (fr2 q h1 h2).trans ((fr q h3).trans (t3 q h1))⟩
theorem GS.step {s : Nat → Int32} {n : Nat} (h : GS s n) : GS (stepS s n) n := (takeStep_R h.r).1.gs
