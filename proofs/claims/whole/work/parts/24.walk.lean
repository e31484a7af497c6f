/-! a town becomes another -/
theorem become_at {b q : Nat} (hb : TB b) (hq : TB q) (hne : b ≠ q) (M : Mem) :
    (∀ i, i < 4 → mX4_become b q M (b + 1) i = M (q + 1) i) ∧ (∀ i, i < 16 → mX4_become b q M (b + 2) i = M (q + 2) i) ∧
    (∀ i, i < 8 → mX4_become b q M (b + 3) i = M (q + 3) i ∧ mX4_become b q M (b + 4) i = M (q + 4) i ∧ mX4_become b q M (b + 5) i = M (q + 5) i ∧ mX4_become b q M (b + 6) i = M (q + 6) i) ∧
    (mX4_become b q M b 6 = M q 6 ∧ mX4_become b q M b 7 = M q 7 ∧ mX4_become b q M b 8 = M q 8 ∧ mX4_become b q M b 9 = M q 9) ∧
    (∀ p, p < b ∨ b + 6 < p → mX4_become b q M p = M p) := by
  have key : ∀ {x y : Nat}, (x < y ∨ y < x) → x ≠ y := fun h => by omega
  have hsep : (b + 6 < q ∨ q + 6 < b) := by
    rcases hb with rfl | rfl | rfl <;> rcases hq with rfl | rfl | rfl <;> first | exact absurd rfl hne | omega
  have c4 : ∀ (f g : Nat → Int32) (n i : Nat), i < n → va_cpy f g 0 0 n i = f i := by
    intro f g n i hi
    unfold va_cpy
    rw [if_pos (by omega)]
    congr 1
    omega
  unfold mX4_become mX4_become_14 mX4_become_29 mX4_become_44 mX4_become_59 mX4_become_74 mX4_become_89
  refine ⟨fun i hi => ?_, fun i hi => ?_, fun i hi => ⟨?_, ?_, ?_, ?_⟩, ⟨?_, ?_, ?_, ?_⟩, fun p hp => ?_⟩
  · rw [upm_ne (by omega), upm_ne (by omega), upm_ne (by omega), upm_ne (by omega), upr_ne (by omega), upr_ne (by omega), upr_ne (by omega), upr_ne (by omega), upr_ne (by omega), upr_at, c4 _ _ _ _ hi]
  · rw [upm_ne (by omega), upm_ne (by omega), upm_ne (by omega), upm_ne (by omega), upr_ne (by omega), upr_ne (by omega), upr_ne (by omega), upr_ne (by omega), upr_at, c4 _ _ _ _ hi, upr_ne (by omega)]
  · rw [upm_ne (by omega), upm_ne (by omega), upm_ne (by omega), upm_ne (by omega), upr_ne (by omega), upr_ne (by omega), upr_ne (by omega), upr_at, c4 _ _ _ _ hi, upr_ne (by omega), upr_ne (by omega)]
  · rw [upm_ne (by omega), upm_ne (by omega), upm_ne (by omega), upm_ne (by omega), upr_ne (by omega), upr_ne (by omega), upr_at, c4 _ _ _ _ hi, upr_ne (by omega), upr_ne (by omega), upr_ne (by omega)]
  · rw [upm_ne (by omega), upm_ne (by omega), upm_ne (by omega), upm_ne (by omega), upr_ne (by omega), upr_at, c4 _ _ _ _ hi, upr_ne (by omega), upr_ne (by omega), upr_ne (by omega), upr_ne (by omega)]
  · rw [upm_ne (by omega), upm_ne (by omega), upm_ne (by omega), upm_ne (by omega), upr_at, c4 _ _ _ _ hi, upr_ne (by omega), upr_ne (by omega), upr_ne (by omega), upr_ne (by omega), upr_ne (by omega)]
  · rw [upm_at, upd_ne (by decide), upm_at, upd_ne (by decide), upm_at, upd_ne (by decide), upm_at, upd_at]
    rw [upr_ne (by omega), upr_ne (by omega), upr_ne (by omega), upr_ne (by omega), upr_ne (by omega), upr_ne (by omega)]
  · rw [upm_at, upd_ne (by decide), upm_at, upd_ne (by decide), upm_at, upd_at, upm_ne (by omega)]
    rw [upr_ne (by omega), upr_ne (by omega), upr_ne (by omega), upr_ne (by omega), upr_ne (by omega), upr_ne (by omega)]
  · rw [upm_at, upd_ne (by decide), upm_at, upd_at, upm_ne (by omega), upm_ne (by omega)]
    rw [upr_ne (by omega), upr_ne (by omega), upr_ne (by omega), upr_ne (by omega), upr_ne (by omega), upr_ne (by omega)]
  · rw [upm_at, upd_at, upm_ne (by omega), upm_ne (by omega), upm_ne (by omega)]
    rw [upr_ne (by omega), upr_ne (by omega), upr_ne (by omega), upr_ne (by omega), upr_ne (by omega), upr_ne (by omega)]
  · rw [upm_ne (by omega), upm_ne (by omega), upm_ne (by omega), upm_ne (by omega), upr_ne (by omega), upr_ne (by omega), upr_ne (by omega), upr_ne (by omega), upr_ne (by omega), upr_ne (by omega)]
theorem become_R {b q : Nat} (hb : TB b) (hq : TB q) (hne : b ≠ q) {M : Mem} {s : Nat → Int32} {n : Nat} (h : R M q s n) : R (mX4_become b q M) b s n := by
  obtain ⟨a1, a2, a3, ⟨b1, b2, b3, b4⟩, -⟩ := become_at hb hq hne M
  obtain ⟨h1, ⟨h2, h3⟩, h4, h5, ⟨c1, ⟨c2, c3⟩, c4, c5, c6⟩, h6⟩ := h
  refine ⟨h1, ⟨b1.trans h2, h3⟩, b4.trans h4, fun k hk => (a2 k hk).trans (h5 k hk), ⟨b2.trans c1, ⟨b3.trans c2, c3⟩, fun k hk => (a1 k hk).trans (c4 k hk), c5, c6⟩, fun i hi => ?_⟩
  obtain ⟨x1, x2, x3, x4, x5⟩ := h6 i hi
  obtain ⟨y1, y2, y3, y4⟩ := a3 i (by omega)
  exact ⟨y1.trans x1, y2.trans x2, y3.trans x3, y4.trans x4, x5⟩
theorem R.congr {M M' : Mem} {b : Nat} {s s' : Nat → Int32} {n : Nat} (h : R M b s n) (hM : ∀ j, j ≤ 6 → M' (b + j) = M (b + j)) (hs : ∀ k, k < 56 → s' k = s k) : R M' b s' n := by
  obtain ⟨h1, ⟨h2, h3⟩, h4, h5, ⟨c1, ⟨c2, c3⟩, c4, c5, c6⟩, h6⟩ := h
  have m0 : M' b = M b := hM 0 (by decide)
  have e1 := hs 1 (by decide)
  have e2 := hs 2 (by decide)
  have e3 := hs 3 (by decide)
  have e4 := hs 4 (by decide)
  have e7 := hs 7 (by decide)
  refine ⟨h1, ⟨by rw [m0]; exact h2, (hs 0 (by decide)).trans h3⟩, by rw [m0, e2]; exact h4, fun k hk => by rw [hM 2 (by decide), hs _ (by omega)]; exact h5 k hk, ⟨by rw [m0, e1]; exact c1, ⟨by rw [m0, e3]; exact c2, by rw [e3]; exact c3⟩, fun k hk => by rw [hM 1 (by decide), hs _ (by omega)]; exact c4 k hk, by rw [e4]; exact c5, by rw [e7]; exact c6⟩, fun i hi => ?_⟩
  unfold RA
  rw [hM 3 (by decide), hM 4 (by decide), hM 5 (by decide), hM 6 (by decide), hs (24 + 4 * i) (by omega), hs (24 + 4 * i + 1) (by omega), hs (24 + 4 * i + 2) (by omega), hs (24 + 4 * i + 3) (by omega)]
  exact h6 i hi
theorem GS.congr {s s' : Nat → Int32} {n : Nat} (h : GS s n) (hs : ∀ k, k < 56 → s' k = s k) : GS s' n := (h.r.congr (M' := vw s) (fun _ _ => rfl) hs).gs
/-! one air alone goes on -/
def wk1 (u : Nat → Int32) (o : Nat) : Nat → Int32 := tick (mv1 (turnS u) o)
def wkN (u : Nat → Int32) (o : Nat) : Nat → (Nat → Int32)
  | 0 => u
  | k + 1 => wk1 (wkN u o k) o
theorem tick_R {M : Mem} {b : Nat} {s : Nat → Int32} {n : Nat} (h : R M b s n) : R (upm M b 7 (M b 7 + 1)) b (tick s) n := by
  rw [h.rc.1]
  exact h.step
/-- what hangs on one air: the same in two rows -/
def AG (s u : Nat → Int32) (o : Nat) : Prop := (∀ t, t < 4 → s (24 + 4 * o + t) = u (24 + 4 * o + t)) ∧ s 1 = u 1 ∧ s 3 = u 3 ∧ ∀ k, k < 4 → s (4 + k) = u (4 + k)
theorem AG.way {s u : Nat → Int32} {o : Nat} (h : AG s u o) : wayS s o = wayS u o := by
  obtain ⟨h1, h2, h3, h4⟩ := h
  have e0 : s (24 + 4 * o) = u (24 + 4 * o) := h1 0 (by decide)
  have e6 : s 6 = u 6 := h4 2 (by decide)
  unfold wayS
  rw [e0, h1 1 (by decide), h1 2 (by decide), h1 3 (by decide), h2, h3, e6]
theorem turnS_off (s : Nat → Int32) {z : Nat} (hz : z ≠ 3) : turnS s z = s z := by
  unfold turnS
  repeat' split
  all_goals first | rfl | exact upd_ne hz
theorem AG.turn {s u : Nat → Int32} {o : Nat} (h : AG s u o) : AG (turnS s) (turnS u) o := by
  obtain ⟨h1, h2, h3, h4⟩ := h
  refine ⟨fun t ht => by rw [turnS_off _ (by omega), turnS_off _ (by omega)]; exact h1 t ht, by rw [turnS_off _ (by decide), turnS_off _ (by decide)]; exact h2, ?_, fun k hk => by rw [turnS_off _ (by omega), turnS_off _ (by omega)]; exact h4 k hk⟩
  have e4 : s 4 = u 4 := h4 0 (by decide)
  unfold turnS
  rw [h2, h3, e4]
  by_cases q : u 1 ≤ 0
  · rw [if_pos q, if_pos q]; exact h3
  · rw [if_neg q, if_neg q]
    by_cases r : irem (u 1) (u 4) = 0
    · rw [if_pos r, if_pos r, upd_at, upd_at]
    · rw [if_neg r, if_neg r]; exact h3
theorem mv1_off (s : Nat → Int32) (o : Nat) {z : Nat} (hz : z ≠ 24 + 4 * o + 3) : mv1 s o z = s z := upd_ne hz
theorem AG.mv_same {s u : Nat → Int32} {o : Nat} (h : AG s u o) : AG (mv1 s o) (mv1 u o) o := by
  have hw := h.way
  obtain ⟨h1, h2, h3, h4⟩ := h
  refine ⟨fun t ht => ?_, by rw [mv1_off _ _ (by omega), mv1_off _ _ (by omega)]; exact h2, by rw [mv1_off _ _ (by omega), mv1_off _ _ (by omega)]; exact h3, fun k hk => by rw [mv1_off _ _ (by omega), mv1_off _ _ (by omega)]; exact h4 k hk⟩
  by_cases e : t = 3
  · subst e
    unfold mv1
    rw [upd_at, upd_at, hw, h1 3 (by decide)]
  · rw [mv1_off _ _ (by omega), mv1_off _ _ (by omega)]
    exact h1 t ht
theorem AG.mv_other {s u : Nat → Int32} {o i : Nat} (h : AG s u o) (hi : i ≠ o) : AG (mv1 s i) u o := by
  obtain ⟨h1, h2, h3, h4⟩ := h
  exact ⟨fun t ht => by rw [mv1_off _ _ (by omega)]; exact h1 t ht, by rw [mv1_off _ _ (by omega)]; exact h2, by rw [mv1_off _ _ (by omega)]; exact h3, fun k hk => by rw [mv1_off _ _ (by omega)]; exact h4 k hk⟩
theorem AG.mvR {o : Nat} : ∀ (k i : Nat) (s u : Nat → Int32), AG s u o → AG (mvR s i k) (if i ≤ o ∧ o < i + k then mv1 u o else u) o
  | 0, i, s, u, h => by
    rw [if_neg (by omega)]
    exact h
  | k + 1, i, s, u, h => by
    by_cases e : i = o
    · subst e
      have := AG.mvR k (i + 1) (mv1 s i) (mv1 u i) h.mv_same
      rw [if_neg (by omega)] at this
      rw [if_pos (by omega)]
      exact this
    · have := AG.mvR k (i + 1) (mv1 s i) u (h.mv_other e)
      by_cases q : i ≤ o ∧ o < i + (k + 1)
      · rw [if_pos q]
        rw [if_pos (by omega)] at this
        exact this
      · rw [if_neg q]
        rw [if_neg (by omega)] at this
        exact this
theorem wt1_off {s : Nat → Int32} {n o : Nat} (h : GS s n) (ho : o < n) {z : Nat} (hz : z < 8 ∨ 24 ≤ z) : wt1 s o z = s z := by
  obtain ⟨k, hk, e⟩ := h.ho ho
  unfold wt1
  rw [e, nIc (by omega)]
  exact upd_ne (by omega)
theorem AG.wtR {n o : Nat} : ∀ (k i : Nat) (s u : Nat → Int32), i + k ≤ n → GS s n → AG s u o → AG (wtR s i k) u o
  | 0, _, _, _, _, _, h => h
  | k + 1, i, s, u, hi, hG, h => by
    refine AG.wtR k (i + 1) (wt1 s i) u (by omega) (hG.wt1 (by omega)) ?_
    obtain ⟨h1, h2, h3, h4⟩ := h
    have w := fun z hz => wt1_off (z := z) hG (show i < n by omega) hz
    exact ⟨fun t ht => by rw [w _ (by omega)]; exact h1 t ht, by rw [w _ (by omega)]; exact h2, by rw [w _ (by omega)]; exact h3, fun k hk => by rw [w _ (by omega)]; exact h4 k hk⟩
theorem AG.tk {s u : Nat → Int32} {o : Nat} (h : AG s u o) : AG (tick s) (tick u) o := by
  obtain ⟨h1, h2, h3, h4⟩ := h
  unfold tick
  refine ⟨fun t ht => by rw [upd_ne (by omega), upd_ne (by omega)]; exact h1 t ht, by rw [upd_at, upd_at, h2], by rw [upd_ne (by decide), upd_ne (by decide)]; exact h3, fun k hk => by rw [upd_ne (by omega), upd_ne (by omega)]; exact h4 k hk⟩
theorem AG.step {s u : Nat → Int32} {n o : Nat} (hG : GS s n) (ho : o < n) (h : AG s u o) : AG (stepS s n) (wk1 u o) o := by
  have := AG.mvR n 0 (turnS s) (turnS u) h.turn
  rw [if_pos (by omega)] at this
  exact (AG.wtR n 0 _ _ (by omega) (GS.mvR n 0 _ (by omega) hG.turn) this).tk
theorem stepsS_succ (s : Nat → Int32) (n : Nat) : ∀ k, stepsS s n (k + 1) = stepS (stepsS s n k) n := by
  intro k
  induction k generalizing s with
  | zero => rfl
  | succ k ih => exact ih (stepS s n)
theorem AG.rf (s : Nat → Int32) (o : Nat) : AG s s o := ⟨fun _ _ => rfl, rfl, rfl, fun _ _ => rfl⟩
theorem AG.steps {s u : Nat → Int32} {n o : Nat} (hG : GS s n) (ho : o < n) (h : AG s u o) : ∀ k, AG (stepsS s n k) (wkN u o k) o := by
  intro k
  induction k with
  | zero => exact h
  | succ k ih =>
    rw [stepsS_succ]
    exact AG.step (hG.steps k) ho ih
/-- at which place one is behind k steps -/
theorem at_steps {s : Nat → Int32} {n o : Nat} (hG : GS s n) (ho : o < n) (k : Nat) : wkN s o k (24 + 4 * o + 3) = stepsS s n k (24 + 4 * o + 3) := ((AG.steps hG ho (AG.rf s o) k).1 3 (by decide)).symm
