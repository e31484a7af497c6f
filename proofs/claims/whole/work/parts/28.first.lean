/-! THE FIRST TIME that something is so: stops, meets, told -/
def ffn (q : Nat → Bool) : Nat → Nat → Int32
  | 0, _ => -3
  | k + 1, i => if q i = true then nI i else ffn q k (i + 1)
theorem wkN_off (u : Nat → Int32) (o : Nat) {z : Nat} (h1 : z ≠ 1) (h3 : z ≠ 3) (hz : z ≠ 24 + 4 * o + 3) : ∀ k, wkN u o k z = u z := by
  intro k
  induction k with
  | zero => rfl
  | succ k ih =>
    show tick (mv1 (turnS (wkN u o k)) o) z = u z
    unfold tick
    rw [upd_ne h1, mv1_off _ _ hz, turnS_off _ h3, ih]
theorem er_steps {s : Nat → Int32} {n o : Nat} (hG : GS s n) (ho : o < n) (k : Nat) {t : Nat} (ht : t < 3) : stepsS s n k (24 + 4 * o + t) = s (24 + 4 * o + t) :=
  ((AG.steps hG ho (AG.rf s o) k).1 t (by omega)).trans (wkN_off s o (by omega) (by omega) (by omega) k)
theorem nI60 : (60 : Int32) = nI 60 := rfl
theorem stops26 {M1 : Mem} {o : Nat} {A : Nat → Int32} {E : Int32} (ho : o < 8) (hA : ∀ j, j ≤ 60 → M1 29 j = A j) (hE : M1 6 o = E) : ∀ (k fuel i : Nat), k < fuel → i + k = 61 →
    mX5_stops_26 fuel (nI o) (nI i) M1 = (ffn (fun j => decide (A j = E)) k i, M1) ∧ PX5_stops_26 fuel (nI o) (nI i) M1 := by
  intro k
  induction k with
  | zero =>
    intro fuel i hf hi
    obtain ⟨f, rfl⟩ : ∃ f, fuel = f + 1 := ⟨fuel - 1, by omega⟩
    have hc : 60 < nI i := nI_lt (a := 60) (by omega) (by omega)
    constructor
    · rw [mX5_stops_26, if_pos hc]
      rfl
    · rw [PX5_stops_26]
      exact fun q => absurd hc q
  | succ k ih =>
    intro fuel i hf hi
    obtain ⟨f, rfl⟩ : ∃ f, fuel = f + 1 := ⟨fuel - 1, by omega⟩
    have hc : ¬ 60 < nI i := nI_nlt (b := i) (a := 60) (by omega) (by omega)
    have hi1 : nI i + 1 = nI (i + 1) := (nI_succ i).symm
    obtain ⟨e, p⟩ := ih f (i + 1) (by omega) (by omega)
    constructor
    · rw [mX5_stops_26, if_neg hc, nIc (show i < 2 ^ 31 by omega), nIc (show o < 2 ^ 31 by omega), hA i (by omega), hE, hi1, e]
      rw [ffn]
      by_cases q : A i = E <;> simp [q]
    · rw [PX5_stops_26]
      refine fun _ => ⟨vin (by omega) (by decide), vin ho (by decide), fun _ => ?_⟩
      rw [hi1]
      exact p
theorem stops23 {s : Nat → Int32} {n o : Nat} (hG : GS s n) (ho : o < n) : ∀ (k fuel i : Nat) (N : Mem), k < fuel → i + k = 61 → N 47 = stepsS s n i → (∀ j, j < 56 → N 49 j = s j) →
    (∃ N', mX6_stops_23 fuel (nI o) (nI i) N = (ffn (fun j => decide (stepsS s n j (24 + 4 * o + 3) = s (24 + 4 * o + 2))) k i, N') ∧ (∀ j, j < 56 → N' 47 j = s j) ∧ ∀ p, p ≠ 47 → N' p = N p) ∧ PX6_stops_23 fuel (nI o) (nI i) N := by
  have h8 : o < 8 := by have := hG.1; omega
  have ex : ∀ (i : Nat) (N : Mem), (∀ j, j < 56 → N 49 j = s j) → (∀ j, j < 56 → mX6_copyRow 49 56 47 56 N 47 j = s j) ∧ ∀ p, p ≠ 47 → mX6_copyRow 49 56 47 56 N p = N p := by
    intro i N h49
    rw [(back_eq N).1]
    exact ⟨fun j hj => by rw [upr_at, c56_at hj]; exact h49 j hj, fun p hp => upr_ne hp⟩
  intro k
  induction k with
  | zero =>
    intro fuel i N hf hi h47 h49
    obtain ⟨f, rfl⟩ : ∃ f, fuel = f + 1 := ⟨fuel - 1, by omega⟩
    have hc : 60 < nI i := nI_lt (a := 60) (by omega) (by omega)
    obtain ⟨x1, x2⟩ := ex i N h49
    refine ⟨⟨_, ?_, x1, x2⟩, ?_⟩
    · rw [mX6_stops_23, if_pos hc]
      unfold mX6_stops_54 mX6_stops_65
      rw [if_pos hc]
      rfl
    · rw [PX6_stops_23]
      exact ⟨fun _ => ⟨(back_eq N).2, trivial⟩, fun q => absurd hc q⟩
  | succ k ih =>
    intro fuel i N hf hi h47 h49
    obtain ⟨f, rfl⟩ : ∃ f, fuel = f + 1 := ⟨fuel - 1, by omega⟩
    have hc : ¬ 60 < nI i := nI_nlt (b := i) (a := 60) (by omega) (by omega)
    have hi1 : nI i + 1 = nI (i + 1) := (nI_succ i).symm
    obtain ⟨g1, g2⟩ := goesOn_eq (hG.steps i) h47
    have e3 : mX6_its (nI o) 3 N = stepsS s n i (24 + 4 * o + 3) := by rw [its3 h8, h47]
    have e2 : mX6_its (nI o) 2 N = s (24 + 4 * o + 2) := by rw [its2 h8, h47, er_steps hG ho i (t := 2) (by decide)]
    obtain ⟨⟨N', a1, a2, a3⟩, a4⟩ := ih f (i + 1) (mX6_goesOn N) (by omega) (by omega) (by rw [g1, upr_at, stepsS_succ]) (fun j hj => by rw [g1, upr_ne (by decide)]; exact h49 j hj)
    obtain ⟨x1, x2⟩ := ex i N h49
    constructor
    · rw [mX6_stops_23, if_neg hc, e3, e2]
      unfold mX6_stops_48
      rw [hi1]
      by_cases q : stepsS s n i (24 + 4 * o + 3) = s (24 + 4 * o + 2)
      · rw [if_pos q]
        refine ⟨_, ?_, x1, x2⟩
        unfold mX6_stops_54 mX6_stops_65 ffn
        rw [if_neg hc]
        simp [q]
      · rw [if_neg q, a1]
        refine ⟨N', ?_, a2, fun p hp => (a3 p hp).trans (by rw [g1, upr_ne hp])⟩
        rw [ffn]
        simp [q]
    · rw [PX6_stops_23]
      refine ⟨fun q => absurd q hc, fun _ => ⟨pits3 h8, pits2 h8, fun _ => ⟨(back_eq N).2, trivial⟩, fun _ => ⟨g2, ?_⟩⟩⟩
      unfold PX6_stops_48
      rw [hi1]
      exact a4
theorem ok_stops {M : Mem} (a : Int32) (h : Inv M) : OKm (PX5_stops a) (mX5_stops a) (PX6_stops a) (mX6_stops a) M := by
  obtain ⟨n, hR⟩ := h.1
  have hn := hR.1
  obtain ⟨e1, e2⟩ := has_eq (M := M) (N := M) (b := 1) (a := a) hR.2.1.1 hR.2.1.2 hn
  by_cases hh : mX4_has 1 a M = true
  · obtain ⟨o, ho, rfl⟩ := e2 hh
    have h8 : o < 8 := by omega
    obtain ⟨t1, t2, t3⟩ := tryWalk_eq (p := 29) (m := 60) (Or.inl rfl) ho (by decide) hR
    rw [← nI60] at t1 t2 t3
    obtain ⟨M1, eM⟩ : ∃ x, x = mX5_tryWalk 29 61 (nI o) 60 M := ⟨_, rfl⟩
    rw [← eM] at t1 t2
    have s47 : M1 47 = M 47 := t2 47 (by omega) (by decide)
    have hF : Fr M M1 := Fr.of5 (fun q h1 h2 _ _ _ _ => t2 q h1 h2)
    have hE : M1 6 o = M 47 (24 + 4 * o + 2) := by rw [t2 6 (by omega) (by decide)]; exact (hR.ra ho).2.2.1
    obtain ⟨c1, c2⟩ := stops26 (M1 := M1) h8 t1 hE 61 400 0 (by decide) (by decide)
    obtain ⟨g1, g2⟩ := aside_eq M1
    obtain ⟨⟨N', m1, m2, m3⟩, m4⟩ := stops23 hR.gs ho 61 400 0 (mX6_copyRow 47 56 49 56 M1) (by decide) (by decide) (by rw [g1, upr_ne (by decide)]; exact s47) (fun j hj => by rw [g1, upr_at, c56_at hj, s47])
    have h1 : mX6_isOne (nI o) M1 = true := by
      unfold mX6_isOne at e1 ⊢
      rw [s47, ← e1]; exact hh
    have f5 : mX5_stops (nI o) M = (ffn (fun j => decide (stepsS (M 47) n j (24 + 4 * o + 3) = M 47 (24 + 4 * o + 2))) 61 0, M1) := by
      unfold mX5_stops mX5_stops_24
      rw [if_pos hh, ← eM]
      exact c1
    have f6 : mX6_stops (nI o) M1 = (ffn (fun j => decide (stepsS (M 47) n j (24 + 4 * o + 3) = M 47 (24 + 4 * o + 2))) 61 0, N') := by
      unfold mX6_stops mX6_stops_21
      rw [if_pos h1]
      exact m1
    have b : Fr M1 N' := ⟨fun p hp => by
      unfold PS at hp
      rw [m3 p (by omega), g1, upr_ne (by omega)], fun k hk => by rw [m2 k hk, s47]⟩
    unfold OKm
    rw [f5]
    refine ⟨?_, ?_, by rw [f6], by rw [f6]; exact Inv.fr (hF.trans b) h⟩
    · unfold PX5_stops PX5_stops_24
      refine fun _ => ⟨t3, ?_⟩
      rw [← eM]
      exact c2
    · show PX6_stops (nI o) M1
      unfold PX6_stops PX6_stops_21
      exact fun _ => ⟨g2, m4⟩
  · unfold OKm mX5_stops mX6_stops PX5_stops PX6_stops
    rw [if_neg hh]
    refine ⟨fun q => absurd q hh, fun q => absurd q (by rw [← e1]; exact hh), ?_, ?_⟩
    · rw [← e1, if_neg hh]
    · rw [← e1, if_neg hh]; exact h
