/-! THE REFERENCE's acts, tied to the same picture -/
def C6 (kd : Nat) (nm fc : Int32) (N : Mem) (pf : Bool) (T : TT) : Prop := N 46 29 = b2i pf ∧ N 46 26 = nI kd ∧ N 46 27 = nm ∧ N 46 28 = fc ∧ TR (N 46 25) (N 63) T
def F6 (N N' : Mem) : Prop := (∀ p, p ≠ 46 → p ≠ 63 → N' p = N p) ∧ ∀ z, z < 25 → N' 46 z = N 46 z
theorem F6.trans {A B C : Mem} (h1 : F6 A B) (h2 : F6 B C) : F6 A C := ⟨fun p a b => (h2.1 p a b).trans (h1.1 p a b), fun z hz => (h2.2 z hz).trans (h1.2 z hz)⟩
theorem runs6 {kd : Nat} {nm fc b : Int32} {N : Mem} {pf : Bool} {T : TT} (h : C6 kd nm fc N pf T) : C6 kd nm fc (mX6_runs b N) pf (nt b T) ∧ PX6_runs b N ∧ F6 N (mX6_runs b N) := by
  obtain ⟨h1, h2, h3, h4, h5⟩ := h
  obtain ⟨a1, a2⟩ := note_tr (b := b) h5
  unfold mX6_runs PX6_runs
  by_cases q : 30 ≤ N 46 25
  · rw [if_pos q]
    exact ⟨⟨h1, h2, h3, h4, a1 q⟩, fun z => absurd q z, fun _ _ _ => rfl, fun _ _ => rfl⟩
  · rw [if_neg q]
    obtain ⟨b1, b2⟩ := a2 q
    have e26 : upm N 63 (N 46 25).toNatClampNeg b 46 = N 46 := upm_ne (by decide)
    have f : ∀ z, z ≠ 25 → upm (upm N 63 (N 46 25).toNatClampNeg b) 46 25 (upm N 63 (N 46 25).toNatClampNeg b 46 25 + 1) 46 z = N 46 z := fun z hz => by rw [upm_at, upd_ne hz, e26]
    refine ⟨⟨(f 29 (by decide)).trans h1, (f 26 (by decide)).trans h2, (f 27 (by decide)).trans h3, (f 28 (by decide)).trans h4, ?_⟩, fun _ => b1, fun p p1 p2 => by rw [upm_ne p1, upm_ne p2], fun z hz => f z (by omega)⟩
    rw [upm_at, upd_at, e26, upm_ne (show 63 ≠ 46 by decide), upm_at]
    exact b2
def RM (kd : Nat) (nm fc : Int32) (g : Mem → Int32 × Mem) (P : Mem → Prop) (T : TT) (v : Int32) (pf : Bool) (T' : TT) : Prop := ∀ (N : Mem), C6 kd nm fc N false T → ∃ N', g N = (v, N') ∧ P N ∧ C6 kd nm fc N' pf T' ∧ F6 N N'
theorem rm_runs {kd : Nat} {nm fc v : Int32} {b : Int32} {g k : Mem → Int32 × Mem} {P Q : Mem → Prop} {T T' : TT} {pf : Bool} (hg : ∀ N, g N = k (mX6_runs b N)) (hP : ∀ N, PX6_runs b N → Q (mX6_runs b N) → P N) (h : RM kd nm fc k Q (nt b T) v pf T') : RM kd nm fc g P T v pf T' := by
  intro N hC
  obtain ⟨a1, a2, a3⟩ := runs6 (b := b) hC
  obtain ⟨N', b1, b2, b3, b4⟩ := h _ a1
  exact ⟨N', (hg N).trans b1, hP N a2 b2, b3, a3.trans b4⟩
theorem rm_of {kd : Nat} {nm fc v : Int32} {g k : Mem → Int32 × Mem} {P Q : Mem → Prop} {T T' : TT} {pf : Bool} (hg : ∀ N, C6 kd nm fc N false T → g N = k N) (hP : ∀ N, C6 kd nm fc N false T → Q N → P N) (h : RM kd nm fc k Q T v pf T') : RM kd nm fc g P T v pf T' := by
  intro N hC
  obtain ⟨N', b1, b2, b3, b4⟩ := h N hC
  exact ⟨N', (hg N hC).trans b1, hP N hC b2, b3, b4⟩
/-- one call, then what it answers made another -/
theorem rm_then {kd : Nat} {nm fc v w : Int32} {g k : Mem → Int32 × Mem} {P Q : Mem → Prop} {T T' : TT} {pf : Bool} (h : RM kd nm fc k Q T v pf T') (hg : ∀ N N', k N = (v, N') → C6 kd nm fc N' pf T' → g N = (w, N')) (hP : ∀ N N', k N = (v, N') → C6 kd nm fc N' pf T' → Q N → P N) : RM kd nm fc g P T w pf T' := by
  intro N hC
  obtain ⟨N', b1, b2, b3, b4⟩ := h N hC
  exact ⟨N', hg N N' b1 b3, hP N N' b1 b3 b2, b3, b4⟩
/-- one call, then another -/
theorem rm_two {kd : Nat} {nm fc v w r : Int32} {g k k2 : Mem → Int32 × Mem} {P Q Q2 : Mem → Prop} {T T' T2 : TT} {pf : Bool} (h : RM kd nm fc k Q T v false T') (h2 : RM kd nm fc k2 Q2 T' w pf T2) (hg : ∀ N N' N2, k N = (v, N') → C6 kd nm fc N' false T' → k2 N' = (w, N2) → g N = (r, N2)) (hP : ∀ N N' N2, k N = (v, N') → C6 kd nm fc N' false T' → k2 N' = (w, N2) → Q N → Q2 N' → P N) : RM kd nm fc g P T r pf T2 := by
  intro N hC
  obtain ⟨N', b1, b2, b3, b4⟩ := h N hC
  obtain ⟨N2, c1, c2, c3, c4⟩ := h2 N' b3
  exact ⟨N2, hg N N' N2 b1 b3 c1, hP N N' N2 b1 b3 c1 b2 c2, c3, b4.trans c4⟩
theorem rmDpl {kd : Nat} {nm fc : Int32} (x : Int32) (T : TT) : RM kd nm fc (mX6_driftsPlain x) (PX6_driftsPlain x) T (x * 9 + nm) false (nt 10 T) := by
  intro N hC
  obtain ⟨a1, a2, a3⟩ := runs6 (b := 10) hC
  refine ⟨mX6_runs 10 N, ?_, ⟨a2, trivial⟩, a1, a3⟩
  unfold mX6_driftsPlain mX6_driftsPlain_6
  rw [a1.2.2.1]
theorem rmDf {kd : Nat} {nm fc : Int32} (x : Int32) (T : TT) : RM kd nm fc (mX6_driftsOfFog x) (PX6_driftsOfFog x) T (0 - (x * 9 + nm)) false (nt 10 (nt 30 T)) := by
  refine rm_runs (k := mX6_driftsOfFog_6 x) (Q := PX6_driftsOfFog_6 x) (fun N => rfl) (fun N a b => ⟨a, b⟩) ?_
  refine rm_then (rmDpl x _) (fun N N' e _ => ?_) (fun N N' e _ q => ⟨q, trivial⟩)
  unfold mX6_driftsOfFog_6 mX6_driftsOfFog_12
  rw [e]
theorem rmDd {kd : Nat} (hk : kd < 6) (nm fc x : Int32) (T : TT) : RM kd nm fc (mX6_drifts x) (PX6_drifts x) T (sD kd nm x T).1 false (sD kd nm x T).2 := by
  have n2 : ∀ N : Mem, C6 kd nm fc N false T → N 46 26 = nI kd := fun N h => h.2.1
  rcases k6 hk with rfl | rfl | rfl | rfl | rfl | rfl
  · refine rm_of (k := mX6_driftsPlain x) (Q := PX6_driftsPlain x) (fun N hC => ?_) (fun N hC q => ?_) (rmDpl x T)
    · unfold mX6_drifts
      rw [n2 N hC, if_neg (by decide), if_neg (by decide), if_neg (by decide)]
    · unfold PX6_drifts
      rw [n2 N hC]
      exact ⟨fun z => absurd z (by decide), fun _ => ⟨fun z => absurd z (by decide), fun _ => ⟨fun z => absurd z (by decide), fun _ => q⟩⟩⟩
  · refine rm_of (k := mX6_driftsPlain x) (Q := PX6_driftsPlain x) (fun N hC => ?_) (fun N hC q => ?_) (rmDpl x T)
    · unfold mX6_drifts
      rw [n2 N hC, if_neg (by decide), if_neg (by decide), if_neg (by decide)]
    · unfold PX6_drifts
      rw [n2 N hC]
      exact ⟨fun z => absurd z (by decide), fun _ => ⟨fun z => absurd z (by decide), fun _ => ⟨fun z => absurd z (by decide), fun _ => q⟩⟩⟩
  · refine rm_of (k := mX6_driftsOfFog x) (Q := PX6_driftsOfFog x) (fun N hC => ?_) (fun N hC q => ?_) (rmDf x T)
    · unfold mX6_drifts
      rw [n2 N hC, if_pos (by decide)]
    · unfold PX6_drifts
      rw [n2 N hC]
      exact ⟨fun _ => q, fun z => absurd (by decide) z⟩
  · refine rm_of (k := fun N => mX6_drifts_59 x (mX6_runs 51 N)) (Q := fun N => PX6_runs 51 N ∧ PX6_drifts_59 x (mX6_runs 51 N)) (fun N hC => ?_) (fun N hC q => ?_) ?_
    · unfold mX6_drifts
      rw [n2 N hC, if_neg (by decide), if_pos (by decide)]
    · unfold PX6_drifts
      rw [n2 N hC]
      exact ⟨fun z => absurd z (by decide), fun _ => ⟨fun _ => q, fun z => absurd (by decide) z⟩⟩
    · refine rm_runs (k := mX6_drifts_59 x) (Q := PX6_drifts_59 x) (fun N => rfl) (fun N a b => ⟨a, b⟩) ?_
      refine rm_then (rmDpl x _) (fun N N' e c => ?_) (fun N N' e _ q => ⟨q, trivial⟩)
      unfold mX6_drifts_59 mX6_drifts_64
      rw [e]
      dsimp only
      rw [c.2.2.1]
      rfl
  · refine rm_of (k := fun N => mX6_drifts_44 x (mX6_runs 40 N)) (Q := fun N => PX6_runs 40 N ∧ PX6_drifts_44 x (mX6_runs 40 N)) (fun N hC => ?_) (fun N hC q => ?_) ?_
    · unfold mX6_drifts
      rw [n2 N hC, if_neg (by decide), if_neg (by decide), if_pos (by decide)]
    · unfold PX6_drifts
      rw [n2 N hC]
      exact ⟨fun z => absurd z (by decide), fun _ => ⟨fun z => absurd z (by decide), fun _ => ⟨fun _ => q, fun z => absurd (by decide) z⟩⟩⟩
    · refine rm_runs (k := mX6_drifts_44 x) (Q := PX6_drifts_44 x) (fun N => rfl) (fun N a b => ⟨a, b⟩) ?_
      refine rm_then (rmDf x _) (fun N N' e c => ?_) (fun N N' e _ q => ⟨q, trivial⟩)
      unfold mX6_drifts_44 mX6_drifts_49
      rw [e]
      rfl
  · refine rm_of (k := mX6_driftsPlain x) (Q := PX6_driftsPlain x) (fun N hC => ?_) (fun N hC q => ?_) (rmDpl x T)
    · unfold mX6_drifts
      rw [n2 N hC, if_neg (by decide), if_neg (by decide), if_neg (by decide)]
    · unfold PX6_drifts
      rw [n2 N hC]
      exact ⟨fun z => absurd z (by decide), fun _ => ⟨fun z => absurd z (by decide), fun _ => ⟨fun z => absurd z (by decide), fun _ => q⟩⟩⟩
theorem rmDP {kd : Nat} (hk : kd < 6) (nm fc x : Int32) (T : TT) : RM kd nm fc (mX6_dripsPlain x) (PX6_dripsPlain x) T (sDP kd nm fc x T).1 false (sDP kd nm fc x T).2 := by
  refine rm_runs (k := mX6_dripsPlain_6 x) (Q := PX6_dripsPlain_6 x) (fun N => rfl) (fun N a b => ⟨a, b⟩) ?_
  refine rm_then (rmDd hk nm fc x (nt 11 T)) (fun N N' e c => ?_) (fun N N' e _ q => ⟨q, trivial⟩)
  unfold mX6_dripsPlain_6 mX6_dripsPlain_11
  rw [e]
  dsimp only
  rw [c.2.2.2.1]
  rfl
theorem rmR20 {kd : Nat} (hk : kd < 6) (nm fc x : Int32) (T : TT) : RM kd nm fc (mX6_drips_16 x) (PX6_drips_16 x) T ((sDP kd nm fc x (nt 20 T)).1 + 2) false (sDP kd nm fc x (nt 20 T)).2 := by
  refine rm_runs (k := mX6_drips_22 x) (Q := PX6_drips_22 x) (fun N => rfl) (fun N a b => ⟨a, b⟩) ?_
  refine rm_then (rmDP hk nm fc x (nt 20 T)) (fun N N' e c => ?_) (fun N N' e _ q => ⟨q, trivial⟩)
  unfold mX6_drips_22
  rw [e]
  rfl
theorem rmR {kd : Nat} (hk : kd < 6) (nm fc x : Int32) (T : TT) : RM kd nm fc (mX6_drips x) (PX6_drips x) T (sR kd nm fc x T).1 false (sR kd nm fc x T).2 := by
  have n2 : ∀ N : Mem, C6 kd nm fc N false T → N 46 26 = nI kd := fun N h => h.2.1
  have plain : (kd = 0 ∨ kd = 2 ∨ kd = 5) → RM kd nm fc (mX6_drips x) (PX6_drips x) T (sDP kd nm fc x T).1 false (sDP kd nm fc x T).2 := by
    intro hkd
    have q1 : ¬ nI kd = 1 := by rcases hkd with rfl | rfl | rfl <;> decide
    have q3 : ¬ nI kd = 3 := by rcases hkd with rfl | rfl | rfl <;> decide
    have q4 : ¬ nI kd = 4 := by rcases hkd with rfl | rfl | rfl <;> decide
    refine rm_of (k := mX6_dripsPlain x) (Q := PX6_dripsPlain x) (fun N hC => ?_) (fun N hC q => ?_) (rmDP hk nm fc x T)
    · unfold mX6_drips
      rw [n2 N hC, if_neg q1, if_neg q3, if_neg q4]
    · unfold PX6_drips
      rw [n2 N hC]
      exact ⟨fun z => absurd z q1, fun _ => ⟨fun z => absurd z q3, fun _ => ⟨fun z => absurd z q4, fun _ => q⟩⟩⟩
  rcases k6 hk with rfl | rfl | rfl | rfl | rfl | rfl
  · exact plain (by decide)
  · refine rm_of (k := mX6_drips_16 x) (Q := PX6_drips_16 x) (fun N hC => ?_) (fun N hC q => ?_) (rmR20 hk nm fc x T)
    · unfold mX6_drips
      rw [n2 N hC, if_pos (by decide)]
    · unfold PX6_drips
      rw [n2 N hC]
      exact ⟨fun _ => q, fun z => absurd (by decide) z⟩
  · exact plain (by decide)
  · refine rm_of (k := mX6_drips_16 x) (Q := PX6_drips_16 x) (fun N hC => ?_) (fun N hC q => ?_) (rmR20 hk nm fc x T)
    · unfold mX6_drips
      rw [n2 N hC, if_neg (by decide), if_pos (by decide)]
    · unfold PX6_drips
      rw [n2 N hC]
      exact ⟨fun z => absurd z (by decide), fun _ => ⟨fun _ => q, fun z => absurd (by decide) z⟩⟩
  · refine rm_of (k := fun N => mX6_drips_44 x (mX6_runs 41 N)) (Q := fun N => PX6_runs 41 N ∧ PX6_drips_44 x (mX6_runs 41 N)) (fun N hC => ?_) (fun N hC q => ?_) ?_
    · unfold mX6_drips
      rw [n2 N hC, if_neg (by decide), if_neg (by decide), if_pos (by decide)]
    · unfold PX6_drips
      rw [n2 N hC]
      exact ⟨fun z => absurd z (by decide), fun _ => ⟨fun z => absurd z (by decide), fun _ => ⟨fun _ => q, fun z => absurd (by decide) z⟩⟩⟩
    · refine rm_runs (k := mX6_drips_44 x) (Q := PX6_drips_44 x) (fun N => rfl) (fun N a b => ⟨a, b⟩) ?_
      refine rm_two (rmDP hk nm fc x (nt 41 T)) (rmDd hk nm fc fc _) (fun N N' N2 e c e2 => ?_) (fun N N' N2 e c e2 q q2 => ?_)
      · unfold mX6_drips_44 mX6_drips_49 mX6_drips_59
        rw [e]
        dsimp only
        rw [c.2.2.2.1, e2]
        rfl
      · unfold PX6_drips_44 PX6_drips_49
        rw [e]
        dsimp only
        rw [c.2.2.2.1]
        exact ⟨q, q2, trivial⟩
  · exact plain (by decide)
theorem rmPP {kd : Nat} (nm fc x : Int32) (T : TT) : RM kd nm fc (mX6_partsPlain x) (PX6_partsPlain x) T (sPP nm fc x T).1 (sPP nm fc x T).2.1 (sPP nm fc x T).2.2 := by
  refine rm_runs (k := mX6_partsPlain_6 x) (Q := PX6_partsPlain_6 x) (fun N => rfl) (fun N a b => ⟨a, b⟩) ?_
  intro N c
  have h29 : N 46 29 = 0 := c.1
  have fr : ∀ v, F6 N (upm N 46 29 v) := fun v => ⟨fun p p1 _ => upm_ne p1, fun z hz => by rw [upm_at, upd_ne (by omega)]⟩
  have cc : ∀ v : Bool, C6 kd nm fc (upm N 46 29 (b2i v)) v (nt 12 T) := fun v => by
    refine ⟨by rw [upm_at, upd_at], by rw [upm_at, upd_ne (by decide)]; exact c.2.1, by rw [upm_at, upd_ne (by decide)]; exact c.2.2.1, by rw [upm_at, upd_ne (by decide)]; exact c.2.2.2.1, ?_⟩
    rw [upm_at, upd_ne (by decide), upm_ne (by decide)]
    exact c.2.2.2.2
  have e29 : ∀ v, upm N 46 29 v 46 29 = v := fun v => by rw [upm_at, upd_at]
  have e28 : ∀ v, upm N 46 29 v 46 28 = fc := fun v => by rw [upm_at, upd_ne (by decide)]; exact c.2.2.2.1
  have e27 : ∀ v, upm N 46 29 v 46 27 = nm := fun v => by rw [upm_at, upd_ne (by decide)]; exact c.2.2.1
  have n1 : ¬ (1 : Int32) = 0 := by decide
  unfold sPP
  dsimp only
  unfold mX6_partsPlain_6 PX6_partsPlain_6 mX6_partsPlain_25 PX6_partsPlain_25 mX6_partsPlain_30 PX6_partsPlain_30
  rw [h29, c.2.2.1, c.2.2.2.1, if_pos rfl]
  simp only [e29, e28, e27]
  by_cases q : nm = fc
  · rw [if_pos q, if_pos q, if_neg n1, decide_eq_true q]
    exact ⟨upm N 46 29 1, rfl, ⟨fun _ => ⟨fun _ => ⟨Or.inr trivial, fun z => absurd z n1⟩, fun z => absurd q z⟩, fun z => absurd trivial z⟩, cc true, fr _⟩
  · have q0 : ¬ fc - nm = 0 := fun z => q (((Int32.sub_eq_iff_eq_add.mp z).trans (Int32.zero_add nm)).symm)
    rw [if_neg q, if_neg q, if_pos trivial, decide_eq_false q]
    exact ⟨upm N 46 29 0, rfl, ⟨fun _ => ⟨fun z => absurd z q, fun _ => ⟨Or.inl trivial, fun _ => q0⟩⟩, fun z => absurd trivial z⟩, cc false, fr _⟩
