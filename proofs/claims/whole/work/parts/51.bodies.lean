/-! ACTS: the class's bodies and the reference's methods, both tied to one picture -/
abbrev TT : Type := Nat × (Nat → Int32)
def TR (c : Int32) (g : Nat → Int32) (T : TT) : Prop := T.1 ≤ 30 ∧ c = nI T.1 ∧ ∀ i, i < T.1 → g i = T.2 i
def nt (b : Int32) (T : TT) : TT := if T.1 < 30 then (T.1 + 1, upd T.2 T.1 b) else T
theorem note_tr {c b : Int32} {g : Nat → Int32} {T : TT} (h : TR c g T) : (30 ≤ c → TR c g (nt b T)) ∧ (¬ 30 ≤ c → vp_in c 30 ∧ TR (c + 1) (upd g c.toNatClampNeg b) (nt b T)) := by
  obtain ⟨h1, h2, h3⟩ := h
  have hi : (30 : Int32) ≤ nI T.1 ↔ 30 ≤ T.1 := nI_le_iff (a := 30) (by decide) (by omega)
  rw [h2]
  constructor
  · intro q
    have := hi.mp q
    unfold nt
    rw [if_neg (by omega)]
    exact ⟨h1, rfl, h3⟩
  · intro q
    have : T.1 < 30 := by
      rcases Nat.lt_or_ge T.1 30 with z | z
      · exact z
      · exact absurd (hi.mpr z) q
    unfold nt
    rw [if_pos this, nIc (by omega)]
    refine ⟨vin this (by decide), this, (nI_succ T.1).symm, fun i hi => ?_⟩
    by_cases e : i = T.1
    · subst e
      rw [upd_at]
      exact (upd_at _ _ _).symm
    · rw [upd_ne e]
      have hi2 : i < T.1 + 1 := hi
      exact (h3 i (by omega)).trans (upd_ne e).symm
theorem r20_10 (kfR : Int32 → Int32 → Int32 → Mem → Int32 × Mem) (v2 v3 : Int32) (M : Mem) : mX0_run_20 kfR 10 v2 v3 M = (((v2 * 9) + (M 26 4)), M) := by
  unfold mX0_run_20
  rw [if_pos rfl]
theorem p20_10 (kfR : Int32 → Int32 → Int32 → Mem → Int32 × Mem) (kPR : Int32 → Int32 → Int32 → Mem → Prop) (v2 v3 : Int32) (M : Mem) : PX0_run_20 kfR kPR 10 v2 v3 M := by
  unfold PX0_run_20
  exact fun q => absurd rfl q
theorem r20_11 (kfR : Int32 → Int32 → Int32 → Mem → Int32 × Mem) (v2 v3 : Int32) (M : Mem) : mX0_run_20 kfR 11 v2 v3 M = (mX0_run_270 kfR ((kfR (mX0_bodyOf 0 M) v2 (v3 + 1) M).1) ((kfR (mX0_bodyOf 0 M) v2 (v3 + 1) M).2)) := by
  unfold mX0_run_20
  rw [if_neg (by decide), if_pos rfl]
theorem p20_11 (kfR : Int32 → Int32 → Int32 → Mem → Int32 × Mem) (kPR : Int32 → Int32 → Int32 → Mem → Prop) (v2 v3 : Int32) (M : Mem) (h : PX0_bodyOf 0 M ∧ (kPR (mX0_bodyOf 0 M) v2 (v3 + 1) M ∧ (PX0_run_270 kfR kPR ((kfR (mX0_bodyOf 0 M) v2 (v3 + 1) M).1) ((kfR (mX0_bodyOf 0 M) v2 (v3 + 1) M).2)))) : PX0_run_20 kfR kPR 11 v2 v3 M := by
  unfold PX0_run_20
  exact fun _ => ⟨fun _ => h, fun q => absurd rfl q⟩
theorem r20_12 (kfR : Int32 → Int32 → Int32 → Mem → Int32 × Mem) (v2 v3 : Int32) (M : Mem) : mX0_run_20 kfR 12 v2 v3 M = ((mX0_partedBy v2 ((M 26 5) - (M 26 4)) M).1, (mX0_partedBy v2 ((M 26 5) - (M 26 4)) M).2) := by
  unfold mX0_run_20
  rw [if_neg (by decide), if_neg (by decide), if_pos rfl]
theorem p20_12 (kfR : Int32 → Int32 → Int32 → Mem → Int32 × Mem) (kPR : Int32 → Int32 → Int32 → Mem → Prop) (v2 v3 : Int32) (M : Mem) (h : PX0_partedBy v2 ((M 26 5) - (M 26 4)) M) : PX0_run_20 kfR kPR 12 v2 v3 M := by
  unfold PX0_run_20
  exact fun _ => ⟨fun q => absurd q (by decide), fun _ => ⟨fun _ => h, fun q => absurd rfl q⟩⟩
theorem r20_13 (kfR : Int32 → Int32 → Int32 → Mem → Int32 × Mem) (v2 v3 : Int32) (M : Mem) : mX0_run_20 kfR 13 v2 v3 M = (mX0_run_305 kfR ((kfR (mX0_bodyOf 1 M) v2 (v3 + 1) M).1) ((kfR (mX0_bodyOf 1 M) v2 (v3 + 1) M).2)) := by
  unfold mX0_run_20
  rw [if_neg (by decide), if_neg (by decide), if_neg (by decide), if_pos rfl]
theorem p20_13 (kfR : Int32 → Int32 → Int32 → Mem → Int32 × Mem) (kPR : Int32 → Int32 → Int32 → Mem → Prop) (v2 v3 : Int32) (M : Mem) (h : PX0_bodyOf 1 M ∧ (kPR (mX0_bodyOf 1 M) v2 (v3 + 1) M ∧ (PX0_run_305 kfR kPR ((kfR (mX0_bodyOf 1 M) v2 (v3 + 1) M).1) ((kfR (mX0_bodyOf 1 M) v2 (v3 + 1) M).2)))) : PX0_run_20 kfR kPR 13 v2 v3 M := by
  unfold PX0_run_20
  exact fun _ => ⟨fun q => absurd q (by decide), fun _ => ⟨fun q => absurd q (by decide), fun _ => ⟨fun _ => h, fun q => absurd rfl q⟩⟩⟩
theorem r20_20 (kfR : Int32 → Int32 → Int32 → Mem → Int32 × Mem) (v2 v3 : Int32) (M : Mem) : mX0_run_20 kfR 20 v2 v3 M = (mX0_run_319 kfR ((kfR 11 v2 (v3 + 1) M).1) ((kfR 11 v2 (v3 + 1) M).2)) := by
  unfold mX0_run_20
  rw [if_neg (by decide), if_neg (by decide), if_neg (by decide), if_neg (by decide), if_neg (by decide), if_neg (by decide), if_neg (by decide), if_neg (by decide), if_neg (by decide), if_neg (by decide), if_pos rfl]
theorem p20_20 (kfR : Int32 → Int32 → Int32 → Mem → Int32 × Mem) (kPR : Int32 → Int32 → Int32 → Mem → Prop) (v2 v3 : Int32) (M : Mem) (h : kPR 11 v2 (v3 + 1) M ∧ (PX0_run_319 kfR kPR ((kfR 11 v2 (v3 + 1) M).1) ((kfR 11 v2 (v3 + 1) M).2))) : PX0_run_20 kfR kPR 20 v2 v3 M := by
  unfold PX0_run_20
  exact fun _ => ⟨fun q => absurd q (by decide), fun _ => ⟨fun q => absurd q (by decide), fun _ => ⟨fun q => absurd q (by decide), fun _ => fun _ => fun _ => fun _ => fun _ => fun _ => fun _ => ⟨fun _ => h, fun q => absurd rfl q⟩⟩⟩⟩
theorem r20_30 (kfR : Int32 → Int32 → Int32 → Mem → Int32 × Mem) (v2 v3 : Int32) (M : Mem) : mX0_run_20 kfR 30 v2 v3 M = (mX0_run_332 kfR ((kfR 10 v2 (v3 + 1) M).1) 0 ((kfR 10 v2 (v3 + 1) M).2)) := by
  unfold mX0_run_20
  rw [if_neg (by decide), if_neg (by decide), if_neg (by decide), if_neg (by decide), if_neg (by decide), if_neg (by decide), if_neg (by decide), if_neg (by decide), if_neg (by decide), if_neg (by decide), if_neg (by decide), if_neg (by decide), if_neg (by decide), if_neg (by decide), if_neg (by decide), if_neg (by decide), if_neg (by decide), if_neg (by decide), if_neg (by decide), if_neg (by decide), if_pos rfl]
theorem p20_30 (kfR : Int32 → Int32 → Int32 → Mem → Int32 × Mem) (kPR : Int32 → Int32 → Int32 → Mem → Prop) (v2 v3 : Int32) (M : Mem) (h : kPR 10 v2 (v3 + 1) M ∧ (PX0_run_332 kfR kPR ((kfR 10 v2 (v3 + 1) M).1) 0 ((kfR 10 v2 (v3 + 1) M).2))) : PX0_run_20 kfR kPR 30 v2 v3 M := by
  unfold PX0_run_20
  exact fun _ => ⟨fun q => absurd q (by decide), fun _ => ⟨fun q => absurd q (by decide), fun _ => ⟨fun q => absurd q (by decide), fun _ => fun _ => fun _ => fun _ => fun _ => fun _ => fun _ => ⟨fun q => absurd q (by decide), fun _ => fun _ => fun _ => fun _ => fun _ => fun _ => fun _ => fun _ => fun _ => fun _ => ⟨fun _ => h, fun q => absurd rfl q⟩⟩⟩⟩⟩
theorem r20_31 (kfR : Int32 → Int32 → Int32 → Mem → Int32 × Mem) (v2 v3 : Int32) (M : Mem) : mX0_run_20 kfR 31 v2 v3 M = (mX0_run_343 kfR (v3 + 1) ((kfR 13 v2 (v3 + 1) M).1) ((kfR 13 v2 (v3 + 1) M).2)) := by
  unfold mX0_run_20
  rw [if_neg (by decide), if_neg (by decide), if_neg (by decide), if_neg (by decide), if_neg (by decide), if_neg (by decide), if_neg (by decide), if_neg (by decide), if_neg (by decide), if_neg (by decide), if_neg (by decide), if_neg (by decide), if_neg (by decide), if_neg (by decide), if_neg (by decide), if_neg (by decide), if_neg (by decide), if_neg (by decide), if_neg (by decide), if_neg (by decide), if_neg (by decide), if_pos rfl]
theorem p20_31 (kfR : Int32 → Int32 → Int32 → Mem → Int32 × Mem) (kPR : Int32 → Int32 → Int32 → Mem → Prop) (v2 v3 : Int32) (M : Mem) (h : kPR 13 v2 (v3 + 1) M ∧ (PX0_run_343 kfR kPR (v3 + 1) ((kfR 13 v2 (v3 + 1) M).1) ((kfR 13 v2 (v3 + 1) M).2))) : PX0_run_20 kfR kPR 31 v2 v3 M := by
  unfold PX0_run_20
  exact fun _ => ⟨fun q => absurd q (by decide), fun _ => ⟨fun q => absurd q (by decide), fun _ => ⟨fun q => absurd q (by decide), fun _ => fun _ => fun _ => fun _ => fun _ => fun _ => fun _ => ⟨fun q => absurd q (by decide), fun _ => fun _ => fun _ => fun _ => fun _ => fun _ => fun _ => fun _ => fun _ => fun _ => ⟨fun q => absurd q (by decide), fun _ => ⟨fun _ => h, fun q => absurd rfl q⟩⟩⟩⟩⟩⟩
theorem r20_40 (kfR : Int32 → Int32 → Int32 → Mem → Int32 × Mem) (v2 v3 : Int32) (M : Mem) : mX0_run_20 kfR 40 v2 v3 M = (mX0_run_369 kfR ((kfR 30 v2 (v3 + 1) M).1) ((kfR 30 v2 (v3 + 1) M).2)) := by
  unfold mX0_run_20
  rw [if_neg (by decide), if_neg (by decide), if_neg (by decide), if_neg (by decide), if_neg (by decide), if_neg (by decide), if_neg (by decide), if_neg (by decide), if_neg (by decide), if_neg (by decide), if_neg (by decide), if_neg (by decide), if_neg (by decide), if_neg (by decide), if_neg (by decide), if_neg (by decide), if_neg (by decide), if_neg (by decide), if_neg (by decide), if_neg (by decide), if_neg (by decide), if_neg (by decide), if_neg (by decide), if_neg (by decide), if_neg (by decide), if_neg (by decide), if_neg (by decide), if_neg (by decide), if_neg (by decide), if_neg (by decide), if_pos rfl]
theorem p20_40 (kfR : Int32 → Int32 → Int32 → Mem → Int32 × Mem) (kPR : Int32 → Int32 → Int32 → Mem → Prop) (v2 v3 : Int32) (M : Mem) (h : kPR 30 v2 (v3 + 1) M ∧ (PX0_run_369 kfR kPR ((kfR 30 v2 (v3 + 1) M).1) ((kfR 30 v2 (v3 + 1) M).2))) : PX0_run_20 kfR kPR 40 v2 v3 M := by
  unfold PX0_run_20
  exact fun _ => ⟨fun q => absurd q (by decide), fun _ => ⟨fun q => absurd q (by decide), fun _ => ⟨fun q => absurd q (by decide), fun _ => fun _ => fun _ => fun _ => fun _ => fun _ => fun _ => ⟨fun q => absurd q (by decide), fun _ => fun _ => fun _ => fun _ => fun _ => fun _ => fun _ => fun _ => fun _ => fun _ => ⟨fun q => absurd q (by decide), fun _ => ⟨fun q => absurd q (by decide), fun _ => fun _ => fun _ => fun _ => fun _ => fun _ => fun _ => fun _ => fun _ => ⟨fun _ => h, fun q => absurd rfl q⟩⟩⟩⟩⟩⟩⟩
theorem r20_41 (kfR : Int32 → Int32 → Int32 → Mem → Int32 × Mem) (v2 v3 : Int32) (M : Mem) : mX0_run_20 kfR 41 v2 v3 M = (mX0_run_382 kfR (v3 + 1) ((kfR 11 v2 (v3 + 1) M).1) ((kfR 11 v2 (v3 + 1) M).2)) := by
  unfold mX0_run_20
  rw [if_neg (by decide), if_neg (by decide), if_neg (by decide), if_neg (by decide), if_neg (by decide), if_neg (by decide), if_neg (by decide), if_neg (by decide), if_neg (by decide), if_neg (by decide), if_neg (by decide), if_neg (by decide), if_neg (by decide), if_neg (by decide), if_neg (by decide), if_neg (by decide), if_neg (by decide), if_neg (by decide), if_neg (by decide), if_neg (by decide), if_neg (by decide), if_neg (by decide), if_neg (by decide), if_neg (by decide), if_neg (by decide), if_neg (by decide), if_neg (by decide), if_neg (by decide), if_neg (by decide), if_neg (by decide), if_neg (by decide), if_pos rfl]
theorem p20_41 (kfR : Int32 → Int32 → Int32 → Mem → Int32 × Mem) (kPR : Int32 → Int32 → Int32 → Mem → Prop) (v2 v3 : Int32) (M : Mem) (h : kPR 11 v2 (v3 + 1) M ∧ (PX0_run_382 kfR kPR (v3 + 1) ((kfR 11 v2 (v3 + 1) M).1) ((kfR 11 v2 (v3 + 1) M).2))) : PX0_run_20 kfR kPR 41 v2 v3 M := by
  unfold PX0_run_20
  exact fun _ => ⟨fun q => absurd q (by decide), fun _ => ⟨fun q => absurd q (by decide), fun _ => ⟨fun q => absurd q (by decide), fun _ => fun _ => fun _ => fun _ => fun _ => fun _ => fun _ => ⟨fun q => absurd q (by decide), fun _ => fun _ => fun _ => fun _ => fun _ => fun _ => fun _ => fun _ => fun _ => fun _ => ⟨fun q => absurd q (by decide), fun _ => ⟨fun q => absurd q (by decide), fun _ => fun _ => fun _ => fun _ => fun _ => fun _ => fun _ => fun _ => fun _ => ⟨fun q => absurd q (by decide), fun _ => ⟨fun _ => h, fun q => absurd rfl q⟩⟩⟩⟩⟩⟩⟩⟩
theorem r20_50 (kfR : Int32 → Int32 → Int32 → Mem → Int32 × Mem) (v2 v3 : Int32) (M : Mem) : mX0_run_20 kfR 50 v2 v3 M = (mX0_run_413 kfR ((kfR 12 (v2 - (M 26 5)) (v3 + 1) M).1) ((kfR 12 (v2 - (M 26 5)) (v3 + 1) M).2)) := by
  unfold mX0_run_20
  rw [if_neg (by decide), if_neg (by decide), if_neg (by decide), if_neg (by decide), if_neg (by decide), if_neg (by decide), if_neg (by decide), if_neg (by decide), if_neg (by decide), if_neg (by decide), if_neg (by decide), if_neg (by decide), if_neg (by decide), if_neg (by decide), if_neg (by decide), if_neg (by decide), if_neg (by decide), if_neg (by decide), if_neg (by decide), if_neg (by decide), if_neg (by decide), if_neg (by decide), if_neg (by decide), if_neg (by decide), if_neg (by decide), if_neg (by decide), if_neg (by decide), if_neg (by decide), if_neg (by decide), if_neg (by decide), if_neg (by decide), if_neg (by decide), if_neg (by decide), if_neg (by decide), if_neg (by decide), if_neg (by decide), if_neg (by decide), if_neg (by decide), if_neg (by decide), if_neg (by decide), if_pos rfl]
theorem p20_50 (kfR : Int32 → Int32 → Int32 → Mem → Int32 × Mem) (kPR : Int32 → Int32 → Int32 → Mem → Prop) (v2 v3 : Int32) (M : Mem) (h : kPR 12 (v2 - (M 26 5)) (v3 + 1) M ∧ (PX0_run_413 kfR kPR ((kfR 12 (v2 - (M 26 5)) (v3 + 1) M).1) ((kfR 12 (v2 - (M 26 5)) (v3 + 1) M).2))) : PX0_run_20 kfR kPR 50 v2 v3 M := by
  unfold PX0_run_20
  exact fun _ => ⟨fun q => absurd q (by decide), fun _ => ⟨fun q => absurd q (by decide), fun _ => ⟨fun q => absurd q (by decide), fun _ => fun _ => fun _ => fun _ => fun _ => fun _ => fun _ => ⟨fun q => absurd q (by decide), fun _ => fun _ => fun _ => fun _ => fun _ => fun _ => fun _ => fun _ => fun _ => fun _ => ⟨fun q => absurd q (by decide), fun _ => ⟨fun q => absurd q (by decide), fun _ => fun _ => fun _ => fun _ => fun _ => fun _ => fun _ => fun _ => fun _ => ⟨fun q => absurd q (by decide), fun _ => ⟨fun q => absurd q (by decide), fun _ => fun _ => fun _ => fun _ => fun _ => fun _ => fun _ => fun _ => fun _ => ⟨fun _ => h, fun q => absurd rfl q⟩⟩⟩⟩⟩⟩⟩⟩⟩
theorem r20_51 (kfR : Int32 → Int32 → Int32 → Mem → Int32 × Mem) (v2 v3 : Int32) (M : Mem) : mX0_run_20 kfR 51 v2 v3 M = (mX0_run_425 kfR ((kfR 10 v2 (v3 + 1) M).1) ((kfR 10 v2 (v3 + 1) M).2)) := by
  unfold mX0_run_20
  rw [if_neg (by decide), if_neg (by decide), if_neg (by decide), if_neg (by decide), if_neg (by decide), if_neg (by decide), if_neg (by decide), if_neg (by decide), if_neg (by decide), if_neg (by decide), if_neg (by decide), if_neg (by decide), if_neg (by decide), if_neg (by decide), if_neg (by decide), if_neg (by decide), if_neg (by decide), if_neg (by decide), if_neg (by decide), if_neg (by decide), if_neg (by decide), if_neg (by decide), if_neg (by decide), if_neg (by decide), if_neg (by decide), if_neg (by decide), if_neg (by decide), if_neg (by decide), if_neg (by decide), if_neg (by decide), if_neg (by decide), if_neg (by decide), if_neg (by decide), if_neg (by decide), if_neg (by decide), if_neg (by decide), if_neg (by decide), if_neg (by decide), if_neg (by decide), if_neg (by decide), if_neg (by decide), if_pos rfl]
theorem p20_51 (kfR : Int32 → Int32 → Int32 → Mem → Int32 × Mem) (kPR : Int32 → Int32 → Int32 → Mem → Prop) (v2 v3 : Int32) (M : Mem) (h : kPR 10 v2 (v3 + 1) M ∧ (PX0_run_425 kfR kPR ((kfR 10 v2 (v3 + 1) M).1) ((kfR 10 v2 (v3 + 1) M).2))) : PX0_run_20 kfR kPR 51 v2 v3 M := by
  unfold PX0_run_20
  exact fun _ => ⟨fun q => absurd q (by decide), fun _ => ⟨fun q => absurd q (by decide), fun _ => ⟨fun q => absurd q (by decide), fun _ => fun _ => fun _ => fun _ => fun _ => fun _ => fun _ => ⟨fun q => absurd q (by decide), fun _ => fun _ => fun _ => fun _ => fun _ => fun _ => fun _ => fun _ => fun _ => fun _ => ⟨fun q => absurd q (by decide), fun _ => ⟨fun q => absurd q (by decide), fun _ => fun _ => fun _ => fun _ => fun _ => fun _ => fun _ => fun _ => fun _ => ⟨fun q => absurd q (by decide), fun _ => ⟨fun q => absurd q (by decide), fun _ => fun _ => fun _ => fun _ => fun _ => fun _ => fun _ => fun _ => fun _ => ⟨fun q => absurd q (by decide), fun _ => ⟨fun _ => h, fun q => absurd rfl q⟩⟩⟩⟩⟩⟩⟩⟩⟩⟩
theorem r20_60 (kfR : Int32 → Int32 → Int32 → Mem → Int32 × Mem) (v2 v3 : Int32) (M : Mem) : mX0_run_20 kfR 60 v2 v3 M = (mX0_run_440 kfR ((kfR 13 v2 (v3 + 1) M).1) ((kfR 13 v2 (v3 + 1) M).2)) := by
  unfold mX0_run_20
  rw [if_neg (by decide), if_neg (by decide), if_neg (by decide), if_neg (by decide), if_neg (by decide), if_neg (by decide), if_neg (by decide), if_neg (by decide), if_neg (by decide), if_neg (by decide), if_neg (by decide), if_neg (by decide), if_neg (by decide), if_neg (by decide), if_neg (by decide), if_neg (by decide), if_neg (by decide), if_neg (by decide), if_neg (by decide), if_neg (by decide), if_neg (by decide), if_neg (by decide), if_neg (by decide), if_neg (by decide), if_neg (by decide), if_neg (by decide), if_neg (by decide), if_neg (by decide), if_neg (by decide), if_neg (by decide), if_neg (by decide), if_neg (by decide), if_neg (by decide), if_neg (by decide), if_neg (by decide), if_neg (by decide), if_neg (by decide), if_neg (by decide), if_neg (by decide), if_neg (by decide), if_neg (by decide), if_neg (by decide), if_neg (by decide), if_neg (by decide), if_neg (by decide), if_neg (by decide), if_neg (by decide), if_neg (by decide), if_neg (by decide), if_neg (by decide), if_pos rfl]
theorem p20_60 (kfR : Int32 → Int32 → Int32 → Mem → Int32 × Mem) (kPR : Int32 → Int32 → Int32 → Mem → Prop) (v2 v3 : Int32) (M : Mem) (h : kPR 13 v2 (v3 + 1) M ∧ (PX0_run_440 kfR kPR ((kfR 13 v2 (v3 + 1) M).1) ((kfR 13 v2 (v3 + 1) M).2))) : PX0_run_20 kfR kPR 60 v2 v3 M := by
  unfold PX0_run_20
  exact fun _ => ⟨fun q => absurd q (by decide), fun _ => ⟨fun q => absurd q (by decide), fun _ => ⟨fun q => absurd q (by decide), fun _ => fun _ => fun _ => fun _ => fun _ => fun _ => fun _ => ⟨fun q => absurd q (by decide), fun _ => fun _ => fun _ => fun _ => fun _ => fun _ => fun _ => fun _ => fun _ => fun _ => ⟨fun q => absurd q (by decide), fun _ => ⟨fun q => absurd q (by decide), fun _ => fun _ => fun _ => fun _ => fun _ => fun _ => fun _ => fun _ => fun _ => ⟨fun q => absurd q (by decide), fun _ => ⟨fun q => absurd q (by decide), fun _ => fun _ => fun _ => fun _ => fun _ => fun _ => fun _ => fun _ => fun _ => ⟨fun q => absurd q (by decide), fun _ => ⟨fun q => absurd q (by decide), fun _ => fun _ => fun _ => fun _ => fun _ => fun _ => fun _ => fun _ => fun _ => ⟨fun _ => h, fun q => absurd rfl q⟩⟩⟩⟩⟩⟩⟩⟩⟩⟩⟩
theorem r20_61 (kfR : Int32 → Int32 → Int32 → Mem → Int32 × Mem) (v2 v3 : Int32) (M : Mem) : mX0_run_20 kfR 61 v2 v3 M = (mX0_run_452 kfR (v3 + 1) ((kfR 12 v2 (v3 + 1) M).1) ((kfR 12 v2 (v3 + 1) M).2)) := by
  unfold mX0_run_20
  rw [if_neg (by decide), if_neg (by decide), if_neg (by decide), if_neg (by decide), if_neg (by decide), if_neg (by decide), if_neg (by decide), if_neg (by decide), if_neg (by decide), if_neg (by decide), if_neg (by decide), if_neg (by decide), if_neg (by decide), if_neg (by decide), if_neg (by decide), if_neg (by decide), if_neg (by decide), if_neg (by decide), if_neg (by decide), if_neg (by decide), if_neg (by decide), if_neg (by decide), if_neg (by decide), if_neg (by decide), if_neg (by decide), if_neg (by decide), if_neg (by decide), if_neg (by decide), if_neg (by decide), if_neg (by decide), if_neg (by decide), if_neg (by decide), if_neg (by decide), if_neg (by decide), if_neg (by decide), if_neg (by decide), if_neg (by decide), if_neg (by decide), if_neg (by decide), if_neg (by decide), if_neg (by decide), if_neg (by decide), if_neg (by decide), if_neg (by decide), if_neg (by decide), if_neg (by decide), if_neg (by decide), if_neg (by decide), if_neg (by decide), if_neg (by decide), if_neg (by decide), if_pos rfl]
theorem p20_61 (kfR : Int32 → Int32 → Int32 → Mem → Int32 × Mem) (kPR : Int32 → Int32 → Int32 → Mem → Prop) (v2 v3 : Int32) (M : Mem) (h : kPR 12 v2 (v3 + 1) M ∧ (PX0_run_452 kfR kPR (v3 + 1) ((kfR 12 v2 (v3 + 1) M).1) ((kfR 12 v2 (v3 + 1) M).2))) : PX0_run_20 kfR kPR 61 v2 v3 M := by
  unfold PX0_run_20
  exact fun _ => ⟨fun q => absurd q (by decide), fun _ => ⟨fun q => absurd q (by decide), fun _ => ⟨fun q => absurd q (by decide), fun _ => fun _ => fun _ => fun _ => fun _ => fun _ => fun _ => ⟨fun q => absurd q (by decide), fun _ => fun _ => fun _ => fun _ => fun _ => fun _ => fun _ => fun _ => fun _ => fun _ => ⟨fun q => absurd q (by decide), fun _ => ⟨fun q => absurd q (by decide), fun _ => fun _ => fun _ => fun _ => fun _ => fun _ => fun _ => fun _ => fun _ => ⟨fun q => absurd q (by decide), fun _ => ⟨fun q => absurd q (by decide), fun _ => fun _ => fun _ => fun _ => fun _ => fun _ => fun _ => fun _ => fun _ => ⟨fun q => absurd q (by decide), fun _ => ⟨fun q => absurd q (by decide), fun _ => fun _ => fun _ => fun _ => fun _ => fun _ => fun _ => fun _ => fun _ => ⟨fun q => absurd q (by decide), fun _ => fun _ => h⟩⟩⟩⟩⟩⟩⟩⟩⟩⟩⟩
def C5 (kd : Nat) (nm fc : Int32) (M : Mem) (pf : Bool) (T : TT) : Prop := M 26 2 = b2i pf ∧ M 26 3 = nI kd ∧ M 26 4 = nm ∧ M 26 5 = fc ∧ TR (M 26 1) (M 27) T
def F5 (M M' : Mem) : Prop := ∀ p, p ≠ 26 → p ≠ 27 → M' p = M p
theorem F5.trans {A B C : Mem} (h1 : F5 A B) (h2 : F5 B C) : F5 A C := fun p a b => (h2 p a b).trans (h1 p a b)
theorem note5 {kd : Nat} {nm fc b : Int32} {M : Mem} {pf : Bool} {T : TT} (h : C5 kd nm fc M pf T) : C5 kd nm fc (mX0_note b M) pf (nt b T) ∧ PX0_note b M ∧ F5 M (mX0_note b M) := by
  obtain ⟨h1, h2, h3, h4, h5⟩ := h
  obtain ⟨a1, a2⟩ := note_tr (b := b) h5
  unfold mX0_note PX0_note
  by_cases q : 30 ≤ M 26 1
  · rw [if_pos q]
    exact ⟨⟨h1, h2, h3, h4, a1 q⟩, fun z => absurd q z, fun _ _ _ => rfl⟩
  · rw [if_neg q]
    obtain ⟨b1, b2⟩ := a2 q
    have e26 : upm M 27 (M 26 1).toNatClampNeg b 26 = M 26 := upm_ne (by decide)
    have f : ∀ z, z ≠ 1 → upm (upm M 27 (M 26 1).toNatClampNeg b) 26 1 (upm M 27 (M 26 1).toNatClampNeg b 26 1 + 1) 26 z = M 26 z := fun z hz => by rw [upm_at, upd_ne hz, e26]
    refine ⟨⟨(f 2 (by decide)).trans h1, (f 3 (by decide)).trans h2, (f 4 (by decide)).trans h3, (f 5 (by decide)).trans h4, ?_⟩, fun _ => b1, fun p p1 p2 => by rw [upm_ne p1, upm_ne p2]⟩
    rw [upm_at, upd_at, e26, upm_ne (show 27 ≠ 26 by decide), upm_at]
    exact b2
def RN (kd : Nat) (nm fc : Int32) (L : Nat) (b x : Int32) (T : TT) (v : Int32) (pf : Bool) (T' : TT) : Prop := ∀ (f d : Nat) (M : Mem), L ≤ f → d + L ≤ 41 → C5 kd nm fc M false T →
  ∃ M', mX0_run f b x (nI d) M = (v, M') ∧ PX0_run f b x (nI d) M ∧ C5 kd nm fc M' pf T' ∧ F5 M M'
theorem RN.mono {kd : Nat} {nm fc b x v : Int32} {L L' : Nat} {T T' : TT} {pf : Bool} (h : RN kd nm fc L b x T v pf T') (hl : L ≤ L') : RN kd nm fc L' b x T v pf T' := fun f d M hf hd hC => h f d M (by omega) (by omega) hC
theorem run_in {kd f d : Nat} {nm fc x : Int32} (b : Int32) {M : Mem} {T : TT} (hd : d ≤ 40) (h : C5 kd nm fc M false T) :
    ∃ M1, mX0_run (f + 1) b x (nI d) M = mX0_run_20 (mX0_run f) b x (nI d) M1 ∧ (PX0_run_20 (mX0_run f) (PX0_run f) b x (nI d) M1 → PX0_run (f + 1) b x (nI d) M) ∧ C5 kd nm fc M1 false (nt b T) ∧ F5 M M1 := by
  obtain ⟨a1, a2, a3⟩ := note5 (b := b) h
  have h0 : M 26 2 = 0 := h.1
  have h4 : nI d ≤ 40 := nI_le (b := 40) hd (by decide)
  refine ⟨mX0_note b M, ?_, ?_, a1, a3⟩
  · rw [mX0_run, if_pos h0, if_pos h4]
  · intro hp
    rw [PX0_run]
    exact fun _ _ => ⟨a2, hp⟩
theorem run_off {kd f : Nat} {nm fc b x dd : Int32} {M : Mem} {T : TT} (h : C5 kd nm fc M true T) : mX0_run (f + 1) b x dd M = (0, M) ∧ PX0_run (f + 1) b x dd M := by
  have h0 : ¬ M 26 2 = 0 := by rw [h.1]; decide
  constructor
  · rw [mX0_run, if_neg h0]
  · rw [PX0_run]
    exact fun q => absurd q h0
def bd (kd a : Nat) : Int32 := st_3 (nI kd * 4 + nI a)
theorem bd_in : ∀ kd, kd < 6 → ∀ a, a < 4 → mX5_isWithin (nI kd * 4 + nI a) 0 ((24 : Int32) - 1) = true ∧ (nI kd * 4 + nI a).toNatClampNeg < 24 ∧ nI kd * 4 + nI a = nI (nI kd * 4 + nI a).toNatClampNeg := by decide
theorem bodyOf5 {kd a : Nat} {nm fc : Int32} {M : Mem} {pf : Bool} {T : TT} (hk : kd < 6) (ha : a < 4) (h : C5 kd nm fc M pf T) : mX0_bodyOf (nI a) M = bd kd a ∧ PX0_bodyOf (nI a) M := by
  obtain ⟨b1, b2, b3⟩ := bd_in kd hk a ha
  unfold mX0_bodyOf PX0_bodyOf bd
  rw [h.2.1, if_pos b1]
  refine ⟨rfl, fun _ => ?_⟩
  rw [b3]
  exact vin b2 (by decide)
theorem rn10 {kd : Nat} {nm fc : Int32} (x : Int32) (T : TT) : RN kd nm fc 1 10 x T (x * 9 + nm) false (nt 10 T) := by
  intro f d M hf hd hC
  obtain ⟨g, rfl⟩ : ∃ g, f = g + 1 := ⟨f - 1, by omega⟩
  obtain ⟨M1, e, p, c, fr⟩ := run_in (f := g) (d := d) (x := x) 10 (by omega) hC
  refine ⟨M1, ?_, p (p20_10 _ _ _ _ _), c, fr⟩
  rw [e, r20_10, c.2.2.1]
theorem rn12 {kd : Nat} {nm fc : Int32} (x : Int32) (T : TT) : RN kd nm fc 1 12 x T (if nm = fc then 0 else x / (fc - nm)) (decide (nm = fc)) (nt 12 T) := by
  intro f d M hf hd hC
  obtain ⟨g, rfl⟩ : ∃ g, f = g + 1 := ⟨f - 1, by omega⟩
  obtain ⟨M1, e, p, c, fr⟩ := run_in (f := g) (d := d) (x := x) 12 (by omega) hC
  have ez : fc - nm = 0 ↔ nm = fc := by
    constructor
    · intro q
      exact (Int32.sub_eq_iff_eq_add.mp q).trans (Int32.zero_add nm) |>.symm
    · intro q
      rw [q]
      exact Int32.sub_self fc
  by_cases q : nm = fc
  · have q0 := ez.mpr q
    refine ⟨upm M1 26 2 1, ?_, p (p20_12 _ _ _ _ _ (fun z => z)), ?_, fun p p1 p2 => by rw [upm_ne p1]; exact fr p p1 p2⟩
    · rw [e, r20_12, c.2.2.1, c.2.2.2.1]
      unfold mX0_partedBy
      rw [if_pos q0, if_pos q]
    · rw [decide_eq_true q]
      refine ⟨by rw [upm_at, upd_at]; rfl, by rw [upm_at, upd_ne (by decide)]; exact c.2.1, by rw [upm_at, upd_ne (by decide)]; exact c.2.2.1, by rw [upm_at, upd_ne (by decide)]; exact c.2.2.2.1, ?_⟩
      rw [upm_at, upd_ne (by decide), upm_ne (by decide)]
      exact c.2.2.2.2
  · have q0 : ¬ fc - nm = 0 := fun z => q (ez.mp z)
    refine ⟨M1, ?_, p (p20_12 _ _ _ _ _ (fun z => z)), ?_, fr⟩
    · rw [e, r20_12, c.2.2.1, c.2.2.2.1]
      unfold mX0_partedBy
      rw [if_neg q0, if_neg q]
    · rw [decide_eq_false q]
      exact c
theorem rn11 {kd L : Nat} {nm fc x v : Int32} {T T' : TT} (hk : kd < 6) (h : RN kd nm fc L (bd kd 0) x (nt 11 T) v false T') : RN kd nm fc (L + 1) 11 x T (v - fc * 3) false T' := by
  intro f d M hf hd hC
  obtain ⟨g, rfl⟩ : ∃ g, f = g + 1 := ⟨f - 1, by omega⟩
  obtain ⟨M1, e, p, c, fr⟩ := run_in (f := g) (d := d) (x := x) 11 (by omega) hC
  have hd1 : nI d + 1 = nI (d + 1) := (nI_succ d).symm
  have eb : mX0_bodyOf 0 M1 = bd kd 0 ∧ PX0_bodyOf 0 M1 := bodyOf5 (a := 0) hk (by decide) c
  obtain ⟨M2, e2, p2, c2, f2⟩ := h g (d + 1) M1 (by omega) (by omega) c
  refine ⟨M2, ?_, p (p20_11 _ _ _ _ _ ?_), c2, fr.trans f2⟩
  · rw [e, r20_11, hd1, eb.1, e2]
    unfold mX0_run_270
    dsimp only
    rw [c2.2.2.2.1]
  · rw [hd1, eb.1, e2]
    exact ⟨eb.2, p2, trivial⟩
theorem rn13 {kd L : Nat} {nm fc x v : Int32} {T T' : TT} (hk : kd < 6) (h : RN kd nm fc L (bd kd 1) x (nt 13 T) v false T') : RN kd nm fc (L + 1) 13 x T (v ^^^ 130) false T' := by
  intro f d M hf hd hC
  obtain ⟨g, rfl⟩ : ∃ g, f = g + 1 := ⟨f - 1, by omega⟩
  obtain ⟨M1, e, p, c, fr⟩ := run_in (f := g) (d := d) (x := x) 13 (by omega) hC
  have hd1 : nI d + 1 = nI (d + 1) := (nI_succ d).symm
  have eb : mX0_bodyOf 1 M1 = bd kd 1 ∧ PX0_bodyOf 1 M1 := bodyOf5 (a := 1) hk (by decide) c
  obtain ⟨M2, e2, p2, c2, f2⟩ := h g (d + 1) M1 (by omega) (by omega) c
  refine ⟨M2, ?_, p (p20_13 _ _ _ _ _ ?_), c2, fr.trans f2⟩
  · rw [e, r20_13, hd1, eb.1, e2]
    rfl
  · rw [hd1, eb.1, e2]
    exact ⟨eb.2, p2, trivial⟩
theorem rn20 {kd L : Nat} {nm fc x v : Int32} {T T' : TT} (h : RN kd nm fc L 11 x (nt 20 T) v false T') : RN kd nm fc (L + 1) 20 x T (v + 2) false T' := by
  intro f d M hf hd hC
  obtain ⟨g, rfl⟩ : ∃ g, f = g + 1 := ⟨f - 1, by omega⟩
  obtain ⟨M1, e, p, c, fr⟩ := run_in (f := g) (d := d) (x := x) 20 (by omega) hC
  have hd1 : nI d + 1 = nI (d + 1) := (nI_succ d).symm
  obtain ⟨M2, e2, p2, c2, f2⟩ := h g (d + 1) M1 (by omega) (by omega) c
  refine ⟨M2, ?_, p (p20_20 _ _ _ _ _ ?_), c2, fr.trans f2⟩
  · rw [e, r20_20, hd1, e2]
    rfl
  · rw [hd1, e2]
    exact ⟨p2, trivial⟩
theorem rn30 {kd L : Nat} {nm fc x v : Int32} {T T' : TT} (h : RN kd nm fc L 10 x (nt 30 T) v false T') : RN kd nm fc (L + 1) 30 x T (0 - v) false T' := by
  intro f d M hf hd hC
  obtain ⟨g, rfl⟩ : ∃ g, f = g + 1 := ⟨f - 1, by omega⟩
  obtain ⟨M1, e, p, c, fr⟩ := run_in (f := g) (d := d) (x := x) 30 (by omega) hC
  have hd1 : nI d + 1 = nI (d + 1) := (nI_succ d).symm
  obtain ⟨M2, e2, p2, c2, f2⟩ := h g (d + 1) M1 (by omega) (by omega) c
  refine ⟨M2, ?_, p (p20_30 _ _ _ _ _ ?_), c2, fr.trans f2⟩
  · rw [e, r20_30, hd1, e2]
    rfl
  · rw [hd1, e2]
    exact ⟨p2, trivial⟩
theorem rn40 {kd L : Nat} {nm fc x v : Int32} {T T' : TT} (h : RN kd nm fc L 30 x (nt 40 T) v false T') : RN kd nm fc (L + 1) 40 x T (v + 6) false T' := by
  intro f d M hf hd hC
  obtain ⟨g, rfl⟩ : ∃ g, f = g + 1 := ⟨f - 1, by omega⟩
  obtain ⟨M1, e, p, c, fr⟩ := run_in (f := g) (d := d) (x := x) 40 (by omega) hC
  have hd1 : nI d + 1 = nI (d + 1) := (nI_succ d).symm
  obtain ⟨M2, e2, p2, c2, f2⟩ := h g (d + 1) M1 (by omega) (by omega) c
  refine ⟨M2, ?_, p (p20_40 _ _ _ _ _ ?_), c2, fr.trans f2⟩
  · rw [e, r20_40, hd1, e2]
    rfl
  · rw [hd1, e2]
    exact ⟨p2, trivial⟩
theorem rn50 {kd L : Nat} {nm fc x v : Int32} {T T' : TT} {pf : Bool} (h : RN kd nm fc L 12 (x - fc) (nt 50 T) v pf T') : RN kd nm fc (L + 1) 50 x T (v * 2) pf T' := by
  intro f d M hf hd hC
  obtain ⟨g, rfl⟩ : ∃ g, f = g + 1 := ⟨f - 1, by omega⟩
  obtain ⟨M1, e, p, c, fr⟩ := run_in (f := g) (d := d) (x := x) 50 (by omega) hC
  have hd1 : nI d + 1 = nI (d + 1) := (nI_succ d).symm
  obtain ⟨M2, e2, p2, c2, f2⟩ := h g (d + 1) M1 (by omega) (by omega) c
  refine ⟨M2, ?_, p (p20_50 _ _ _ _ _ ?_), c2, fr.trans f2⟩
  · rw [e, r20_50, hd1, c.2.2.2.1, e2]
    rfl
  · rw [hd1, c.2.2.2.1, e2]
    exact ⟨p2, trivial⟩
theorem rn51 {kd L : Nat} {nm fc x v : Int32} {T T' : TT} (h : RN kd nm fc L 10 x (nt 51 T) v false T') : RN kd nm fc (L + 1) 51 x T (v + nm) false T' := by
  intro f d M hf hd hC
  obtain ⟨g, rfl⟩ : ∃ g, f = g + 1 := ⟨f - 1, by omega⟩
  obtain ⟨M1, e, p, c, fr⟩ := run_in (f := g) (d := d) (x := x) 51 (by omega) hC
  have hd1 : nI d + 1 = nI (d + 1) := (nI_succ d).symm
  obtain ⟨M2, e2, p2, c2, f2⟩ := h g (d + 1) M1 (by omega) (by omega) c
  refine ⟨M2, ?_, p (p20_51 _ _ _ _ _ ?_), c2, fr.trans f2⟩
  · rw [e, r20_51, hd1, e2]
    unfold mX0_run_425
    dsimp only
    rw [c2.2.2.1]
  · rw [hd1, e2]
    exact ⟨p2, trivial⟩
theorem rn60 {kd L : Nat} {nm fc x v : Int32} {T T' : TT} (h : RN kd nm fc L 13 x (nt 60 T) v false T') : RN kd nm fc (L + 1) 60 x T (v * 3) false T' := by
  intro f d M hf hd hC
  obtain ⟨g, rfl⟩ : ∃ g, f = g + 1 := ⟨f - 1, by omega⟩
  obtain ⟨M1, e, p, c, fr⟩ := run_in (f := g) (d := d) (x := x) 60 (by omega) hC
  have hd1 : nI d + 1 = nI (d + 1) := (nI_succ d).symm
  obtain ⟨M2, e2, p2, c2, f2⟩ := h g (d + 1) M1 (by omega) (by omega) c
  refine ⟨M2, ?_, p (p20_60 _ _ _ _ _ ?_), c2, fr.trans f2⟩
  · rw [e, r20_60, hd1, e2]
    rfl
  · rw [hd1, e2]
    exact ⟨p2, trivial⟩
theorem rn31 {kd L L2 : Nat} {nm fc x v w : Int32} {T T' T2 : TT} {pf : Bool} (hk : kd < 6) (h : RN kd nm fc L 13 x (nt 31 T) v false T') (h2 : RN kd nm fc L2 (bd kd 2) nm T' w pf T2) (hL : L2 ≤ L) : RN kd nm fc (L + 1) 31 x T (v - w) pf T2 := by
  intro f d M hf hd hC
  obtain ⟨g, rfl⟩ : ∃ g, f = g + 1 := ⟨f - 1, by omega⟩
  obtain ⟨M1, e, p, c, fr⟩ := run_in (f := g) (d := d) (x := x) 31 (by omega) hC
  have hd1 : nI d + 1 = nI (d + 1) := (nI_succ d).symm
  obtain ⟨M2, e2, p2, c2, f2⟩ := h g (d + 1) M1 (by omega) (by omega) c
  have eb : mX0_bodyOf 2 M2 = bd kd 2 ∧ PX0_bodyOf 2 M2 := bodyOf5 (a := 2) hk (by decide) c2
  obtain ⟨M3, e3, p3, c3, f3⟩ := h2 g (d + 1) M2 (by omega) (by omega) c2
  refine ⟨M3, ?_, p (p20_31 _ _ _ _ _ ?_), c3, (fr.trans f2).trans f3⟩
  · rw [e, r20_31, hd1, e2]
    unfold mX0_run_343
    dsimp only
    rw [eb.1, c2.2.2.1, e3]
    rfl
  · rw [hd1, e2]
    refine ⟨p2, ?_⟩
    unfold PX0_run_343
    dsimp only
    rw [eb.1, c2.2.2.1, e3]
    exact ⟨eb.2, p3, trivial⟩
theorem rn41 {kd L L2 : Nat} {nm fc x v w : Int32} {T T' T2 : TT} (hk : kd < 6) (h : RN kd nm fc L 11 x (nt 41 T) v false T') (h2 : RN kd nm fc L2 (bd kd 0) fc T' w false T2) (hL : L2 ≤ L) : RN kd nm fc (L + 1) 41 x T (v ^^^ w) false T2 := by
  intro f d M hf hd hC
  obtain ⟨g, rfl⟩ : ∃ g, f = g + 1 := ⟨f - 1, by omega⟩
  obtain ⟨M1, e, p, c, fr⟩ := run_in (f := g) (d := d) (x := x) 41 (by omega) hC
  have hd1 : nI d + 1 = nI (d + 1) := (nI_succ d).symm
  obtain ⟨M2, e2, p2, c2, f2⟩ := h g (d + 1) M1 (by omega) (by omega) c
  have eb : mX0_bodyOf 0 M2 = bd kd 0 ∧ PX0_bodyOf 0 M2 := bodyOf5 (a := 0) hk (by decide) c2
  obtain ⟨M3, e3, p3, c3, f3⟩ := h2 g (d + 1) M2 (by omega) (by omega) c2
  refine ⟨M3, ?_, p (p20_41 _ _ _ _ _ ?_), c3, (fr.trans f2).trans f3⟩
  · rw [e, r20_41, hd1, e2]
    unfold mX0_run_382
    dsimp only
    rw [eb.1, c2.2.2.2.1, e3]
    rfl
  · rw [hd1, e2]
    refine ⟨p2, ?_⟩
    unfold PX0_run_382
    dsimp only
    rw [eb.1, c2.2.2.2.1, e3]
    exact ⟨eb.2, p3, trivial⟩
theorem rn61 {kd L L2 : Nat} {nm fc x v w : Int32} {T T' T2 : TT} (hk : kd < 6) (h : RN kd nm fc L 12 x (nt 61 T) v false T') (h2 : RN kd nm fc L2 (bd kd 0) nm T' w false T2) (hL : L2 ≤ L) : RN kd nm fc (L + 1) 61 x T (v + w) false T2 := by
  intro f d M hf hd hC
  obtain ⟨g, rfl⟩ : ∃ g, f = g + 1 := ⟨f - 1, by omega⟩
  obtain ⟨M1, e, p, c, fr⟩ := run_in (f := g) (d := d) (x := x) 61 (by omega) hC
  have hd1 : nI d + 1 = nI (d + 1) := (nI_succ d).symm
  obtain ⟨M2, e2, p2, c2, f2⟩ := h g (d + 1) M1 (by omega) (by omega) c
  have eb : mX0_bodyOf 0 M2 = bd kd 0 ∧ PX0_bodyOf 0 M2 := bodyOf5 (a := 0) hk (by decide) c2
  obtain ⟨M3, e3, p3, c3, f3⟩ := h2 g (d + 1) M2 (by omega) (by omega) c2
  refine ⟨M3, ?_, p (p20_61 _ _ _ _ _ ?_), c3, (fr.trans f2).trans f3⟩
  · rw [e, r20_61, hd1, e2]
    unfold mX0_run_452
    dsimp only
    rw [eb.1, c2.2.2.1, e3]
    rfl
  · rw [hd1, e2]
    refine ⟨p2, ?_⟩
    unfold PX0_run_452
    dsimp only
    rw [eb.1, c2.2.2.1, e3]
    exact ⟨eb.2, p3, trivial⟩
theorem rn61t {kd L : Nat} {nm fc x v : Int32} {T T' : TT} (hk : kd < 6) (h : RN kd nm fc L 12 x (nt 61 T) v true T') (hL : 1 ≤ L) : RN kd nm fc (L + 1) 61 x T v true T' := by
  intro f d M hf hd hC
  obtain ⟨g, rfl⟩ : ∃ g, f = g + 1 := ⟨f - 1, by omega⟩
  obtain ⟨M1, e, p, c, fr⟩ := run_in (f := g) (d := d) (x := x) 61 (by omega) hC
  have hd1 : nI d + 1 = nI (d + 1) := (nI_succ d).symm
  obtain ⟨M2, e2, p2, c2, f2⟩ := h g (d + 1) M1 (by omega) (by omega) c
  have eb : mX0_bodyOf 0 M2 = bd kd 0 ∧ PX0_bodyOf 0 M2 := bodyOf5 (a := 0) hk (by decide) c2
  obtain ⟨k, rfl⟩ : ∃ k, g = k + 1 := ⟨g - 1, by omega⟩
  obtain ⟨e3, p3⟩ := run_off (f := k) (b := bd kd 0) (x := nm) (dd := nI (d + 1)) c2
  refine ⟨M2, ?_, p (p20_61 _ _ _ _ _ ?_), c2, fr.trans f2⟩
  · rw [e, r20_61, hd1, e2]
    unfold mX0_run_452
    dsimp only
    rw [eb.1, c2.2.2.1, e3]
    unfold mX0_run_467
    dsimp only
    rw [Int32.add_zero]
  · rw [hd1, e2]
    refine ⟨p2, ?_⟩
    unfold PX0_run_452
    dsimp only
    rw [eb.1, c2.2.2.1, e3]
    exact ⟨eb.2, p3, trivial⟩
/-! the picture -/
def sD (kd : Nat) (nm x : Int32) (T : TT) : Int32 × TT := if kd = 2 then (0 - (x * 9 + nm), nt 10 (nt 30 T)) else if kd = 3 then (x * 9 + nm + nm, nt 10 (nt 51 T)) else if kd = 4 then (0 - (x * 9 + nm) + 6, nt 10 (nt 30 (nt 40 T))) else (x * 9 + nm, nt 10 T)
def sDP (kd : Nat) (nm fc x : Int32) (T : TT) : Int32 × TT := ((sD kd nm x (nt 11 T)).1 - fc * 3, (sD kd nm x (nt 11 T)).2)
def sR (kd : Nat) (nm fc x : Int32) (T : TT) : Int32 × TT := if kd = 1 ∨ kd = 3 then ((sDP kd nm fc x (nt 20 T)).1 + 2, (sDP kd nm fc x (nt 20 T)).2) else if kd = 4 then ((sDP kd nm fc x (nt 41 T)).1 ^^^ (sD kd nm fc (sDP kd nm fc x (nt 41 T)).2).1, (sD kd nm fc (sDP kd nm fc x (nt 41 T)).2).2) else sDP kd nm fc x T
def sPP (nm fc x : Int32) (T : TT) : Int32 × Bool × TT := (if nm = fc then 0 else x / (fc - nm), decide (nm = fc), nt 12 T)
def sP (kd : Nat) (nm fc x : Int32) (T : TT) : Int32 × Bool × TT := if kd = 3 then ((sPP nm fc (x - fc) (nt 50 T)).1 * 2, (sPP nm fc (x - fc) (nt 50 T)).2) else if kd = 5 then (if nm = fc then (0, true, nt 12 (nt 61 T)) else (x / (fc - nm) + (sD kd nm nm (nt 12 (nt 61 T))).1, false, (sD kd nm nm (nt 12 (nt 61 T))).2)) else sPP nm fc x T
def sHP (kd : Nat) (nm fc x : Int32) (T : TT) : Int32 × TT := ((sR kd nm fc x (nt 13 T)).1 ^^^ 130, (sR kd nm fc x (nt 13 T)).2)
def sH (kd : Nat) (nm fc x : Int32) (T : TT) : Int32 × Bool × TT := if kd = 2 ∨ kd = 4 then ((sHP kd nm fc x (nt 31 T)).1 - (sP kd nm fc nm (sHP kd nm fc x (nt 31 T)).2).1, (sP kd nm fc nm (sHP kd nm fc x (nt 31 T)).2).2) else if kd = 5 then ((sHP kd nm fc x (nt 60 T)).1 * 3, false, (sHP kd nm fc x (nt 60 T)).2) else ((sHP kd nm fc x T).1, false, (sHP kd nm fc x T).2)
theorem k6 {kd : Nat} (h : kd < 6) : kd = 0 ∨ kd = 1 ∨ kd = 2 ∨ kd = 3 ∨ kd = 4 ∨ kd = 5 := by omega
theorem rnD {kd : Nat} (hk : kd < 6) (nm fc x : Int32) (T : TT) : RN kd nm fc 3 (bd kd 0) x T (sD kd nm x T).1 false (sD kd nm x T).2 := by
  rcases k6 hk with rfl | rfl | rfl | rfl | rfl | rfl
  · exact (rn10 x T).mono (by decide)
  · exact (rn10 x T).mono (by decide)
  · exact (rn30 (rn10 x _)).mono (by decide)
  · exact (rn51 (rn10 x _)).mono (by decide)
  · exact rn40 (rn30 (rn10 x _))
  · exact (rn10 x T).mono (by decide)
theorem rnDP {kd : Nat} (hk : kd < 6) (nm fc x : Int32) (T : TT) : RN kd nm fc 4 11 x T (sDP kd nm fc x T).1 false (sDP kd nm fc x T).2 := rn11 hk (rnD hk nm fc x (nt 11 T))
theorem rnR {kd : Nat} (hk : kd < 6) (nm fc x : Int32) (T : TT) : RN kd nm fc 5 (bd kd 1) x T (sR kd nm fc x T).1 false (sR kd nm fc x T).2 := by
  rcases k6 hk with rfl | rfl | rfl | rfl | rfl | rfl
  · exact (rnDP hk nm fc x T).mono (by decide)
  · exact rn20 (rnDP hk nm fc x _)
  · exact (rnDP hk nm fc x T).mono (by decide)
  · exact rn20 (rnDP hk nm fc x _)
  · exact rn41 hk (rnDP hk nm fc x _) (rnD hk nm fc fc _) (by decide)
  · exact (rnDP hk nm fc x T).mono (by decide)
theorem rnP {kd : Nat} (hk : kd < 6) (nm fc x : Int32) (T : TT) : RN kd nm fc 4 (bd kd 2) x T (sP kd nm fc x T).1 (sP kd nm fc x T).2.1 (sP kd nm fc x T).2.2 := by
  rcases k6 hk with rfl | rfl | rfl | rfl | rfl | rfl
  · exact (rn12 x T).mono (by decide)
  · exact (rn12 x T).mono (by decide)
  · exact (rn12 x T).mono (by decide)
  · exact (rn50 (rn12 (x - fc) (nt 50 T))).mono (by decide)
  · exact (rn12 x T).mono (by decide)
  · have h := rn12 (kd := 5) (nm := nm) (fc := fc) x (nt 61 T)
    have e : sP 5 nm fc x T = if nm = fc then (0, true, nt 12 (nt 61 T)) else (x / (fc - nm) + (sD 5 nm nm (nt 12 (nt 61 T))).1, false, (sD 5 nm nm (nt 12 (nt 61 T))).2) := rfl
    rw [e]
    by_cases q : nm = fc
    · rw [if_pos q, decide_eq_true q] at h
      rw [if_pos q]
      exact (rn61t (by decide) h (by decide)).mono (by decide)
    · rw [if_neg q, decide_eq_false q] at h
      rw [if_neg q]
      exact rn61 (by decide) (h.mono (show 1 ≤ 3 by decide)) (rnD (by decide) nm fc nm _) (by decide)
theorem rnHP {kd : Nat} (hk : kd < 6) (nm fc x : Int32) (T : TT) : RN kd nm fc 6 13 x T (sHP kd nm fc x T).1 false (sHP kd nm fc x T).2 := rn13 hk (rnR hk nm fc x (nt 13 T))
theorem rnH {kd : Nat} (hk : kd < 6) (nm fc x : Int32) (T : TT) : RN kd nm fc 7 (bd kd 3) x T (sH kd nm fc x T).1 (sH kd nm fc x T).2.1 (sH kd nm fc x T).2.2 := by
  rcases k6 hk with rfl | rfl | rfl | rfl | rfl | rfl
  · exact (rnHP hk nm fc x T).mono (by decide)
  · exact (rnHP hk nm fc x T).mono (by decide)
  · exact rn31 hk (rnHP hk nm fc x _) (rnP hk nm fc nm _) (by decide)
  · exact (rnHP hk nm fc x T).mono (by decide)
  · exact rn31 hk (rnHP hk nm fc x _) (rnP hk nm fc nm _) (by decide)
  · exact rn60 (rnHP hk nm fc x _)
