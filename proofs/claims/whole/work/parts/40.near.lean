/-- with which of the numbers i, i + 1, .. one is least: the first such -/
def argm (f : Nat → Int32) : Nat → Nat → Int32 → Int32 → Int32
  | 0, _, best, _ => best
  | k + 1, i, best, least => if f i < least then argm f k (i + 1) (nI i) (f i) else argm f k (i + 1) best least
theorem upd_56 {s u : Nat → Int32} {at' : Nat} {v : Int32} (h : ∀ j, j < 56 → j ≠ at' → u j = s j) : ∀ j, j < 56 → upd u at' v j = upd s at' v j := by
  intro j hj
  by_cases e : j = at'
  · subst e; rw [upd_at, upd_at]
  · rw [upd_ne e, upd_ne e]; exact h j hj e
theorem offS_56 {s u : Nat → Int32} {n o : Nat} (hG : GS s n) (ho : o < n) (h : ∀ j, j < 56 → u j = s j) (m : Nat) : offS u n o m = offS s n o m := by
  have h8 : o < 8 := by have := hG.1; omega
  unfold offS
  rw [at_56 hG ho h m, h (24 + 4 * o + 2) (by omega)]
theorem near19 {s : Nat → Int32} {n o m at' last : Nat} {A : Int32} (hA : A.toNatClampNeg = at') (hAv : vp_in A 56) (hat : at' < 56) (ho : o < n) (hm : m ≤ 60) (hl : last < 100) (hG : ∀ v, v ≤ last → GS (upd s at' (nI v)) n) (was : Int32) :
    ∀ (k fuel i : Nat) (N : Mem) (best least : Int32), k < fuel → i + k = last + 1 → (∀ j, j < 56 → j ≠ at' → N 47 j = s j) →
    ∃ N', mX6_nearestBy_19 fuel (nI o) A (nI last) (nI m) was best least (nI i) N = (argm (fun v => offS (upd s at' (nI v)) n o m) k i best least, N') ∧ PX6_nearestBy_19 fuel (nI o) A (nI last) (nI m) was best least (nI i) N ∧ (∀ j, j < 56 → j ≠ at' → N' 47 j = s j) ∧ N' 47 at' = was ∧ ∀ p, p ≠ 47 → p ≠ 49 → N' p = N p := by
  intro k
  induction k with
  | zero =>
    intro fuel i N best least hf hi hN
    obtain ⟨f, rfl⟩ : ∃ f, fuel = f + 1 := ⟨fuel - 1, by omega⟩
    have hc : nI last < nI i := nI_lt (by omega) (by omega)
    refine ⟨upm N 47 at' was, ?_, ?_, fun j hj e => by rw [upm_at, upd_ne e]; exact hN j hj e, by rw [upm_at, upd_at], fun p h1 _ => upm_ne h1⟩
    · rw [mX6_nearestBy_19, if_pos hc, hA]
      rfl
    · rw [PX6_nearestBy_19]
      exact ⟨fun _ => hAv, fun q => absurd hc q⟩
  | succ k ih =>
    intro fuel i N best least hf hi hN
    obtain ⟨f, rfl⟩ : ∃ f, fuel = f + 1 := ⟨fuel - 1, by omega⟩
    have hc : ¬ nI last < nI i := nI_nlt (by omega) (by omega)
    have hi1 : nI i + 1 = nI (i + 1) := (nI_succ i).symm
    have h56 := upd_56 (v := nI i) hN
    have hGi := hG i (by omega)
    obtain ⟨N1, b1, b2, b3, b4⟩ := off6 (N := upm N 47 at' (nI i)) (u := upd (N 47) at' (nI i)) (hGi.congr h56) (upm_at _ _ _ _) ho hm
    have eo : offS (upd (N 47) at' (nI i)) n o m = offS (upd s at' (nI i)) n o m := offS_56 hGi ho h56 m
    rw [eo] at b1
    have hN1 : ∀ j, j < 56 → j ≠ at' → N1 47 j = s j := fun j hj e => by rw [b3 j hj, upd_ne e]; exact hN j hj e
    have fr : ∀ p, p ≠ 47 → p ≠ 49 → N1 p = N p := fun p h1 h2 => (b4 p h1 h2).trans (upm_ne h1)
    by_cases q : offS (upd s at' (nI i)) n o m < least
    · obtain ⟨N', c1, c2, c3, c4, c5⟩ := ih f (i + 1) N1 (nI i) (offS (upd s at' (nI i)) n o m) (by omega) (by omega) hN1
      have ql : ¬ least ≤ offS (upd s at' (nI i)) n o m := Int32.not_le.mpr q
      have el : mX6_least least (offS (upd s at' (nI i)) n o m) = offS (upd s at' (nI i)) n o m := by
        unfold mX6_least
        rw [if_pos (Int32.le_of_lt q)]
      refine ⟨N', ?_, ?_, c3, c4, fun p h1 h2 => (c5 p h1 h2).trans (fr p h1 h2)⟩
      · rw [mX6_nearestBy_19, if_neg hc, hA]
        unfold mX6_nearestBy_40 mX6_nearestBy_56
        rw [b1]
        simp only [if_neg ql, el, hi1]
        rw [argm, if_pos q]
        exact c1
      · rw [PX6_nearestBy_19]
        refine ⟨fun z => absurd z hc, fun _ => ⟨hAv, ?_⟩⟩
        rw [hA]
        refine ⟨b2, ?_⟩
        unfold PX6_nearestBy_40 PX6_nearestBy_56
        rw [b1]
        simp only [el, hi1]
        exact ⟨fun z => absurd z ql, fun _ => c2⟩
    · obtain ⟨N', c1, c2, c3, c4, c5⟩ := ih f (i + 1) N1 best least (by omega) (by omega) hN1
      have ql : least ≤ offS (upd s at' (nI i)) n o m := Int32.not_lt.mp q
      have el : mX6_least least (offS (upd s at' (nI i)) n o m) = least := by
        unfold mX6_least
        by_cases z : offS (upd s at' (nI i)) n o m ≤ least
        · rw [if_pos z]
          exact Int32.le_antisymm z ql
        · rw [if_neg z]
      refine ⟨N', ?_, ?_, c3, c4, fun p h1 h2 => (c5 p h1 h2).trans (fr p h1 h2)⟩
      · rw [mX6_nearestBy_19, if_neg hc, hA]
        unfold mX6_nearestBy_40 mX6_nearestBy_56
        rw [b1]
        simp only [if_pos ql, el, hi1]
        rw [argm, if_neg q]
        exact c1
      · rw [PX6_nearestBy_19]
        refine ⟨fun z => absurd z hc, fun _ => ⟨hAv, ?_⟩⟩
        rw [hA]
        refine ⟨b2, ?_⟩
        unfold PX6_nearestBy_40 PX6_nearestBy_56
        rw [b1]
        simp only [el, hi1]
        exact ⟨fun _ => c2, fun z => absurd ql z⟩
