/-! WHAT HOLDS BETWEEN TWO CALLS: the class's memory and the reference's tell the same -/
theorem toInt64_toInt (x : Int32) : x.toInt64.toInt = x.toInt := Int32.toInt_toInt64 x
theorem isIn_eq (x lo hi : Int32) : mX6_isIn x.toInt64 lo.toInt64 hi.toInt64 = mX5_isWithin x lo hi := by
  unfold mX6_isIn mX5_isWithin
  simp only [lg_cmp_lt, lg_cmp_gt]
  simp only [Int64.lt_iff_toInt_lt, Int32.lt_iff_toInt_lt, toInt64_toInt]
theorem isWithin_iff {x lo hi : Int32} : mX5_isWithin x lo hi = true ↔ lo ≤ x ∧ x ≤ hi := by
  constructor
  · intro h
    by_cases q : lo ≤ x ∧ x ≤ hi
    · exact q
    · exact absurd h (isWithin_out q)
  · intro h
    exact isWithin_in h.1 h.2
theorem within_n {x : Int32} {m : Nat} (hm : m < 2 ^ 31) (h : mX5_isWithin x 0 (nI m) = true) : ∃ k, k ≤ m ∧ x = nI k :=
  nI_rg hm (isWithin_iff.mp h).1 (isWithin_iff.mp h).2
theorem n_within {k m : Nat} (hm : m < 2 ^ 31) (h : k ≤ m) : mX5_isWithin (nI k) 0 (nI m) = true :=
  isWithin_iff.mpr ⟨nI_pos' (by omega), nI_le h hm⟩
theorem has_eq {M N : Mem} {b n : Nat} {a : Int32} (h5 : M b 6 = nI n) (h6 : N 47 0 = nI n) (hn : n ≤ 8) : mX4_has b a M = mX6_isOne a N ∧ (mX4_has b a M = true → ∃ o, o < n ∧ a = nI o) := by
  have key : mX4_has b a M = true ↔ 0 ≤ a ∧ a < nI n := by
    unfold mX4_has
    rw [h5, isWithin_iff]
    have e0 : (0 : Int32).toInt = 0 := by decide
    have e1 : (nI n - 1).toInt = (n : Int) - 1 := by
      have : ∀ n, n < 9 → (nI n - 1).toInt = (n : Int) - 1 := by decide
      exact this n (by omega)
    have e2 : (nI n).toInt = (n : Int) := nI_toInt (by omega)
    simp only [Int32.le_iff_toInt_le, Int32.lt_iff_toInt_lt, e0, e1, e2]
    constructor <;> (intro h; omega)
  constructor
  · unfold mX6_isOne
    rw [h6]
    by_cases q : 0 ≤ a ∧ a < nI n
    · rw [key.mpr q, if_neg (Int32.not_lt.mpr q.1), if_neg (Int32.not_le.mpr q.2)]
    · have hf : mX4_has b a M = false := by
        cases hh : mX4_has b a M with
        | false => rfl
        | true => exact absurd (key.mp hh) q
      rw [hf]
      by_cases q0 : a < 0
      · rw [if_pos q0]
      · rw [if_neg q0]
        by_cases q1 : nI n ≤ a
        · rw [if_pos q1]
        · exact absurd ⟨Int32.not_lt.mp q0, Int32.not_le.mp q1⟩ q
  · intro h
    obtain ⟨h0, h1⟩ := key.mp h
    obtain ⟨k, hk, rfl⟩ := nI_rg (m := n) (by omega) h0 (Int32.le_of_lt h1)
    have := (nI_lt_iff (a := k) (b := n) (by omega) (by omega)).mp h1
    exact ⟨k, this, rfl⟩
def InvK (M : Mem) : Prop := M 0 14 = M 46 4 ∧ (M 46 4 = 0 ∨ (M 46 4 = 1 ∧ ∃ n, R M 8 (M 48) n))
def InvT (M : Mem) : Prop := ∃ tp, tp ≤ 200 ∧ M 22 1 = nI tp ∧ M 46 6 = nI tp ∧ ∀ i, i < tp → M 23 i = M 51 i ∧ ∃ c, c < 256 ∧ M 51 i = nI c
def InvW (M : Mem) : Prop := ∃ rn, rn ≤ 10 ∧ M 0 13 = nI rn ∧ M 46 17 = nI rn ∧ ∀ i, i < 3 * rn → M 28 i = M 56 i
def InvS (M : Mem) : Prop := ∀ t, t < 4 → M (34 + 2 * t) 1 = M 57 t ∧ (M 57 t = -1 ∨ ((∃ so, so < 4 ∧ M 57 t = nI so) ∧ ∃ sz, sz ≤ 40 ∧ M (34 + 2 * t) 2 = nI sz ∧ M 58 t = nI sz ∧ ∀ i, i < 40 → M (34 + 2 * t + 1) i = M 59 (40 * t + i)))
def InvV (M : Mem) : Prop := ∀ v, v < 4 → (M (42 + v) 0 = 0 ∧ M 60 v = 1 ∧ M (42 + v) 1 = M 61 v ∧ ∃ k, k < 8 ∧ M 61 v = nI k) ∨ (M (42 + v) 0 = 1 ∧ M 60 v = 2 ∧ M (42 + v) 2 = M 61 v ∧ (∃ so, so < 4 ∧ M 61 v = nI so) ∧ M (42 + v) 3 = M 62 v ∧ ∃ sz, sz ≤ 40 ∧ M 62 v = nI sz) ∨ (M (42 + v) 0 = 2 ∧ M 60 v = 0)
def InvA (M : Mem) : Prop := ∃ tr, tr ≤ 30 ∧ M 26 1 = nI tr ∧ M 46 25 = nI tr ∧ ∀ i, i < tr → M 27 i = M 63 i
def Inv (M : Mem) : Prop := (∃ n, R M 1 (M 47) n) ∧ InvK M ∧ InvT M ∧ InvW M ∧ InvS M ∧ InvV M ∧ InvA M
/-- places that outlast a call -/
def PS (p : Nat) : Prop := p < 15 ∨ (22 ≤ p ∧ p < 29) ∨ (34 ≤ p ∧ p ≤ 46) ∨ p = 48 ∨ p = 51 ∨ 56 ≤ p
def Fr (M M' : Mem) : Prop := (∀ p, PS p → M' p = M p) ∧ ∀ k, k < 56 → M' 47 k = M 47 k
theorem Fr.rf (M : Mem) : Fr M M := ⟨fun _ _ => rfl, fun _ _ => rfl⟩
theorem Fr.trans {A B C : Mem} (h1 : Fr A B) (h2 : Fr B C) : Fr A C := ⟨fun p hp => (h2.1 p hp).trans (h1.1 p hp), fun k hk => (h2.2 k hk).trans (h1.2 k hk)⟩
theorem Inv.fr {M M' : Mem} (hF : Fr M M') (h : Inv M) : Inv M' := by
  obtain ⟨hF, h47⟩ := hF
  have g := fun p (hp : PS p) => hF p hp
  have p0 := g 0 (by unfold PS; omega)
  have p46 := g 46 (by unfold PS; omega)
  obtain ⟨⟨n, hR⟩, hK, hT, hW, hS, hV, hA⟩ := h
  refine ⟨⟨n, hR.congr (fun j hj => g _ (by unfold PS; omega)) h47⟩, ?_, ?_, ?_, ?_, ?_, ?_⟩
  · unfold InvK at hK ⊢
    rw [p0, p46]
    refine ⟨hK.1, hK.2.imp id (fun ⟨a, m, b⟩ => ⟨a, m, b.congr (fun j hj => g _ (by unfold PS; omega)) (fun k _ => by rw [g 48 (by unfold PS; omega)])⟩)⟩
  · unfold InvT at hT ⊢
    rw [g 22 (by unfold PS; omega), p46, g 23 (by unfold PS; omega), g 51 (by unfold PS; omega)]
    exact hT
  · unfold InvW at hW ⊢
    rw [p0, p46, g 28 (by unfold PS; omega), g 56 (by unfold PS; omega)]
    exact hW
  · intro t ht
    rw [g (34 + 2 * t) (by unfold PS; omega), g (34 + 2 * t + 1) (by unfold PS; omega), g 57 (by unfold PS; omega), g 58 (by unfold PS; omega), g 59 (by unfold PS; omega)]
    exact hS t ht
  · intro v hv
    rw [g (42 + v) (by unfold PS; omega), g 60 (by unfold PS; omega), g 61 (by unfold PS; omega), g 62 (by unfold PS; omega)]
    exact hV v hv
  · unfold InvA at hA ⊢
    rw [g 26 (by unfold PS; omega), p46, g 27 (by unfold PS; omega), g 63 (by unfold PS; omega)]
    exact hA
/-- a call of both, the class first: it may be made, both answer the same, all holds behind it -/
def OKm (P5 : Mem → Prop) (f5 : Mem → Int32 × Mem) (P6 : Mem → Prop) (f6 : Mem → Int32 × Mem) (M : Mem) : Prop :=
  P5 M ∧ P6 (f5 M).2 ∧ (f5 M).1 = (f6 (f5 M).2).1 ∧ Inv (f6 (f5 M).2).2
/-- the reference's row, laid aside, tried with, laid back -/
theorem c56_at {f g : Nat → Int32} {k : Nat} (hk : k < 56) : c56 f g k = f k := by simp [c56, hk]
