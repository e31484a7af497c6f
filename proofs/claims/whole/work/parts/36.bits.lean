/-! how many bits are set: the JDK's count and the reference's, on every set of 16 -/
def szf : Nat → Int32 → Int32 → Option Int32
  | 0, _, _ => none
  | n + 1, c, v => if v = 0 then some c else szf n (c + 1) (v &&& (v - 1))
theorem szf_ok {N : Mem} : ∀ (n : Nat) (c v r : Int32), szf n c v = some r → ∀ fuel, n ≤ fuel → mX6_size_4 fuel c v N = r ∧ PX6_size_4 fuel c v N := by
  intro n
  induction n with
  | zero => intro c v r h; cases h
  | succ n ih =>
    intro c v r h fuel hf
    obtain ⟨f, rfl⟩ : ∃ f, fuel = f + 1 := ⟨fuel - 1, by omega⟩
    rw [szf] at h
    by_cases q : v = 0
    · rw [if_pos q] at h
      cases h
      constructor
      · rw [mX6_size_4, if_pos q]
      · rw [PX6_size_4]; exact fun z => absurd q z
    · rw [if_neg q] at h
      obtain ⟨e, p⟩ := ih (c + 1) (v &&& (v - 1)) r h f (by omega)
      constructor
      · rw [mX6_size_4, if_neg q]; exact e
      · rw [PX6_size_4]; exact fun _ => p
def bitT (x : Nat) : Bool := decide (szf 18 0 (nI x) = some (mJ6_bitCount_0f7a4 (nI x)))
def bitR (a n : Nat) : Bool := (List.range n).all fun h => (List.range 256).all fun l => bitT (256 * (a + h) + l)
theorem bitR_ok {a n : Nat} (h : bitR a n = true) {x : Nat} (h1 : 256 * a ≤ x) (h2 : x < 256 * (a + n)) : bitT x = true := by
  unfold bitR at h
  have h3 := List.all_eq_true.mp h (x / 256 - a) (List.mem_range.mpr (by omega))
  have h4 := List.all_eq_true.mp h3 (x % 256) (List.mem_range.mpr (by omega))
  have e : 256 * (a + (x / 256 - a)) + x % 256 = x := by omega
  rw [e] at h4
  exact h4
theorem bits_0 : bitR 0 32 = true := by decide +kernel
theorem bits_1 : bitR 32 32 = true := by decide +kernel
theorem bits_2 : bitR 64 32 = true := by decide +kernel
theorem bits_3 : bitR 96 32 = true := by decide +kernel
theorem bits_4 : bitR 128 32 = true := by decide +kernel
theorem bits_5 : bitR 160 32 = true := by decide +kernel
theorem bits_6 : bitR 192 32 = true := by decide +kernel
theorem bits_7 : bitR 224 32 = true := by decide +kernel
theorem bit_eq {x : Nat} (hx : x < 65536) (N : Mem) : mJ6_bitCount_0f7a4 (nI x) = mX6_size (nI x) N ∧ PX6_size (nI x) N := by
  have h : bitT x = true := by
    rcases (show x / 8192 = 0 ∨ x / 8192 = 1 ∨ x / 8192 = 2 ∨ x / 8192 = 3 ∨ x / 8192 = 4 ∨ x / 8192 = 5 ∨ x / 8192 = 6 ∨ x / 8192 = 7 by omega) with e | e | e | e | e | e | e | e
    · exact bitR_ok bits_0 (by omega) (by omega)
    · exact bitR_ok bits_1 (by omega) (by omega)
    · exact bitR_ok bits_2 (by omega) (by omega)
    · exact bitR_ok bits_3 (by omega) (by omega)
    · exact bitR_ok bits_4 (by omega) (by omega)
    · exact bitR_ok bits_5 (by omega) (by omega)
    · exact bitR_ok bits_6 (by omega) (by omega)
    · exact bitR_ok bits_7 (by omega) (by omega)
  unfold bitT at h
  obtain ⟨e, p⟩ := szf_ok (N := N) 18 0 (nI x) _ (of_decide_eq_true h) 400 (by decide)
  exact ⟨e.symm, p⟩
