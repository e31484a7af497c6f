/-! how many bits are set: the JDK's count and the reference's, on every set of 16 -/
def szf : Nat → Int32 → Int32 → Option Int32
  | 0, _, _ => none
  | n + 1, c, v => if v = 0 then some c else szf n (c + 1) (v &&& (v - 1))
theorem szf_ok {N : Mem} : ∀ (n : Nat) (c v r : Int32), szf n c v = some r → ∀ fuel, n ≤ fuel → mX6_size_4 fuel c v N = r ∧ PX6_size_4 fuel c v N := by
  intro n
  induction n with
  | zero => intro c v r h; cases h
  | succ n ih =>
    intro c v r h fuel hf
    obtain ⟨f, rfl⟩ : ∃ f, fuel = f + 1 := ⟨fuel - 1, by omega⟩
    rw [szf] at h
    by_cases q : v = 0
    · rw [if_pos q] at h
      cases h
      constructor
      · rw [mX6_size_4, if_pos q]
      · rw [PX6_size_4]; exact fun z => absurd q z
    · rw [if_neg q] at h
      obtain ⟨e, p⟩ := ih (c + 1) (v &&& (v - 1)) r h f (by omega)
      constructor
      · rw [mX6_size_4, if_neg q]; exact e
      · rw [PX6_size_4]; exact fun _ => p
def bitT (x : Nat) : Bool := decide (szf 18 0 (nI x) = some (mJ6_bitCount_0f7a4 (nI x)))
def bitR (a n : Nat) : Bool := (List.range n).all fun h => (List.range 256).all fun l => bitT (256 * (a + h) + l)
theorem bitR_ok {a n : Nat} (h : bitR a n = true) {x : Nat} (h1 : 256 * a ≤ x) (h2 : x < 256 * (a + n)) : bitT x = true := by
  unfold bitR at h
  have h3 := List.all_eq_true.mp h (x / 256 - a) (List.mem_range.mpr (by omega))
  have h4 := List.all_eq_true.mp h3 (x % 256) (List.mem_range.mpr (by omega))
  have e : 256 * (a + (x / 256 - a)) + x % 256 = x := by omega
  rw [e] at h4
  exact h4
theorem bits_0 : bitR 0 4 = true := by decide +kernel
theorem bits_1 : bitR 4 4 = true := by decide +kernel
theorem bits_2 : bitR 8 4 = true := by decide +kernel
theorem bits_3 : bitR 12 4 = true := by decide +kernel
theorem bits_4 : bitR 16 4 = true := by decide +kernel
theorem bits_5 : bitR 20 4 = true := by decide +kernel
theorem bits_6 : bitR 24 4 = true := by decide +kernel
theorem bits_7 : bitR 28 4 = true := by decide +kernel
theorem bits_8 : bitR 32 4 = true := by decide +kernel
theorem bits_9 : bitR 36 4 = true := by decide +kernel
theorem bits_10 : bitR 40 4 = true := by decide +kernel
theorem bits_11 : bitR 44 4 = true := by decide +kernel
theorem bits_12 : bitR 48 4 = true := by decide +kernel
theorem bits_13 : bitR 52 4 = true := by decide +kernel
theorem bits_14 : bitR 56 4 = true := by decide +kernel
theorem bits_15 : bitR 60 4 = true := by decide +kernel
theorem bits_16 : bitR 64 4 = true := by decide +kernel
theorem bits_17 : bitR 68 4 = true := by decide +kernel
theorem bits_18 : bitR 72 4 = true := by decide +kernel
theorem bits_19 : bitR 76 4 = true := by decide +kernel
theorem bits_20 : bitR 80 4 = true := by decide +kernel
theorem bits_21 : bitR 84 4 = true := by decide +kernel
theorem bits_22 : bitR 88 4 = true := by decide +kernel
theorem bits_23 : bitR 92 4 = true := by decide +kernel
theorem bits_24 : bitR 96 4 = true := by decide +kernel
theorem bits_25 : bitR 100 4 = true := by decide +kernel
theorem bits_26 : bitR 104 4 = true := by decide +kernel
theorem bits_27 : bitR 108 4 = true := by decide +kernel
theorem bits_28 : bitR 112 4 = true := by decide +kernel
theorem bits_29 : bitR 116 4 = true := by decide +kernel
theorem bits_30 : bitR 120 4 = true := by decide +kernel
theorem bits_31 : bitR 124 4 = true := by decide +kernel
theorem bits_32 : bitR 128 4 = true := by decide +kernel
theorem bits_33 : bitR 132 4 = true := by decide +kernel
theorem bits_34 : bitR 136 4 = true := by decide +kernel
theorem bits_35 : bitR 140 4 = true := by decide +kernel
theorem bits_36 : bitR 144 4 = true := by decide +kernel
theorem bits_37 : bitR 148 4 = true := by decide +kernel
theorem bits_38 : bitR 152 4 = true := by decide +kernel
theorem bits_39 : bitR 156 4 = true := by decide +kernel
theorem bits_40 : bitR 160 4 = true := by decide +kernel
theorem bits_41 : bitR 164 4 = true := by decide +kernel
theorem bits_42 : bitR 168 4 = true := by decide +kernel
theorem bits_43 : bitR 172 4 = true := by decide +kernel
theorem bits_44 : bitR 176 4 = true := by decide +kernel
theorem bits_45 : bitR 180 4 = true := by decide +kernel
theorem bits_46 : bitR 184 4 = true := by decide +kernel
theorem bits_47 : bitR 188 4 = true := by decide +kernel
theorem bits_48 : bitR 192 4 = true := by decide +kernel
theorem bits_49 : bitR 196 4 = true := by decide +kernel
theorem bits_50 : bitR 200 4 = true := by decide +kernel
theorem bits_51 : bitR 204 4 = true := by decide +kernel
theorem bits_52 : bitR 208 4 = true := by decide +kernel
theorem bits_53 : bitR 212 4 = true := by decide +kernel
theorem bits_54 : bitR 216 4 = true := by decide +kernel
theorem bits_55 : bitR 220 4 = true := by decide +kernel
theorem bits_56 : bitR 224 4 = true := by decide +kernel
theorem bits_57 : bitR 228 4 = true := by decide +kernel
theorem bits_58 : bitR 232 4 = true := by decide +kernel
theorem bits_59 : bitR 236 4 = true := by decide +kernel
theorem bits_60 : bitR 240 4 = true := by decide +kernel
theorem bits_61 : bitR 244 4 = true := by decide +kernel
theorem bits_62 : bitR 248 4 = true := by decide +kernel
theorem bits_63 : bitR 252 4 = true := by decide +kernel
theorem bit_eq {x : Nat} (hx : x < 65536) (N : Mem) : mJ6_bitCount_0f7a4 (nI x) = mX6_size (nI x) N ∧ PX6_size (nI x) N := by
  have h : bitT x = true := by
    obtain ⟨k, hk⟩ : ∃ k, k = x / 1024 := ⟨_, rfl⟩
    have k64 : k < 64 := by omega
    match k, hk, k64 with
    | 0, hk, _ => exact bitR_ok bits_0 (by omega) (by omega)
    | 1, hk, _ => exact bitR_ok bits_1 (by omega) (by omega)
    | 2, hk, _ => exact bitR_ok bits_2 (by omega) (by omega)
    | 3, hk, _ => exact bitR_ok bits_3 (by omega) (by omega)
    | 4, hk, _ => exact bitR_ok bits_4 (by omega) (by omega)
    | 5, hk, _ => exact bitR_ok bits_5 (by omega) (by omega)
    | 6, hk, _ => exact bitR_ok bits_6 (by omega) (by omega)
    | 7, hk, _ => exact bitR_ok bits_7 (by omega) (by omega)
    | 8, hk, _ => exact bitR_ok bits_8 (by omega) (by omega)
    | 9, hk, _ => exact bitR_ok bits_9 (by omega) (by omega)
    | 10, hk, _ => exact bitR_ok bits_10 (by omega) (by omega)
    | 11, hk, _ => exact bitR_ok bits_11 (by omega) (by omega)
    | 12, hk, _ => exact bitR_ok bits_12 (by omega) (by omega)
    | 13, hk, _ => exact bitR_ok bits_13 (by omega) (by omega)
    | 14, hk, _ => exact bitR_ok bits_14 (by omega) (by omega)
    | 15, hk, _ => exact bitR_ok bits_15 (by omega) (by omega)
    | 16, hk, _ => exact bitR_ok bits_16 (by omega) (by omega)
    | 17, hk, _ => exact bitR_ok bits_17 (by omega) (by omega)
    | 18, hk, _ => exact bitR_ok bits_18 (by omega) (by omega)
    | 19, hk, _ => exact bitR_ok bits_19 (by omega) (by omega)
    | 20, hk, _ => exact bitR_ok bits_20 (by omega) (by omega)
    | 21, hk, _ => exact bitR_ok bits_21 (by omega) (by omega)
    | 22, hk, _ => exact bitR_ok bits_22 (by omega) (by omega)
    | 23, hk, _ => exact bitR_ok bits_23 (by omega) (by omega)
    | 24, hk, _ => exact bitR_ok bits_24 (by omega) (by omega)
    | 25, hk, _ => exact bitR_ok bits_25 (by omega) (by omega)
    | 26, hk, _ => exact bitR_ok bits_26 (by omega) (by omega)
    | 27, hk, _ => exact bitR_ok bits_27 (by omega) (by omega)
    | 28, hk, _ => exact bitR_ok bits_28 (by omega) (by omega)
    | 29, hk, _ => exact bitR_ok bits_29 (by omega) (by omega)
    | 30, hk, _ => exact bitR_ok bits_30 (by omega) (by omega)
    | 31, hk, _ => exact bitR_ok bits_31 (by omega) (by omega)
    | 32, hk, _ => exact bitR_ok bits_32 (by omega) (by omega)
    | 33, hk, _ => exact bitR_ok bits_33 (by omega) (by omega)
    | 34, hk, _ => exact bitR_ok bits_34 (by omega) (by omega)
    | 35, hk, _ => exact bitR_ok bits_35 (by omega) (by omega)
    | 36, hk, _ => exact bitR_ok bits_36 (by omega) (by omega)
    | 37, hk, _ => exact bitR_ok bits_37 (by omega) (by omega)
    | 38, hk, _ => exact bitR_ok bits_38 (by omega) (by omega)
    | 39, hk, _ => exact bitR_ok bits_39 (by omega) (by omega)
    | 40, hk, _ => exact bitR_ok bits_40 (by omega) (by omega)
    | 41, hk, _ => exact bitR_ok bits_41 (by omega) (by omega)
    | 42, hk, _ => exact bitR_ok bits_42 (by omega) (by omega)
    | 43, hk, _ => exact bitR_ok bits_43 (by omega) (by omega)
    | 44, hk, _ => exact bitR_ok bits_44 (by omega) (by omega)
    | 45, hk, _ => exact bitR_ok bits_45 (by omega) (by omega)
    | 46, hk, _ => exact bitR_ok bits_46 (by omega) (by omega)
    | 47, hk, _ => exact bitR_ok bits_47 (by omega) (by omega)
    | 48, hk, _ => exact bitR_ok bits_48 (by omega) (by omega)
    | 49, hk, _ => exact bitR_ok bits_49 (by omega) (by omega)
    | 50, hk, _ => exact bitR_ok bits_50 (by omega) (by omega)
    | 51, hk, _ => exact bitR_ok bits_51 (by omega) (by omega)
    | 52, hk, _ => exact bitR_ok bits_52 (by omega) (by omega)
    | 53, hk, _ => exact bitR_ok bits_53 (by omega) (by omega)
    | 54, hk, _ => exact bitR_ok bits_54 (by omega) (by omega)
    | 55, hk, _ => exact bitR_ok bits_55 (by omega) (by omega)
    | 56, hk, _ => exact bitR_ok bits_56 (by omega) (by omega)
    | 57, hk, _ => exact bitR_ok bits_57 (by omega) (by omega)
    | 58, hk, _ => exact bitR_ok bits_58 (by omega) (by omega)
    | 59, hk, _ => exact bitR_ok bits_59 (by omega) (by omega)
    | 60, hk, _ => exact bitR_ok bits_60 (by omega) (by omega)
    | 61, hk, _ => exact bitR_ok bits_61 (by omega) (by omega)
    | 62, hk, _ => exact bitR_ok bits_62 (by omega) (by omega)
    | 63, hk, _ => exact bitR_ok bits_63 (by omega) (by omega)
    | k + 64, _, q => exact absurd q (by omega)
  unfold bitT at h
  obtain ⟨e, p⟩ := szf_ok (N := N) 18 0 (nI x) _ (of_decide_eq_true h) 400 (by decide)
  exact ⟨e.symm, p⟩
