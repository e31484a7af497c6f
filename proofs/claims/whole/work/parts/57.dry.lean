/-! THE DRY WAY -/
theorem nI_and (a b : Nat) : nI a &&& nI b = nI (a &&& b) := by
  apply Int32.toBitVec_inj.mp
  rw [Int32.toBitVec_and]
  show BitVec.ofNat 32 a &&& BitVec.ofNat 32 b = BitVec.ofNat 32 (a &&& b)
  rw [BitVec.ofNat_and]
theorem nI_xor (a b : Nat) : nI a ^^^ nI b = nI (a ^^^ b) := by
  apply Int32.toBitVec_inj.mp
  rw [Int32.toBitVec_xor]
  show BitVec.ofNat 32 a ^^^ BitVec.ofNat 32 b = BitVec.ofNat 32 (a ^^^ b)
  rw [BitVec.ofNat_xor]
theorem sh_l : ∀ n, n < 32 → ((nI n &&& 31).toBitVec.smod 32).toNat = n := by decide
theorem sh_u : ∀ n, n < 32 → (((nI n).toUInt32 &&& Int32.toUInt32 31).toBitVec % 32).toNat = n := by decide
theorem bit_of {x j r : Nat} (hx : x = r / 2 ^ j % 2 ^ 1) : (nI x = 1 ↔ r.testBit j = true) ∧ (nI x = 0 ↔ r.testBit j = false) := by
  rw [Nat.testBit_eq_decide_div_mod_eq, decide_eq_true_iff, decide_eq_false_iff_not]
  rw [Nat.pow_one] at hx
  have e1 : nI x = 1 ↔ x = 1 := nI_inj (b := 1) (by omega) (by decide)
  have e0 : nI x = 0 ↔ x = 0 := nI_inj (b := 0) (by omega) (by decide)
  rw [e1, e0]
  omega
theorem bitS {r j : Nat} (hr : r < 65536) (hj : j < 16) : ((nI r >>> (nI j &&& 31)) &&& 1 = 1 ↔ r.testBit j = true) ∧ ((nI r >>> (nI j &&& 31)) &&& 1 = 0 ↔ r.testBit j = false) := by
  have h1 : r / 2 ^ j ≤ r := Nat.div_le_self _ _
  have e : (nI r >>> (nI j &&& 31)) &&& 1 = nI (r / 2 ^ j % 2 ^ 1) := by
    rw [pk_shrN (by omega) _ j (sh_l j (by omega)), pk_andN (by omega) 1 (by decide)]
  rw [e]
  exact bit_of rfl
theorem isInC {r j : Nat} (hr : r < 65536) (hj : j < 16) : mX5_isIn (nI r) (nI j) = r.testBit j := by
  have h1 : r / 2 ^ j ≤ r := Nat.div_le_self _ _
  have e : (((nI r).toUInt32 >>> ((nI j).toUInt32 &&& Int32.toUInt32 31)).toInt32) &&& 1 = nI (r / 2 ^ j % 2 ^ 1) := by
    rw [pk_ushrN (by omega) _ j (sh_u j (by omega)), pk_andN (by omega) 1 (by decide)]
  unfold mX5_isIn
  rw [e]
  cases h : r.testBit j with
  | true => rw [if_pos ((bit_of rfl).1.mpr h)]
  | false =>
    rw [if_neg]
    intro q
    rw [(bit_of rfl).1.mp q] at h
    cases h
/-- the houses and those next to them -/
def WN (r : Nat) : Nat := ((((r ||| (r &&& 4294932343) * 2 ^ 1) ||| (r &&& 4294962926) / 2 ^ 1) ||| r * 2 ^ 4) ||| r / 2 ^ 4) % 2 ^ 16
theorem wn_eq {r : Nat} (hr : r < 65536) : mX5_withNext (nI r) = nI (WN r) := by
  have c1 : (-34953 : Int32) = nI 4294932343 := by decide
  have c2 : (-4370 : Int32) = nI 4294962926 := by decide
  have h1 : r &&& 4294932343 ≤ r := Nat.and_le_left
  have h2 : r &&& 4294962926 ≤ r := Nat.and_le_left
  have k32 : (65536 : Nat) < 2 ^ 32 := by decide
  have hl : (((r ||| (r &&& 4294932343) * 2 ^ 1) ||| (r &&& 4294962926) / 2 ^ 1) ||| r * 2 ^ 4) ||| r / 2 ^ 4 < 2 ^ 32 :=
    or_lt (or_lt (or_lt (or_lt (by omega) (by omega)) (by omega)) (by omega)) (by omega)
  unfold mX5_withNext WN
  rw [c1, c2, nI_and, nI_and, pk_shlN (1 &&& 31) 1 (by decide) (by omega), pk_ushrN (by omega) 1 1 (by decide), pk_shlN (4 &&& 31) 4 (by decide) (by omega), pk_ushrN (by omega) 4 4 (by decide), nI_or, nI_or, nI_or, nI_or, pk_andN hl 16 (by decide)]
def nbm (h i : Nat) : Nat := if mX6_nextBy (nI h) (nI i) < 0 then 0 else 2 ^ (mX6_nextBy (nI h) (nI i)).toNatClampNeg
def nbk (h : Nat) : Nat → Nat → Nat
  | 0, _ => 0
  | k + 1, i => nbm h i ||| nbk h k (i + 1)
def nbc (h : Nat) : Nat := ([18, 37, 74, 132, 289, 594, 1188, 2120, 4624, 9504, 19008, 33920, 8448, 20992, 41984, 18432] : List Nat).getD h 0
def UU (r : Nat) : Nat → Nat → Nat
  | 0, _ => 0
  | k + 1, h => (if r.testBit h = true then nbc h else 0) ||| UU r k (h + 1)
theorem nbk_c : ∀ h, h < 16 → nbk h 4 0 = nbc h := by decide +kernel
theorem nb_in : ∀ h, h < 16 → ∀ i, i < 4 → ¬ mX6_nextBy (nI h) (nI i) < 0 → (mX6_nextBy (nI h) (nI i)).toNatClampNeg < 16 ∧ mX6_nextBy (nI h) (nI i) = nI (mX6_nextBy (nI h) (nI i)).toNatClampNeg := by decide
def wnT (x : Nat) : Bool := WN x == (x ||| UU x 16 0)
def wnR (a n : Nat) : Bool := (List.range n).all fun h => (List.range 256).all fun l => wnT (256 * (a + h) + l)
theorem wnR_ok {a n : Nat} (h : wnR a n = true) {x : Nat} (h1 : 256 * a ≤ x) (h2 : x < 256 * (a + n)) : wnT x = true := by
  unfold wnR at h
  have h3 := List.all_eq_true.mp h (x / 256 - a) (List.mem_range.mpr (by omega))
  have h4 := List.all_eq_true.mp h3 (x % 256) (List.mem_range.mpr (by omega))
  have e : 256 * (a + (x / 256 - a)) + x % 256 = x := by omega
  rw [e] at h4
  exact h4
theorem wnR_0 : wnR 0 16 = true := by decide +kernel
theorem wnR_1 : wnR 16 16 = true := by decide +kernel
theorem wnR_2 : wnR 32 16 = true := by decide +kernel
theorem wnR_3 : wnR 48 16 = true := by decide +kernel
theorem wnR_4 : wnR 64 16 = true := by decide +kernel
theorem wnR_5 : wnR 80 16 = true := by decide +kernel
theorem wnR_6 : wnR 96 16 = true := by decide +kernel
theorem wnR_7 : wnR 112 16 = true := by decide +kernel
theorem wnR_8 : wnR 128 16 = true := by decide +kernel
theorem wnR_9 : wnR 144 16 = true := by decide +kernel
theorem wnR_10 : wnR 160 16 = true := by decide +kernel
theorem wnR_11 : wnR 176 16 = true := by decide +kernel
theorem wnR_12 : wnR 192 16 = true := by decide +kernel
theorem wnR_13 : wnR 208 16 = true := by decide +kernel
theorem wnR_14 : wnR 224 16 = true := by decide +kernel
theorem wnR_15 : wnR 240 16 = true := by decide +kernel
theorem wn_UU {r : Nat} (hr : r < 65536) : WN r = r ||| UU r 16 0 := by
  have h : wnT r = true := by
    obtain ⟨k, hk⟩ : ∃ k, k = r / 4096 := ⟨_, rfl⟩
    have k16 : k < 16 := by omega
    match k, hk, k16 with
    | 0, hk, _ => exact wnR_ok wnR_0 (by omega) (by omega)
    | 1, hk, _ => exact wnR_ok wnR_1 (by omega) (by omega)
    | 2, hk, _ => exact wnR_ok wnR_2 (by omega) (by omega)
    | 3, hk, _ => exact wnR_ok wnR_3 (by omega) (by omega)
    | 4, hk, _ => exact wnR_ok wnR_4 (by omega) (by omega)
    | 5, hk, _ => exact wnR_ok wnR_5 (by omega) (by omega)
    | 6, hk, _ => exact wnR_ok wnR_6 (by omega) (by omega)
    | 7, hk, _ => exact wnR_ok wnR_7 (by omega) (by omega)
    | 8, hk, _ => exact wnR_ok wnR_8 (by omega) (by omega)
    | 9, hk, _ => exact wnR_ok wnR_9 (by omega) (by omega)
    | 10, hk, _ => exact wnR_ok wnR_10 (by omega) (by omega)
    | 11, hk, _ => exact wnR_ok wnR_11 (by omega) (by omega)
    | 12, hk, _ => exact wnR_ok wnR_12 (by omega) (by omega)
    | 13, hk, _ => exact wnR_ok wnR_13 (by omega) (by omega)
    | 14, hk, _ => exact wnR_ok wnR_14 (by omega) (by omega)
    | 15, hk, _ => exact wnR_ok wnR_15 (by omega) (by omega)
    | k + 16, _, q => exact absurd q (by omega)
  exact eq_of_beq h
theorem twoD {w j : Nat} (hj : j < 16) : 2 ^ j &&& (65535 &&& (w ^^^ 4294967295)) = if w.testBit j = true then 0 else 2 ^ j := by
  apply Nat.eq_of_testBit_eq
  intro i
  rw [Nat.testBit_and, Nat.testBit_and, Nat.testBit_xor, show (65535 : Nat) = 2 ^ 16 - 1 from rfl, show (4294967295 : Nat) = 2 ^ 32 - 1 from rfl, Nat.testBit_two_pow_sub_one, Nat.testBit_two_pow_sub_one, Nat.testBit_two_pow]
  by_cases e : j = i
  · subst e
    have h32 : j < 32 := by omega
    cases hw : w.testBit j <;> simp [hj, h32, Nat.testBit_two_pow_self]
  · cases hw : w.testBit j <;> simp [e, Nat.testBit_two_pow_of_ne e]
theorem orD (m a b D : Nat) : m ||| ((a ||| b) &&& D) = (m ||| (a &&& D)) ||| (b &&& D) := by
  rw [Nat.and_or_distrib_right, Nat.or_assoc]
theorem dw76 {w D h r : Nat} (hw : w < 65536) (hD : D = 65535 &&& (w ^^^ 4294967295)) (hh : h < 16) (hr : r < 65536) (hb : r.testBit h = true) (kf39 : Int32 → Int32 → Int32 → Int32 → Mem → Int32) (kf66 : Int32 → Int32 → Int32 → Int32 → Int32 → Int32 → Mem → Int32) (kP39 : Int32 → Int32 → Int32 → Int32 → Mem → Prop) (kP66 : Int32 → Int32 → Int32 → Int32 → Int32 → Int32 → Mem → Prop) (v2 v5 : Int32) (N : Mem) : ∀ (k f i m : Nat), k < f → i + k = 4 →
    mX6_dryWay_76 kf39 kf66 f v2 (nI w) (nI r) v5 (nI m) (nI h) (nI i) N = kf66 v2 (nI w) (nI r) v5 (nI (m ||| (nbk h k i &&& D))) (nI (h + 1)) N ∧
    (kP66 v2 (nI w) (nI r) v5 (nI (m ||| (nbk h k i &&& D))) (nI (h + 1)) N → PX6_dryWay_76 kP39 kP66 f v2 (nI w) (nI r) v5 (nI m) (nI h) (nI i) N) := by
  have h1 : nI h + 1 = nI (h + 1) := (nI_succ h).symm
  have hbb := (bitS hr hh).1.mpr hb
  intro k
  induction k with
  | zero =>
    intro f i m hf hi
    obtain ⟨g, rfl⟩ : ∃ g, f = g + 1 := ⟨f - 1, by omega⟩
    have hc : (4 : Int32) ≤ nI i := nI_le (a := 4) (by omega) (by omega)
    rw [mX6_dryWay_76, PX6_dryWay_76, if_pos hc, nbk, Nat.zero_and, Nat.or_zero]
    unfold mX6_dryWay_135 PX6_dryWay_135
    rw [h1]
    exact ⟨rfl, fun hp => ⟨fun _ => hp, fun q => absurd hc q⟩⟩
  | succ k ih =>
    intro f i m hf hi
    obtain ⟨g, rfl⟩ : ∃ g, f = g + 1 := ⟨f - 1, by omega⟩
    have hc : ¬ (4 : Int32) ≤ nI i := nI_ge (b := 4) (by omega) (by omega)
    have hi1 : nI i + 1 = nI (i + 1) := (nI_succ i).symm
    have em0 : nI m ||| 0 = nI m := by
      have := nI_or m 0
      rw [Nat.or_zero] at this
      exact this
    rw [mX6_dryWay_76, PX6_dryWay_76, if_neg hc, if_pos hbb, nbk, orD]
    unfold mX6_dryWay_125 PX6_dryWay_125 mX6_dryWay_126 PX6_dryWay_126
    rw [hi1, em0]
    by_cases q : mX6_nextBy (nI h) (nI i) < 0
    · have en : nbm h i = 0 := by unfold nbm; rw [if_pos q]
      obtain ⟨a1, a2⟩ := ih g (i + 1) m (by omega) (by omega)
      rw [if_pos q, en, Nat.zero_and, Nat.or_zero]
      exact ⟨a1, fun hp => ⟨fun y => absurd y hc, fun _ => ⟨fun _ => ⟨fun _ => a2 hp, fun y => absurd q y⟩, fun y => absurd hbb y⟩⟩⟩
    · obtain ⟨n1, n2⟩ := nb_in h hh i (by omega) q
      have en : nbm h i = 2 ^ (mX6_nextBy (nI h) (nI i)).toNatClampNeg := by unfold nbm; rw [if_neg q]
      obtain ⟨j, ej⟩ : ∃ y, y = (mX6_nextBy (nI h) (nI i)).toNatClampNeg := ⟨_, rfl⟩
      rw [← ej] at n1 n2 en
      have b0 := (bitS hw n1).2
      rw [if_neg q, n2, en]
      have q' : ¬ nI j < 0 := by rw [← n2]; exact q
      by_cases z : (nI w >>> (nI j &&& 31)) &&& 1 = 0
      · have wz := b0.mp z
        have e2 : 2 ^ j &&& D = 2 ^ j := by rw [hD, twoD n1, if_neg (by rw [wz]; decide)]
        obtain ⟨a1, a2⟩ := ih g (i + 1) (m ||| 2 ^ j) (by omega) (by omega)
        rw [if_pos z, e2, bit1 j n1, nI_or]
        exact ⟨a1, fun hp => ⟨fun y => absurd y hc, fun _ => ⟨fun _ => ⟨fun y => absurd y q', fun _ => ⟨fun _ => a2 hp, fun y => absurd z y⟩⟩, fun y => absurd hbb y⟩⟩⟩
      · have wz : w.testBit j = true := by
          cases hx : w.testBit j with
          | true => rfl
          | false => exact absurd (b0.mpr hx) z
        have e2 : 2 ^ j &&& D = 0 := by rw [hD, twoD n1, if_pos wz]
        obtain ⟨a1, a2⟩ := ih g (i + 1) m (by omega) (by omega)
        rw [if_neg z, e2, Nat.or_zero]
        exact ⟨a1, fun hp => ⟨fun y => absurd y hc, fun _ => ⟨fun _ => ⟨fun y => absurd y q', fun _ => ⟨fun y => absurd y z, fun _ => a2 hp⟩⟩, fun y => absurd hbb y⟩⟩⟩
theorem dw66 {w D r : Nat} (hw : w < 65536) (hD : D = 65535 &&& (w ^^^ 4294967295)) (hr : r < 65536) (kf39 : Int32 → Int32 → Int32 → Int32 → Mem → Int32) (kP39 : Int32 → Int32 → Int32 → Int32 → Mem → Prop) (v2 v5 : Int32) (N : Mem) : ∀ (k f h m : Nat), k < f → h + k = 16 →
    mX6_dryWay_66 kf39 f v2 (nI w) (nI r) v5 (nI m) (nI h) N = kf39 v2 (nI w) (nI (m ||| (UU r k h &&& D))) (v5 + 1) N ∧
    (kP39 v2 (nI w) (nI (m ||| (UU r k h &&& D))) (v5 + 1) N → PX6_dryWay_66 kP39 f v2 (nI w) (nI r) v5 (nI m) (nI h) N) := by
  intro k
  induction k with
  | zero =>
    intro f h m hf hi
    obtain ⟨g, rfl⟩ : ∃ g, f = g + 1 := ⟨f - 1, by omega⟩
    have hc : (16 : Int32) ≤ nI h := nI_le (a := 16) (by omega) (by omega)
    rw [mX6_dryWay_66, PX6_dryWay_66, if_pos hc, UU, Nat.zero_and, Nat.or_zero]
    exact ⟨rfl, fun hp => ⟨fun _ => hp, fun q => absurd hc q⟩⟩
  | succ k ih =>
    intro f h m hf hi
    obtain ⟨g, rfl⟩ : ∃ g, f = g + 1 := ⟨f - 1, by omega⟩
    have hc : ¬ (16 : Int32) ≤ nI h := nI_ge (b := 16) (by omega) (by omega)
    have h1 : nI h + 1 = nI (h + 1) := (nI_succ h).symm
    have c4 : ¬ (4 : Int32) ≤ 0 := by decide
    rw [mX6_dryWay_66, PX6_dryWay_66, if_neg hc, UU, orD]
    cases hb : r.testBit h with
    | true =>
      obtain ⟨a1, a2⟩ := ih g (h + 1) (m ||| (nbk h 4 0 &&& D)) (by omega) (by omega)
      obtain ⟨b1, b2⟩ := dw76 hw hD (show h < 16 by omega) hr hb kf39 (mX6_dryWay_66 kf39 g) kP39 (PX6_dryWay_66 kP39 g) v2 v5 N 4 400 0 m (by decide) (by decide)
      rw [if_pos rfl, ← nbk_c h (by omega)]
      exact ⟨b1.trans a1, fun hp => ⟨fun y => absurd y hc, fun _ => b2 (a2 hp)⟩⟩
    | false =>
      obtain ⟨a1, a2⟩ := ih g (h + 1) m (by omega) (by omega)
      have nb : ¬ (nI r >>> (nI h &&& 31)) &&& 1 = 1 := fun q => by
        rw [(bitS hr (show h < 16 by omega)).1.mp q] at hb
        cases hb
      rw [if_neg (by decide), Nat.zero_and, Nat.or_zero]
      constructor
      · rw [show (400 : Nat) = 399 + 1 from rfl, mX6_dryWay_76, if_neg c4, if_neg nb]
        unfold mX6_dryWay_135
        rw [h1]
        exact a1
      · intro hp
        refine ⟨fun y => absurd y hc, fun _ => ?_⟩
        rw [show (400 : Nat) = 399 + 1 from rfl, PX6_dryWay_76]
        unfold PX6_dryWay_135
        rw [h1]
        exact ⟨fun y => absurd y c4, fun _ => ⟨fun y => absurd y nb, fun _ => a2 hp⟩⟩
def dw (D t : Nat) : Nat → Nat → Nat → Int32
  | 0, _, _ => -3
  | k + 1, i, r => if r.testBit t = true then nI i else dw D t k (i + 1) (WN r &&& D)
theorem dw_both {w D t : Nat} (hw : w < 65536) (hD : D = 65535 &&& (w ^^^ 4294967295)) (ht : t < 16) (M N : Mem) : ∀ (k f i r : Nat), k < f → i + k = 16 → r < 65536 → r &&& D = r →
    (mX5_dryWay_48 f (nI t) (nI D) (nI r) (nI i) M = dw D t k i r ∧ PX5_dryWay_48 f (nI t) (nI D) (nI r) (nI i) M) ∧
    mX6_dryWay_39 f (nI t) (nI w) (nI r) (nI i) N = dw D t k i r ∧ PX6_dryWay_39 f (nI t) (nI w) (nI r) (nI i) N := by
  have hD16 : D < 65536 := by
    have : 65535 &&& (w ^^^ 4294967295) ≤ 65535 := Nat.and_le_left
    omega
  intro k
  induction k with
  | zero =>
    intro f i r hf hi hr hrD
    obtain ⟨g, rfl⟩ : ∃ g, f = g + 1 := ⟨f - 1, by omega⟩
    have hc : (16 : Int32) ≤ nI i := nI_le (a := 16) (by omega) (by omega)
    rw [mX5_dryWay_48, PX5_dryWay_48, mX6_dryWay_39, PX6_dryWay_39, if_pos hc, if_pos hc]
    exact ⟨⟨rfl, fun q => absurd hc q⟩, rfl, fun q => absurd hc q⟩
  | succ k ih =>
    intro f i r hf hi hr hrD
    obtain ⟨g, rfl⟩ : ∃ g, f = g + 1 := ⟨f - 1, by omega⟩
    have hc : ¬ (16 : Int32) ≤ nI i := nI_ge (b := 16) (by omega) (by omega)
    have hi1 : nI i + 1 = nI (i + 1) := (nI_succ i).symm
    have hn : WN r &&& D < 65536 := Nat.lt_of_le_of_lt Nat.and_le_right hD16
    have hnD : (WN r &&& D) &&& D = WN r &&& D := by rw [Nat.and_assoc, Nat.and_self]
    obtain ⟨⟨a1, a2⟩, a3, a4⟩ := ih g (i + 1) (WN r &&& D) (by omega) (by omega) hn hnD
    have eU : r ||| (UU r 16 0 &&& D) = WN r &&& D := by
      rw [wn_UU hr, Nat.and_or_distrib_right, hrD]
    obtain ⟨b1, b2⟩ := dw66 hw hD hr (mX6_dryWay_39 g) (PX6_dryWay_39 g) (nI t) (nI i) N 16 400 0 r (by decide) (by decide)
    rw [eU, hi1] at b1 b2
    have b1' : mX6_dryWay_66 (mX6_dryWay_39 g) 400 (nI t) (nI w) (nI r) (nI i) (nI r) 0 N = _ := b1
    rw [mX5_dryWay_48, PX5_dryWay_48, mX6_dryWay_39, PX6_dryWay_39, if_neg hc, if_neg hc, isInC hr ht, wn_eq hr, nI_and, hi1, dw]
    have bs := (bitS hr ht).1
    cases hb : r.testBit t with
    | true =>
      have z := bs.mpr hb
      rw [if_pos rfl, if_pos z, if_pos rfl]
      exact ⟨⟨rfl, fun _ q => absurd rfl q⟩, rfl, fun _ q => absurd z q⟩
    | false =>
      have z : ¬ (nI r >>> (nI t &&& 31)) &&& 1 = 1 := fun q => by
        rw [bs.mp q] at hb
        cases hb
      rw [if_neg (by decide), if_neg z, if_neg (by decide)]
      exact ⟨⟨a1, fun _ _ => a2⟩, b1'.trans a3, fun _ _ => b2 a4⟩
theorem pow_m16 : ∀ a, a < 16 → 2 ^ a &&& 65535 = 2 ^ a := by decide
theorem ok_dryWay {M : Mem} (a b : Int32) (h : Inv M) : OKq (PX5_dryWay a b) (mX5_dryWay a b) (PX6_dryWay a b) (mX6_dryWay a b) M := by
  obtain ⟨n, hR⟩ := h.1
  have e5 : M 2 1 = M 47 5 := hR.rc.2.2.1 1 (by decide)
  obtain ⟨w1, w2, w3⟩ := wetBy_eq (N := M) hR rfl (M 47 5)
  obtain ⟨w, hw, ew⟩ := wetBy_lt (N := M) (M 47 5)
  rw [ew] at w1
  unfold OKq mX5_dryWay mX6_dryWay PX5_dryWay PX6_dryWay
  rw [isHouse_eq a, isHouse_eq b, e5, w1, ew]
  by_cases ha : mX6_isHouse a = true
  · by_cases hb : mX6_isHouse b = true
    · obtain ⟨p, hp, rfl⟩ := house_n (a := a) (by rw [isHouse_eq]; exact ha)
      obtain ⟨t, ht, rfl⟩ := house_n (a := b) (by rw [isHouse_eq]; exact hb)
      have eD : (65535 : Int32) &&& (nI w ^^^ (-1)) = nI (65535 &&& (w ^^^ 4294967295)) := by
        rw [show (-1 : Int32) = nI 4294967295 by decide, nI_xor, show (65535 : Int32) = nI 65535 from rfl, nI_and]
      have e1 : ((1 : Int32) <<< (nI p &&& 31)) &&& (nI w ^^^ (-1)) = nI (2 ^ p &&& (65535 &&& (w ^^^ 4294967295))) := by
        rw [show (-1 : Int32) = nI 4294967295 by decide, nI_xor, bit1 p hp, nI_and, ← Nat.and_assoc, pow_m16 p hp]
      have hl : 2 ^ p &&& (65535 &&& (w ^^^ 4294967295)) < 65536 := Nat.lt_of_le_of_lt (Nat.le_trans Nat.and_le_right Nat.and_le_left) (show 65535 < 65536 by decide)
      obtain ⟨⟨a1, a2⟩, a3, a4⟩ := dw_both hw rfl ht M M 16 400 0 (2 ^ p &&& (65535 &&& (w ^^^ 4294967295))) (by decide) (by decide) hl (by rw [Nat.and_assoc, Nat.and_self])
      rw [if_pos ha, if_pos hb, if_pos ha, if_pos hb, eD, e1, bit1 p hp, nI_and]
      exact ⟨fun _ _ => ⟨w2, a2⟩, fun _ _ => ⟨w3, a4⟩, a1.trans a3.symm⟩
    · rw [if_pos ha, if_neg hb, if_pos ha, if_neg hb]
      exact ⟨fun _ q => absurd q hb, fun _ q => absurd q hb, rfl⟩
  · rw [if_neg ha, if_neg ha]
    exact ⟨fun q => absurd q ha, fun q => absurd q ha, rfl⟩
