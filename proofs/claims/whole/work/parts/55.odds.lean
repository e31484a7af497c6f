/-! ODDS, HOPE: fractions without a common divisor -/
def OKl (P5 : Mem → Prop) (f5 : Mem → Int64) (P6 : Mem → Prop) (f6 : Mem → Int64) (M : Mem) : Prop := P5 M ∧ P6 M ∧ f5 M = f6 M
theorem lz {b : Nat} (hb : b < 2 ^ 63) : (lg_cmp (lN b) 0 = 0) ↔ b = 0 := by
  rw [lg_cmp_eq, show (0 : Int64) = lN 0 from rfl, pk_lEQ hb (by decide)]
theorem lnz {b : Nat} (hb : b < 2 ^ 63) (h0 : 0 < b) : ¬ lN b = 0 := by
  rw [show (0 : Int64) = lN 0 from rfl, pk_lEQ hb (by decide)]
  omega
theorem cd_end {f a i : Nat} (hi : i < 1000) (M : Mem) : mX5_commonDivisor_9 (f + 1) (lN a) (lN 0) (nI i) M = lN a ∧ PX5_commonDivisor_9 (f + 1) (lN a) (lN 0) (nI i) M := by
  have hq : ¬ (1000 : Int32) ≤ nI i := nI_ge (b := 1000) hi (by decide)
  have h0 : lg_cmp (lN 0) 0 = 0 := (lz (by decide)).mpr rfl
  constructor
  · rw [mX5_commonDivisor_9, if_neg hq, if_pos h0]
  · rw [PX5_commonDivisor_9]
    exact fun _ q => absurd h0 q
theorem cd_step {f a b i : Nat} (ha : a < 2 ^ 63) (hb : b < 2 ^ 63) (h0 : 0 < b) (hi : i < 1000) (M : Mem) :
    mX5_commonDivisor_9 (f + 1) (lN a) (lN b) (nI i) M = mX5_commonDivisor_9 f (lN b) (lN (a % b)) (nI (i + 1)) M ∧ (PX5_commonDivisor_9 f (lN b) (lN (a % b)) (nI (i + 1)) M → PX5_commonDivisor_9 (f + 1) (lN a) (lN b) (nI i) M) := by
  have hq : ¬ (1000 : Int32) ≤ nI i := nI_ge (b := 1000) hi (by decide)
  have hz : ¬ lg_cmp (lN b) 0 = 0 := fun q => by
    have := (lz hb).mp q
    omega
  have er : lrem (lN a) (lN b) = lN (a % b) := pk_lRem ha h0 hb
  have hi1 : nI i + 1 = nI (i + 1) := (nI_succ i).symm
  constructor
  · rw [mX5_commonDivisor_9, if_neg hq, if_neg hz, er, hi1]
  · intro hp
    rw [PX5_commonDivisor_9, er, hi1]
    exact fun _ _ => ⟨lnz hb h0, hp⟩
theorem po_end {f a : Nat} (v0 v2 : Int64) (v4 : Int32) (ha : a < 2 ^ 63) (h0 : 0 < a) (M : Mem) : mX6_partOf_6 (f + 1) v0 v2 v4 (lN a) (lN 0) M = (if v4 = 0 then v0 / lN a else v2 / lN a) ∧ PX6_partOf_6 (f + 1) v0 v2 v4 (lN a) (lN 0) M := by
  have hz : lg_cmp (lN 0) 0 = 0 := (lz (by decide)).mpr rfl
  constructor
  · rw [mX6_partOf_6, if_pos hz]
  · rw [PX6_partOf_6]
    exact ⟨fun _ => ⟨fun _ => lnz ha h0, fun _ => lnz ha h0⟩, fun q => absurd hz q⟩
theorem po_step {f a b : Nat} (v0 v2 : Int64) (v4 : Int32) (ha : a < 2 ^ 63) (hb : b < 2 ^ 63) (h0 : 0 < b) (M : Mem) :
    mX6_partOf_6 (f + 1) v0 v2 v4 (lN a) (lN b) M = mX6_partOf_6 f v0 v2 v4 (lN b) (lN (a % b)) M ∧ (PX6_partOf_6 f v0 v2 v4 (lN b) (lN (a % b)) M → PX6_partOf_6 (f + 1) v0 v2 v4 (lN a) (lN b) M) := by
  have hz : ¬ lg_cmp (lN b) 0 = 0 := fun q => by
    have := (lz hb).mp q
    omega
  have er : lrem (lN a) (lN b) = lN (a % b) := pk_lRem ha h0 hb
  constructor
  · rw [mX6_partOf_6, if_neg hz, er]
  · intro hp
    rw [PX6_partOf_6, er]
    exact ⟨fun q => absurd q hz, fun _ => ⟨lnz hb h0, hp⟩⟩
theorem gcd_step (a b : Nat) : Nat.gcd a b = Nat.gcd b (a % b) := by
  rw [Nat.gcd_comm a b, Nat.gcd_rec b a, Nat.gcd_comm]
theorem mod_half {b r q : Nat} (hr : 0 < r) (hrb : r < b) (hb : b < 2 ^ (q + 1)) : b % r < 2 ^ q := by
  have h2 : 2 ^ (q + 1) = 2 * 2 ^ q := by rw [Nat.pow_succ, Nat.mul_comm]
  have h3 : b % r < r := Nat.mod_lt b hr
  by_cases h : r ≤ 2 ^ q
  · omega
  · have e : b % r = b - r := by
      rw [Nat.mod_eq_sub_mod (by omega), Nat.mod_eq_of_lt (by omega)]
    omega
theorem cd9 (M : Mem) : ∀ (q f a b i : Nat), b < 2 ^ q → 2 * q + 1 < f → i + 2 * q + 1 < 1000 → a < 2 ^ 63 → b < 2 ^ 63 →
    mX5_commonDivisor_9 f (lN a) (lN b) (nI i) M = lN (Nat.gcd a b) ∧ PX5_commonDivisor_9 f (lN a) (lN b) (nI i) M := by
  intro q
  induction q with
  | zero =>
    intro f a b i h1 h2 h3 h4 h5
    obtain ⟨g, rfl⟩ : ∃ g, f = g + 1 := ⟨f - 1, by omega⟩
    obtain rfl : b = 0 := by omega
    rw [Nat.gcd_zero_right]
    exact cd_end (by omega) M
  | succ q ih =>
    intro f a b i h1 h2 h3 h4 h5
    obtain ⟨g, rfl⟩ : ∃ g, f = g + 1 + 1 := ⟨f - 2, by omega⟩
    by_cases b0 : b = 0
    · subst b0
      rw [Nat.gcd_zero_right]
      exact cd_end (by omega) M
    · obtain ⟨s1, p1⟩ := cd_step (f := g + 1) (i := i) h4 h5 (by omega) (by omega) M
      have hr := Nat.mod_lt a (show 0 < b by omega)
      by_cases r0 : a % b = 0
      · rw [r0] at s1 p1
        obtain ⟨s2, p2⟩ := cd_end (f := g) (a := b) (i := i + 1) (by omega) M
        rw [s1, s2, gcd_step, r0, Nat.gcd_zero_right]
        exact ⟨rfl, p1 p2⟩
      · obtain ⟨s2, p2⟩ := cd_step (f := g) (i := i + 1) h5 (show a % b < 2 ^ 63 by omega) (by omega) (by omega) M
        obtain ⟨s3, p3⟩ := ih g (a % b) (b % (a % b)) (i + 1 + 1) (mod_half (by omega) hr h1) (by omega) (by omega) (by omega) (by have := Nat.mod_lt b (show 0 < a % b by omega); omega)
        rw [s1, s2, s3, gcd_step a b, gcd_step b (a % b)]
        exact ⟨rfl, p1 (p2 p3)⟩
theorem po6 (v0 v2 : Int64) (v4 : Int32) (M : Mem) : ∀ (q f a b : Nat), b < 2 ^ q → 2 * q + 1 < f → a < 2 ^ 63 → b < 2 ^ 63 → 0 < a ∨ 0 < b →
    mX6_partOf_6 f v0 v2 v4 (lN a) (lN b) M = (if v4 = 0 then v0 / lN (Nat.gcd a b) else v2 / lN (Nat.gcd a b)) ∧ PX6_partOf_6 f v0 v2 v4 (lN a) (lN b) M := by
  intro q
  induction q with
  | zero =>
    intro f a b h1 h2 h4 h5 h6
    obtain ⟨g, rfl⟩ : ∃ g, f = g + 1 := ⟨f - 1, by omega⟩
    obtain rfl : b = 0 := by omega
    rw [Nat.gcd_zero_right]
    exact po_end v0 v2 v4 h4 (by omega) M
  | succ q ih =>
    intro f a b h1 h2 h4 h5 h6
    obtain ⟨g, rfl⟩ : ∃ g, f = g + 1 + 1 := ⟨f - 2, by omega⟩
    by_cases b0 : b = 0
    · subst b0
      rw [Nat.gcd_zero_right]
      exact po_end v0 v2 v4 h4 (by omega) M
    · obtain ⟨s1, p1⟩ := po_step (f := g + 1) v0 v2 v4 h4 h5 (by omega) M
      have hr := Nat.mod_lt a (show 0 < b by omega)
      by_cases r0 : a % b = 0
      · rw [r0] at s1 p1
        obtain ⟨s2, p2⟩ := po_end (f := g) v0 v2 v4 h5 (by omega) M
        rw [s1, s2, gcd_step, r0, Nat.gcd_zero_right]
        exact ⟨rfl, p1 p2⟩
      · obtain ⟨s2, p2⟩ := po_step (f := g) v0 v2 v4 h5 (show a % b < 2 ^ 63 by omega) (by omega) M
        obtain ⟨s3, p3⟩ := ih g (a % b) (b % (a % b)) (mod_half (by omega) hr h1) (by omega) (by omega) (by have := Nat.mod_lt b (show 0 < a % b by omega); omega) (Or.inl (by omega))
        rw [s1, s2, s3, gcd_step a b, gcd_step b (a % b)]
        exact ⟨rfl, p1 (p2 p3)⟩
theorem part_eq {A B : Nat} (hA : A < 2 ^ 60) (hB : B < 2 ^ 60) (hB0 : 0 < B) (p : Int32) (M N : Mem) : mX5_partOf (lN A) (lN B) p M = mX6_partOf (lN A) (lN B) p N ∧ PX5_partOf (lN A) (lN B) p M ∧ PX6_partOf (lN A) (lN B) p N := by
  have b63 : (2 : Nat) ^ 60 < 2 ^ 63 := by decide
  obtain ⟨c1, c2⟩ := cd9 M 60 400 A B 0 hB (by decide) (by decide) (by omega) (by omega)
  obtain ⟨d1, d2⟩ := po6 (lN A) (lN B) p N 60 400 B A hA (by decide) (by omega) (by omega) (Or.inl hB0)
  have c1' : mX5_commonDivisor (lN A) (lN B) M = lN (Nat.gcd A B) := c1
  have c2' : PX5_commonDivisor (lN A) (lN B) M := c2
  have d1' : mX6_partOf (lN A) (lN B) p N = _ := d1
  have hg : 0 < Nat.gcd A B := Nat.gcd_pos_of_pos_right A hB0
  have hgl : Nat.gcd A B ≤ B := Nat.gcd_le_right A hB0
  have hm : lmax 1 (lN (Nat.gcd A B)) = lN (Nat.gcd A B) := by
    unfold lmax
    rw [if_neg]
    rw [show (1 : Int64) = lN 1 from rfl, pk_lLT (by omega) (by decide)]
    omega
  rw [Nat.gcd_comm B A] at d1'
  refine ⟨?_, ⟨c2', fun _ => ?_, fun _ => ?_⟩, d2⟩
  · rw [d1']
    unfold mX5_partOf mX5_partOf_21
    rw [c1', hm]
  · unfold PX5_partOf_21
    rw [c1', hm]
    exact lnz (by omega) hg
  · unfold PX5_partOf_21
    rw [c1', hm]
    exact lnz (by omega) hg
theorem pow5 {v n : Nat} (hn : n ≤ 100) (M : Mem) : ∀ (k f i acc : Nat), k < f → i + k = n → mX5_power_5 f (lN v) (nI n) (lN acc) (nI i) M = lN (acc * v ^ k) ∧ PX5_power_5 f (lN v) (nI n) (lN acc) (nI i) M := by
  intro k
  induction k with
  | zero =>
    intro f i acc hf hi
    obtain ⟨g, rfl⟩ : ∃ g, f = g + 1 := ⟨f - 1, by omega⟩
    have hc : nI n ≤ nI i := nI_le (by omega) (by omega)
    constructor
    · rw [mX5_power_5, if_pos hc, Nat.pow_zero, Nat.mul_one]
    · rw [PX5_power_5]
      exact fun q => absurd hc q
  | succ k ih =>
    intro f i acc hf hi
    obtain ⟨g, rfl⟩ : ∃ g, f = g + 1 := ⟨f - 1, by omega⟩
    have hc : ¬ nI n ≤ nI i := nI_ge (by omega) (by omega)
    have hi1 : nI i + 1 = nI (i + 1) := (nI_succ i).symm
    obtain ⟨a1, a2⟩ := ih g (i + 1) (acc * v) (by omega) (by omega)
    have ee : acc * v * v ^ k = acc * v ^ (k + 1) := by rw [Nat.pow_succ, Nat.mul_assoc, Nat.mul_comm v]
    constructor
    · rw [mX5_power_5, if_neg hc, lN_mul, hi1, a1, ee]
    · rw [PX5_power_5, lN_mul, hi1]
      exact fun _ => a2
def mulR (g k : Nat) : Nat → Nat → Nat → Nat
  | 0, _, a => a
  | s + 1, i, a => mulR g k s (i + 1) (a * if k ≤ i then 100 - g else g)
theorem mulR_hi {g k : Nat} : ∀ (s i a : Nat), k ≤ i → mulR g k s i a = a * (100 - g) ^ s := by
  intro s
  induction s with
  | zero => intro i a _; rw [mulR, Nat.pow_zero, Nat.mul_one]
  | succ s ih =>
    intro i a h
    rw [mulR, if_pos h, ih (i + 1) _ (by omega), Nat.pow_succ, Nat.mul_assoc, Nat.mul_comm (100 - g)]
theorem mulR_lo {g k : Nat} : ∀ (d s i a : Nat), i + d = k → d ≤ s → mulR g k s i a = a * g ^ d * (100 - g) ^ (s - d) := by
  intro d
  induction d with
  | zero =>
    intro s i a h _
    rw [mulR_hi s i a (by omega), Nat.pow_zero, Nat.mul_one, Nat.sub_zero]
  | succ d ih =>
    intro s i a h hs
    obtain ⟨z, rfl⟩ : ∃ z, s = z + 1 := ⟨s - 1, by omega⟩
    rw [mulR, if_neg (by omega), ih z (i + 1) _ (by omega) (by omega), Nat.pow_succ, Nat.mul_assoc a g, Nat.mul_comm g, show z + 1 - (d + 1) = z - d by omega]
theorem odds61 {n k g : Nat} (hn : n ≤ 8) (hk : k ≤ n) (hg : g ≤ 99) {N : Mem} (h7 : N 47 7 = nI g) (v3 : Int32) : ∀ (s f i a b : Nat), s < f → i + s = n →
    mX6_odds_61 f (nI n) (nI k) v3 (lN a) (lN b) (nI i) N = mX6_partOf (lN (mulR g k s i a)) (lN (b * 100 ^ s)) v3 N ∧ (PX6_partOf (lN (mulR g k s i a)) (lN (b * 100 ^ s)) v3 N → PX6_odds_61 f (nI n) (nI k) v3 (lN a) (lN b) (nI i) N) := by
  have e1 : (nI g).toInt64 = lN g := nI_l (by omega)
  have e2 : ((100 : Int32) - nI g).toInt64 = lN (100 - g) := by
    rw [show (100 : Int32) - nI g = nI (100 - g) from nI_subc (a := 100) (by omega)]
    exact nI_l (by omega)
  intro s
  induction s with
  | zero =>
    intro f i a b hf hi
    obtain ⟨z, rfl⟩ : ∃ z, f = z + 1 := ⟨f - 1, by omega⟩
    have hc : nI n ≤ nI i := nI_le (by omega) (by omega)
    rw [mX6_odds_61, PX6_odds_61, if_pos hc, mulR, Nat.pow_zero, Nat.mul_one]
    exact ⟨rfl, fun hp => ⟨fun _ => hp, fun q => absurd hc q⟩⟩
  | succ s ih =>
    intro f i a b hf hi
    obtain ⟨z, rfl⟩ : ∃ z, f = z + 1 := ⟨f - 1, by omega⟩
    have hc : ¬ nI n ≤ nI i := nI_ge (by omega) (by omega)
    have hi1 : nI i + 1 = nI (i + 1) := (nI_succ i).symm
    have ck : (nI k ≤ nI i) ↔ k ≤ i := nI_le_iff (by omega) (by omega)
    have e100 : lN b * 100 = lN (b * 100) := lN_mul b 100
    have eb : b * 100 * 100 ^ s = b * 100 ^ (s + 1) := by rw [Nat.pow_succ, Nat.mul_assoc, Nat.mul_comm 100]
    rw [mX6_odds_61, PX6_odds_61, if_neg hc, mulR]
    unfold mX6_odds_97 PX6_odds_97
    rw [h7, e1, e2, hi1, e100, lN_mul, lN_mul]
    by_cases q : k ≤ i
    · obtain ⟨a1, a2⟩ := ih z (i + 1) (a * (100 - g)) (b * 100) (by omega) (by omega)
      rw [eb] at a1 a2
      rw [if_pos (ck.mpr q), if_pos q]
      exact ⟨a1, fun hp => ⟨fun y => absurd y hc, fun _ => ⟨fun _ => a2 hp, fun y => absurd (ck.mpr q) y⟩⟩⟩
    · obtain ⟨a1, a2⟩ := ih z (i + 1) (a * g) (b * 100) (by omega) (by omega)
      rw [eb] at a1 a2
      have q' : ¬ nI k ≤ nI i := fun y => q (ck.mp y)
      rw [if_neg q', if_neg q]
      exact ⟨a1, fun hp => ⟨fun y => absurd y hc, fun _ => ⟨fun y => absurd y q', fun _ => a2 hp⟩⟩⟩
def Z0 : Mem := fun _ _ => 0
theorem choi : ∀ n, n < 9 → ∀ k, k < n + 1 → (mX5_choices (nI n) (nI k) Z0).toNatClampNeg ≤ 70 ∧ mX5_choices (nI n) (nI k) Z0 = lN (mX5_choices (nI n) (nI k) Z0).toNatClampNeg ∧ mX6_product (nI n) Z0 / mX6_product (nI k) Z0 / mX6_product (nI n - nI k) Z0 = mX5_choices (nI n) (nI k) Z0 ∧ ¬ mX6_product (nI k) Z0 = 0 ∧ ¬ mX6_product (nI n - nI k) Z0 = 0 := by decide +kernel
theorem choi_M (M : Mem) : ∀ (f : Nat) (v0 v1 : Int32) (v2 : Int64) (v4 : Int32), mX5_choices_5 f v0 v1 v2 v4 M = mX5_choices_5 f v0 v1 v2 v4 Z0 := by
  intro f
  induction f with
  | zero => intro _ _ _ _; rfl
  | succ f ih => intro v0 v1 v2 v4; rw [mX5_choices_5, mX5_choices_5, ih]
theorem prod_M (M : Mem) : ∀ (f : Nat) (v0 : Int32) (v1 : Int64) (v3 : Int32), mX6_product_4 f v0 v1 v3 M = mX6_product_4 f v0 v1 v3 Z0 := by
  intro f
  induction f with
  | zero => intro _ _ _; rfl
  | succ f ih => intro v0 v1 v3; rw [mX6_product_4, mX6_product_4, ih]
theorem pchoi {k : Nat} (hk : k ≤ 100) (v0 : Int32) (M : Mem) : ∀ (f i : Nat) (v2 : Int64), k + 2 ≤ f + i → 1 ≤ f → 1 ≤ i → i ≤ 1000 → PX5_choices_5 f v0 (nI k) v2 (nI i) M := by
  intro f
  induction f with
  | zero => intro i v2 _ h _ _; exact absurd h (by decide)
  | succ f ih =>
    intro i v2 h1 h2 h3 h4
    have hi1 : nI i + 1 = nI (i + 1) := (nI_succ i).symm
    rw [PX5_choices_5, hi1, nI_l (by omega)]
    by_cases q : k < i
    · exact fun y => absurd (nI_lt q (by omega)) y
    · exact fun _ => ⟨lnz (by omega) (by omega), ih (i + 1) _ (by omega) (by omega) (by omega) (by omega)⟩
theorem pprod {n : Nat} (hn : n ≤ 100) (M : Mem) : ∀ (f i : Nat) (v1 : Int64), n + 2 ≤ f + i → 1 ≤ f → i ≤ 1000 → PX6_product_4 f (nI n) v1 (nI i) M := by
  intro f
  induction f with
  | zero => intro i v2 _ h _; exact absurd h (by decide)
  | succ f ih =>
    intro i v2 h1 h2 h4
    have hi1 : nI i + 1 = nI (i + 1) := (nI_succ i).symm
    rw [PX6_product_4, hi1]
    by_cases q : n < i
    · exact fun y => absurd (nI_lt q (by omega)) y
    · exact fun _ => ih (i + 1) _ (by omega) (by omega) (by omega)
theorem ok_hope {M : Mem} (a b : Int32) (h : Inv M) : OKl (PX5_hope a b) (mX5_hope a b) (PX6_hope a b) (mX6_hope a b) M := by
  obtain ⟨n, hR⟩ := h.1
  obtain ⟨g, hg, eg⟩ := hR.rc.2.2.2.2
  have ea : mX6_isIn a.toInt64 0 99 = mX5_isWithin a 0 99 := isIn_eq a 0 99
  have eb : mX6_isIn b.toInt64 0 1 = mX5_isWithin b 0 1 := isIn_eq b 0 1
  have l3 : M 2 3 = nI g := (hR.rc.2.2.1 3 (by decide)).trans eg
  have eg' : M 47 7 = nI g := eg
  unfold OKl mX5_hope mX6_hope PX5_hope PX6_hope mX5_hope_19 mX6_hope_43 PX5_hope_19 PX6_hope_43
  rw [ea, eb]
  by_cases ha : mX5_isWithin a 0 99 = true
  · by_cases hb : mX5_isWithin b 0 1 = true
    · obtain ⟨m, hm, rfl⟩ := within_n (m := 99) (by decide) ha
      have e1 : (nI m).toInt64 * (nI g).toInt64 = lN (m * g) := by rw [nI_l (by omega), nI_l (by omega), lN_mul]
      have hmul : m * g ≤ 99 * 99 := Nat.mul_le_mul hm hg
      obtain ⟨p1, p2, p3⟩ := part_eq (A := m * g) (B := 100) (by omega) (by decide) (by decide) b M M
      rw [if_pos ha, if_pos hb, if_pos ha, if_pos hb, l3, eg', e1]
      exact ⟨⟨fun _ => ⟨fun _ => p2, fun _ => trivial⟩, fun _ => trivial⟩, ⟨fun _ => ⟨fun _ => p3, fun _ => trivial⟩, fun _ => trivial⟩, p1⟩
    · rw [if_pos ha, if_neg hb, if_pos ha, if_neg hb]
      exact ⟨⟨fun _ => ⟨fun q => absurd q hb, fun _ => trivial⟩, fun _ => trivial⟩, ⟨fun _ => ⟨fun q => absurd q hb, fun _ => trivial⟩, fun _ => trivial⟩, rfl⟩
  · rw [if_neg ha, if_neg ha]
    exact ⟨⟨fun q => absurd q ha, fun _ => trivial⟩, ⟨fun q => absurd q ha, fun _ => trivial⟩, rfl⟩
theorem ok_odds {M : Mem} (a b c : Int32) (h : Inv M) : OKl (PX5_odds a b c) (mX5_odds a b c) (PX6_odds a b c) (mX6_odds a b c) M := by
  obtain ⟨n', hR⟩ := h.1
  obtain ⟨g, hg, eg⟩ := hR.rc.2.2.2.2
  have ea : mX6_isIn a.toInt64 0 8 = mX5_isWithin a 0 8 := isIn_eq a 0 8
  have eb : mX6_isIn b.toInt64 0 a.toInt64 = mX5_isWithin b 0 a := isIn_eq b 0 a
  have ec : mX6_isIn c.toInt64 0 1 = mX5_isWithin c 0 1 := isIn_eq c 0 1
  have l3 : M 2 3 = nI g := (hR.rc.2.2.1 3 (by decide)).trans eg
  have eg' : M 47 7 = nI g := eg
  unfold OKl mX5_odds mX6_odds PX5_odds PX6_odds mX5_odds_28 mX6_odds_33 PX5_odds_28 PX6_odds_33
  rw [ea, eb, ec]
  by_cases ha : mX5_isWithin a 0 8 = true
  case neg =>
    rw [if_neg ha, if_neg ha]
    exact ⟨⟨fun q => absurd q ha, fun _ => trivial⟩, ⟨fun q => absurd q ha, fun _ => trivial⟩, rfl⟩
  by_cases hb : mX5_isWithin b 0 a = true
  case neg =>
    rw [if_pos ha, if_neg hb, if_pos ha, if_neg hb]
    exact ⟨⟨fun _ => ⟨fun q => absurd q hb, fun _ => trivial⟩, fun _ => trivial⟩, ⟨fun _ => ⟨fun q => absurd q hb, fun _ => trivial⟩, fun _ => trivial⟩, rfl⟩
  by_cases hc : mX5_isWithin c 0 1 = true
  case neg =>
    rw [if_pos ha, if_pos hb, if_neg hc, if_pos ha, if_pos hb, if_neg hc]
    exact ⟨⟨fun _ => ⟨fun _ => ⟨fun q => absurd q hc, fun _ => trivial⟩, fun _ => trivial⟩, fun _ => trivial⟩, ⟨fun _ => ⟨fun _ => ⟨fun q => absurd q hc, fun _ => trivial⟩, fun _ => trivial⟩, fun _ => trivial⟩, rfl⟩
  obtain ⟨n, hn, rfl⟩ := within_n (m := 8) (by decide) ha
  obtain ⟨k, hk, rfl⟩ := within_n (m := n) (by omega) hb
  obtain ⟨c1, c2, c3, c4, c5⟩ := choi n (by omega) k (by omega)
  obtain ⟨C, eC⟩ : ∃ y, y = (mX5_choices (nI n) (nI k) Z0).toNatClampNeg := ⟨_, rfl⟩
  rw [← eC] at c1 c2
  have m5 : mX5_choices (nI n) (nI k) M = lN C := (choi_M M 400 _ _ _ _).trans c2
  have pM : ∀ x, mX6_product x M = mX6_product x Z0 := fun x => prod_M M 400 x 1 2
  have m6 : mX6_product (nI n) M / mX6_product (nI k) M / mX6_product (nI n - nI k) M = lN C := by rw [pM, pM, pM, c3, c2]
  have d1 : ¬ mX6_product (nI k) M = 0 := by rw [pM]; exact c4
  have d2 : ¬ mX6_product (nI n - nI k) M = 0 := by rw [pM]; exact c5
  have enk : nI n - nI k = nI (n - k) := nI_subc hk
  have g1 : (nI g).toInt64 = lN g := nI_l (by omega)
  have g2 : ((100 : Int32) - nI g).toInt64 = lN (100 - g) := by
    rw [show (100 : Int32) - nI g = nI (100 - g) from nI_subc (a := 100) (by omega)]
    exact nI_l (by omega)
  obtain ⟨q1, q2⟩ := pow5 (v := g) (n := k) (by omega) M k 400 0 1 (by omega) (by omega)
  obtain ⟨r1, r2⟩ := pow5 (v := 100 - g) (n := n - k) (by omega) M (n - k) 400 0 1 (by omega) (by omega)
  obtain ⟨t1, t2⟩ := pow5 (v := 100) (n := n) (by omega) M n 400 0 1 (by omega) (by omega)
  rw [Nat.one_mul] at q1 r1 t1
  have q1' : mX5_power (lN g) (nI k) M = lN (g ^ k) := q1
  have r1' : mX5_power (lN (100 - g)) (nI (n - k)) M = lN ((100 - g) ^ (n - k)) := r1
  have t1' : mX5_power 100 (nI n) M = lN (100 ^ n) := t1
  obtain ⟨o1, o2⟩ := odds61 hn hk hg eg' c n 400 0 C 1 (by omega) (by omega)
  rw [mulR_lo k n 0 C (by omega) hk, Nat.one_mul] at o1 o2
  have o1' : mX6_odds_61 400 (nI n) (nI k) c (lN C) 1 0 M = _ := o1
  have x1 : g ^ k ≤ 100 ^ k := Nat.pow_le_pow_left (by omega) k
  have x2 : (100 - g) ^ (n - k) ≤ 100 ^ (n - k) := Nat.pow_le_pow_left (by omega) (n - k)
  have x3 : C * g ^ k * (100 - g) ^ (n - k) ≤ 70 * 100 ^ k * 100 ^ (n - k) := Nat.mul_le_mul (Nat.mul_le_mul c1 x1) x2
  have x4 : 70 * 100 ^ k * 100 ^ (n - k) = 70 * 100 ^ n := by rw [Nat.mul_assoc, ← Nat.pow_add, show k + (n - k) = n by omega]
  have x5 : (100 : Nat) ^ n ≤ 100 ^ 8 := Nat.pow_le_pow_right (by decide) hn
  have x6 : 70 * 100 ^ 8 < 2 ^ 60 := by decide
  have x7 : 0 < 100 ^ n := Nat.pow_pos (by decide)
  obtain ⟨p1, p2, p3⟩ := part_eq (A := C * g ^ k * (100 - g) ^ (n - k)) (B := 100 ^ n) (by omega) (by omega) x7 c M M
  rw [if_pos ha, if_pos hb, if_pos hc, if_pos ha, if_pos hb, if_pos hc, l3, g1, g2, m5, q1', m6, o1', t1', enk, r1', lN_mul, lN_mul]
  rw [enk] at d2
  refine ⟨⟨fun _ => ⟨fun _ => ⟨fun _ => ⟨pchoi (by omega) _ _ 400 1 1 (by omega) (by decide) (by decide) (by decide), q2, r2, t2, p2⟩, fun _ => trivial⟩, fun _ => trivial⟩, fun _ => trivial⟩, ⟨fun _ => ⟨fun _ => ⟨fun _ => ⟨pprod (by omega) _ 400 2 1 (by omega) (by decide) (by decide), pprod (by omega) _ 400 2 1 (by omega) (by decide) (by decide), d1, pprod (by omega) _ 400 2 1 (by omega) (by decide) (by decide), d2, o2 p3⟩, fun _ => trivial⟩, fun _ => trivial⟩, fun _ => trivial⟩, p1⟩
