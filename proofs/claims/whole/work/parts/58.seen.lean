/-! SEEN: the fewest houses that see all -/
def updN (B : Nat → Nat) (k x : Nat) : Nat → Nat := fun j => if j = k then x else B j
theorem updN_at (B : Nat → Nat) (k x : Nat) : updN B k x k = x := by simp [updN]
theorem updN_ne {B : Nat → Nat} {k x j : Nat} (h : j ≠ k) : updN B k x j = B j := by simp [updN, h]
/-! coverings -/
def Dv (A : Nat → Nat) : Nat → Nat → Prop
  | 0, S => S = 0
  | k + 1, S => ∃ S0 h, Dv A k S0 ∧ h < 16 ∧ S = S0 ||| A h
def Cv (A : Nat → Nat) : Nat → Nat → Nat → Prop
  | 0, k, S => S = 0 ∧ k = 0
  | i + 1, k, S => Cv A i k S ∨ ∃ S0 k0, Cv A i k0 S0 ∧ S = S0 ||| A i ∧ k = k0 + 1
theorem Cv_zero (A : Nat → Nat) : ∀ i, Cv A i 0 0 := by
  intro i
  induction i with
  | zero => exact ⟨rfl, rfl⟩
  | succ i ih => exact Or.inl ih
theorem Cv_add {A : Nat → Nat} : ∀ (i h k S : Nat), h < i → Cv A i k S → ∃ k', k' ≤ k + 1 ∧ Cv A i k' (S ||| A h) := by
  intro i
  induction i with
  | zero => intro h k S hh _; exact absurd hh (Nat.not_lt_zero h)
  | succ i ih =>
    intro h k S hh hc
    rcases hc with hc | ⟨S0, k0, hc, rfl, rfl⟩
    · by_cases e : h = i
      · subst e
        exact ⟨k + 1, Nat.le_refl _, Or.inr ⟨S, k, hc, rfl, rfl⟩⟩
      · obtain ⟨k', h1, h2⟩ := ih h k S (by omega) hc
        exact ⟨k', h1, Or.inl h2⟩
    · by_cases e : h = i
      · subst e
        refine ⟨k0 + 1, by omega, Or.inr ⟨S0, k0, hc, ?_, rfl⟩⟩
        rw [Nat.or_assoc, Nat.or_self]
      · obtain ⟨k', h1, h2⟩ := ih h k0 S0 (by omega) hc
        refine ⟨k' + 1, by omega, Or.inr ⟨S0 ||| A h, k', h2, ?_, rfl⟩⟩
        rw [Nat.or_assoc, Nat.or_comm (A i), Nat.or_assoc]
theorem Dv_Cv {A : Nat → Nat} : ∀ (k S : Nat), Dv A k S → ∃ k', k' ≤ k ∧ Cv A 16 k' S := by
  intro k
  induction k with
  | zero =>
    intro S h
    have h0 : S = 0 := h
    subst h0
    exact ⟨0, Nat.le_refl _, Cv_zero A 16⟩
  | succ k ih =>
    rintro S ⟨S0, h, h1, h2, rfl⟩
    obtain ⟨k1, a1, a2⟩ := ih S0 h1
    obtain ⟨k', b1, b2⟩ := Cv_add 16 h k1 S0 h2 a2
    exact ⟨k', by omega, b2⟩
theorem Cv_lt {A : Nat → Nat} {n : Nat} (hA : ∀ h, h < 16 → A h < 2 ^ n) : ∀ (i k S : Nat), i ≤ 16 → Cv A i k S → S < 2 ^ n := by
  intro i
  induction i with
  | zero =>
    rintro k S _ ⟨rfl, _⟩
    exact Nat.pow_pos (by decide)
  | succ i ih =>
    rintro k S hi (hc | ⟨S0, k0, hc, rfl, rfl⟩)
    · exact ih k S (by omega) hc
    · exact or_lt (ih k0 S0 (by omega) hc) (hA i (by omega))
theorem Dv_lt {A : Nat → Nat} {n : Nat} (hA : ∀ h, h < 16 → A h < 2 ^ n) : ∀ (k S : Nat), Dv A k S → S < 2 ^ n := by
  intro k
  induction k with
  | zero =>
    intro S h
    have h0 : S = 0 := h
    rw [h0]
    exact Nat.pow_pos (by decide)
  | succ k ih =>
    rintro S ⟨S0, h, h1, h2, rfl⟩
    exact or_lt (ih S0 h1) (hA h h2)
/-! the class's way -/
def pas (Ai : Nat) : Nat → Nat → (Nat → Nat) → (Nat → Nat)
  | 0, _, F => F
  | k + 1, S, F => pas Ai k (S + 1) (updN F (S ||| Ai) (min (F (S ||| Ai)) (F S + 1)))
theorem updN_le {F : Nat → Nat} {k x : Nat} (h : x ≤ F k) (z : Nat) : updN F k x z ≤ F z := by
  by_cases e : z = k
  · subst e; rw [updN_at]; exact h
  · rw [updN_ne e]; exact Nat.le_refl _
theorem pas_le (Ai : Nat) : ∀ (k S : Nat) (F : Nat → Nat) (x : Nat), pas Ai k S F x ≤ F x := by
  intro k
  induction k with
  | zero => intro S F x; exact Nat.le_refl _
  | succ k ih =>
    intro S F x
    rw [pas]
    exact Nat.le_trans (ih _ _ x) (updN_le (Nat.min_le_left _ _) x)
theorem pas_cov (Ai : Nat) : ∀ (k S : Nat) (F : Nat → Nat) (T : Nat), S ≤ T → T < S + k → pas Ai k S F (T ||| Ai) ≤ F T + 1 := by
  intro k
  induction k with
  | zero => intro S F T h1 h2; omega
  | succ k ih =>
    intro S F T h1 h2
    rw [pas]
    by_cases e : T = S
    · subst e
      refine Nat.le_trans (pas_le Ai k _ _ _) ?_
      rw [updN_at]
      exact Nat.min_le_right _ _
    · have h3 := ih (S + 1) (updN F (S ||| Ai) (min (F (S ||| Ai)) (F S + 1))) T (by omega) (by omega)
      have h4 : updN F (S ||| Ai) (min (F (S ||| Ai)) (F S + 1)) T ≤ F T := updN_le (Nat.min_le_left _ _) T
      omega
theorem pas_dv {A : Nat → Nat} {i : Nat} (hi : i < 16) : ∀ (k S : Nat) (F : Nat → Nat), (∀ x, F x < 16 → Dv A (F x) x) → ∀ x, pas (A i) k S F x < 16 → Dv A (pas (A i) k S F x) x := by
  intro k
  induction k with
  | zero => intro S F h x hx; exact h x hx
  | succ k ih =>
    intro S F h
    rw [pas]
    refine ih (S + 1) _ (fun x hx => ?_)
    by_cases e : x = S ||| A i
    · rw [e, updN_at] at hx ⊢
      by_cases q : F (S ||| A i) ≤ F S + 1
      · rw [Nat.min_eq_left q] at hx ⊢
        exact h _ hx
      · rw [Nat.min_eq_right (by omega)] at hx ⊢
        exact ⟨S, i, h S (by omega), hi, rfl⟩
    · rw [updN_ne e] at hx ⊢
      exact h x hx
def fwF (A : Nat → Nat) (a : Nat) : Nat → Nat → (Nat → Nat) → (Nat → Nat)
  | 0, _, F => F
  | k + 1, i, F => fwF A a k (i + 1) (pas (A i) (a + 1) 0 F)
theorem fw_cv {A : Nat → Nat} {n a : Nat} (hA : ∀ h, h < 16 → A h < 2 ^ n) (ha : a + 1 = 2 ^ n) : ∀ (k i : Nat) (F : Nat → Nat), i + k = 16 → (∀ S c, Cv A i c S → F S ≤ c) → ∀ S c, Cv A 16 c S → fwF A a k i F S ≤ c := by
  intro k
  induction k with
  | zero =>
    intro i F hi h
    obtain rfl : i = 16 := by omega
    exact h
  | succ k ih =>
    intro i F hi h
    rw [fwF]
    refine ih (i + 1) _ (by omega) ?_
    rintro S c (hc | ⟨S0, k0, hc, rfl, rfl⟩)
    · exact Nat.le_trans (pas_le _ _ _ _ _) (h S c hc)
    · have h1 := pas_cov (A i) (a + 1) 0 F S0 (Nat.zero_le _) (by have := Cv_lt hA i k0 S0 (by omega) hc; omega)
      have h2 := h S0 k0 hc
      omega
theorem fw_dv {A : Nat → Nat} {a : Nat} : ∀ (k i : Nat) (F : Nat → Nat), i + k = 16 → (∀ x, F x < 16 → Dv A (F x) x) → ∀ x, fwF A a k i F x < 16 → Dv A (fwF A a k i F x) x := by
  intro k
  induction k with
  | zero => intro i F _ h; exact h
  | succ k ih =>
    intro i F hi h
    rw [fwF]
    exact ih (i + 1) _ (by omega) (pas_dv (by omega) (a + 1) 0 F h)
theorem min_n {a b : Nat} (ha : a < 1000) (hb : b < 1000) : imin (nI a) (nI b) = nI (min a b) ∧ mX6_least (nI a) (nI b) = nI (min a b) := by
  unfold imin mX6_least
  have e1 : nI b < nI a ↔ b < a := nI_lt_iff (by omega) (by omega)
  have e2 : nI b ≤ nI a ↔ b ≤ a := nI_le_iff (by omega) (by omega)
  by_cases q : b < a
  · rw [if_pos (e1.mpr q), if_pos (e2.mpr (by omega)), Nat.min_eq_right (by omega)]
    exact ⟨rfl, rfl⟩
  · rw [if_neg (fun z => q (e1.mp z)), Nat.min_eq_left (by omega)]
    refine ⟨rfl, ?_⟩
    by_cases z : b ≤ a
    · obtain rfl : a = b := by omega
      rw [if_pos (e2.mpr z)]
    · rw [if_neg (fun y => z (e2.mp y))]
theorem few26 {Ai a i : Nat} (hAi : Ai < 256) (ha : a < 256) (hi : i < 16) (kf : Int32 → Int32 → Mem → Int32 × Mem) (kP : Int32 → Int32 → Mem → Prop) : ∀ (k f S : Nat) (M : Mem) (F : Nat → Nat), k < f → S + k = a + 1 → (∀ x, x < 256 → M 33 x = nI (F x)) → (∀ x, F x ≤ 16) → M 32 i = nI Ai →
    ∃ M', mX5_fewestThatSee_26 kf f (nI a) (nI i) (nI S) M = kf (nI a) (nI (i + 1)) M' ∧ (kP (nI a) (nI (i + 1)) M' → PX5_fewestThatSee_26 kP f (nI a) (nI i) (nI S) M) ∧ (∀ x, x < 256 → M' 33 x = nI (pas Ai k S F x)) ∧ (∀ x, pas Ai k S F x ≤ 16) ∧ ∀ q, q ≠ 33 → M' q = M q := by
  intro k
  induction k with
  | zero =>
    intro f S M F hf hS hM hF h32
    obtain ⟨g, rfl⟩ : ∃ g, f = g + 1 := ⟨f - 1, by omega⟩
    have hc : nI a < nI S := nI_lt (by omega) (by omega)
    have hi1 : nI i + 1 = nI (i + 1) := (nI_succ i).symm
    refine ⟨M, ?_, ?_, hM, hF, fun _ _ => rfl⟩
    · rw [mX5_fewestThatSee_26, if_pos hc, hi1]
    · intro hp
      rw [PX5_fewestThatSee_26, hi1]
      exact ⟨fun _ => hp, fun q => absurd hc q⟩
  | succ k ih =>
    intro f S M F hf hS hM hF h32
    obtain ⟨g, rfl⟩ : ∃ g, f = g + 1 := ⟨f - 1, by omega⟩
    have hc : ¬ nI a < nI S := nI_nlt (by omega) (by omega)
    have hS1 : nI S + 1 = nI (S + 1) := (nI_succ S).symm
    have ci : (nI i).toNatClampNeg = i := nIc (by omega)
    have cS : (nI S).toNatClampNeg = S := nIc (by omega)
    have hm : S ||| Ai < 256 := or_lt (k := 8) (by omega) hAi
    have cm : (nI (S ||| Ai)).toNatClampNeg = S ||| Ai := nIc (by omega)
    have hF1 := hF (S ||| Ai)
    have hF2 := hF S
    have ev : imin (nI (F (S ||| Ai))) (nI (F S) + 1) = nI (min (F (S ||| Ai)) (F S + 1)) := by
      rw [← nI_succ]
      exact (min_n (by omega) (by omega)).1
    obtain ⟨M', a1, a2, a3, a4, a5⟩ := ih g (S + 1) (upm M 33 (S ||| Ai) (nI (min (F (S ||| Ai)) (F S + 1)))) (updN F (S ||| Ai) (min (F (S ||| Ai)) (F S + 1))) (by omega) (by omega) (fun x hx => by
      rw [upm_at]
      by_cases e : x = S ||| Ai
      · rw [e, upd_at, updN_at]
      · rw [upd_ne e, updN_ne e]; exact hM x hx) (fun x => Nat.le_trans (updN_le (Nat.min_le_left _ _) x) (hF x)) (by rw [upm_ne (by decide)]; exact h32)
    refine ⟨M', ?_, ?_, a3, a4, fun q hq => (a5 q hq).trans (upm_ne hq)⟩
    · rw [mX5_fewestThatSee_26, if_neg hc, ci, h32, nI_or, cm, cS, hM _ hm, hM S (by omega), ev, hS1]
      exact a1
    · intro hp
      rw [PX5_fewestThatSee_26, ci, h32, nI_or, cm, cS, hM _ hm, hM S (by omega), ev, hS1]
      exact ⟨fun y => absurd y hc, fun _ => ⟨vin hi (by decide), vin hm (by decide), vin (by omega) (by decide), vin hm (by decide), a2 hp⟩⟩
theorem few18 {A : Nat → Nat} {a : Nat} (hA : ∀ h, h < 16 → A h < 256) (ha : a < 256) : ∀ (k f i : Nat) (M : Mem) (F : Nat → Nat), k < f → i + k = 16 → (∀ x, x < 256 → M 33 x = nI (F x)) → (∀ x, F x ≤ 16) → (∀ h, h < 16 → M 32 h = nI (A h)) →
    ∃ M', mX5_fewestThatSee_18 f (nI a) (nI i) M = (nI (fwF A a k i F a), M') ∧ PX5_fewestThatSee_18 f (nI a) (nI i) M ∧ (∀ x, fwF A a k i F x ≤ 16) ∧ ∀ q, q ≠ 33 → M' q = M q := by
  intro k
  induction k with
  | zero =>
    intro f i M F hf hi hM hF h32
    obtain ⟨g, rfl⟩ : ∃ g, f = g + 1 := ⟨f - 1, by omega⟩
    have hc : (16 : Int32) ≤ nI i := nI_le (a := 16) (by omega) (by omega)
    refine ⟨M, ?_, ?_, hF, fun _ _ => rfl⟩
    · rw [mX5_fewestThatSee_18, if_pos hc, nIc (by omega), hM a ha]
      rfl
    · rw [PX5_fewestThatSee_18]
      exact ⟨fun _ => vin ha (by decide), fun q => absurd hc q⟩
  | succ k ih =>
    intro f i M F hf hi hM hF h32
    obtain ⟨g, rfl⟩ : ∃ g, f = g + 1 := ⟨f - 1, by omega⟩
    have hc : ¬ (16 : Int32) ≤ nI i := nI_ge (b := 16) (by omega) (by omega)
    obtain ⟨M1, a1, a2, a3, a4, a5⟩ := few26 (hA i (by omega)) ha (show i < 16 by omega) (mX5_fewestThatSee_18 g) (PX5_fewestThatSee_18 g) (a + 1) 400 0 M F (by omega) (by omega) hM hF (h32 i (by omega))
    obtain ⟨M', b1, b2, b3, b4⟩ := ih g (i + 1) M1 (pas (A i) (a + 1) 0 F) (by omega) (by omega) a3 a4 (fun h hh => by rw [a5 32 (by decide)]; exact h32 h hh)
    refine ⟨M', ?_, ?_, b3, fun q hq => (b4 q hq).trans (a5 q hq)⟩
    · rw [mX5_fewestThatSee_18, if_neg hc, fwF]
      exact a1.trans b1
    · rw [PX5_fewestThatSee_18]
      exact ⟨fun y => absurd y hc, fun _ => a2 b2⟩
/-! the reference's way -/
def mi (S A : Nat) : Nat := S &&& (A ^^^ 4294967295)
theorem tb32 {j : Nat} (hj : j < 32) : Nat.testBit 4294967295 j = true := by
  rw [show (4294967295 : Nat) = 2 ^ 32 - 1 from rfl, Nat.testBit_two_pow_sub_one]
  exact decide_eq_true hj
theorem mi_bit {S A j : Nat} (hS : S < 256) : (mi S A).testBit j = (S.testBit j && !A.testBit j) := by
  unfold mi
  rw [Nat.testBit_and, Nat.testBit_xor]
  by_cases hj : j < 32
  · rw [tb32 hj]
    cases S.testBit j <;> cases A.testBit j <;> rfl
  · have : S.testBit j = false := Nat.testBit_lt_two_pow (Nat.lt_of_lt_of_le hS (show 2 ^ 8 ≤ 2 ^ j from Nat.pow_le_pow_right (by decide) (by omega)))
    rw [this]
    rfl
theorem sub_iff {x T : Nat} : x &&& T = x ↔ ∀ j, x.testBit j = true → T.testBit j = true := by
  constructor
  · intro h j hj
    have := congrArg (fun z => z.testBit j) h
    simp only [Nat.testBit_and, hj, Bool.true_and] at this
    exact this
  · intro h
    apply Nat.eq_of_testBit_eq
    intro j
    rw [Nat.testBit_and]
    cases hx : x.testBit j with
    | false => rfl
    | true => rw [h j hx]; rfl
theorem and0_iff {x T : Nat} : x &&& T = 0 ↔ ∀ j, x.testBit j = true → T.testBit j = false := by
  constructor
  · intro h j hj
    have := congrArg (fun z => z.testBit j) h
    simp only [Nat.testBit_and, hj, Bool.true_and, Nat.zero_testBit] at this
    exact this
  · intro h
    apply Nat.eq_of_testBit_eq
    intro j
    rw [Nat.testBit_and, Nat.zero_testBit]
    cases hx : x.testBit j with
    | false => rfl
    | true => rw [h j hx]; rfl
theorem mi_lt {S A : Nat} (hS : S < 256) (h : ¬ S &&& A = 0) : mi S A < S := by
  have h1 : mi S A ≤ S := Nat.and_le_left
  rcases Nat.lt_or_eq_of_le h1 with q | q
  · exact q
  · refine absurd (and0_iff.mpr (fun j hj => ?_)) h
    have := mi_bit (A := A) (j := j) hS
    rw [q, hj] at this
    cases hA : A.testBit j with
    | false => rfl
    | true => rw [hA] at this; cases this
def rin (A : Nat → Nat) (S : Nat) : Nat → Nat → (Nat → Nat) → (Nat → Nat)
  | 0, _, G => G
  | k + 1, h, G => rin A S k (h + 1) (if S &&& A h = 0 then G else updN G S (min (G S) (1 + G (mi S (A h)))))
theorem rin_ne {A : Nat → Nat} {S x : Nat} (hx : x ≠ S) : ∀ (k h : Nat) (G : Nat → Nat), rin A S k h G x = G x := by
  intro k
  induction k with
  | zero => intro h G; rfl
  | succ k ih =>
    intro h G
    rw [rin, ih]
    by_cases q : S &&& A h = 0
    · rw [if_pos q]
    · rw [if_neg q, updN_ne hx]
theorem rin_val {A : Nat → Nat} {S : Nat} (hS : S < 256) : ∀ (k h : Nat) (G : Nat → Nat), rin A S k h G S ≤ G S ∧ (∀ h', h ≤ h' → h' < h + k → ¬ S &&& A h' = 0 → rin A S k h G S ≤ 1 + G (mi S (A h'))) ∧ (rin A S k h G S = G S ∨ ∃ h', h ≤ h' ∧ h' < h + k ∧ ¬ S &&& A h' = 0 ∧ rin A S k h G S = 1 + G (mi S (A h'))) := by
  intro k
  induction k with
  | zero => intro h G; exact ⟨Nat.le_refl _, fun h' h1 h2 => by omega, Or.inl rfl⟩
  | succ k ih =>
    intro h G
    rw [rin]
    by_cases q : S &&& A h = 0
    · rw [if_pos q]
      obtain ⟨a1, a2, a3⟩ := ih (h + 1) G
      refine ⟨a1, fun h' h1 h2 h3 => ?_, ?_⟩
      · by_cases e : h' = h
        · subst e; exact absurd q h3
        · exact a2 h' (by omega) (by omega) h3
      · rcases a3 with e | ⟨h', h1, h2, h3, h4⟩
        · exact Or.inl e
        · exact Or.inr ⟨h', by omega, by omega, h3, h4⟩
    · rw [if_neg q]
      obtain ⟨a1, a2, a3⟩ := ih (h + 1) (updN G S (min (G S) (1 + G (mi S (A h)))))
      rw [updN_at] at a1 a3
      have ne : ∀ h', ¬ S &&& A h' = 0 → updN G S (min (G S) (1 + G (mi S (A h)))) (mi S (A h')) = G (mi S (A h')) := fun h' hq => updN_ne (by have := mi_lt hS hq; omega)
      refine ⟨Nat.le_trans a1 (Nat.min_le_left _ _), fun h' h1 h2 h3 => ?_, ?_⟩
      · by_cases e : h' = h
        · subst e; exact Nat.le_trans a1 (Nat.min_le_right _ _)
        · have := a2 h' (by omega) (by omega) h3
          rw [ne h' h3] at this
          exact this
      · rcases a3 with e | ⟨h', h1, h2, h3, h4⟩
        · by_cases z : G S ≤ 1 + G (mi S (A h))
          · exact Or.inl (e.trans (Nat.min_eq_left z))
          · exact Or.inr ⟨h, Nat.le_refl _, by omega, q, e.trans (Nat.min_eq_right (by omega))⟩
        · rw [ne h' h3] at h4
          exact Or.inr ⟨h', by omega, by omega, h3, h4⟩
def rou (A : Nat → Nat) : Nat → Nat → (Nat → Nat) → (Nat → Nat)
  | 0, _, G => G
  | k + 1, S, G => rou A k (S + 1) (rin A S 16 0 (updN G S 100))
def RI (A : Nat → Nat) (S : Nat) (G : Nat → Nat) : Prop := ∀ x, x < S → (∀ T c, Dv A c T → x &&& T = x → G x ≤ c) ∧ (G x < 100 → ∃ T, Dv A (G x) T ∧ x &&& T = x)
theorem RI_step {A : Nat → Nat} {S : Nat} {G : Nat → Nat} (h1 : 1 ≤ S) (hS : S < 256) (h : RI A S G) : RI A (S + 1) (rin A S 16 0 (updN G S 100)) := by
  obtain ⟨v1, v2, v3⟩ := rin_val (A := A) hS 16 0 (updN G S 100)
  have ne : ∀ h', ¬ S &&& A h' = 0 → updN G S 100 (mi S (A h')) = G (mi S (A h')) := fun h' hq => updN_ne (by have := mi_lt hS hq; omega)
  intro x hx
  by_cases e : x = S
  · subst e
    constructor
    · intro T c
      induction c generalizing T with
      | zero =>
        intro hd hs
        have h0 : T = 0 := hd
        rw [h0, Nat.and_zero] at hs
        omega
      | succ c ih =>
        rintro ⟨T0, hh, d1, d2, rfl⟩ hs
        have hsb := sub_iff.mp hs
        by_cases q : x &&& A hh = 0
        · have q' := and0_iff.mp q
          have : x &&& T0 = x := sub_iff.mpr (fun j hj => by
            have h2 := hsb j hj
            rw [Nat.testBit_or, q' j hj, Bool.or_false] at h2
            exact h2)
          exact Nat.le_succ_of_le (ih T0 d1 this)
        · have h3 := v2 hh (Nat.zero_le _) (by omega) q
          rw [ne hh q] at h3
          have h4 : mi x (A hh) &&& T0 = mi x (A hh) := sub_iff.mpr (fun j hj => by
            rw [mi_bit hS, Bool.and_eq_true] at hj
            have h2 := hsb j hj.1
            rw [Nat.testBit_or] at h2
            cases hA : (A hh).testBit j with
            | true => rw [hA] at hj; cases hj.2
            | false => rw [hA, Bool.or_false] at h2; exact h2)
          have h5 := (h (mi x (A hh)) (mi_lt hS q)).1 T0 c d1 h4
          omega
    · intro hlt
      rcases v3 with e | ⟨h', h1', h2', h3', h4'⟩
      · rw [updN_at] at e
        omega
      · rw [ne h' h3'] at h4'
        obtain ⟨T, t1, t2⟩ := (h (mi x (A h')) (mi_lt hS h3')).2 (by omega)
        refine ⟨T ||| A h', ?_, sub_iff.mpr (fun j hj => ?_)⟩
        · rw [h4', Nat.add_comm]
          exact ⟨T, h', t1, by omega, rfl⟩
        · rw [Nat.testBit_or]
          cases hA : (A h').testBit j with
          | true => exact Bool.or_true _
          | false =>
            rw [Bool.or_false]
            refine sub_iff.mp t2 j ?_
            rw [mi_bit hS, hj, hA]
            rfl
  · rw [rin_ne e, updN_ne e]
    exact h x (by omega)
theorem rou_RI {A : Nat → Nat} {E : Nat} (hE : E ≤ 256) : ∀ (k S : Nat) (G : Nat → Nat), S + k = E → 1 ≤ S → RI A S G → RI A E (rou A k S G) := by
  intro k
  induction k with
  | zero =>
    intro S G hS _ h
    obtain rfl : S = E := by omega
    exact h
  | succ k ih =>
    intro S G hS h1 h
    rw [rou]
    exact ih (S + 1) _ (by omega) (by omega) (RI_step h1 (by omega) h)
theorem rin_100 {A : Nat → Nat} {S : Nat} (hS : S < 256) {G : Nat → Nat} (hG : ∀ x, G x ≤ 100) (k h : Nat) : ∀ x, rin A S k h G x ≤ 100 := by
  intro x
  by_cases e : x = S
  · subst e; exact Nat.le_trans (rin_val hS k h G).1 (hG x)
  · rw [rin_ne e]; exact hG x
theorem sn140 {A : Nat → Nat} {S : Nat} (hA : ∀ h, h < 16 → A h < 256) (hS : S < 256) (kf : Int32 → Mem → Int32 × Mem) (kP : Int32 → Mem → Prop) : ∀ (k f h : Nat) (N : Mem) (G : Nat → Nat), k < f → h + k = 16 → (∀ x, x ≤ S → N 55 x = nI (G x)) → (∀ x, G x ≤ 100) → (∀ h, h < 16 → N 54 h = nI (A h)) →
    ∃ N', mX6_seen_140 kf f (nI S) (nI h) N = kf (nI (S + 1)) N' ∧ (kP (nI (S + 1)) N' → PX6_seen_140 kP f (nI S) (nI h) N) ∧ (∀ x, x ≤ S → N' 55 x = nI (rin A S k h G x)) ∧ ∀ q, q ≠ 55 → N' q = N q := by
  have cS : (nI S).toNatClampNeg = S := nIc (by omega)
  have hS1 : nI S + 1 = nI (S + 1) := (nI_succ S).symm
  intro k
  induction k with
  | zero =>
    intro f h N G hf hh hN hG h54
    obtain ⟨g, rfl⟩ : ∃ g, f = g + 1 := ⟨f - 1, by omega⟩
    have hc : (16 : Int32) ≤ nI h := nI_le (a := 16) (by omega) (by omega)
    refine ⟨N, ?_, ?_, hN, fun _ _ => rfl⟩
    · rw [mX6_seen_140, if_pos hc, hS1]
    · intro hp
      rw [PX6_seen_140, hS1]
      exact ⟨fun _ => hp, fun q => absurd hc q⟩
  | succ k ih =>
    intro f h N G hf hh hN hG h54
    obtain ⟨g, rfl⟩ : ∃ g, f = g + 1 := ⟨f - 1, by omega⟩
    have hc : ¬ (16 : Int32) ≤ nI h := nI_ge (b := 16) (by omega) (by omega)
    have h1 : nI h + 1 = nI (h + 1) := (nI_succ h).symm
    have ch : (nI h).toNatClampNeg = h := nIc (by omega)
    have hAh := hA h (by omega)
    have e0 : (nI S &&& nI (A h) = 0) ↔ S &&& A h = 0 := by
      rw [nI_and]
      exact nI_inj (b := 0) (by have : S &&& A h ≤ S := Nat.and_le_left; omega) (by decide)
    have em : nI S &&& (nI (A h) ^^^ (-1)) = nI (mi S (A h)) := by
      rw [show (-1 : Int32) = nI 4294967295 by decide, nI_xor, nI_and]
      rfl
    have ml : mi S (A h) ≤ S := Nat.and_le_left
    have cm : (nI (mi S (A h))).toNatClampNeg = mi S (A h) := nIc (by omega)
    rw [rin]
    by_cases q : S &&& A h = 0
    · rw [if_pos q]
      obtain ⟨N', a1, a2, a3, a4⟩ := ih g (h + 1) N G (by omega) (by omega) hN hG h54
      refine ⟨N', ?_, ?_, a3, a4⟩
      · rw [mX6_seen_140, if_neg hc, ch, h54 h (by omega), if_pos (e0.mpr q)]
        unfold mX6_seen_189
        rw [h1]
        exact a1
      · intro hp
        rw [PX6_seen_140, ch, h54 h (by omega)]
        refine ⟨fun y => absurd y hc, fun _ => ⟨vin (by omega) (by decide), fun _ => ?_, fun y => absurd (e0.mpr q) y⟩⟩
        unfold PX6_seen_189
        rw [h1]
        exact a2 hp
    · rw [if_neg q]
      have q' : ¬ nI S &&& nI (A h) = 0 := fun z => q (e0.mp z)
      have hg1 := hG S
      have hg2 := hG (mi S (A h))
      have ev : mX6_least (nI (G S)) (1 + nI (G (mi S (A h)))) = nI (min (G S) (1 + G (mi S (A h)))) := by
        rw [show (1 : Int32) + nI (G (mi S (A h))) = nI (1 + G (mi S (A h))) from nI_add 1 _]
        exact (min_n (by omega) (by omega)).2
      obtain ⟨N', a1, a2, a3, a4⟩ := ih g (h + 1) (upm N 55 S (nI (min (G S) (1 + G (mi S (A h)))))) (updN G S (min (G S) (1 + G (mi S (A h))))) (by omega) (by omega) (fun x hx => by
        rw [upm_at]
        by_cases e : x = S
        · rw [e, upd_at, updN_at]
        · rw [upd_ne e, updN_ne e]; exact hN x hx) (fun x => Nat.le_trans (updN_le (Nat.min_le_left _ _) x) (hG x)) (fun y hy => by rw [upm_ne (by decide)]; exact h54 y hy)
      refine ⟨N', ?_, ?_, a3, fun z hz => (a4 z hz).trans (upm_ne hz)⟩
      · rw [mX6_seen_140, if_neg hc, ch, h54 h (by omega), if_neg q', cS, em, cm, hN S (Nat.le_refl _), hN _ ml, ev]
        unfold mX6_seen_189
        rw [h1]
        exact a1
      · intro hp
        rw [PX6_seen_140, ch, h54 h (by omega), cS, em, cm, hN S (Nat.le_refl _), hN _ ml, ev]
        refine ⟨fun y => absurd y hc, fun _ => ⟨vin (by omega) (by decide), fun y => absurd y q', fun _ => ⟨vin hS (by decide), vin (by omega) (by decide), vin (by omega) (by decide), vin hS (by decide), ?_⟩⟩⟩
        unfold PX6_seen_189
        rw [h1]
        exact a2 hp
theorem two_n : ∀ n, n < 9 → (1 : Int32) <<< (nI n &&& 31) = nI (2 ^ n) ∧ nI (2 ^ n) - 1 = nI (2 ^ n - 1) ∧ 2 ^ n ≤ 256 ∧ 1 ≤ 2 ^ n := by decide
theorem sn118 {A : Nat → Nat} {n : Nat} (hn : n ≤ 8) (hA : ∀ h, h < 16 → A h < 256) : ∀ (k f S : Nat) (N : Mem) (G : Nat → Nat), k < f → S + k = 2 ^ n → 1 ≤ S → N 47 0 = nI n → (∀ x, x < S → N 55 x = nI (G x)) → (∀ x, G x ≤ 100) → (∀ h, h < 16 → N 54 h = nI (A h)) →
    ∃ N', mX6_seen_118 f (nI S) N = (nI (rou A k S G (2 ^ n - 1)), N') ∧ PX6_seen_118 f (nI S) N ∧ ∀ q, q ≠ 55 → N' q = N q := by
  obtain ⟨t1, t2, t3, t4⟩ := two_n n (by omega)
  intro k
  induction k with
  | zero =>
    intro f S N G hf hS h1 h47 hN hG h54
    obtain ⟨g, rfl⟩ : ∃ g, f = g + 1 := ⟨f - 1, by omega⟩
    have hc : nI (2 ^ n) ≤ nI S := nI_le (by omega) (by omega)
    refine ⟨N, ?_, ?_, fun _ _ => rfl⟩
    · rw [mX6_seen_118, h47, t1, if_pos hc, t2, nIc (by omega), hN _ (by omega)]
      rfl
    · rw [PX6_seen_118, h47, t1, t2]
      exact ⟨fun _ => vin (by omega) (by decide), fun q => absurd hc q⟩
  | succ k ih =>
    intro f S N G hf hS h1 h47 hN hG h54
    obtain ⟨g, rfl⟩ : ∃ g, f = g + 1 := ⟨f - 1, by omega⟩
    have hc : ¬ nI (2 ^ n) ≤ nI S := nI_ge (by omega) (by omega)
    have hS256 : S < 256 := by omega
    have hG1 : ∀ x, updN G S 100 x ≤ 100 := fun x => by
      by_cases e : x = S
      · rw [e, updN_at]; exact Nat.le_refl _
      · rw [updN_ne e]; exact hG x
    obtain ⟨N1, a1, a2, a3, a4⟩ := sn140 hA hS256 (mX6_seen_118 g) (PX6_seen_118 g) 16 400 0 (upm N 55 S 100) (updN G S 100) (by decide) (by decide) (fun x hx => by
      rw [upm_at]
      by_cases e : x = S
      · rw [e, upd_at, updN_at]; rfl
      · rw [upd_ne e, updN_ne e]; exact hN x (by omega)) hG1 (fun h hh => by rw [upm_ne (by decide)]; exact h54 h hh)
    have fr : ∀ q, q ≠ 55 → N1 q = N q := fun q hq => (a4 q hq).trans (upm_ne hq)
    obtain ⟨N', b1, b2, b3⟩ := ih g (S + 1) N1 (rin A S 16 0 (updN G S 100)) (by omega) (by omega) (by omega) (by rw [fr 47 (by decide)]; exact h47) (fun x hx => a3 x (by omega)) (rin_100 hS256 hG1 16 0) (fun h hh => by rw [fr 54 (by decide)]; exact h54 h hh)
    refine ⟨N', ?_, ?_, fun q hq => (b3 q hq).trans (fr q hq)⟩
    · rw [mX6_seen_118, h47, t1, if_neg hc, nIc (by omega), rou]
      exact a1.trans b1
    · rw [PX6_seen_118, h47, t1, nIc (by omega)]
      exact ⟨fun y => absurd y hc, fun _ => ⟨vin hS256 (by decide), a2 b2⟩⟩
/-- both ways find the same -/
theorem cover_eq {A : Nat → Nat} {n a : Nat} (hA : ∀ h, h < 16 → A h < 2 ^ n) (ha : a + 1 = 2 ^ n) (hn : n ≤ 8) (hw : ∀ o, o < n → ∃ h, h < 16 ∧ (A h).testBit o = true) :
    fwF A a 16 0 (fun x => if x = 0 then 0 else 16) a = rou A (2 ^ n - 1) 1 (fun _ => 0) (2 ^ n - 1) := by
  obtain ⟨t1, t2, t3, t4⟩ := two_n n (by omega)
  have ea : 2 ^ n - 1 = a := by omega
  have full : ∀ T, T < 2 ^ n → a &&& T = a → T = a := by
    intro T hT h
    rw [← ea, Nat.and_comm, Nat.and_two_pow_sub_one_eq_mod, Nat.mod_eq_of_lt hT] at h
    rw [h]
    exact ea
  have ex : ∀ m, m ≤ n → ∃ T, Dv A m T ∧ ∀ j, j < m → T.testBit j = true := by
    intro m
    induction m with
    | zero => intro _; exact ⟨0, rfl, fun j hj => by omega⟩
    | succ m ih =>
      intro hm
      obtain ⟨T, h1, h2⟩ := ih (by omega)
      obtain ⟨h, hh, hb⟩ := hw m (by omega)
      refine ⟨T ||| A h, ⟨T, h, h1, hh, rfl⟩, fun j hj => ?_⟩
      rw [Nat.testBit_or]
      by_cases e : j = m
      · rw [e, hb, Bool.or_true]
      · rw [h2 j (by omega)]; rfl
  obtain ⟨T, hT1, hT2⟩ := ex n (Nat.le_refl _)
  have sT : a &&& T = a := sub_iff.mpr (fun j hj => by
    refine hT2 j ?_
    rw [← ea, Nat.testBit_two_pow_sub_one] at hj
    exact of_decide_eq_true hj)
  have eT : T = a := full T (Dv_lt hA n T hT1) sT
  rw [eT] at hT1
  have hRI : RI A (2 ^ n) (rou A (2 ^ n - 1) 1 (fun _ => 0)) := rou_RI t3 (2 ^ n - 1) 1 _ (by omega) (by decide) (by
    intro x hx
    obtain rfl : x = 0 := by omega
    exact ⟨fun T c _ _ => Nat.zero_le _, fun _ => ⟨0, rfl, rfl⟩⟩)
  obtain ⟨r1, r2⟩ := hRI a (by omega)
  rw [ea] at r1 r2 ⊢
  have g1 := r1 a n hT1 (Nat.and_self a)
  obtain ⟨T', d1, d2⟩ := r2 (by omega)
  have eT' := full T' (Dv_lt hA _ T' d1) d2
  rw [eT'] at d1
  obtain ⟨k', k1, k2⟩ := Dv_Cv _ a d1
  have f1 := fw_cv hA ha 16 0 (fun x => if x = 0 then 0 else 16) (by decide) (by
    rintro S c ⟨rfl, rfl⟩
    exact Nat.le_refl _) a k' k2
  have f2 := fw_dv (A := A) (a := a) 16 0 (fun x => if x = 0 then 0 else 16) (by decide) (by
    intro x hx
    by_cases e : x = 0
    · subst e; rfl
    · rw [if_neg e] at hx; omega) a (by omega)
  have f3 := r1 a _ f2 (Nat.and_self a)
  omega
/-! from which house which are seen -/
def SB (w : Nat → Nat → Nat) (B : Nat → Nat) (Q : Nat → Nat → Prop) : Prop := ∀ h, h < 16 → B h < 256 ∧ ∀ j, (B h).testBit j = true ↔ ∃ i, Q i j ∧ w i j = h
theorem SB.add {w : Nat → Nat → Nat} {B : Nat → Nat} {Q : Nat → Nat → Prop} {i o : Nat} (hS : SB w B Q) (ho : o < 8) : SB w (updN B (w i o) (B (w i o) ||| 2 ^ o)) (fun a b => Q a b ∨ (a = i ∧ b = o)) := by
  intro h hh
  obtain ⟨b1, b2⟩ := hS h hh
  have hp : 2 ^ o < 2 ^ 8 := Nat.pow_lt_pow_right (by decide) ho
  by_cases e : h = w i o
  · subst e
    rw [updN_at]
    refine ⟨or_lt (k := 8) b1 hp, fun j => ?_⟩
    rw [Nat.testBit_or, Bool.or_eq_true, b2 j, Nat.testBit_two_pow, decide_eq_true_iff]
    constructor
    · rintro (⟨i', q1, q2⟩ | rfl)
      · exact ⟨i', Or.inl q1, q2⟩
      · exact ⟨i, Or.inr ⟨rfl, rfl⟩, rfl⟩
    · rintro ⟨i', q1 | ⟨rfl, rfl⟩, q2⟩
      · exact Or.inl ⟨i', q1, q2⟩
      · exact Or.inr rfl
  · rw [updN_ne e]
    refine ⟨b1, fun j => ?_⟩
    rw [b2 j]
    constructor
    · rintro ⟨i', q1, q2⟩
      exact ⟨i', Or.inl q1, q2⟩
    · rintro ⟨i', q1 | ⟨rfl, rfl⟩, q2⟩
      · exact ⟨i', q1, q2⟩
      · exact absurd q2.symm e
theorem SB.of {w : Nat → Nat → Nat} {B : Nat → Nat} {Q Q' : Nat → Nat → Prop} (hS : SB w B Q) (h : ∀ a b, Q a b ↔ Q' a b) : SB w B Q' := by
  intro k hk
  obtain ⟨b1, b2⟩ := hS k hk
  refine ⟨b1, fun j => (b2 j).trans ?_⟩
  constructor
  · rintro ⟨i, q1, q2⟩; exact ⟨i, (h i j).mp q1, q2⟩
  · rintro ⟨i, q1, q2⟩; exact ⟨i, (h i j).mpr q1, q2⟩
theorem SB.zero {w : Nat → Nat → Nat} {Q : Nat → Nat → Prop} (hQ : ∀ a b, ¬ Q a b) : SB w (fun _ => 0) Q := by
  intro h hh
  show 0 < 256 ∧ ∀ j, Nat.testBit 0 j = true ↔ ∃ i, Q i j ∧ w i j = h
  refine ⟨by decide, fun j => ?_⟩
  rw [Nat.zero_testBit]
  exact ⟨fun q => (by cases q), fun ⟨i, q, _⟩ => absurd q (hQ i j)⟩
theorem SB.same {w : Nat → Nat → Nat} {B B' : Nat → Nat} {Q : Nat → Nat → Prop} (h1 : SB w B Q) (h2 : SB w B' Q) : ∀ h, h < 16 → B h = B' h := by
  intro h hh
  apply Nat.eq_of_testBit_eq
  intro j
  have a1 := (h1 h hh).2 j
  have a2 := (h2 h hh).2 j
  cases x : (B h).testBit j with
  | true => exact (a2.mpr (a1.mp x)).symm
  | false =>
    cases y : (B' h).testBit j with
    | true => rw [a1.mpr (a2.mp y)] at x; cases x
    | false => rfl
theorem sb_add {p i o : Nat} {w : Nat → Nat → Nat} {B : Nat → Nat} {M : Mem} (hM : ∀ h, h < 16 → M p h = nI (B h)) (hw : w i o < 16) : ∀ h, h < 16 → upm M p (w i o) (nI (B (w i o) ||| 2 ^ o)) p h = nI (updN B (w i o) (B (w i o) ||| 2 ^ o) h) := by
  intro h hh
  rw [upm_at]
  by_cases e : h = w i o
  · rw [e, upd_at, updN_at]
  · rw [upd_ne e, updN_ne e]; exact hM h hh
theorem sn45 {w : Nat → Nat → Nat} {m o : Nat} (hm : m ≤ 30) (ho : o < 8) (hw : ∀ i, w i o < 16) (kf : Int32 → Int32 → Mem → Int32 × Mem) (kP : Int32 → Int32 → Mem → Prop) : ∀ (k f i : Nat) (M : Mem) (B : Nat → Nat) (Q : Nat → Nat → Prop), k < f → i + k = m + 1 → (∀ h, h < 16 → M 32 h = nI (B h)) → SB w B Q → (∀ j, j ≤ m → M 29 j = nI (w j o)) →
    ∃ M' B', mX5_seen_45 kf f (nI m) (nI o) (nI i) M = kf (nI m) (nI (o + 1)) M' ∧ (kP (nI m) (nI (o + 1)) M' → PX5_seen_45 kP f (nI m) (nI o) (nI i) M) ∧ (∀ h, h < 16 → M' 32 h = nI (B' h)) ∧ SB w B' (fun a b => Q a b ∨ (b = o ∧ i ≤ a ∧ a ≤ m)) ∧ ∀ q, q ≠ 32 → M' q = M q := by
  intro k
  induction k with
  | zero =>
    intro f i M B Q hf hi hM hS h29
    obtain ⟨g, rfl⟩ : ∃ g, f = g + 1 := ⟨f - 1, by omega⟩
    have hc : nI m < nI i := nI_lt (by omega) (by omega)
    have h1 : nI o + 1 = nI (o + 1) := (nI_succ o).symm
    refine ⟨M, B, ?_, ?_, hM, hS.of (fun a b => ⟨Or.inl, fun q => q.elim id (fun q => by omega)⟩), fun _ _ => rfl⟩
    · rw [mX5_seen_45, if_pos hc, h1]
    · intro hp
      rw [PX5_seen_45, h1]
      exact ⟨fun _ => hp, fun q => absurd hc q⟩
  | succ k ih =>
    intro f i M B Q hf hi hM hS h29
    obtain ⟨g, rfl⟩ : ∃ g, f = g + 1 := ⟨f - 1, by omega⟩
    have hc : ¬ nI m < nI i := nI_nlt (by omega) (by omega)
    have h1 : nI i + 1 = nI (i + 1) := (nI_succ i).symm
    have ci : (nI i).toNatClampNeg = i := nIc (by omega)
    have hwi := hw i
    have cw : (nI (w i o)).toNatClampNeg = w i o := nIc (by omega)
    have vw : vp_in (nI (w i o)) 16 := vin hwi (by decide)
    obtain ⟨M', B', a1, a2, a3, a4, a5⟩ := ih g (i + 1) (upm M 32 (w i o) (nI (B (w i o) ||| 2 ^ o))) (updN B (w i o) (B (w i o) ||| 2 ^ o)) _ (by omega) (by omega) (sb_add hM hwi) (hS.add (i := i) ho) (fun j hj => by rw [upm_ne (by decide)]; exact h29 j hj)
    refine ⟨M', B', ?_, ?_, a3, a4.of (fun a b => ?_), fun q hq => (a5 q hq).trans (upm_ne hq)⟩
    · rw [mX5_seen_45, if_neg hc, ci, h29 i (by omega), cw, hM _ hwi, bit1 o (by omega), nI_or, h1]
      exact a1
    · intro hp
      rw [PX5_seen_45, ci, h29 i (by omega), cw, hM _ hwi, bit1 o (by omega), nI_or, h1]
      exact ⟨fun y => absurd y hc, fun _ => ⟨vin (by omega) (by decide), vw, vw, a2 hp⟩⟩
    · constructor
      · rintro ((q | ⟨rfl, rfl⟩) | ⟨q1, q2, q3⟩)
        · exact Or.inl q
        · exact Or.inr ⟨rfl, Nat.le_refl _, by omega⟩
        · exact Or.inr ⟨q1, by omega, q3⟩
      · rintro (q | ⟨q1, q2, q3⟩)
        · exact Or.inl (Or.inl q)
        · by_cases e : a = i
          · exact Or.inl (Or.inr ⟨e, q1⟩)
          · exact Or.inr ⟨q1, by omega, q3⟩
theorem sn22 {s : Nat → Int32} {w : Nat → Nat → Nat} {n m : Nat} (hm : m ≤ 30) (hw : ∀ i o, o < n → w i o < 16 ∧ stepsS s n i (24 + 4 * o + 3) = nI (w i o)) : ∀ (k f o : Nat) (M : Mem) (B : Nat → Nat), k < f → o + k = n → R M 1 s n → (∀ h, h < 16 → M 32 h = nI (B h)) → SB w B (fun a b => b < o ∧ a ≤ m) →
    ∃ M' B', mX5_seen_22 f (nI m) (nI o) M = mX5_fewestThatSee (nI (2 ^ n - 1)) M' ∧ (PX5_fewestThatSee (nI (2 ^ n - 1)) M' → PX5_seen_22 f (nI m) (nI o) M) ∧ (∀ h, h < 16 → M' 32 h = nI (B' h)) ∧ SB w B' (fun a b => b < n ∧ a ≤ m) ∧ ∀ q, (q < 15 ∨ 21 < q) → q ≠ 29 → q ≠ 32 → M' q = M q := by
  intro k
  induction k with
  | zero =>
    intro f o M B hf ho hR hM hS
    obtain ⟨g, rfl⟩ : ∃ g, f = g + 1 := ⟨f - 1, by omega⟩
    have hn := hR.1
    obtain rfl : o = n := by omega
    obtain ⟨t1, t2, t3, t4⟩ := two_n o (by omega)
    have h16 : M 1 6 = nI o := hR.2.1.1
    have hc : M 1 6 ≤ nI o := by rw [h16]; exact nI_le (Nat.le_refl _) (by omega)
    refine ⟨M, B, ?_, ?_, hM, hS, fun _ _ _ _ => rfl⟩
    · rw [mX5_seen_22, if_pos hc, h16, t1, t2]
    · intro hp
      rw [PX5_seen_22, h16, t1, t2]
      rw [h16] at hc
      exact ⟨fun _ => hp, fun q => absurd hc q⟩
  | succ k ih =>
    intro f o M B hf ho hR hM hS
    obtain ⟨g, rfl⟩ : ∃ g, f = g + 1 := ⟨f - 1, by omega⟩
    have hn := hR.1
    have hc : ¬ M 1 6 ≤ nI o := by rw [hR.2.1.1]; exact nI_ge (by omega) (by omega)
    obtain ⟨t1, t2, t3⟩ := tryWalk_eq (p := 29) (m := m) (Or.inl rfl) (show o < n by omega) (by omega) hR
    obtain ⟨M1, e1⟩ : ∃ y, y = mX5_tryWalk 29 61 (nI o) (nI m) M := ⟨_, rfl⟩
    rw [← e1] at t1 t2
    obtain ⟨M2, B2, a1, a2, a3, a4, a5⟩ := sn45 (w := w) (o := o) hm (by omega) (fun i => (hw i o (by omega)).1) (mX5_seen_22 g) (PX5_seen_22 g) (m + 1) 400 0 M1 B _ (by omega) (by omega) (fun h hh => by rw [t2 32 (by omega) (by decide)]; exact hM h hh) hS (fun j hj => (t1 j hj).trans (hw j o (by omega)).2)
    have fr : ∀ q, (q < 15 ∨ 21 < q) → q ≠ 29 → q ≠ 32 → M2 q = M q := fun q h1 h2 h3 => (a5 q h3).trans (t2 q h1 h2)
    obtain ⟨M', B', b1, b2, b3, b4, b5⟩ := ih g (o + 1) M2 B2 (by omega) (by omega) (hR.congr (fun j hj => fr _ (by omega) (by omega) (by omega)) (fun _ _ => rfl)) a3 (a4.of (fun a b => by
      constructor
      · rintro (⟨q1, q2⟩ | ⟨rfl, _, q3⟩)
        · exact ⟨by omega, q2⟩
        · exact ⟨by omega, q3⟩
      · rintro ⟨q1, q2⟩
        by_cases e : b = o
        · exact Or.inr ⟨e, Nat.zero_le _, q2⟩
        · exact Or.inl ⟨by omega, q2⟩))
    refine ⟨M', B', ?_, ?_, b3, b4, fun q h1 h2 h3 => (b5 q h1 h2 h3).trans (fr q h1 h2 h3)⟩
    · rw [mX5_seen_22, if_neg hc, ← e1]
      exact a1.trans b1
    · intro hp
      rw [PX5_seen_22]
      refine ⟨fun y => absurd y hc, fun _ => ⟨t3, ?_⟩⟩
      rw [← e1]
      exact a2 (b2 hp)
theorem sn55 {u : Nat → Int32} {w : Nat → Nat → Nat} {n m i : Nat} (hG : GS u n) (hw : ∀ o, o < n → w i o < 16 ∧ u (24 + 4 * o + 3) = nI (w i o)) (kf : Int32 → Int32 → Mem → Int32 × Mem) (kP : Int32 → Int32 → Mem → Prop) : ∀ (k f o : Nat) (N : Mem) (B : Nat → Nat) (Q : Nat → Nat → Prop), k < f → o + k = n → N 47 = u → (∀ h, h < 16 → N 54 h = nI (B h)) → SB w B Q →
    ∃ N' B', mX6_seen_55 kf f (nI m) (nI i) (nI o) N = kf (nI m) (nI (i + 1)) (mX6_goesOn N') ∧ (PX6_goesOn N' → kP (nI m) (nI (i + 1)) (mX6_goesOn N') → PX6_seen_55 kP f (nI m) (nI i) (nI o) N) ∧ (∀ h, h < 16 → N' 54 h = nI (B' h)) ∧ SB w B' (fun a b => Q a b ∨ (a = i ∧ o ≤ b ∧ b < n)) ∧ ∀ q, q ≠ 54 → N' q = N q := by
  have hn := hG.1
  have h1 : nI i + 1 = nI (i + 1) := (nI_succ i).symm
  intro k
  induction k with
  | zero =>
    intro f o N B Q hf ho h47 hN hS
    obtain ⟨g, rfl⟩ : ∃ g, f = g + 1 := ⟨f - 1, by omega⟩
    have hc : N 47 0 ≤ nI o := by rw [h47, hG.2.1]; exact nI_le (by omega) (by omega)
    refine ⟨N, B, ?_, ?_, hN, hS.of (fun a b => ⟨Or.inl, fun q => q.elim id (fun q => by omega)⟩), fun _ _ => rfl⟩
    · rw [mX6_seen_55, if_pos hc]
      unfold mX6_seen_92
      rw [h1]
    · intro hg hp
      rw [PX6_seen_55]
      unfold PX6_seen_92
      rw [h1]
      exact ⟨fun _ => ⟨hg, hp⟩, fun q => absurd hc q⟩
  | succ k ih =>
    intro f o N B Q hf ho h47 hN hS
    obtain ⟨g, rfl⟩ : ∃ g, f = g + 1 := ⟨f - 1, by omega⟩
    have hc : ¬ N 47 0 ≤ nI o := by rw [h47, hG.2.1]; exact nI_ge (by omega) (by omega)
    have ho1 : nI o + 1 = nI (o + 1) := (nI_succ o).symm
    have h8 : o < 8 := by omega
    obtain ⟨hwi, ew⟩ := hw o (by omega)
    have ei : mX6_its (nI o) 3 N = nI (w i o) := by rw [its3 h8, h47, ew]
    have cw : (nI (w i o)).toNatClampNeg = w i o := nIc (by omega)
    have vw : vp_in (nI (w i o)) 16 := vin hwi (by decide)
    obtain ⟨N', B', a1, a2, a3, a4, a5⟩ := ih g (o + 1) (upm N 54 (w i o) (nI (B (w i o) ||| 2 ^ o))) (updN B (w i o) (B (w i o) ||| 2 ^ o)) _ (by omega) (by omega) (by rw [upm_ne (by decide)]; exact h47) (sb_add hN hwi) (hS.add (i := i) h8)
    refine ⟨N', B', ?_, ?_, a3, a4.of (fun a b => ?_), fun q hq => (a5 q hq).trans (upm_ne hq)⟩
    · rw [mX6_seen_55, if_neg hc, ei, cw, hN _ hwi, bit1 o (by omega), nI_or, ho1]
      exact a1
    · intro hg hp
      rw [PX6_seen_55, ei, cw, hN _ hwi, bit1 o (by omega), nI_or, ho1]
      exact ⟨fun y => absurd y hc, fun _ => ⟨pits3 h8, vw, vw, a2 hg hp⟩⟩
    · constructor
      · rintro ((q | ⟨rfl, rfl⟩) | ⟨q1, q2, q3⟩)
        · exact Or.inl q
        · exact Or.inr ⟨rfl, Nat.le_refl _, by omega⟩
        · exact Or.inr ⟨q1, by omega, q3⟩
      · rintro (q | ⟨q1, q2, q3⟩)
        · exact Or.inl (Or.inl q)
        · by_cases e : b = o
          · exact Or.inl (Or.inr ⟨q1, e⟩)
          · exact Or.inr ⟨q1, by omega, q3⟩
theorem sn48 {s : Nat → Int32} {w : Nat → Nat → Nat} {n m : Nat} (hG : GS s n) (hm : m ≤ 30) (hw : ∀ i o, o < n → w i o < 16 ∧ stepsS s n i (24 + 4 * o + 3) = nI (w i o)) : ∀ (k f i : Nat) (N : Mem) (B : Nat → Nat), k < f → i + k = m + 1 → N 47 = stepsS s n i → (∀ j, j < 56 → N 49 j = s j) → (∀ h, h < 16 → N 54 h = nI (B h)) → SB w B (fun a b => b < n ∧ a < i) →
    ∃ N' B', mX6_seen_48 f (nI m) (nI i) N = mX6_seen_109 N' ∧ (PX6_seen_109 N' → PX6_seen_48 f (nI m) (nI i) N) ∧ (∀ h, h < 16 → N' 54 h = nI (B' h)) ∧ SB w B' (fun a b => b < n ∧ a ≤ m) ∧ (∀ j, j < 56 → N' 47 j = s j) ∧ ∀ q, q ≠ 47 → q ≠ 54 → N' q = N q := by
  intro k
  induction k with
  | zero =>
    intro f i N B hf hi h47 h49 hN hS
    obtain ⟨g, rfl⟩ : ∃ g, f = g + 1 := ⟨f - 1, by omega⟩
    have hc : nI m < nI i := nI_lt (by omega) (by omega)
    have x := back_ex (s := s) (N := N) h49
    refine ⟨mX6_copyRow 49 56 47 56 N, B, ?_, ?_, fun h hh => by rw [x.2 54 (by decide)]; exact hN h hh, hS.of (fun a b => by omega), x.1, fun q h1 _ => x.2 q h1⟩
    · rw [mX6_seen_48, if_pos hc]
    · intro hp
      rw [PX6_seen_48]
      exact ⟨fun _ => ⟨(back_eq _).2, hp⟩, fun q => absurd hc q⟩
  | succ k ih =>
    intro f i N B hf hi h47 h49 hN hS
    obtain ⟨g, rfl⟩ : ∃ g, f = g + 1 := ⟨f - 1, by omega⟩
    have hn := hG.1
    have hc : ¬ nI m < nI i := nI_nlt (by omega) (by omega)
    obtain ⟨N1, B1, a1, a2, a3, a4, a5⟩ := sn55 (m := m) (hG.steps i) (hw i) (mX6_seen_48 g) (PX6_seen_48 g) n 400 0 N B _ (by omega) (by omega) h47 hN hS
    obtain ⟨g1, g2⟩ := goesOn_eq (N := N1) (hG.steps i) (by rw [a5 47 (by decide)]; exact h47)
    rw [← stepsS_succ] at g1
    obtain ⟨N2, e2⟩ : ∃ y, y = mX6_goesOn N1 := ⟨_, rfl⟩
    rw [← e2] at g1
    have f2 : ∀ q, q ≠ 47 → q ≠ 54 → N2 q = N q := fun q h1 h2 => by rw [g1, upr_ne h1, a5 q h2]
    obtain ⟨N', B', b1, b2, b3, b4, b5, b6⟩ := ih g (i + 1) N2 B1 (by omega) (by omega) (by rw [g1, upr_at]) (fun j hj => by rw [f2 49 (by decide) (by decide)]; exact h49 j hj) (fun h hh => by rw [g1, upr_ne (by decide)]; exact a3 h hh) (a4.of (fun a b => by omega))
    refine ⟨N', B', ?_, ?_, b3, b4, b5, fun q h1 h2 => (b6 q h1 h2).trans (f2 q h1 h2)⟩
    · rw [mX6_seen_48, if_neg hc]
      refine a1.trans ?_
      rw [← e2]
      exact b1
    · intro hp
      rw [PX6_seen_48]
      refine ⟨fun y => absurd y hc, fun _ => a2 g2 ?_⟩
      rw [← e2]
      exact b2 hp
theorem sn16 {m : Nat} : ∀ (k f i : Nat) (N : Mem), k < f → i + k = 16 →
    ∃ N', mX6_seen_16 f (nI m) (nI i) N = mX6_seen_46 (nI m) (mX6_copyRow 47 56 49 56 N') ∧ (PX6_copyRow 47 56 49 56 N' → PX6_seen_46 (nI m) (mX6_copyRow 47 56 49 56 N') → PX6_seen_16 f (nI m) (nI i) N) ∧ (∀ h, i ≤ h → h < 16 → N' 54 h = 0) ∧ (∀ h, h < i → N' 54 h = N 54 h) ∧ ∀ q, q ≠ 54 → N' q = N q := by
  intro k
  induction k with
  | zero =>
    intro f i N hf hi
    obtain ⟨g, rfl⟩ : ∃ g, f = g + 1 := ⟨f - 1, by omega⟩
    have hc : (16 : Int32) ≤ nI i := nI_le (a := 16) (by omega) (by omega)
    refine ⟨N, ?_, ?_, fun h h1 h2 => by omega, fun _ _ => rfl, fun _ _ => rfl⟩
    · rw [mX6_seen_16, if_pos hc]
    · intro h1 h2
      rw [PX6_seen_16]
      exact ⟨fun _ => ⟨h1, h2⟩, fun q => absurd hc q⟩
  | succ k ih =>
    intro f i N hf hi
    obtain ⟨g, rfl⟩ : ∃ g, f = g + 1 := ⟨f - 1, by omega⟩
    have hc : ¬ (16 : Int32) ≤ nI i := nI_ge (b := 16) (by omega) (by omega)
    have h1 : nI i + 1 = nI (i + 1) := (nI_succ i).symm
    obtain ⟨N', a1, a2, a3, a4, a5⟩ := ih g (i + 1) (upm N 54 i 0) (by omega) (by omega)
    refine ⟨N', ?_, ?_, fun h q1 q2 => ?_, fun h q => ?_, fun q hq => (a5 q hq).trans (upm_ne hq)⟩
    · rw [mX6_seen_16, if_neg hc, nIc (by omega), h1]
      exact a1
    · intro p1 p2
      rw [PX6_seen_16, nIc (by omega), h1]
      exact ⟨fun y => absurd y hc, fun _ => ⟨vin (by omega) (by decide), a2 p1 p2⟩⟩
    · by_cases e : h = i
      · subst e
        rw [a4 h (by omega), upm_at, upd_at]
      · exact a3 h (by omega) q2
    · rw [a4 h (by omega), upm_at, upd_ne (by omega)]
theorem fillv5 {p n : Nat} (v : Int32) (hn : n < 400) : ∀ (k fuel i : Nat) (M : Mem), k < fuel → i + k = n →
    (∀ j, i ≤ j → j < n → mJ7_fill_53178_5 p n fuel v (nI i) (nI n) M p j = v) ∧ (∀ j, j < i → mJ7_fill_53178_5 p n fuel v (nI i) (nI n) M p j = M p j) ∧ (∀ q, q ≠ p → mJ7_fill_53178_5 p n fuel v (nI i) (nI n) M q = M q) ∧ PJ7_fill_53178_5 p n fuel v (nI i) (nI n) M := by
  intro k
  induction k with
  | zero =>
    intro fuel i M hf hi
    obtain ⟨f, rfl⟩ : ∃ f, fuel = f + 1 := ⟨fuel - 1, by omega⟩
    have hc : nI n ≤ nI i := nI_le (by omega) (by omega)
    rw [mJ7_fill_53178_5, if_pos hc, PJ7_fill_53178_5]
    exact ⟨fun j h1 h2 => by omega, fun _ _ => rfl, fun _ _ => rfl, fun q => absurd hc q⟩
  | succ k ih =>
    intro fuel i M hf hi
    obtain ⟨f, rfl⟩ : ∃ f, fuel = f + 1 := ⟨fuel - 1, by omega⟩
    have hc : ¬ nI n ≤ nI i := nI_ge (by omega) (by omega)
    have hi1 : nI i + 1 = nI (i + 1) := (nI_succ i).symm
    obtain ⟨a1, a2, a3, a4⟩ := ih f (i + 1) (upm M p i v) (by omega) (by omega)
    rw [mJ7_fill_53178_5, if_neg hc, PJ7_fill_53178_5, nIc (by omega), hi1]
    refine ⟨fun j h1 h2 => ?_, fun j h1 => ?_, fun q hq => (a3 q hq).trans (upm_ne hq), fun _ => ⟨vin (by omega) (by omega), a4⟩⟩
    · by_cases e : j = i
      · rw [e, a2 i (by omega), upm_at, upd_at]
      · exact a1 j (by omega) h2
    · rw [a2 j (by omega), upm_at, upd_ne (by omega)]
theorem ok_seen {M : Mem} (a : Int32) (h : Inv M) : OKm (PX5_seen a) (mX5_seen a) (PX6_seen a) (mX6_seen a) M := by
  obtain ⟨n, hR⟩ := h.1
  have hn := hR.1
  have ei : mX6_isIn a.toInt64 0 30 = mX5_isWithin a 0 30 := isIn_eq a 0 30
  by_cases hm : mX5_isWithin a 0 30 = true
  case neg =>
    unfold OKm mX5_seen mX6_seen PX5_seen PX6_seen
    rw [if_neg hm]
    dsimp only
    rw [ei, if_neg hm]
    exact ⟨fun q => absurd q hm, fun q => absurd q hm, rfl, h⟩
  obtain ⟨m, hmm, rfl⟩ := within_n (m := 30) (by decide) hm
  obtain ⟨w, ew⟩ : ∃ w : Nat → Nat → Nat, w = fun i o => (stepsS (M 47) n i (24 + 4 * o + 3)).toNatClampNeg := ⟨_, rfl⟩
  have hw : ∀ i o, o < n → w i o < 16 ∧ stepsS (M 47) n i (24 + 4 * o + 3) = nI (w i o) := by
    intro i o ho
    obtain ⟨k, hk, e⟩ := (hR.gs.steps i).ho ho
    rw [ew]
    dsimp only
    rw [e, nIc (by omega)]
    exact ⟨hk, rfl⟩
  -- the class
  obtain ⟨f1, f2⟩ := fill_eq (p := 32) (n := 16) (by decide) M
  obtain ⟨M0, e0⟩ : ∃ y, y = mJ7_fill_53178 32 16 0 M := ⟨_, rfl⟩
  have fr0 : ∀ q, q ≠ 32 → M0 q = M q := fun q hq => by rw [e0, f1, upr_ne hq]
  have z0 : ∀ h, h < 16 → M0 32 h = nI 0 := fun h hh => by rw [e0, f1, upr_at, if_pos hh]; rfl
  have sb0 : SB w (fun _ => 0) (fun a b => b < 0 ∧ a ≤ m) := SB.zero (fun a b q => by omega)
  obtain ⟨M1, B1, a1, a2, a3, a4, a5⟩ := sn22 hmm hw n 400 0 M0 (fun _ => 0) (by omega) (by omega) (hR.congr (fun j hj => fr0 _ (by omega)) (fun _ _ => rfl)) z0 sb0
  obtain ⟨t1, t2, t3, t4⟩ := two_n n (by omega)
  obtain ⟨v1, v2, v3, v4⟩ := fillv5 (p := 33) (n := 256) 16 (by decide) 256 400 0 M1 (by decide) (by decide)
  obtain ⟨M2, e2⟩ : ∃ y, y = mJ7_fill_53178 33 256 16 M1 := ⟨_, rfl⟩
  have v1' : ∀ j, j < 256 → M2 33 j = 16 := fun j hj => by rw [e2]; exact v1 j (Nat.zero_le _) hj
  have v3' : ∀ q, q ≠ 33 → M2 q = M1 q := fun q hq => by rw [e2]; exact v3 q hq
  have hB256 : ∀ h, h < 16 → B1 h < 256 := fun h hh => (a4 h hh).1
  obtain ⟨M3, b1, b2, b3, b4⟩ := few18 (A := B1) (a := 2 ^ n - 1) hB256 (by omega) 16 400 0 (upm M2 33 0 0) (fun x => if x = 0 then 0 else 16) (by decide) (by decide) (fun x hx => by
    rw [upm_at]
    by_cases e : x = 0
    · rw [e, upd_at]; rfl
    · rw [upd_ne e, v1' x hx, if_neg e]; rfl) (fun x => by
    by_cases e : x = 0
    · rw [if_pos e]; decide
    · rw [if_neg e]; decide) (fun h hh => by rw [upm_ne (by decide), v3' 32 (by decide)]; exact a3 h hh)
  have u5 : mX5_seen (nI m) M = (nI (fwF B1 (2 ^ n - 1) 16 0 (fun x => if x = 0 then 0 else 16) (2 ^ n - 1)), M3) := by
    unfold mX5_seen mX5_seen_20
    rw [if_pos hm, ← e0]
    refine Eq.trans a1 ?_
    unfold mX5_fewestThatSee mX5_fewestThatSee_9
    rw [← e2]
    exact b1
  have p5 : PX5_seen (nI m) M := by
    unfold PX5_seen PX5_seen_20
    refine fun _ => ⟨f2, ?_⟩
    rw [← e0]
    refine a2 ?_
    unfold PX5_fewestThatSee PX5_fewestThatSee_9
    rw [← e2]
    exact ⟨v4, b2⟩
  have all : ∀ q, (q < 15 ∨ 21 < q) → q ≠ 29 → q ≠ 30 → q ≠ 31 → q ≠ 32 → q ≠ 33 → M3 q = M q := fun q h1 h2 _ _ h3 h4 => by
    rw [b4 q h4, upm_ne h4, v3' q h4, a5 q h1 h2 h3, fr0 q h3]
  have s47 : M3 47 = M 47 := all 47 (by omega) (by decide) (by decide) (by decide) (by decide) (by decide)
  -- the reference
  obtain ⟨N0, c1, c2, c3, c4, c5⟩ := sn16 (m := m) 16 400 0 M3 (by decide) (by decide)
  obtain ⟨g1, g2⟩ := aside_eq N0
  have n47 : N0 47 = M 47 := (c5 47 (by decide)).trans s47
  rw [n47] at g1
  obtain ⟨N1, en⟩ : ∃ y, y = mX6_copyRow 47 56 49 56 N0 := ⟨_, rfl⟩
  rw [← en] at c1 c2 g1
  have sb6 : SB w (fun _ => 0) (fun a b => b < n ∧ a < 0) := SB.zero (fun a b q => by omega)
  obtain ⟨N2, B2, d1, d2, d3, d4, d5, d6⟩ := sn48 (m := m) hR.gs hmm hw (m + 1) 400 0 N1 (fun _ => 0) (by omega) (by omega) (by rw [g1, upr_ne (by decide)]; exact n47) (fun j hj => by rw [g1, upr_at, c56_at hj]) (fun h hh => by rw [g1, upr_ne (by decide), c3 h (Nat.zero_le _) hh]; rfl) sb6
  have hB2 : ∀ h, h < 16 → B2 h < 256 := fun h hh => (d4 h hh).1
  have eB := a4.same d4
  obtain ⟨N3, k1, k2, k3⟩ := sn118 (A := B2) hn hB2 (2 ^ n - 1) 400 1 (upm N2 55 0 0) (fun _ => 0) (by omega) (by omega) (by decide) (by rw [upm_ne (by decide), d5 0 (by decide)]; exact hR.2.1.2) (fun x hx => by
    obtain rfl : x = 0 := by omega
    rw [upm_at, upd_at]; rfl) (fun _ => Nat.zero_le _) (fun h hh => by rw [upm_ne (by decide)]; exact d3 h hh)
  have u6 : mX6_seen (nI m) M3 = (nI (rou B2 (2 ^ n - 1) 1 (fun _ => 0) (2 ^ n - 1)), N3) := by
    unfold mX6_seen
    rw [ei, if_pos hm]
    refine Eq.trans c1 ?_
    unfold mX6_seen_46
    refine Eq.trans d1 ?_
    unfold mX6_seen_109
    exact k1
  have p6 : PX6_seen (nI m) M3 := by
    unfold PX6_seen
    refine fun _ => c2 g2 ?_
    unfold PX6_seen_46
    refine d2 ?_
    unfold PX6_seen_109
    exact k2
  have hA : ∀ h, h < 16 → B2 h < 2 ^ n := fun h hh => Nat.lt_pow_two_of_testBit _ (fun j hj => by
    cases x : (B2 h).testBit j with
    | false => rfl
    | true =>
      obtain ⟨i, q, _⟩ := ((d4 h hh).2 j).mp x
      omega)
  have hcov := cover_eq (A := B2) (n := n) (a := 2 ^ n - 1) hA (by omega) hn (fun o ho => ⟨w 0 o, (hw 0 o ho).1, ((d4 (w 0 o) (hw 0 o ho).1).2 o).mpr ⟨0, ⟨ho, Nat.zero_le _⟩, rfl⟩⟩)
  have efw : ∀ (k i : Nat) (F : Nat → Nat), i + k = 16 → fwF B1 (2 ^ n - 1) k i F = fwF B2 (2 ^ n - 1) k i F := by
    intro k
    induction k with
    | zero => intro i F _; rfl
    | succ k ih =>
      intro i F hi
      rw [fwF, fwF, ih (i + 1) _ (by omega), eB i (by omega)]
  unfold OKm
  rw [u5]
  dsimp only
  rw [u6]
  refine ⟨p5, p6, ?_, ?_⟩
  · dsimp only
    rw [efw 16 0 _ (by decide), hcov]
  · change Inv N3
    have hF : Fr M3 N3 := ⟨fun p hp => by
      unfold PS at hp
      rw [k3 p (by omega), upm_ne (by omega), d6 p (by omega) (by omega), g1, upr_ne (by omega), c5 p (by omega)], fun k hk => by rw [k3 47 (by decide), upm_ne (by decide), d5 k hk, s47]⟩
    exact Inv.fr ((Fr.of5 all).trans hF) h
