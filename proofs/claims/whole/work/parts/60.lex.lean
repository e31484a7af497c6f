/-! THE TEXT: how it is parted -/
theorem upm_upm (M : Mem) (p k : Nat) (x y : Int32) : upm (upm M p k x) p k y = upm M p k y := by
  funext q
  by_cases h : q = p
  · subst h
    rw [upm_at, upm_at, upm_at]
    funext j
    by_cases e : j = k
    · subst e; rw [upd_at, upd_at]
    · rw [upd_ne e, upd_ne e, upd_ne e]
  · rw [upm_ne h, upm_ne h, upm_ne h]
theorem upm_self {M : Mem} {p k : Nat} {x : Int32} (h : M p k = x) : upm M p k x = M := by
  funext q
  by_cases e : q = p
  · subst e
    rw [upm_at]
    funext j
    by_cases e2 : j = k
    · subst e2; rw [upd_at]; exact h.symm
    · rw [upd_ne e2]
  · rw [upm_ne e]
def isA (c : Nat) : Bool := decide (97 ≤ c ∧ c ≤ 122)
def isD (c : Nat) : Bool := decide (48 ≤ c ∧ c ≤ 57)
def isB (c : Nat) : Bool := decide (c = 32)
def rnF (P : Nat → Bool) (t : Nat → Nat) : Nat → Nat → Nat
  | 0, p => p
  | k + 1, p => if P (t p) = true then rnF P t k (p + 1) else p
def rn (P : Nat → Bool) (t : Nat → Nat) (tp p : Nat) : Nat := rnF P t (tp - p) p
theorem rn_stop {P : Nat → Bool} {t : Nat → Nat} {tp p : Nat} (h : tp ≤ p) : rn P t tp p = p := by
  unfold rn
  rw [show tp - p = 0 by omega, rnF]
theorem rn_step {P : Nat → Bool} {t : Nat → Nat} {tp p : Nat} (h : p < tp) : rn P t tp p = if P (t p) = true then rn P t tp (p + 1) else p := by
  unfold rn
  rw [show tp - p = (tp - (p + 1)) + 1 by omega, rnF]
theorem rn_yes {P : Nat → Bool} {t : Nat → Nat} {tp p : Nat} (h : p < tp) (hP : P (t p) = true) : rn P t tp p = rn P t tp (p + 1) := by
  rw [rn_step h, if_pos hP]
theorem rn_no {P : Nat → Bool} {t : Nat → Nat} {tp p : Nat} (hP : P (t p) = false) : rn P t tp p = p := by
  rcases Nat.lt_or_ge p tp with h | h
  · rw [rn_step h, if_neg (by rw [hP]; decide)]
  · exact rn_stop h
theorem rn_ind {P : Nat → Bool} {t : Nat → Nat} {tp : Nat} : ∀ (k p : Nat), p + k = tp → p ≤ rn P t tp p ∧ rn P t tp p ≤ tp ∧ (∀ i, p ≤ i → i < rn P t tp p → P (t i) = true) ∧ (rn P t tp p < tp → P (t (rn P t tp p)) = false) := by
  intro k
  induction k with
  | zero =>
    intro p hp
    rw [rn_stop (by omega)]
    exact ⟨Nat.le_refl _, by omega, fun i h1 h2 => by omega, fun h => by omega⟩
  | succ k ih =>
    intro p hp
    cases hP : P (t p) with
    | false =>
      rw [rn_no hP]
      exact ⟨Nat.le_refl _, by omega, fun i h1 h2 => by omega, fun _ => hP⟩
    | true =>
      obtain ⟨a1, a2, a3, a4⟩ := ih (p + 1) (by omega)
      rw [rn_yes (by omega) hP]
      refine ⟨by omega, a2, fun i h1 h2 => ?_, a4⟩
      by_cases e : i = p
      · subst e; exact hP
      · exact a3 i (by omega) h2
theorem rn_ge {P : Nat → Bool} {t : Nat → Nat} {tp p : Nat} : p ≤ rn P t tp p := by
  rcases Nat.lt_or_ge tp p with h | h
  · rw [rn_stop (by omega)]; exact Nat.le_refl _
  · exact (rn_ind (tp - p) p (by omega)).1
theorem rn_le {P : Nat → Bool} {t : Nat → Nat} {tp p : Nat} (h : p ≤ tp) : rn P t tp p ≤ tp := (rn_ind (tp - p) p (by omega)).2.1
theorem rn_all {P : Nat → Bool} {t : Nat → Nat} {tp p i : Nat} (h : p ≤ tp) (h1 : p ≤ i) (h2 : i < rn P t tp p) : P (t i) = true := (rn_ind (tp - p) p (by omega)).2.2.1 i h1 h2
theorem rn_end {P : Nat → Bool} {t : Nat → Nat} {tp p : Nat} (h : p ≤ tp) (h2 : rn P t tp p < tp) : P (t (rn P t tp p)) = false := (rn_ind (tp - p) p (by omega)).2.2.2 h2
theorem rn_idem {P : Nat → Bool} {t : Nat → Nat} {tp p : Nat} (h : p ≤ tp) : rn P t tp (rn P t tp p) = rn P t tp p := by
  rcases Nat.lt_or_ge (rn P t tp p) tp with q | q
  · exact rn_no (rn_end h q)
  · exact rn_stop q
/-! the class reads -/
def T5 (M : Mem) (t : Nat → Nat) (tp : Nat) : Prop := tp ≤ 200 ∧ (∀ i, t i < 256) ∧ M 22 1 = nI tp ∧ ∀ i, i < tp → M 23 i = nI (t i)
def T6 (N : Mem) (t : Nat → Nat) (tp : Nat) : Prop := tp ≤ 200 ∧ (∀ i, t i < 256) ∧ N 46 6 = nI tp ∧ ∀ i, i < tp → N 51 i = nI (t i)
theorem T5.of {M M' : Mem} {t : Nat → Nat} {tp : Nat} (h : T5 M t tp) (h1 : M' 22 1 = M 22 1) (h2 : M' 23 = M 23) : T5 M' t tp := ⟨h.1, h.2.1, h1.trans h.2.2.1, fun i hi => by rw [h2]; exact h.2.2.2 i hi⟩
theorem T6.of {M M' : Mem} {t : Nat → Nat} {tp : Nat} (h : T6 M t tp) (h1 : M' 46 6 = M 46 6) (h2 : M' 51 = M 51) : T6 M' t tp := ⟨h.1, h.2.1, h1.trans h.2.2.1, fun i hi => by rw [h2]; exact h.2.2.2 i hi⟩
theorem lt_n {a b : Nat} (ha : a < 256) (hb : b < 256) : nI a < nI b ↔ a < b := nI_lt_iff (by omega) (by omega)
theorem eq_n {a b : Nat} (ha : a < 256) (hb : b < 256) : nI a = nI b ↔ a = b := nI_inj (by omega) (by omega)
theorem skip5 {t : Nat → Nat} {tp : Nat} : ∀ (k f p : Nat) (M : Mem), k < f → p + k = tp → T5 M t tp → M 22 2 = nI p → mX3_skipBlanks_0 f M = upm M 22 2 (nI (rn isB t tp p)) ∧ PX3_skipBlanks_0 f M := by
  intro k
  induction k with
  | zero =>
    intro f p M hf hp hT h2
    obtain ⟨g, rfl⟩ : ∃ g, f = g + 1 := ⟨f - 1, by omega⟩
    have h200 := hT.1
    have hc : M 22 1 ≤ M 22 2 := by rw [hT.2.2.1, h2]; exact nI_le (by omega) (by omega)
    rw [rn_stop (by omega), upm_self h2, mX3_skipBlanks_0, PX3_skipBlanks_0, if_pos hc]
    exact ⟨rfl, fun q => absurd hc q⟩
  | succ k ih =>
    intro f p M hf hp hT h2
    obtain ⟨g, rfl⟩ : ∃ g, f = g + 1 := ⟨f - 1, by omega⟩
    have h200 := hT.1
    have hc : ¬ M 22 1 ≤ M 22 2 := by rw [hT.2.2.1, h2]; exact nI_ge (by omega) (by omega)
    have hv : M 23 (M 22 2).toNatClampNeg = nI (t p) := by rw [h2, nIc (by omega)]; exact hT.2.2.2 p (by omega)
    have e32 : nI (t p) = 32 ↔ t p = 32 := eq_n (b := 32) (hT.2.1 p) (by decide)
    have vp : vp_in (M 22 2) 200 := by rw [h2]; exact vin (by omega) (by decide)
    rw [mX3_skipBlanks_0, PX3_skipBlanks_0, if_neg hc, hv]
    by_cases q : t p = 32
    · have hp1 : M 22 2 + 1 = nI (p + 1) := by rw [h2]; exact (nI_succ p).symm
      obtain ⟨a1, a2⟩ := ih g (p + 1) (upm M 22 2 (nI (p + 1))) (by omega) (by omega) (hT.of (by rw [upm_at, upd_ne (by decide)]) (upm_ne (by decide))) (by rw [upm_at, upd_at])
      rw [upm_upm] at a1
      rw [if_pos (e32.mpr q), rn_yes (show p < tp by omega) (decide_eq_true q), hp1]
      exact ⟨a1, fun _ => ⟨vp, fun _ => a2⟩⟩
    · rw [if_neg (fun z => q (e32.mp z)), rn_no (P := isB) (decide_eq_false q), upm_self h2]
      exact ⟨rfl, fun _ => ⟨vp, fun z => absurd (e32.mp z) q⟩⟩
theorem skipB {t : Nat → Nat} {tp p : Nat} {M : Mem} (hT : T5 M t tp) (hp : p ≤ tp) (h2 : M 22 2 = nI p) : mX3_skipBlanks M = upm M 22 2 (nI (rn isB t tp p)) ∧ PX3_skipBlanks M :=
  skip5 (tp - p) 400 p M (by have := hT.1; omega) (by omega) hT h2
theorem endA5 {t : Nat → Nat} {tp : Nat} {M : Mem} (hT : T5 M t tp) : ∀ (k f p : Nat), k < f → p + k = tp → mX3_endOfName_5 f (nI p) M = nI (rn isA t tp p) ∧ PX3_endOfName_5 f (nI p) M := by
  have h200 := hT.1
  intro k
  induction k with
  | zero =>
    intro f p hf hp
    obtain ⟨g, rfl⟩ : ∃ g, f = g + 1 := ⟨f - 1, by omega⟩
    have hc : M 22 1 ≤ nI p := by rw [hT.2.2.1]; exact nI_le (by omega) (by omega)
    rw [rn_stop (by omega), mX3_endOfName_5, PX3_endOfName_5, if_pos hc]
    exact ⟨rfl, fun q => absurd hc q⟩
  | succ k ih =>
    intro f p hf hp
    obtain ⟨g, rfl⟩ : ∃ g, f = g + 1 := ⟨f - 1, by omega⟩
    have hc : ¬ M 22 1 ≤ nI p := by rw [hT.2.2.1]; exact nI_ge (by omega) (by omega)
    have hv : M 23 (nI p).toNatClampNeg = nI (t p) := by rw [nIc (by omega)]; exact hT.2.2.2 p (by omega)
    have l1 : nI (t p) < 97 ↔ t p < 97 := lt_n (b := 97) (hT.2.1 p) (by decide)
    have l2 : 122 < nI (t p) ↔ 122 < t p := lt_n (a := 122) (by decide) (hT.2.1 p)
    have vp : vp_in (nI p) 200 := vin (by omega) (by decide)
    have hp1 : nI p + 1 = nI (p + 1) := (nI_succ p).symm
    obtain ⟨a1, a2⟩ := ih g (p + 1) (by omega) (by omega)
    rw [mX3_endOfName_5, PX3_endOfName_5, if_neg hc, hv, hp1]
    by_cases q1 : t p < 97
    · rw [if_pos (l1.mpr q1), rn_no (P := isA) (decide_eq_false (by omega))]
      exact ⟨rfl, fun _ => ⟨vp, fun z => absurd (l1.mpr q1) z⟩⟩
    · rw [if_neg (fun z => q1 (l1.mp z))]
      by_cases q2 : 122 < t p
      · rw [if_pos (l2.mpr q2), rn_no (P := isA) (decide_eq_false (by omega))]
        exact ⟨rfl, fun _ => ⟨vp, fun _ => ⟨vp, fun z => absurd (l2.mpr q2) z⟩⟩⟩
      · rw [if_neg (fun z => q2 (l2.mp z)), rn_yes (P := isA) (show p < tp by omega) (decide_eq_true (by omega))]
        exact ⟨a1, fun _ => ⟨vp, fun _ => ⟨vp, fun _ => a2⟩⟩⟩
theorem endD5 {t : Nat → Nat} {tp : Nat} {M : Mem} (hT : T5 M t tp) : ∀ (k f p : Nat), k < f → p + k = tp → mX3_endOfNumber_5 f (nI p) M = nI (rn isD t tp p) ∧ PX3_endOfNumber_5 f (nI p) M := by
  have h200 := hT.1
  intro k
  induction k with
  | zero =>
    intro f p hf hp
    obtain ⟨g, rfl⟩ : ∃ g, f = g + 1 := ⟨f - 1, by omega⟩
    have hc : M 22 1 ≤ nI p := by rw [hT.2.2.1]; exact nI_le (by omega) (by omega)
    rw [rn_stop (by omega), mX3_endOfNumber_5, PX3_endOfNumber_5, if_pos hc]
    exact ⟨rfl, fun q => absurd hc q⟩
  | succ k ih =>
    intro f p hf hp
    obtain ⟨g, rfl⟩ : ∃ g, f = g + 1 := ⟨f - 1, by omega⟩
    have hc : ¬ M 22 1 ≤ nI p := by rw [hT.2.2.1]; exact nI_ge (by omega) (by omega)
    have hv : M 23 (nI p).toNatClampNeg = nI (t p) := by rw [nIc (by omega)]; exact hT.2.2.2 p (by omega)
    have l1 : nI (t p) < 48 ↔ t p < 48 := lt_n (b := 48) (hT.2.1 p) (by decide)
    have l2 : 57 < nI (t p) ↔ 57 < t p := lt_n (a := 57) (by decide) (hT.2.1 p)
    have vp : vp_in (nI p) 200 := vin (by omega) (by decide)
    have hp1 : nI p + 1 = nI (p + 1) := (nI_succ p).symm
    obtain ⟨a1, a2⟩ := ih g (p + 1) (by omega) (by omega)
    rw [mX3_endOfNumber_5, PX3_endOfNumber_5, if_neg hc, hv, hp1]
    by_cases q1 : t p < 48
    · rw [if_pos (l1.mpr q1), rn_no (P := isD) (decide_eq_false (by omega))]
      exact ⟨rfl, fun _ => ⟨vp, fun z => absurd (l1.mpr q1) z⟩⟩
    · rw [if_neg (fun z => q1 (l1.mp z))]
      by_cases q2 : 57 < t p
      · rw [if_pos (l2.mpr q2), rn_no (P := isD) (decide_eq_false (by omega))]
        exact ⟨rfl, fun _ => ⟨vp, fun _ => ⟨vp, fun z => absurd (l2.mpr q2) z⟩⟩⟩
      · rw [if_neg (fun z => q2 (l2.mp z)), rn_yes (P := isD) (show p < tp by omega) (decide_eq_true (by omega))]
        exact ⟨a1, fun _ => ⟨vp, fun _ => ⟨vp, fun _ => a2⟩⟩⟩
theorem endA {t : Nat → Nat} {tp p : Nat} {M : Mem} (hT : T5 M t tp) (hp : p ≤ tp) (h2 : M 22 2 = nI p) : mX3_endOfName M = nI (rn isA t tp p) ∧ PX3_endOfName M := by
  unfold mX3_endOfName PX3_endOfName
  rw [h2]
  exact endA5 hT (tp - p) 400 p (by have := hT.1; omega) (by omega)
theorem endD {t : Nat → Nat} {tp p : Nat} {M : Mem} (hT : T5 M t tp) (hp : p ≤ tp) (h2 : M 22 2 = nI p) : mX3_endOfNumber M = nI (rn isD t tp p) ∧ PX3_endOfNumber M := by
  unfold mX3_endOfNumber PX3_endOfNumber
  rw [h2]
  exact endD5 hT (tp - p) 400 p (by have := hT.1; omega) (by omega)
/-! names -/
def nmL (t : Nat → Nat) : List Nat → Nat → Bool
  | [], _ => true
  | c :: l, p => if t p = c then nmL t l (p + 1) else false
def nmB (t : Nat → Nat) (tp : Nat) (l : List Nat) (p : Nat) : Bool := if rn isA t tp p = p + l.length then nmL t l p else false
def strN : List (List Nat) := [[119, 101, 116], [119, 105, 110, 100], [116, 117, 114, 110], [100, 97, 109, 112], [115, 104, 121], [103, 117, 115, 116], [97, 105, 114], [114, 97, 105, 110], [102, 111, 103], [100, 114, 105, 122, 122, 108, 101], [109, 105, 115, 116], [104, 101, 97, 116], [97, 116], [102, 111, 114, 99, 101], [101, 114, 114, 97, 110, 100], [105, 115]]
theorem str_len : ∀ s, s < 16 → mJ0_length_8abf5 s = nI (strN.getD s []).length ∧ (strN.getD s []).length ≤ 7 ∧ 2 ≤ (strN.getD s []).length ∧ strLen.getD s 0 = (strN.getD s []).length := by decide
theorem str_chr : ∀ s, s < 16 → ∀ i, i < 7 → i < (strN.getD s []).length → (((((strByt.getD s []).getD i 0) &&& 255) : Int32).toUInt32 % 65536).toInt32 = nI ((strN.getD s []).getD i 0) ∧ (strN.getD s []).getD i 0 < 256 := by decide
theorem chr5 {s i : Nat} (hs : s < 16) (hi : i < (strN.getD s []).length) (M : Mem) : mJ0_charAt_5068e s (nI i) M = nI ((strN.getD s []).getD i 0) ∧ PJ0_charAt_5068e s (nI i) M ∧ (strN.getD s []).getD i 0 < 256 := by
  obtain ⟨l1, l2, l3, l4⟩ := str_len s hs
  obtain ⟨c1, c2⟩ := str_chr s hs i (by omega) hi
  have e : mJ1_charAt_3b067 s (nI i) M = nI ((strN.getD s []).getD i 0) := by
    unfold mJ1_charAt_3b067
    rw [nIc (by omega)]
    exact c1
  have hn := (pk_charN (q := (strN.getD s []).getD i 0) (by omega)).1
  refine ⟨e, ⟨⟨?_, ?_, ?_⟩, ?_⟩, c2⟩
  · unfold PJ0_checkIndex_df160 PJ3_checkIndex_8e157
    rw [l4]
    have h1 : ¬ nI i < 0 := Int32.not_lt.mpr (nI_pos' (by omega))
    have h2 : nI i < Int32.ofNat (strN.getD s []).length := nI_lt hi (by omega)
    exact ⟨fun q => absurd q h1, fun _ q => absurd h2 q⟩
  · rw [l4]; exact vin hi (by omega)
  · rw [nIc (by omega), c1]; exact hn
  · rw [e]; exact hn
theorem drop_cons {l : List Nat} {i : Nat} (h : i < l.length) : l.drop i = l.getD i 0 :: l.drop (i + 1) := by
  rw [List.drop_eq_getElem_cons h]
  congr 1
  rw [List.getD_eq_getElem?_getD, List.getElem?_eq_getElem h]
  rfl
theorem name20 {t : Nat → Nat} {tp p s : Nat} {M : Mem} (hT : T5 M t tp) (hs : s < 16) (h2 : M 22 2 = nI p) (hl : p + (strN.getD s []).length ≤ tp) : ∀ (k f i : Nat), k < f → i + k = (strN.getD s []).length →
    mX3_isNameHere_20 s f (nI i) M = nmL t ((strN.getD s []).drop i) (p + i) ∧ PX3_isNameHere_20 s f (nI i) M := by
  obtain ⟨l1, l2, l3, l4⟩ := str_len s hs
  have h200 := hT.1
  intro k
  induction k with
  | zero =>
    intro f i hf hi
    obtain ⟨g, rfl⟩ : ∃ g, f = g + 1 := ⟨f - 1, by omega⟩
    have hc : mJ0_length_8abf5 s ≤ nI i := by rw [l1]; exact nI_le (by omega) (by omega)
    rw [mX3_isNameHere_20, PX3_isNameHere_20, if_pos hc, List.drop_of_length_le (by omega)]
    exact ⟨rfl, fun q => absurd hc q⟩
  | succ k ih =>
    intro f i hf hi
    obtain ⟨g, rfl⟩ : ∃ g, f = g + 1 := ⟨f - 1, by omega⟩
    have hc : ¬ mJ0_length_8abf5 s ≤ nI i := by rw [l1]; exact nI_ge (by omega) (by omega)
    obtain ⟨c1, c2, c3⟩ := chr5 hs (show i < (strN.getD s []).length by omega) M
    have ei : M 22 2 + nI i = nI (p + i) := by rw [h2, nI_add]
    have hv : M 23 (nI (p + i)).toNatClampNeg = nI (t (p + i)) := by rw [nIc (by omega)]; exact hT.2.2.2 _ (by omega)
    have hi1 : nI i + 1 = nI (i + 1) := (nI_succ i).symm
    have ee : nI (t (p + i)) = nI ((strN.getD s []).getD i 0) ↔ t (p + i) = (strN.getD s []).getD i 0 := eq_n (hT.2.1 _) c3
    obtain ⟨a1, a2⟩ := ih g (i + 1) (by omega) (by omega)
    rw [mX3_isNameHere_20, PX3_isNameHere_20, if_neg hc, ei, hv, c1, hi1, drop_cons (by omega), nmL]
    have vp : vp_in (nI (p + i)) 200 := vin (by omega) (by decide)
    by_cases q : t (p + i) = (strN.getD s []).getD i 0
    · rw [if_pos (ee.mpr q), if_pos q]
      exact ⟨a1, fun _ => ⟨vp, c2, fun _ => a2⟩⟩
    · rw [if_neg (fun z => q (ee.mp z)), if_neg q]
      exact ⟨rfl, fun _ => ⟨vp, c2, fun z => absurd (ee.mp z) q⟩⟩
theorem name5 {t : Nat → Nat} {tp p s : Nat} {M : Mem} (hT : T5 M t tp) (hs : s < 16) (hp : p ≤ tp) (h2 : M 22 2 = nI p) : mX3_isNameHere s M = nmB t tp (strN.getD s []) p ∧ PX3_isNameHere s M := by
  obtain ⟨l1, l2, l3, l4⟩ := str_len s hs
  have h200 := hT.1
  obtain ⟨e1, e2⟩ := endA hT hp h2
  have hge : p ≤ rn isA t tp p := rn_ge
  have hle : rn isA t tp p ≤ tp := rn_le hp
  have ed : nI (rn isA t tp p) - nI p = nI (rn isA t tp p - p) := nI_subc hge
  have ee : nI (rn isA t tp p - p) = nI (strN.getD s []).length ↔ rn isA t tp p = p + (strN.getD s []).length := by
    rw [eq_n (by omega) (by omega)]
    omega
  unfold mX3_isNameHere PX3_isNameHere nmB
  rw [e1, h2, ed, l1]
  by_cases q : rn isA t tp p = p + (strN.getD s []).length
  · obtain ⟨a1, a2⟩ := name20 hT hs h2 (by omega) (strN.getD s []).length 400 0 (by omega) (by omega)
    rw [if_pos (ee.mpr q), if_pos q]
    exact ⟨a1, e2, fun _ => a2⟩
  · rw [if_neg (fun z => q (ee.mp z)), if_neg q]
    exact ⟨rfl, e2, fun z => absurd (ee.mp z) q⟩
