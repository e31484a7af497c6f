/-! what the class takes of the TEXT -/
def CS (M : Mem) (t : Nat → Nat) (tp p : Nat) (f : Int32) : Prop := T5 M t tp ∧ p ≤ tp ∧ M 22 2 = nI p ∧ M 22 3 = f
def FF (f : Int32) (p : Nat) : Int32 := if 0 ≤ f then f else nI p
def G5 (M M' : Mem) : Prop := ∀ q, q ≠ 22 → M' q = M q
theorem G5.rf (M : Mem) : G5 M M := fun _ _ => rfl
theorem G5.trans {A B C : Mem} (h1 : G5 A B) (h2 : G5 B C) : G5 A C := fun q hq => (h2 q hq).trans (h1 q hq)
theorem fault5 {M : Mem} {t : Nat → Nat} {tp p : Nat} {f : Int32} (h : CS M t tp p f) : CS (mX3_findFault M) t tp p (FF f p) ∧ G5 M (mX3_findFault M) := by
  obtain ⟨hT, hp, h2, h3⟩ := h
  unfold mX3_findFault FF
  rw [h3]
  by_cases q : 0 ≤ f
  · rw [if_pos q, if_pos q]
    exact ⟨⟨hT, hp, h2, h3⟩, G5.rf M⟩
  · rw [if_neg q, if_neg q, h2]
    exact ⟨⟨hT.of (by rw [upm_at, upd_ne (by decide)]) (upm_ne (by decide)), hp, by rw [upm_at, upd_ne (by decide)]; exact h2, by rw [upm_at, upd_at]⟩, fun q hq => upm_ne hq⟩
theorem CS.go {M : Mem} {t : Nat → Nat} {tp p p' : Nat} {f : Int32} (h : CS M t tp p f) (hp : p' ≤ tp) : CS (upm M 22 2 (nI p')) t tp p' f ∧ G5 M (upm M 22 2 (nI p')) :=
  ⟨⟨h.1.of (by rw [upm_at, upd_ne (by decide)]) (upm_ne (by decide)), hp, by rw [upm_at, upd_at], by rw [upm_at, upd_ne (by decide)]; exact h.2.2.2⟩, fun q hq => upm_ne hq⟩
theorem CS.skip {M : Mem} {t : Nat → Nat} {tp p : Nat} {f : Int32} (h : CS M t tp p f) : CS (mX3_skipBlanks M) t tp (rn isB t tp p) f ∧ G5 M (mX3_skipBlanks M) ∧ PX3_skipBlanks M := by
  obtain ⟨e, pp⟩ := skipB h.1 h.2.1 h.2.2.1
  rw [e]
  obtain ⟨a, b⟩ := h.go (rn_le (P := isB) h.2.1)
  exact ⟨a, b, pp⟩
theorem takeName5 {M : Mem} {t : Nat → Nat} {tp p s : Nat} {f : Int32} (hs : s < 16) (h : CS M t tp p f) :
    (nmB t tp (strN.getD s []) (rn isB t tp p) = true → CS (mX3_takeName s M) t tp (rn isA t tp (rn isB t tp p)) f) ∧ (nmB t tp (strN.getD s []) (rn isB t tp p) = false → CS (mX3_takeName s M) t tp (rn isB t tp p) (FF f (rn isB t tp p))) ∧ G5 M (mX3_takeName s M) ∧ PX3_takeName s M := by
  obtain ⟨c1, g1, p1⟩ := h.skip
  obtain ⟨M1, e1⟩ : ∃ y, y = mX3_skipBlanks M := ⟨_, rfl⟩
  rw [← e1] at c1 g1
  obtain ⟨n1, n2⟩ := name5 c1.1 hs c1.2.1 c1.2.2.1
  obtain ⟨a1, a2⟩ := endA c1.1 c1.2.1 c1.2.2.1
  unfold mX3_takeName mX3_takeName_4 PX3_takeName PX3_takeName_4
  rw [← e1, n1, a1]
  cases q : nmB t tp (strN.getD s []) (rn isB t tp p) with
  | true =>
    obtain ⟨b1, b2⟩ := c1.go (rn_le (P := isA) c1.2.1)
    rw [if_pos rfl]
    exact ⟨fun _ => b1, fun z => (by cases z), g1.trans b2, p1, n2, fun _ => a2⟩
  | false =>
    obtain ⟨b1, b2⟩ := fault5 c1
    rw [if_neg (by decide)]
    exact ⟨fun z => (by cases z), fun _ => b1, g1.trans b2, p1, n2, fun z => (by cases z)⟩
theorem takesName5 {M : Mem} {t : Nat → Nat} {tp p s : Nat} {f : Int32} (hs : s < 16) (h : CS M t tp p f) :
    ∃ M', mX3_takesName s M = (nmB t tp (strN.getD s []) (rn isB t tp p), M') ∧ CS M' t tp (if nmB t tp (strN.getD s []) (rn isB t tp p) = true then rn isA t tp (rn isB t tp p) else rn isB t tp p) f ∧ G5 M M' ∧ PX3_takesName s M := by
  obtain ⟨c1, g1, p1⟩ := h.skip
  obtain ⟨M1, e1⟩ : ∃ y, y = mX3_skipBlanks M := ⟨_, rfl⟩
  rw [← e1] at c1 g1
  obtain ⟨n1, n2⟩ := name5 c1.1 hs c1.2.1 c1.2.2.1
  obtain ⟨a1, a2⟩ := endA c1.1 c1.2.1 c1.2.2.1
  unfold mX3_takesName mX3_takesName_4 PX3_takesName PX3_takesName_4
  rw [← e1, n1, a1]
  cases q : nmB t tp (strN.getD s []) (rn isB t tp p) with
  | true =>
    obtain ⟨b1, b2⟩ := c1.go (rn_le (P := isA) c1.2.1)
    rw [if_pos rfl, if_pos rfl]
    exact ⟨_, rfl, b1, g1.trans b2, p1, n2, fun _ => a2⟩
  | false =>
    rw [if_neg (by decide), if_neg (by decide)]
    exact ⟨_, rfl, c1, g1, p1, n2, fun z => (by cases z)⟩
theorem takeMark5 {M : Mem} {t : Nat → Nat} {tp p : Nat} {f : Int32} (h : CS M t tp p f) :
    (rn isB t tp p < tp ∧ t (rn isB t tp p) = 59 → CS (mX3_takeMark M) t tp (rn isB t tp p + 1) f) ∧ (¬ (rn isB t tp p < tp ∧ t (rn isB t tp p) = 59) → CS (mX3_takeMark M) t tp (rn isB t tp p) (FF f (rn isB t tp p))) ∧ G5 M (mX3_takeMark M) ∧ PX3_takeMark M := by
  obtain ⟨c1, g1, p1⟩ := h.skip
  obtain ⟨M1, e1⟩ : ∃ y, y = mX3_skipBlanks M := ⟨_, rfl⟩
  obtain ⟨q, eq⟩ : ∃ y, y = rn isB t tp p := ⟨_, rfl⟩
  rw [← e1, ← eq] at c1
  rw [← e1] at g1
  have h200 := c1.1.1
  have hq := c1.2.1
  have b59 := fault5 c1
  unfold mX3_takeMark mX3_takeMark_4 mX3_takeMark_42 PX3_takeMark PX3_takeMark_4 PX3_takeMark_42
  rw [← e1, ← eq, c1.1.2.2.1, c1.2.2.1, nIc (show q < 2 ^ 31 by omega)]
  by_cases z : tp ≤ q
  · have hc : nI tp ≤ nI q := nI_le z (by omega)
    rw [if_pos hc]
    exact ⟨fun y => by omega, fun _ => b59.1, g1.trans b59.2, p1, fun _ => trivial, fun y => absurd hc y⟩
  · have hc : ¬ nI tp ≤ nI q := nI_ge (by omega) (by omega)
    have hv : M1 23 q = nI (t q) := c1.1.2.2.2 q (by omega)
    have ee : nI (t q) = 59 ↔ t q = 59 := eq_n (b := 59) (c1.1.2.1 q) (by decide)
    have hv2 : vp_in (nI q) 200 := vin (by omega) (by decide)
    rw [if_neg hc, hv]
    by_cases y : t q = 59
    · have hq1 : nI q + 1 = nI (q + 1) := (nI_succ q).symm
      obtain ⟨b1, b2⟩ := c1.go (p' := q + 1) (by omega)
      rw [if_pos (ee.mpr y), hq1]
      exact ⟨fun _ => b1, fun x => absurd ⟨by omega, y⟩ x, g1.trans b2, p1, fun x => absurd x hc, fun _ => ⟨hv2, fun x => absurd (ee.mpr y) x⟩⟩
    · rw [if_neg (fun x => y (ee.mp x))]
      exact ⟨fun x => absurd x.2 y, fun _ => b59.1, g1.trans b59.2, p1, fun x => absurd x hc, fun _ => ⟨hv2, fun _ => trivial⟩⟩
/-! numbers -/
def nuV (t : Nat → Nat) : Nat → Nat → Nat → Nat
  | 0, _, a => a
  | k + 1, i, a => nuV t k (i + 1) (a * 10 + t i - 48)
def vv (t : Nat → Nat) (tp q : Nat) : Nat := nuV t (min (rn isD t tp q - q) 3) q 0
def nOK (t : Nat → Nat) (tp q lo hi : Nat) : Bool := decide (rn isD t tp q ≠ q ∧ rn isD t tp q ≤ q + 3 ∧ lo ≤ vv t tp q ∧ vv t tp q ≤ hi)
theorem nuV_lt {t : Nat → Nat} : ∀ (k i a : Nat), (∀ j, i ≤ j → j < i + k → isD (t j) = true) → nuV t k i a < (a + 1) * 10 ^ k := by
  intro k
  induction k with
  | zero => intro i a _; rw [nuV, Nat.pow_zero]; omega
  | succ k ih =>
    intro i a h
    have h0 := of_decide_eq_true (h i (Nat.le_refl _) (by omega))
    have h1 := ih (i + 1) (a * 10 + t i - 48) (fun j h1 h2 => h j (by omega) (by omega))
    rw [nuV]
    refine Nat.lt_of_lt_of_le h1 ?_
    rw [Nat.pow_succ, Nat.mul_comm (10 ^ k) 10, ← Nat.mul_assoc]
    exact Nat.mul_le_mul_right _ (by omega)
theorem vv_lt {t : Nat → Nat} {tp q : Nat} (hq : q ≤ tp) : vv t tp q < 1000 := by
  unfold vv
  have h := nuV_lt (t := t) (min (rn isD t tp q - q) 3) q 0 (fun j h1 h2 => rn_all (tp := tp) hq h1 (by have := Nat.min_le_left (rn isD t tp q - q) 3; omega))
  have h3 : 10 ^ (min (rn isD t tp q - q) 3) ≤ 10 ^ 3 := Nat.pow_le_pow_right (by decide) (Nat.min_le_right _ _)
  omega
theorem num18 {M : Mem} {t : Nat → Nat} {tp q : Nat} {f : Int32} (h : CS M t tp q f) (v1 v2 : Int32) : ∀ (k g i a : Nat), k < g → i + k = q + min (rn isD t tp q - q) 3 → q ≤ i →
    mX3_number_18 g v1 v2 (nI (rn isD t tp q)) (nI a) (nI i) M = mX3_number_59 v1 v2 (nI (rn isD t tp q)) (nI (nuV t k i a)) M ∧ (PX3_number_59 v1 v2 (nI (rn isD t tp q)) (nI (nuV t k i a)) M → PX3_number_18 g v1 v2 (nI (rn isD t tp q)) (nI a) (nI i) M) := by
  have h200 := h.1.1
  have hq := h.2.1
  have hge : q ≤ rn isD t tp q := rn_ge
  have hle : rn isD t tp q ≤ tp := rn_le hq
  have e3 : M 22 2 + 3 = nI (q + 3) := by rw [h.2.2.1]; exact nI_add q 3
  intro k
  induction k with
  | zero =>
    intro g i a hg hi hqi
    obtain ⟨z, rfl⟩ : ∃ z, g = z + 1 := ⟨g - 1, by omega⟩
    rw [mX3_number_18, PX3_number_18, nuV, e3]
    by_cases y : rn isD t tp q - q ≤ 3
    · rw [Nat.min_eq_left y] at hi
      have hc : nI (rn isD t tp q) ≤ nI i := nI_le (by omega) (by omega)
      rw [if_pos hc]
      exact ⟨rfl, fun hp => ⟨fun _ => hp, fun x => absurd hc x⟩⟩
    · rw [Nat.min_eq_right (by omega)] at hi
      have hc : ¬ nI (rn isD t tp q) ≤ nI i := nI_ge (by omega) (by omega)
      have hd : nI (q + 3) ≤ nI i := nI_le (by omega) (by omega)
      rw [if_neg hc, if_pos hd]
      exact ⟨rfl, fun hp => ⟨fun x => absurd x hc, fun _ => ⟨fun _ => hp, fun x => absurd hd x⟩⟩⟩
  | succ k ih =>
    intro g i a hg hi hqi
    obtain ⟨z, rfl⟩ : ∃ z, g = z + 1 := ⟨g - 1, by omega⟩
    have m1 := Nat.min_le_left (rn isD t tp q - q) 3
    have m2 := Nat.min_le_right (rn isD t tp q - q) 3
    have hc : ¬ nI (rn isD t tp q) ≤ nI i := nI_ge (by omega) (by omega)
    have hd : ¬ nI (q + 3) ≤ nI i := nI_ge (by omega) (by omega)
    have hi1 : nI i + 1 = nI (i + 1) := (nI_succ i).symm
    have hv : M 23 (nI i).toNatClampNeg = nI (t i) := by rw [nIc (by omega)]; exact h.1.2.2.2 i (by omega)
    have dg := of_decide_eq_true (rn_all (P := isD) (tp := tp) hq hqi (show i < rn isD t tp q by omega))
    have ev : ((nI a * 10) + nI (t i)) - 48 = nI (a * 10 + t i - 48) := by
      rw [show nI a * 10 = nI (a * 10) from nI_mulc a 10, nI_add]
      exact nI_subc (b := 48) (by omega)
    obtain ⟨a1, a2⟩ := ih z (i + 1) (a * 10 + t i - 48) (by omega) (by omega) (by omega)
    rw [mX3_number_18, PX3_number_18, nuV, e3, if_neg hc, if_neg hd, hv, ev, hi1]
    exact ⟨a1, fun hp => ⟨fun x => absurd x hc, fun _ => ⟨fun x => absurd x hd, fun _ => ⟨vin (by omega) (by decide), a2 hp⟩⟩⟩⟩
theorem number5 {M : Mem} {t : Nat → Nat} {tp p lo hi : Nat} {f : Int32} (hlo : lo ≤ 100) (hhi : hi ≤ 100) (h : CS M t tp p f) :
    ∃ M', mX3_number (nI lo) (nI hi) M = (nI (if nOK t tp (rn isB t tp p) lo hi = true then vv t tp (rn isB t tp p) else lo), M') ∧ PX3_number (nI lo) (nI hi) M ∧ G5 M M' ∧ (nOK t tp (rn isB t tp p) lo hi = true → CS M' t tp (rn isD t tp (rn isB t tp p)) f) ∧ (nOK t tp (rn isB t tp p) lo hi = false → CS M' t tp (rn isB t tp p) (FF f (rn isB t tp p))) := by
  obtain ⟨c1, g1, p1⟩ := h.skip
  obtain ⟨M1, e1⟩ : ∃ y, y = mX3_skipBlanks M := ⟨_, rfl⟩
  obtain ⟨q, eq⟩ : ∃ y, y = rn isB t tp p := ⟨_, rfl⟩
  rw [← e1, ← eq] at c1
  rw [← e1] at g1
  have h200 := c1.1.1
  have hq := c1.2.1
  have hge : q ≤ rn isD t tp q := rn_ge
  have hle : rn isD t tp q ≤ tp := rn_le hq
  have hvv := vv_lt (t := t) hq
  obtain ⟨d1, d2⟩ := endD c1.1 c1.2.1 c1.2.2.1
  obtain ⟨n1, n2⟩ := num18 c1 (nI lo) (nI hi) (min (rn isD t tp q - q) 3) 400 q 0 (by have := Nat.min_le_right (rn isD t tp q - q) 3; omega) rfl (Nat.le_refl _)
  have n1' : mX3_number_18 400 (nI lo) (nI hi) (nI (rn isD t tp q)) 0 (nI q) M1 = _ := n1
  obtain ⟨b1, b2⟩ := fault5 c1
  have e3 : M1 22 2 + 3 = nI (q + 3) := by rw [c1.2.2.1]; exact nI_add q 3
  have k1 : nI (rn isD t tp q) = M1 22 2 ↔ rn isD t tp q = q := by rw [c1.2.2.1]; exact eq_n (by omega) (by omega)
  have k2 : M1 22 2 + 3 < nI (rn isD t tp q) ↔ q + 3 < rn isD t tp q := by rw [e3]; exact nI_lt_iff (by omega) (by omega)
  have k3 : mX5_isWithin (nI (vv t tp q)) (nI lo) (nI hi) = true ↔ lo ≤ vv t tp q ∧ vv t tp q ≤ hi := by
    rw [isWithin_iff, nI_le_iff (by omega) (by omega), nI_le_iff (by omega) (by omega)]
  have hm : mX3_number (nI lo) (nI hi) M = mX3_number_59 (nI lo) (nI hi) (nI (rn isD t tp q)) (nI (vv t tp q)) M1 := by
    unfold mX3_number mX3_number_4
    rw [← e1, d1, c1.2.2.1]
    exact n1'
  have hP : PX3_number_59 (nI lo) (nI hi) (nI (rn isD t tp q)) (nI (vv t tp q)) M1 → PX3_number (nI lo) (nI hi) M := by
    intro hp
    unfold PX3_number PX3_number_4
    rw [← e1, d1, c1.2.2.1]
    exact ⟨p1, d2, n2 hp⟩
  have hp59 : PX3_number_59 (nI lo) (nI hi) (nI (rn isD t tp q)) (nI (vv t tp q)) M1 := by
    unfold PX3_number_59 PX3_number_87
    first | exact ⟨fun _ => trivial, fun _ => ⟨fun _ => trivial, fun _ _ => trivial⟩⟩ | trivial
  rw [← eq, hm]
  unfold mX3_number_59 mX3_number_87
  cases hn : nOK t tp q lo hi with
  | true =>
    obtain ⟨o1, o2, o3, o4⟩ := of_decide_eq_true hn
    obtain ⟨x1, x2⟩ := c1.go hle
    rw [if_neg (fun z => o1 (k1.mp z)), if_neg (fun z => by have := k2.mp z; omega), if_pos (k3.mpr ⟨o3, o4⟩), if_pos rfl]
    exact ⟨_, rfl, hP hp59, g1.trans x2, fun _ => x1, fun z => (by cases z)⟩
  | false =>
    have o := of_decide_eq_false hn
    rw [if_neg (show ¬ false = true by decide)]
    refine ⟨mX3_findFault M1, ?_, hP hp59, g1.trans b2, fun z => (by cases z), fun _ => b1⟩
    by_cases z1 : rn isD t tp q = q
    · rw [if_pos (k1.mpr z1)]
    · rw [if_neg (fun z => z1 (k1.mp z))]
      by_cases z2 : q + 3 < rn isD t tp q
      · rw [if_pos (k2.mpr z2)]
      · rw [if_neg (fun z => z2 (k2.mp z)), if_neg (fun z => o ⟨z1, by omega, (k3.mp z).1, (k3.mp z).2⟩)]
