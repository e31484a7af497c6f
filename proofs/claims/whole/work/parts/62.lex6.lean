/-! the reference's tokens -/
def tk (t : Nat → Nat) (tp q : Nat) : Nat := if q < tp then (if isA (t q) = true then 1 else if isD (t q) = true then 2 else 3) else 0
def te (t : Nat → Nat) (tp q : Nat) : Nat := if q < tp then (if isA (t q) = true then rn isA t tp q else if isD (t q) = true then rn isD t tp q else q + 1) else q
def vcp (t : Nat → Nat) : Nat → Nat → Nat → Nat
  | 0, _, a => a
  | k + 1, i, a => vcp t k (i + 1) (if a ≤ 999 then 10 * a + t i - 48 else a)
def tv (t : Nat → Nat) (tp q : Nat) : Nat := vcp t (rn isD t tp q - q) q 0
def LEX (N : Mem) (t : Nat → Nat) (tp q : Nat) : Prop := T6 N t tp ∧ q ≤ tp ∧ (q < tp → isB (t q) = false) ∧ N 46 8 = nI q ∧ N 46 7 = nI (tk t tp q) ∧ N 46 9 = nI (te t tp q) ∧ N 46 10 = nI (tv t tp q)
def F6t (N N' : Mem) : Prop := (∀ q, q ≠ 46 → N' q = N q) ∧ ∀ z, z < 7 ∨ 10 < z → N' 46 z = N 46 z
theorem F6t.rf (N : Mem) : F6t N N := ⟨fun _ _ => rfl, fun _ _ => rfl⟩
theorem F6t.trans {A B C : Mem} (h1 : F6t A B) (h2 : F6t B C) : F6t A C := ⟨fun q hq => (h2.1 q hq).trans (h1.1 q hq), fun z hz => (h2.2 z hz).trans (h1.2 z hz)⟩
theorem F6t.up {N : Mem} {k : Nat} {x : Int32} (hk : 7 ≤ k ∧ k ≤ 10) : F6t N (upm N 46 k x) := ⟨fun q hq => upm_ne hq, fun z hz => by rw [upm_at, upd_ne (by omega)]⟩
theorem byte_n {N : Mem} {t : Nat → Nat} {tp i : Nat} (hT : T6 N t tp) (hi : i < tp) : mX6_byteAt (nI i) N = nI (t i) := by
  have h200 := hT.1
  have hc : ¬ N 46 6 ≤ nI i := by rw [hT.2.2.1]; exact nI_ge hi (by omega)
  unfold mX6_byteAt
  rw [if_neg hc, nIc (by omega)]
  exact hT.2.2.2 i hi
theorem byte_e {N : Mem} {t : Nat → Nat} {tp i : Nat} (hT : T6 N t tp) (hi : tp ≤ i) (hi2 : i < 1000) : mX6_byteAt (nI i) N = -1 := by
  have h200 := hT.1
  have hc : N 46 6 ≤ nI i := by rw [hT.2.2.1]; exact nI_le hi (by omega)
  unfold mX6_byteAt
  rw [if_pos hc]
theorem pbyte {N : Mem} {t : Nat → Nat} {tp i : Nat} (hT : T6 N t tp) (hi2 : i < 1000) : PX6_byteAt (nI i) N := by
  have h200 := hT.1
  unfold PX6_byteAt
  intro q
  rw [hT.2.2.1] at q
  have : ¬ tp ≤ i := fun z => q (nI_le z (by omega))
  exact vin (by omega) (by decide)
theorem alpha_n : ∀ c, c < 256 → mX6_isAlpha (nI c) = isA c := by decide +kernel
theorem digit_n : ∀ c, c < 256 → mX6_isDigit (nI c) = isD c := by decide +kernel
theorem alpha_e : mX6_isAlpha (-1) = false := by decide
theorem digit_e : mX6_isDigit (-1) = false := by decide
theorem notboth {c : Nat} (h : isA c = true) : isD c = false := by
  have h1 := of_decide_eq_true h
  exact decide_eq_false (by omega)
theorem tok91 {t : Nat → Nat} {tp : Nat} : ∀ (k f p : Nat) (N : Mem), k < f → p + k = tp → T6 N t tp → N 46 7 = 1 → N 46 9 = nI p →
    ∃ N', mX6_nextToken_91 f N = mX6_nextToken_126 400 N' ∧ (PX6_nextToken_126 400 N' → PX6_nextToken_91 f N) ∧ N' 46 9 = nI (rn isA t tp p) ∧ (∀ z, z ≠ 9 → N' 46 z = N 46 z) ∧ ∀ q, q ≠ 46 → N' q = N q := by
  intro k
  induction k with
  | zero =>
    intro f p N hf hp hT h7 h9
    obtain ⟨g, rfl⟩ : ∃ g, f = g + 1 := ⟨f - 1, by omega⟩
    have h200 := hT.1
    have hb : mX6_byteAt (nI p) N = -1 := byte_e hT (by omega) (by omega)
    refine ⟨N, ?_, ?_, by rw [rn_stop (by omega)]; exact h9, fun _ _ => rfl, fun _ _ => rfl⟩
    · rw [mX6_nextToken_91, if_pos h7, h9, hb, alpha_e, if_neg (by decide)]
    · intro hp'
      rw [PX6_nextToken_91, h9, hb, alpha_e]
      exact ⟨fun _ => ⟨pbyte hT (by omega), fun z => (by cases z), fun _ => hp'⟩, fun _ => hp'⟩
  | succ k ih =>
    intro f p N hf hp hT h7 h9
    obtain ⟨g, rfl⟩ : ∃ g, f = g + 1 := ⟨f - 1, by omega⟩
    have h200 := hT.1
    have hb : mX6_byteAt (nI p) N = nI (t p) := byte_n hT (by omega)
    have hp1 : nI p + 1 = nI (p + 1) := (nI_succ p).symm
    cases q : isA (t p) with
    | true =>
      obtain ⟨N', a1, a2, a3, a4, a5⟩ := ih g (p + 1) (upm N 46 9 (nI (p + 1))) (by omega) (by omega) (hT.of (by rw [upm_at, upd_ne (by decide)]) (upm_ne (by decide))) (by rw [upm_at, upd_ne (by decide)]; exact h7) (by rw [upm_at, upd_at])
      refine ⟨N', ?_, ?_, by rw [rn_yes (by omega) q]; exact a3, fun z hz => (a4 z hz).trans (by rw [upm_at, upd_ne hz]), fun z hz => (a5 z hz).trans (upm_ne hz)⟩
      · rw [mX6_nextToken_91, if_pos h7, h9, hb, alpha_n _ (hT.2.1 p), q, if_pos rfl, hp1]
        exact a1
      · intro hp'
        rw [PX6_nextToken_91, h9, hb, alpha_n _ (hT.2.1 p), q, hp1]
        exact ⟨fun _ => ⟨pbyte hT (by omega), fun _ => a2 hp', fun z => absurd rfl z⟩, fun z => absurd h7 z⟩
    | false =>
      refine ⟨N, ?_, ?_, by rw [rn_no q]; exact h9, fun _ _ => rfl, fun _ _ => rfl⟩
      · rw [mX6_nextToken_91, if_pos h7, h9, hb, alpha_n _ (hT.2.1 p), q, if_neg (by decide)]
      · intro hp'
        rw [PX6_nextToken_91, h9, hb, alpha_n _ (hT.2.1 p), q]
        exact ⟨fun _ => ⟨pbyte hT (by omega), fun z => (by cases z), fun _ => hp'⟩, fun _ => hp'⟩
theorem tok201 (N : Mem) : PX6_nextToken_201 N := by
  unfold PX6_nextToken_201 PX6_nextToken_219
  first | exact ⟨fun _ => trivial, fun _ => trivial⟩ | trivial
theorem tok126 {t : Nat → Nat} {tp : Nat} : ∀ (k f p a : Nat) (N : Mem), k < f → p + k = tp → T6 N t tp → N 46 7 = 2 → N 46 9 = nI p → N 46 10 = nI a → a ≤ 10000 →
    ∃ N', mX6_nextToken_126 f N = mX6_nextToken_201 N' ∧ PX6_nextToken_126 f N ∧ N' 46 9 = nI (rn isD t tp p) ∧ N' 46 10 = nI (vcp t (rn isD t tp p - p) p a) ∧ (∀ z, z ≠ 9 → z ≠ 10 → N' 46 z = N 46 z) ∧ ∀ q, q ≠ 46 → N' q = N q := by
  intro k
  induction k with
  | zero =>
    intro f p a N hf hp hT h7 h9 h10 ha
    obtain ⟨g, rfl⟩ : ∃ g, f = g + 1 := ⟨f - 1, by omega⟩
    have h200 := hT.1
    have hb : mX6_byteAt (nI p) N = -1 := byte_e hT (by omega) (by omega)
    refine ⟨N, ?_, ?_, by rw [rn_stop (by omega)]; exact h9, by rw [rn_stop (by omega), Nat.sub_self]; exact h10, fun _ _ _ => rfl, fun _ _ => rfl⟩
    · rw [mX6_nextToken_126, if_pos h7, h9, hb, digit_e, if_neg (by decide)]
    · rw [PX6_nextToken_126, h9, hb, digit_e]
      exact ⟨fun _ => ⟨pbyte hT (by omega), fun z => (by cases z), fun _ => tok201 N⟩, fun _ => tok201 N⟩
  | succ k ih =>
    intro f p a N hf hp hT h7 h9 h10 ha
    obtain ⟨g, rfl⟩ : ∃ g, f = g + 1 := ⟨f - 1, by omega⟩
    have h200 := hT.1
    have hb : mX6_byteAt (nI p) N = nI (t p) := byte_n hT (by omega)
    have hp1 : nI p + 1 = nI (p + 1) := (nI_succ p).symm
    have pb := pbyte hT (show p < 1000 by omega)
    cases q : isD (t p) with
    | true =>
      have hd := of_decide_eq_true q
      have hge : p + 1 ≤ rn isD t tp (p + 1) := rn_ge
      have e999 : nI a ≤ 999 ↔ a ≤ 999 := nI_le_iff (b := 999) (by omega) (by decide)
      obtain ⟨b, eb⟩ : ∃ y, y = if a ≤ 999 then 10 * a + t p - 48 else a := ⟨_, rfl⟩
      have hb1 : b ≤ 10000 := by
        rw [eb]
        by_cases z : a ≤ 999
        · rw [if_pos z]; omega
        · rw [if_neg z]; exact ha
      obtain ⟨N', a1, a2, a3, a4, a5, a6⟩ := ih g (p + 1) b (upm (upm N 46 10 (nI b)) 46 9 (nI (p + 1))) (by omega) (by omega) (hT.of (by rw [upm_at, upd_ne (by decide), upm_at, upd_ne (by decide)]) (by rw [upm_ne (by decide), upm_ne (by decide)])) (by rw [upm_at, upd_ne (by decide), upm_at, upd_ne (by decide)]; exact h7) (by rw [upm_at, upd_at]) (by rw [upm_at, upd_ne (by decide), upm_at, upd_at]) hb1
      have e9 : ∀ y, upm N 46 10 y 46 9 + 1 = nI (p + 1) := fun y => by rw [upm_at, upd_ne (by decide), h9, hp1]
      have ev : ((10 * nI a) + nI (t p)) - 48 = nI (10 * a + t p - 48) := by
        rw [show (10 : Int32) * nI a = nI (10 * a) from nI_mulc 10 a, nI_add]
        exact nI_subc (b := 48) (by omega)
      refine ⟨N', ?_, ?_, by rw [rn_yes (by omega) q]; exact a3, ?_, fun z z1 z2 => (a5 z z1 z2).trans (by rw [upm_at, upd_ne z1, upm_at, upd_ne z2]), fun z hz => (a6 z hz).trans (by rw [upm_ne hz, upm_ne hz])⟩
      · rw [mX6_nextToken_126, if_pos h7, h9, hb, digit_n _ (hT.2.1 p), q, if_pos rfl, h10]
        unfold mX6_nextToken_185
        rw [e9, e9, ev]
        by_cases z : a ≤ 999
        · rw [if_pos z] at eb
          rw [if_pos (e999.mpr z), ← eb]
          exact a1
        · rw [if_neg z] at eb
          rw [if_neg (fun y => z (e999.mp y)), ← eb]
          exact a1
      · rw [PX6_nextToken_126, h9, hb, digit_n _ (hT.2.1 p), q, h10]
        unfold PX6_nextToken_185
        rw [e9, e9, ev]
        refine ⟨fun _ => ⟨pb, fun _ => ⟨fun y => ⟨pb, ?_⟩, fun y => ?_⟩, fun y => absurd rfl y⟩, fun y => absurd h7 y⟩
        · rw [if_pos (e999.mp y)] at eb
          rw [← eb]; exact a2
        · rw [if_neg (fun z => y (e999.mpr z))] at eb
          rw [← eb]; exact a2
      · rw [a4, rn_yes (show p < tp by omega) q, show rn isD t tp (p + 1) - p = (rn isD t tp (p + 1) - (p + 1)) + 1 by omega, vcp, eb]
    | false =>
      refine ⟨N, ?_, ?_, by rw [rn_no q]; exact h9, by rw [rn_no q, Nat.sub_self]; exact h10, fun _ _ _ => rfl, fun _ _ => rfl⟩
      · rw [mX6_nextToken_126, if_pos h7, h9, hb, digit_n _ (hT.2.1 p), q, if_neg (by decide)]
      · rw [PX6_nextToken_126, h9, hb, digit_n _ (hT.2.1 p), q]
        exact ⟨fun _ => ⟨pb, fun z => (by cases z), fun _ => tok201 N⟩, fun _ => tok201 N⟩
theorem m201 {N : Mem} {k e : Nat} (hk : k ≤ 3) (h7 : N 46 7 = nI k) (h9 : N 46 9 = nI e) : mX6_nextToken_201 N = upm N 46 9 (nI (if k ≤ 2 then e else e + 1)) := by
  have e2 : nI k ≤ 2 ↔ k ≤ 2 := nI_le_iff (b := 2) (by omega) (by decide)
  unfold mX6_nextToken_201 mX6_nextToken_219
  rw [h7, h9]
  by_cases z : k ≤ 2
  · rw [if_pos (e2.mpr z), if_pos z, show nI e + 0 = nI e from Int32.add_zero _]
  · rw [if_neg (fun y => z (e2.mp y)), if_neg z, nI_succ]
/-- behind the blanks: what stands there -/
theorem tok83 {t : Nat → Nat} {tp q : Nat} {N : Mem} (hT : T6 N t tp) (hq : q ≤ tp) (hb : q < tp → isB (t q) = false) (h8 : N 46 8 = nI q) (h9 : N 46 9 = nI q) : LEX (mX6_nextToken_83 (nI (tk t tp q)) N) t tp q ∧ F6t N (mX6_nextToken_83 (nI (tk t tp q)) N) ∧ PX6_nextToken_83 (nI (tk t tp q)) N := by
  have h200 := hT.1
  obtain ⟨N1, e1⟩ : ∃ y, y = upm (upm N 46 7 (nI (tk t tp q))) 46 10 0 := ⟨_, rfl⟩
  have f1 : F6t N N1 := by rw [e1]; exact (F6t.up (by decide)).trans (F6t.up (by decide))
  have hT1 : T6 N1 t tp := hT.of (f1.2 6 (by decide)) (f1.1 51 (by decide))
  have n7 : N1 46 7 = nI (tk t tp q) := by rw [e1, upm_at, upd_ne (by decide), upm_at, upd_at]
  have n8 : N1 46 8 = nI q := by rw [e1, upm_at, upd_ne (by decide), upm_at, upd_ne (by decide)]; exact h8
  have n9 : N1 46 9 = nI q := by rw [e1, upm_at, upd_ne (by decide), upm_at, upd_ne (by decide)]; exact h9
  have n10 : N1 46 10 = nI 0 := by rw [e1, upm_at, upd_at]; rfl
  have fin : ∀ N2 : Mem, T6 N2 t tp → N2 46 7 = nI (tk t tp q) → N2 46 8 = nI q → N2 46 10 = nI (tv t tp q) → F6t N N2 → ∀ e, N2 46 9 = nI e → te t tp q = (if tk t tp q ≤ 2 then e else e + 1) → tk t tp q ≤ 3 → LEX (mX6_nextToken_201 N2) t tp q ∧ F6t N (mX6_nextToken_201 N2) := by
    intro N2 g1 g2 g3 g4 g5 e g6 g7 g8
    rw [m201 g8 g2 g6, ← g7]
    refine ⟨⟨g1.of (by rw [upm_at, upd_ne (by decide)]) (upm_ne (by decide)), hq, hb, by rw [upm_at, upd_ne (by decide)]; exact g3, by rw [upm_at, upd_ne (by decide)]; exact g2, by rw [upm_at, upd_at], by rw [upm_at, upd_ne (by decide)]; exact g4⟩, g5.trans (F6t.up (by decide))⟩
  unfold mX6_nextToken_83 PX6_nextToken_83
  rw [← e1]
  by_cases hlt : q < tp
  · cases hA : isA (t q) with
    | true =>
      have ek : tk t tp q = 1 := by unfold tk; rw [if_pos hlt, hA, if_pos rfl]
      have ee : te t tp q = rn isA t tp q := by unfold te; rw [if_pos hlt, hA, if_pos rfl]
      have ev : tv t tp q = 0 := by unfold tv; rw [rn_no (notboth hA), Nat.sub_self]; rfl
      rw [ek] at n7 fin
      obtain ⟨N2, a1, a2, a3, a4, a5⟩ := tok91 (tp - q) 400 q N1 (by omega) (by omega) hT1 n7 n9
      have m7 : N2 46 7 = nI 1 := (a4 7 (by decide)).trans n7
      have c2 : ¬ N2 46 7 = 2 := by rw [m7]; decide
      have e126 : mX6_nextToken_126 400 N2 = mX6_nextToken_201 N2 := by
        rw [show (400 : Nat) = 399 + 1 from rfl, mX6_nextToken_126, if_neg c2]
      have p126 : PX6_nextToken_126 400 N2 := by
        rw [show (400 : Nat) = 399 + 1 from rfl, PX6_nextToken_126]
        exact ⟨fun z => absurd z c2, fun _ => tok201 N2⟩
      have f2 : F6t N N2 := f1.trans ⟨a5, fun z hz => a4 z (by omega)⟩
      rw [a1, e126]
      obtain ⟨x1, x2⟩ := fin N2 (hT.of (f2.2 6 (by decide)) (f2.1 51 (by decide))) m7 ((a4 8 (by decide)).trans n8) (by rw [ev, a4 10 (by decide)]; exact n10) f2 _ a3 (by rw [ee, if_pos (by decide)]) (by decide)
      exact ⟨x1, x2, a2 p126⟩
    | false =>
      cases hD : isD (t q) with
      | true =>
        have ek : tk t tp q = 2 := by unfold tk; rw [if_pos hlt, hA, if_neg (by decide), hD, if_pos rfl]
        have ee : te t tp q = rn isD t tp q := by unfold te; rw [if_pos hlt, hA, if_neg (by decide), hD, if_pos rfl]
        rw [ek] at n7 fin
        have c1 : ¬ N1 46 7 = 1 := by rw [n7]; decide
        obtain ⟨N2, a1, a2, a3, a4, a5, a6⟩ := tok126 (tp - q) 400 q 0 N1 (by omega) (by omega) hT1 n7 n9 n10 (by decide)
        have e91 : mX6_nextToken_91 400 N1 = mX6_nextToken_126 400 N1 := by
          rw [show mX6_nextToken_91 400 N1 = mX6_nextToken_91 (399 + 1) N1 from rfl, mX6_nextToken_91, if_neg c1]
        have p91 : PX6_nextToken_91 400 N1 := by
          rw [show PX6_nextToken_91 400 N1 = PX6_nextToken_91 (399 + 1) N1 from rfl, PX6_nextToken_91]
          exact ⟨fun z => absurd z c1, fun _ => a2⟩
        have f2 : F6t N N2 := f1.trans ⟨a6, fun z hz => a5 z (by omega) (by omega)⟩
        rw [e91, a1]
        obtain ⟨x1, x2⟩ := fin N2 (hT.of (f2.2 6 (by decide)) (f2.1 51 (by decide))) ((a5 7 (by decide) (by decide)).trans n7) ((a5 8 (by decide) (by decide)).trans n8) a4 f2 _ a3 (by rw [ee, if_pos (by decide)]) (by decide)
        exact ⟨x1, x2, p91⟩
      | false =>
        have ek : tk t tp q = 3 := by unfold tk; rw [if_pos hlt, hA, if_neg (by decide), hD, if_neg (by decide)]
        have ee : te t tp q = q + 1 := by unfold te; rw [if_pos hlt, hA, if_neg (by decide), hD, if_neg (by decide)]
        have ev : tv t tp q = 0 := by unfold tv; rw [rn_no hD, Nat.sub_self]; rfl
        rw [ek] at n7 fin
        have c1 : ¬ N1 46 7 = 1 := by rw [n7]; decide
        have c2 : ¬ N1 46 7 = 2 := by rw [n7]; decide
        have e91 : mX6_nextToken_91 400 N1 = mX6_nextToken_201 N1 := by
          rw [show mX6_nextToken_91 400 N1 = mX6_nextToken_91 (399 + 1) N1 from rfl, mX6_nextToken_91, if_neg c1, show mX6_nextToken_126 400 N1 = mX6_nextToken_126 (399 + 1) N1 from rfl, mX6_nextToken_126, if_neg c2]
        have p91 : PX6_nextToken_91 400 N1 := by
          rw [show PX6_nextToken_91 400 N1 = PX6_nextToken_91 (399 + 1) N1 from rfl, PX6_nextToken_91]
          refine ⟨fun z => absurd z c1, fun _ => ?_⟩
          rw [show PX6_nextToken_126 400 N1 = PX6_nextToken_126 (399 + 1) N1 from rfl, PX6_nextToken_126]
          exact ⟨fun z => absurd z c2, fun _ => tok201 N1⟩
        rw [e91]
        obtain ⟨x1, x2⟩ := fin N1 hT1 n7 n8 (by rw [ev]; exact n10) f1 _ n9 (by rw [ee, if_neg (by decide)]) (by decide)
        exact ⟨x1, x2, p91⟩
  · have ek : tk t tp q = 0 := by unfold tk; rw [if_neg hlt]
    have ee : te t tp q = q := by unfold te; rw [if_neg hlt]
    have ev : tv t tp q = 0 := by unfold tv; rw [rn_stop (by omega), Nat.sub_self]; rfl
    rw [ek] at n7 fin
    have c1 : ¬ N1 46 7 = 1 := by rw [n7]; decide
    have c2 : ¬ N1 46 7 = 2 := by rw [n7]; decide
    have e91 : mX6_nextToken_91 400 N1 = mX6_nextToken_201 N1 := by
      rw [show mX6_nextToken_91 400 N1 = mX6_nextToken_91 (399 + 1) N1 from rfl, mX6_nextToken_91, if_neg c1, show mX6_nextToken_126 400 N1 = mX6_nextToken_126 (399 + 1) N1 from rfl, mX6_nextToken_126, if_neg c2]
    have p91 : PX6_nextToken_91 400 N1 := by
      rw [show PX6_nextToken_91 400 N1 = PX6_nextToken_91 (399 + 1) N1 from rfl, PX6_nextToken_91]
      refine ⟨fun z => absurd z c1, fun _ => ?_⟩
      rw [show PX6_nextToken_126 400 N1 = PX6_nextToken_126 (399 + 1) N1 from rfl, PX6_nextToken_126]
      exact ⟨fun z => absurd z c2, fun _ => tok201 N1⟩
    rw [e91]
    obtain ⟨x1, x2⟩ := fin N1 hT1 n7 n8 (by rw [ev]; exact n10) f1 _ n9 (by rw [ee, if_pos (by decide)]) (by decide)
    exact ⟨x1, x2, p91⟩
theorem tok8 {t : Nat → Nat} {tp : Nat} : ∀ (k f p : Nat) (N : Mem), k < f → p + k = tp → T6 N t tp → N 46 8 = nI p →
    LEX (mX6_nextToken_8 f N) t tp (rn isB t tp p) ∧ F6t N (mX6_nextToken_8 f N) ∧ PX6_nextToken_8 f N := by
  have here : ∀ (g p : Nat) (N : Mem), p ≤ tp → T6 N t tp → N 46 8 = nI p → (p < tp → isB (t p) = false) → LEX (mX6_nextToken_8 (g + 1) N) t tp p ∧ F6t N (mX6_nextToken_8 (g + 1) N) ∧ PX6_nextToken_8 (g + 1) N := by
    intro g p N hp hT h8 hb
    have h200 := hT.1
    have f1 : F6t N (upm N 46 9 (nI p)) := F6t.up (by decide)
    have e8 : upm N 46 9 (nI p) 46 8 = nI p := by rw [upm_at, upd_ne (by decide)]; exact h8
    obtain ⟨N1, e1⟩ : ∃ y, y = upm N 46 9 (nI p) := ⟨_, rfl⟩
    have n9 : N1 46 9 = nI p := by rw [e1, upm_at, upd_at]
    rw [← e1] at f1 e8
    have hT1 : T6 N1 t tp := hT.of (f1.2 6 (by decide)) (f1.1 51 (by decide))
    obtain ⟨x1, x2, x3⟩ := tok83 hT1 hp hb e8 n9
    have pb := pbyte hT (show p < 1000 by omega)
    have pb1 := pbyte hT1 (show p < 1000 by omega)
    rw [mX6_nextToken_8, PX6_nextToken_8, h8, ← e1, e8]
    by_cases hlt : p < tp
    · have hb1 : mX6_byteAt (nI p) N = nI (t p) := byte_n hT hlt
      have hb2 : mX6_byteAt (nI p) N1 = nI (t p) := byte_n hT1 hlt
      have n32 : ¬ nI (t p) = 32 := fun z => by
        have := (eq_n (b := 32) (hT.2.1 p) (by decide)).mp z
        exact absurd (hb hlt) (by unfold isB; rw [decide_eq_true this]; decide)
      have c0 : 0 ≤ nI (t p) := nI_pos' (by have := hT.2.1 p; omega)
      rw [hb1, hb2, if_neg n32, if_pos c0, alpha_n _ (hT.2.1 p), digit_n _ (hT.2.1 p)]
      cases hA : isA (t p) with
      | true =>
        have ek : tk t tp p = 1 := by unfold tk; rw [if_pos hlt, hA, if_pos rfl]
        rw [ek] at x1 x2 x3
        rw [if_pos rfl]
        exact ⟨x1, f1.trans x2, pb, fun z => absurd z n32, fun _ => ⟨pb1, fun _ => ⟨fun _ => x3, fun z => absurd rfl z⟩, fun z => absurd c0 z⟩⟩
      | false =>
        rw [if_neg (by decide)]
        cases hD : isD (t p) with
        | true =>
          have ek : tk t tp p = 2 := by unfold tk; rw [if_pos hlt, hA, if_neg (by decide), hD, if_pos rfl]
          rw [ek] at x1 x2 x3
          rw [if_pos rfl]
          exact ⟨x1, f1.trans x2, pb, fun z => absurd z n32, fun _ => ⟨pb1, fun _ => ⟨fun z => (by cases z), fun _ => ⟨fun _ => x3, fun z => absurd rfl z⟩⟩, fun z => absurd c0 z⟩⟩
        | false =>
          have ek : tk t tp p = 3 := by unfold tk; rw [if_pos hlt, hA, if_neg (by decide), hD, if_neg (by decide)]
          rw [ek] at x1 x2 x3
          rw [if_neg (by decide)]
          exact ⟨x1, f1.trans x2, pb, fun z => absurd z n32, fun _ => ⟨pb1, fun _ => ⟨fun z => (by cases z), fun _ => ⟨fun z => (by cases z), fun _ => x3⟩⟩, fun z => absurd c0 z⟩⟩
    · have hb1 : mX6_byteAt (nI p) N = -1 := byte_e hT (by omega) (by omega)
      have hb2 : mX6_byteAt (nI p) N1 = -1 := byte_e hT1 (by omega) (by omega)
      have n32 : ¬ (-1 : Int32) = 32 := by decide
      have c0 : ¬ (0 : Int32) ≤ -1 := by decide
      have ek : tk t tp p = 0 := by unfold tk; rw [if_neg hlt]
      rw [ek] at x1 x2 x3
      rw [hb1, hb2, if_neg n32, if_neg c0]
      exact ⟨x1, f1.trans x2, pb, fun z => absurd z n32, fun _ => ⟨pb1, fun z => absurd z c0, fun _ => x3⟩⟩
  intro k
  induction k with
  | zero =>
    intro f p N hf hp hT h8
    obtain ⟨g, rfl⟩ : ∃ g, f = g + 1 := ⟨f - 1, by omega⟩
    rw [rn_stop (by omega)]
    exact here g p N (by omega) hT h8 (fun z => by omega)
  | succ k ih =>
    intro f p N hf hp hT h8
    obtain ⟨g, rfl⟩ : ∃ g, f = g + 1 := ⟨f - 1, by omega⟩
    have h200 := hT.1
    cases hB : isB (t p) with
    | false =>
      rw [rn_no hB]
      exact here g p N (by omega) hT h8 (fun _ => hB)
    | true =>
      have e32 : nI (t p) = 32 := (eq_n (b := 32) (hT.2.1 p) (by decide)).mpr (of_decide_eq_true hB)
      have hb1 : mX6_byteAt (nI p) N = nI (t p) := byte_n hT (by omega)
      have hp1 : nI p + 1 = nI (p + 1) := (nI_succ p).symm
      have f1 : F6t N (upm N 46 8 (nI (p + 1))) := F6t.up (by decide)
      obtain ⟨a1, a2, a3⟩ := ih g (p + 1) (upm N 46 8 (nI (p + 1))) (by omega) (by omega) (hT.of (f1.2 6 (by decide)) (f1.1 51 (by decide))) (by rw [upm_at, upd_at])
      rw [rn_yes (by omega) hB, mX6_nextToken_8, PX6_nextToken_8, h8, hb1, if_pos e32, hp1]
      exact ⟨a1, f1.trans a2, pbyte hT (by omega), fun _ => a3, fun z => absurd e32 z⟩
theorem next6 {t : Nat → Nat} {tp e : Nat} {N : Mem} (hT : T6 N t tp) (he : e ≤ tp) (h9 : N 46 9 = nI e) : LEX (mX6_nextToken N) t tp (rn isB t tp e) ∧ F6t N (mX6_nextToken N) ∧ PX6_nextToken N := by
  have f1 : F6t N (upm N 46 8 (nI e)) := F6t.up (by decide)
  obtain ⟨a1, a2, a3⟩ := tok8 (tp - e) 400 e (upm N 46 8 (nI e)) (by have := hT.1; omega) (by omega) (hT.of (f1.2 6 (by decide)) (f1.1 51 (by decide))) (by rw [upm_at, upd_at])
  unfold mX6_nextToken PX6_nextToken
  rw [h9]
  exact ⟨a1, f1.trans a2, a3⟩
theorem te_le {t : Nat → Nat} {tp q : Nat} (hq : q ≤ tp) : te t tp q ≤ tp := by
  unfold te
  by_cases h : q < tp
  · rw [if_pos h]
    repeat' split
    · exact rn_le hq
    · exact rn_le hq
    · omega
  · rw [if_neg h]; exact hq
