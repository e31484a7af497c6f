/-! both read on -/
def F6c (N N' : Mem) : Prop := (∀ q, q ≠ 46 → q ≠ 47 → N' q = N q) ∧ ∀ z, z < 7 ∨ 11 < z → N' 46 z = N 46 z
theorem F6c.rf (N : Mem) : F6c N N := ⟨fun _ _ _ => rfl, fun _ _ => rfl⟩
theorem F6c.trans {A B C : Mem} (h1 : F6c A B) (h2 : F6c B C) : F6c A C := ⟨fun q a b => (h2.1 q a b).trans (h1.1 q a b), fun z hz => (h2.2 z hz).trans (h1.2 z hz)⟩
theorem F6t.c {N N' : Mem} (h : F6t N N') : F6c N N' := ⟨fun q a _ => h.1 q a, fun z hz => h.2 z (by omega)⟩
theorem F6c.up {N : Mem} {k : Nat} {x : Int32} (hk : 7 ≤ k ∧ k ≤ 11) : F6c N (upm N 46 k x) := ⟨fun q a _ => upm_ne a, fun z hz => by rw [upm_at, upd_ne (by omega)]⟩
theorem F6c.up47 {N : Mem} {k : Nat} {x : Int32} : F6c N (upm N 47 k x) := ⟨fun q _ b => upm_ne b, fun z hz => by rw [upm_ne (by decide)]⟩
theorem LEX.of {N N' : Mem} {t : Nat → Nat} {tp q : Nat} (h : LEX N t tp q) (h6 : ∀ z, z ≤ 10 → N' 46 z = N 46 z) (h51 : N' 51 = N 51) : LEX N' t tp q :=
  ⟨h.1.of (h6 6 (by decide)) h51, h.2.1, h.2.2.1, (h6 8 (by decide)).trans h.2.2.2.1, (h6 7 (by decide)).trans h.2.2.2.2.1, (h6 9 (by decide)).trans h.2.2.2.2.2.1, (h6 10 (by decide)).trans h.2.2.2.2.2.2⟩
theorem needs_t {N : Mem} {t : Nat → Nat} {tp q : Nat} {k : Int32} (h : LEX N t tp q) (hw : N 46 11 = 0) (hk : ¬ k = 0) :
    LEX (mX6_needs k N) t tp (rn isB t tp (te t tp q)) ∧ mX6_needs k N 46 11 = 0 ∧ mX6_needs k N 47 = N 47 ∧ F6c N (mX6_needs k N) ∧ PX6_needs k N := by
  have eN : upm N 46 11 0 = N := upm_self hw
  obtain ⟨a1, a2, a3⟩ := next6 h.1 (te_le h.2.1) h.2.2.2.2.2.1
  have e : mX6_needs k N = mX6_nextToken N := by
    unfold mX6_needs mX6_needs_17
    rw [if_pos hw, if_neg hk, eN, if_pos hw]
  rw [e]
  refine ⟨a1, by rw [a2.2 11 (by omega)]; exact hw, a2.1 47 (by decide), a2.c, ?_⟩
  unfold PX6_needs PX6_needs_17
  rw [eN]
  exact ⟨fun _ => ⟨fun z => absurd z hk, fun _ => ⟨Or.inl rfl, fun _ => a3⟩⟩, fun z => absurd hw z⟩
theorem needs_12 (N : Mem) : mX6_needs_12 N = upm N 46 11 1 ∧ PX6_needs_12 N := by
  have e : upm N 46 11 1 46 11 = 1 := by rw [upm_at, upd_at]
  unfold mX6_needs_12 mX6_needs_17 PX6_needs_12 PX6_needs_17
  rw [e, if_neg (by decide)]
  exact ⟨rfl, Or.inr rfl, fun z => absurd z (by decide)⟩
theorem LEX.wr {N : Mem} {t : Nat → Nat} {tp q : Nat} (h : LEX N t tp q) : LEX (upm N 46 11 1) t tp q ∧ upm N 46 11 1 46 11 = 1 ∧ upm N 46 11 1 47 = N 47 ∧ F6c N (upm N 46 11 1) :=
  ⟨h.of (fun z hz => by rw [upm_at, upd_ne (by omega)]) (upm_ne (by decide)), by rw [upm_at, upd_at], upm_ne (by decide), F6c.up (by decide)⟩
theorem needs_f {N : Mem} {t : Nat → Nat} {tp q : Nat} {k : Int32} (h : LEX N t tp q) (hw : N 46 11 = 0 → k = 0) :
    LEX (mX6_needs k N) t tp q ∧ mX6_needs k N 46 11 = 1 ∧ mX6_needs k N 47 = N 47 ∧ F6c N (mX6_needs k N) ∧ PX6_needs k N := by
  obtain ⟨e, p⟩ := needs_12 N
  have e2 : mX6_needs k N = upm N 46 11 1 := by
    unfold mX6_needs
    by_cases z : N 46 11 = 0
    · rw [if_pos z, if_pos (hw z)]; exact e
    · rw [if_neg z]; exact e
  obtain ⟨a1, a2, a3, a4⟩ := h.wr
  rw [e2]
  refine ⟨a1, a2, a3, a4, ?_⟩
  unfold PX6_needs
  exact ⟨fun z => ⟨fun _ => p, fun y => absurd (hw z) y⟩, fun _ => p⟩
theorem vcp_nuV {t : Nat → Nat} : ∀ (k i a : Nat), k ≤ 3 → a < 10 ^ (3 - k) → (∀ j, i ≤ j → j < i + k → isD (t j) = true) → vcp t k i a = nuV t k i a := by
  intro k
  induction k with
  | zero => intro i a _ _ _; rfl
  | succ k ih =>
    intro i a hk ha h
    have hd := of_decide_eq_true (h i (Nat.le_refl _) (by omega))
    have h1 : 10 ^ (3 - k) = 10 ^ (3 - (k + 1)) * 10 := by
      have e : 3 - k = (3 - (k + 1)) + 1 := by omega
      rw [e, Nat.pow_succ]
    have h2 : 10 ^ (3 - (k + 1)) ≤ 10 ^ 3 := Nat.pow_le_pow_right (by decide) (by omega)
    rw [vcp, nuV, if_pos (by omega), show 10 * a + t i - 48 = a * 10 + t i - 48 by omega]
    exact ih (i + 1) _ (by omega) (by omega) (fun j h3 h4 => h j (by omega) (by omega))
theorem tv_vv {t : Nat → Nat} {tp q : Nat} (hq : q ≤ tp) (h3 : rn isD t tp q ≤ q + 3) : tv t tp q = vv t tp q := by
  unfold tv vv
  rw [Nat.min_eq_left (by omega)]
  exact vcp_nuV _ q 0 (by omega) (Nat.pow_pos (by decide)) (fun j h1 h2 => rn_all (tp := tp) hq h1 (by omega))
theorem tk2 {t : Nat → Nat} {tp q : Nat} : tk t tp q = 2 ↔ rn isD t tp q ≠ q := by
  unfold tk
  by_cases hlt : q < tp
  · rw [if_pos hlt]
    cases hA : isA (t q) with
    | true =>
      rw [if_pos rfl, rn_no (notboth hA)]
      exact ⟨fun z => by omega, fun z => absurd rfl z⟩
    | false =>
      rw [if_neg (by decide)]
      cases hD : isD (t q) with
      | true =>
        have : q + 1 ≤ rn isD t tp (q + 1) := rn_ge
        rw [if_pos rfl, rn_yes hlt hD]
        exact ⟨fun _ => by omega, fun _ => rfl⟩
      | false =>
        rw [if_neg (by decide), rn_no hD]
        exact ⟨fun z => by omega, fun z => absurd rfl z⟩
  · rw [if_neg hlt, rn_stop (by omega)]
    exact ⟨fun z => by omega, fun z => absurd rfl z⟩
theorem te2 {t : Nat → Nat} {tp q : Nat} (h : rn isD t tp q ≠ q) : te t tp q = rn isD t tp q := by
  have hlt : q < tp := by
    rcases Nat.lt_or_ge q tp with z | z
    · exact z
    · exact absurd (rn_stop z) h
  have hD : isD (t q) = true := by
    cases x : isD (t q) with
    | true => rfl
    | false => exact absurd (rn_no x) h
  have hA : isA (t q) = false := by
    cases x : isA (t q) with
    | false => rfl
    | true => rw [notboth x] at hD; cases hD
  unfold te
  rw [if_pos hlt, hA, if_neg (by decide), hD, if_pos rfl]
/-- what the reference asks of a number -/
theorem num_cond {N : Mem} {t : Nat → Nat} {tp q lo hi : Nat} (h : LEX N t tp q) (hlo : lo ≤ 100) (hhi : hi ≤ 100) {α : Type} (A B : α) :
    (if (N 46 7) = 2 then (if 3 < ((N 46 9) - (N 46 8)) then B else (if (N 46 10) < nI lo then B else (if nI hi < (N 46 10) then B else A))) else B) = if nOK t tp q lo hi = true then A else B := by
  have h200 := h.1.1
  have hq := h.2.1
  have k2 : N 46 7 = 2 ↔ tk t tp q = 2 := h.tk_iff 2 (by decide)
  have hge := te_ge (t := t) (tp := tp) (q := q)
  have hle := te_le (t := t) hq
  have e3 : 3 < N 46 9 - N 46 8 ↔ q + 3 < te t tp q := by
    rw [h.2.2.2.2.2.1, h.2.2.2.1, nI_subc hge]
    have := nI_lt_iff (a := 3) (b := te t tp q - q) (by decide) (by omega)
    exact this.trans (by omega)
  by_cases z : tk t tp q = 2
  · have zd := tk2.mp z
    rw [if_pos (k2.mpr z)]
    rw [te2 zd] at e3
    by_cases y : q + 3 < rn isD t tp q
    · rw [if_pos (e3.mpr y)]
      unfold nOK
      rw [decide_eq_false (by omega), if_neg (by decide)]
    · rw [if_neg (fun x => y (e3.mp x)), h.2.2.2.2.2.2, tv_vv hq (by omega)]
      have hvv := vv_lt (t := t) hq
      have l1 : nI (vv t tp q) < nI lo ↔ vv t tp q < lo := nI_lt_iff (by omega) (by omega)
      have l2 : nI hi < nI (vv t tp q) ↔ hi < vv t tp q := nI_lt_iff (by omega) (by omega)
      unfold nOK
      by_cases w1 : vv t tp q < lo
      · rw [if_pos (l1.mpr w1), decide_eq_false (by omega), if_neg (by decide)]
      · rw [if_neg (fun x => w1 (l1.mp x))]
        by_cases w2 : hi < vv t tp q
        · rw [if_pos (l2.mpr w2), decide_eq_false (by omega), if_neg (by decide)]
        · rw [if_neg (fun x => w2 (l2.mp x)), decide_eq_true (by omega), if_pos rfl]
  · rw [if_neg (fun x => z (k2.mp x))]
    have zd : ¬ rn isD t tp q ≠ q := fun x => z (tk2.mpr x)
    unfold nOK
    rw [decide_eq_false (fun x => zd x.1), if_neg (by decide)]
theorem numP {N : Mem} {at' lo hi : Int32} (h0 : PX6_numberTo_41 at' N) (h1 : PX6_numberTo_42 at' 1 N) : PX6_numberTo at' lo hi N := by
  unfold PX6_numberTo
  exact ⟨fun _ => ⟨fun _ => h0, fun _ => ⟨fun _ => h0, fun _ => ⟨fun _ => h0, fun _ => h1⟩⟩⟩, fun _ => h0⟩
theorem numTo {N : Mem} {t : Nat → Nat} {tp q lo hi : Nat} {at' : Int32} (h : LEX N t tp q) (hlo : lo ≤ 100) (hhi : hi ≤ 100) : mX6_numberTo at' (nI lo) (nI hi) N = if nOK t tp q lo hi = true then mX6_numberTo_42 at' 1 N else mX6_numberTo_41 at' N := by
  unfold mX6_numberTo
  exact num_cond h hlo hhi _ _
theorem nOK_e {t : Nat → Nat} {tp q lo hi : Nat} (h : nOK t tp q lo hi = true) : rn isD t tp q ≠ q ∧ te t tp q = rn isD t tp q ∧ tv t tp q = vv t tp q ∨ tp < q := by
  obtain ⟨h1, h2, h3, h4⟩ := of_decide_eq_true h
  rcases Nat.lt_or_ge tp q with z | z
  · exact Or.inr z
  · exact Or.inl ⟨h1, te2 h1, tv_vv z h2⟩
/-- a number, all right so far -/
theorem num_t {N : Mem} {t : Nat → Nat} {tp q lo hi a : Nat} (h : LEX N t tp q) (hw : N 46 11 = 0) (hlo : lo ≤ 100) (hhi : hi ≤ 100) (ha : a < 56) (hn : nOK t tp q lo hi = true) :
    LEX (mX6_numberTo (nI a) (nI lo) (nI hi) N) t tp (rn isB t tp (rn isD t tp q)) ∧ mX6_numberTo (nI a) (nI lo) (nI hi) N 46 11 = 0 ∧ mX6_numberTo (nI a) (nI lo) (nI hi) N 47 = upd (N 47) a (nI (vv t tp q)) ∧ F6c N (mX6_numberTo (nI a) (nI lo) (nI hi) N) ∧ PX6_numberTo (nI a) (nI lo) (nI hi) N := by
  have hq := h.2.1
  obtain ⟨n1, n2, n3⟩ := (nOK_e hn).resolve_right (by omega)
  have hv : N 46 10 = nI (vv t tp q) := by rw [h.2.2.2.2.2.2, n3]
  have hl : LEX (upm N 47 a (nI (vv t tp q))) t tp q := h.of (fun z _ => by rw [upm_ne (by decide)]) (upm_ne (by decide))
  have hw2 : upm N 47 a (nI (vv t tp q)) 46 11 = 0 := by rw [upm_ne (by decide)]; exact hw
  obtain ⟨a1, a2, a3, a4, a5⟩ := needs_t (k := 1) hl hw2 (by decide)
  rw [n2] at a1
  have e : mX6_numberTo (nI a) (nI lo) (nI hi) N = mX6_needs 1 (upm N 47 a (nI (vv t tp q))) := by
    rw [numTo h hlo hhi, if_pos hn]
    unfold mX6_numberTo_42 mX6_numberTo_66
    rw [if_neg (by decide), if_pos hw, nIc (by omega), hv]
  rw [e]
  refine ⟨a1, a2, by rw [a3, upm_at], F6c.up47.trans a4, numP ?_ ?_⟩
  · unfold PX6_numberTo_41 PX6_numberTo_42 PX6_numberTo_66
    exact ⟨fun _ => (needs_f (k := 0) h (fun _ => rfl)).2.2.2.2, fun z => absurd rfl z⟩
  · unfold PX6_numberTo_42 PX6_numberTo_66
    rw [nIc (by omega), hv]
    exact ⟨fun z => absurd z (by decide), fun _ => ⟨fun _ => ⟨vin ha (by decide), a5⟩, fun z => absurd hw z⟩⟩
/-- a number, wrong: now, or before -/
theorem num_f {N : Mem} {t : Nat → Nat} {tp q lo hi : Nat} {at' : Int32} (h : LEX N t tp q) (hlo : lo ≤ 100) (hhi : hi ≤ 100) (hw1 : N 46 11 = 0 ∨ N 46 11 = 1) (hn : N 46 11 = 0 → nOK t tp q lo hi = false) (hat : N 46 11 = 0 → ∃ a, a < 56 ∧ at' = nI a) :
    LEX (mX6_numberTo at' (nI lo) (nI hi) N) t tp q ∧ mX6_numberTo at' (nI lo) (nI hi) N 46 11 = 1 ∧ F6c N (mX6_numberTo at' (nI lo) (nI hi) N) ∧ PX6_numberTo at' (nI lo) (nI hi) N := by
  obtain ⟨b1, b2, b3, b4, b5⟩ := needs_f (k := 0) h (fun _ => rfl)
  have e41 : mX6_numberTo_41 at' N = mX6_needs 0 N := by
    unfold mX6_numberTo_41 mX6_numberTo_42 mX6_numberTo_66
    rw [if_pos rfl]
  have p41 : PX6_numberTo_41 at' N := by
    unfold PX6_numberTo_41 PX6_numberTo_42 PX6_numberTo_66
    exact ⟨fun _ => b5, fun z => absurd rfl z⟩
  rcases hw1 with hw | hw
  · have e : mX6_numberTo at' (nI lo) (nI hi) N = mX6_needs 0 N := by
      rw [numTo h hlo hhi, hn hw, if_neg (by decide), e41]
    rw [e]
    refine ⟨b1, b2, b4, numP p41 ?_⟩
    obtain ⟨a, ha, rfl⟩ := hat hw
    have hl : LEX (upm N 47 a (N 46 10)) t tp q := h.of (fun z _ => by rw [upm_ne (by decide)]) (upm_ne (by decide))
    have hw2 : upm N 47 a (N 46 10) 46 11 = 0 := by rw [upm_ne (by decide)]; exact hw
    unfold PX6_numberTo_42 PX6_numberTo_66
    rw [nIc (by omega)]
    exact ⟨fun z => absurd z (by decide), fun _ => ⟨fun _ => ⟨vin ha (by decide), (needs_t (k := 1) hl hw2 (by decide)).2.2.2.2⟩, fun z => absurd hw z⟩⟩
  · have hw0 : ¬ N 46 11 = 0 := by rw [hw]; decide
    obtain ⟨c1, c2, c3, c4, c5⟩ := needs_f (k := 1) h (fun z => absurd z hw0)
    have e42 : mX6_numberTo_42 at' 1 N = mX6_needs 1 N := by
      unfold mX6_numberTo_42 mX6_numberTo_66
      rw [if_neg (by decide), if_neg hw0]
    have p42 : PX6_numberTo_42 at' 1 N := by
      unfold PX6_numberTo_42 PX6_numberTo_66
      exact ⟨fun z => absurd z (by decide), fun _ => ⟨fun z => absurd z hw0, fun _ => c5⟩⟩
    rw [numTo h hlo hhi, e41, e42]
    cases nOK t tp q lo hi with
    | true => rw [if_pos rfl]; exact ⟨c1, c2, c4, numP p41 p42⟩
    | false => rw [if_neg (by decide)]; exact ⟨b1, b2, b4, numP p41 p42⟩
/-- both have read alike so far (then g), or both are wrong since the same place -/
def JJ (t : Nat → Nat) (tp : Nat) (M N : Mem) (g : Nat → Prop) : Prop := (∃ p, CS M t tp p (-1) ∧ LEX N t tp (rn isB t tp p) ∧ N 46 11 = 0 ∧ g p) ∨ ∃ p q, CS M t tp p (nI q) ∧ LEX N t tp q ∧ N 46 11 = 1
theorem FF_n {q p : Nat} (hq : q < 1000) : FF (nI q) p = nI q := by
  unfold FF
  rw [if_pos (nI_pos' (by omega))]
theorem FF_m (p : Nat) : FF (-1) p = nI p := by
  unfold FF
  rw [if_neg (by decide)]
theorem J_name {t : Nat → Nat} {tp s : Nat} {M N : Mem} {g : Nat → Prop} {k : Int32} (hs : s < 16) (h : JJ t tp M N g) (hk : ∀ q, LEX N t tp q → k = b2i (nmB t tp (strN.getD s []) q)) :
    JJ t tp (mX3_takeName s M) (mX6_needs k N) (fun p' => ∃ p, p < p' ∧ g p) ∧ G5 M (mX3_takeName s M) ∧ F6c N (mX6_needs k N) ∧ mX6_needs k N 47 = N 47 ∧ PX3_takeName s M ∧ PX6_needs k N := by
  rcases h with ⟨p, h1, h2, h3, h4⟩ | ⟨p, q, h1, h2, h3⟩
  · obtain ⟨a1, a2, a3, a4⟩ := takeName5 hs h1
    have hp := h1.2.1
    have ek := hk _ h2
    cases hb : nmB t tp (strN.getD s []) (rn isB t tp p) with
    | true =>
      have hl := (nmB_len hb).1
      obtain ⟨-, l2, -, -⟩ := te_A (by have := (str_len s hs).2.2.1; omega) hl
      obtain ⟨-, -, -, te4⟩ := te_A (by have := (str_len s hs).2.2.1; omega) hl
      rw [hb] at ek
      obtain ⟨b1, b2, b3, b4, b5⟩ := needs_t (k := k) h2 h3 (by rw [ek]; decide)
      rw [te4, ← hl] at b1
      have hge : p ≤ rn isB t tp p := rn_ge
      exact ⟨Or.inl ⟨_, a1 hb, b1, b2, p, by have := (str_len s hs).2.2.1; omega, h4⟩, a3, b4, b3, a4, b5⟩
    | false =>
      rw [hb] at ek
      obtain ⟨b1, b2, b3, b4, b5⟩ := needs_f (k := k) h2 (fun _ => ek)
      have c := a2 hb
      rw [FF_m] at c
      exact ⟨Or.inr ⟨_, _, c, b1, b2⟩, a3, b4, b3, a4, b5⟩
  · obtain ⟨a1, a2, a3, a4⟩ := takeName5 hs h1
    have h200 := h2.1.1
    have hq := h2.2.1
    obtain ⟨b1, b2, b3, b4, b5⟩ := needs_f (k := k) h2 (fun z => absurd z (by rw [h3]; decide))
    refine ⟨Or.inr ?_, a3, b4, b3, a4, b5⟩
    cases hb : nmB t tp (strN.getD s []) (rn isB t tp p) with
    | true => exact ⟨_, q, a1 hb, b1, b2⟩
    | false =>
      have c := a2 hb
      rw [FF_n (by omega)] at c
      exact ⟨_, q, c, b1, b2⟩
theorem J_num {t : Nat → Nat} {tp lo hi a : Nat} {M N : Mem} {g : Nat → Prop} {at' : Int32} (hlo : lo ≤ hi) (hhi : hi ≤ 100) (h : JJ t tp M N g) (ha : a < 56) (hat : N 46 11 = 0 → at' = nI a) :
    ∃ v M', mX3_number (nI lo) (nI hi) M = (nI v, M') ∧ lo ≤ v ∧ v ≤ hi ∧ JJ t tp M' (mX6_numberTo at' (nI lo) (nI hi) N) (fun p' => (∃ p, p < p' ∧ g p) ∧ mX6_numberTo at' (nI lo) (nI hi) N 47 = upd (N 47) a (nI v)) ∧ G5 M M' ∧ F6c N (mX6_numberTo at' (nI lo) (nI hi) N) ∧ PX3_number (nI lo) (nI hi) M ∧ PX6_numberTo at' (nI lo) (nI hi) N := by
  have vb : ∀ q, lo ≤ (if nOK t tp q lo hi = true then vv t tp q else lo) ∧ (if nOK t tp q lo hi = true then vv t tp q else lo) ≤ hi := by
    intro q
    by_cases z : nOK t tp q lo hi = true
    · rw [if_pos z]
      obtain ⟨_, _, z3, z4⟩ := of_decide_eq_true z
      exact ⟨z3, z4⟩
    · rw [if_neg z]; exact ⟨Nat.le_refl _, hlo⟩
  rcases h with ⟨p, h1, h2, h3, h4⟩ | ⟨p, q, h1, h2, h3⟩
  · obtain ⟨M', a1, a2, a3, a4, a5⟩ := number5 (lo := lo) (hi := hi) (by omega) hhi h1
    have hp := h1.2.1
    have eat := hat h3
    obtain ⟨v1, v2⟩ := vb (rn isB t tp p)
    refine ⟨_, M', a1, v1, v2, ?_⟩
    cases hb : nOK t tp (rn isB t tp p) lo hi with
    | true =>
      obtain ⟨b1, b2, b3, b4, b5⟩ := num_t (a := a) h2 h3 (by omega) hhi ha hb
      obtain ⟨o1, _⟩ := of_decide_eq_true hb
      have hge : p ≤ rn isB t tp p := rn_ge
      have hge2 : rn isB t tp p ≤ rn isD t tp (rn isB t tp p) := rn_ge
      rw [eat, if_pos rfl]
      exact ⟨Or.inl ⟨_, a4 hb, b1, b2, ⟨p, by omega, h4⟩, b3⟩, a3, b4, a2, b5⟩
    | false =>
      obtain ⟨b1, b2, b4, b5⟩ := num_f (at' := at') h2 (lo := lo) (hi := hi) (by omega) hhi (Or.inl h3) (fun _ => hb) (fun _ => ⟨a, ha, eat⟩)
      have c := a5 hb
      rw [FF_m] at c
      exact ⟨Or.inr ⟨_, _, c, b1, b2⟩, a3, b4, a2, b5⟩
  · obtain ⟨M', a1, a2, a3, a4, a5⟩ := number5 (lo := lo) (hi := hi) (by omega) hhi h1
    have h200 := h2.1.1
    have hq := h2.2.1
    obtain ⟨v1, v2⟩ := vb (rn isB t tp p)
    have hw0 : ¬ N 46 11 = 0 := by rw [h3]; decide
    obtain ⟨b1, b2, b4, b5⟩ := num_f (at' := at') h2 (lo := lo) (hi := hi) (by omega) hhi (Or.inr h3) (fun z => absurd z hw0) (fun z => absurd z hw0)
    refine ⟨_, M', a1, v1, v2, Or.inr ?_, a3, b4, a2, b5⟩
    cases hb : nOK t tp (rn isB t tp p) lo hi with
    | true => exact ⟨_, q, a4 hb, b1, b2⟩
    | false =>
      have c := a5 hb
      rw [FF_n (by omega)] at c
      exact ⟨_, q, c, b1, b2⟩
