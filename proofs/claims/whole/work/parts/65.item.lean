/-! one thing told -/
theorem upd_same {s : Nat → Int32} {a : Nat} {v : Int32} (h : s a = v) : upd s a v = s := by
  funext j
  by_cases e : j = a
  · subst e; rw [upd_at]; exact h.symm
  · rw [upd_ne e]
/-- what may be told or not: its name and a number -/
theorem J_perh {t : Nat → Nat} {tp s hi a d : Nat} {M N : Mem} {g : Nat → Prop} {k at' : Int32} (hs : s < 16) (hhi : hi ≤ 100) (hd : d ≤ hi) (h : JJ t tp M N g) (ha : a < 56) (hat : N 46 11 = 0 → at' = nI a) (hk : ∀ q, LEX N t tp q → k = b2i (nmB t tp (strN.getD s []) q)) (hdef : N 46 11 = 0 → N 47 a = nI d) :
    ∃ b M1 v M2, mX3_takesName s M = (b, M1) ∧ (b = true → mX3_number (nI 0) (nI hi) M1 = (nI v, M2) ∧ PX3_number (nI 0) (nI hi) M1) ∧ (b = false → v = d ∧ M2 = M1) ∧ v ≤ hi ∧ JJ t tp M2 (mX6_perhaps k at' (nI hi) N) (fun p' => (∃ p, p ≤ p' ∧ g p) ∧ mX6_perhaps k at' (nI hi) N 47 = upd (N 47) a (nI v)) ∧ G5 M M2 ∧ F6c N (mX6_perhaps k at' (nI hi) N) ∧ PX3_takesName s M ∧ PX6_perhaps k at' (nI hi) N := by
  rcases h with ⟨p, h1, h2, h3, h4⟩ | ⟨p, q, h1, h2, h3⟩
  · obtain ⟨M1, a1, a2, a3, a4⟩ := takesName5 hs h1
    have ek := hk _ h2
    have hq := h2.2.1
    have hge : p ≤ rn isB t tp p := rn_ge
    cases hb : nmB t tp (strN.getD s []) (rn isB t tp p) with
    | true =>
      rw [hb] at a1 ek a2
      rw [if_pos rfl] at a2
      have hl := (nmB_len hb).1
      obtain ⟨-, -, -, te4⟩ := te_A (by have := (str_len s hs).2.2.1; omega) hl
      have k0 : ¬ k = 0 := by rw [ek]; decide
      obtain ⟨n1, n2, n3⟩ := next6 h2.1 (te_le hq) h2.2.2.2.2.2.1
      rw [te4, ← hl] at n1
      have w0 : mX6_nextToken N 46 11 = 0 := (n2.2 11 (by omega)).trans h3
      have J1 : JJ t tp M1 (mX6_nextToken N) (fun p' => p ≤ p') := Or.inl ⟨_, a2, n1, w0, by have := rn_ge (P := isA) (t := t) (tp := tp) (p := rn isB t tp p); omega⟩
      obtain ⟨v, M2, b1, b2, b3, b4, b5, b6, b7, b8⟩ := J_num (lo := 0) (hi := hi) (Nat.zero_le _) hhi J1 ha (fun _ => hat h3)
      have e6 : mX6_perhaps k at' (nI hi) N = mX6_numberTo at' (nI 0) (nI hi) (mX6_nextToken N) := by
        unfold mX6_perhaps mX6_perhaps_15
        rw [if_pos h3, if_neg k0]
        rfl
      rw [e6]
      refine ⟨true, M1, v, M2, a1, fun _ => ⟨b1, b7⟩, fun z => (by cases z), b3, ?_, a3.trans b5, n2.c.trans b6, a4, ?_⟩
      · rcases b4 with ⟨p', c1, c2, c3, ⟨p1, c4, c5⟩, c6⟩ | c
        · refine Or.inl ⟨p', c1, c2, c3, ⟨p, by omega, h4⟩, ?_⟩
          rw [c6, n2.1 47 (by decide)]
        · exact Or.inr c
      · unfold PX6_perhaps PX6_perhaps_15
        exact fun _ _ => ⟨n3, b8⟩
    | false =>
      rw [hb] at a1 ek a2
      rw [if_neg (by decide)] at a2
      have e6 : mX6_perhaps k at' (nI hi) N = N := by
        unfold mX6_perhaps
        rw [if_pos h3, if_pos (show k = 0 from ek)]
      rw [e6]
      refine ⟨false, M1, d, M1, a1, fun z => (by cases z), fun _ => ⟨rfl, rfl⟩, hd, Or.inl ⟨_, a2, ?_, h3, ⟨p, hge, h4⟩, (upd_same (hdef h3)).symm⟩, a3, F6c.rf N, a4, ?_⟩
      · rw [rn_idem h1.2.1]; exact h2
      · unfold PX6_perhaps
        exact fun _ z => absurd ek z
  · obtain ⟨M1, a1, a2, a3, a4⟩ := takesName5 hs h1
    have hw0 : ¬ N 46 11 = 0 := by rw [h3]; decide
    have h200 := h2.1.1
    have hq := h2.2.1
    have e6 : mX6_perhaps k at' (nI hi) N = N := by
      unfold mX6_perhaps
      rw [if_neg hw0]
    have p6 : PX6_perhaps k at' (nI hi) N := by
      unfold PX6_perhaps
      exact fun z => absurd z hw0
    rw [e6]
    cases hb : nmB t tp (strN.getD s []) (rn isB t tp p) with
    | true =>
      rw [hb] at a1
      have J1 : JJ t tp M1 N (fun _ => True) := Or.inr ⟨_, q, a2, h2, h3⟩
      obtain ⟨v, M2, b1, b2, b3, b4, b5, b6, b7, b8⟩ := J_num (a := 0) (at' := nI 0) (lo := 0) (hi := hi) (Nat.zero_le _) hhi J1 (by decide) (fun _ => rfl)
      refine ⟨true, M1, v, M2, a1, fun _ => ⟨b1, b7⟩, fun z => (by cases z), b3, Or.inr ?_, a3.trans b5, F6c.rf N, a4, p6⟩
      obtain ⟨M', x1, x2, x3, x4, x5⟩ := number5 (lo := 0) (hi := hi) (by decide) hhi a2
      have eM : M2 = M' := by
        have := b1.symm.trans x1
        exact (Prod.mk.injEq _ _ _ _ ▸ this).2
      rw [eM]
      cases hn : nOK t tp (rn isB t tp (if nmB t tp (strN.getD s []) (rn isB t tp p) = true then rn isA t tp (rn isB t tp p) else rn isB t tp p)) 0 hi with
      | true => exact ⟨_, q, x4 hn, h2, h3⟩
      | false =>
        have c := x5 hn
        rw [FF_n (by omega)] at c
        exact ⟨_, q, c, h2, h3⟩
    | false =>
      rw [hb] at a1
      exact ⟨false, M1, d, M1, a1, fun z => (by cases z), fun _ => ⟨rfl, rfl⟩, hd, Or.inr ⟨_, q, a2, h2, h3⟩, a3, F6c.rf N, a4, p6⟩
/-- a number that is looked at alone (the house of 'wet') -/
theorem J_look {t : Nat → Nat} {tp : Nat} {M N : Mem} {g : Nat → Prop} {k : Int32} (h : JJ t tp M N g) (hk : ∀ q, LEX N t tp q → k = b2i (nOK t tp q 0 15)) :
    ∃ v M', mX3_number (nI 0) (nI 15) M = (nI v, M') ∧ v ≤ 15 ∧ JJ t tp M' (mX6_needs k N) (fun p' => (∃ p, p < p' ∧ g p) ∧ N 46 10 = nI v) ∧ G5 M M' ∧ F6c N (mX6_needs k N) ∧ mX6_needs k N 47 = N 47 ∧ PX3_number (nI 0) (nI 15) M ∧ PX6_needs k N := by
  have vb : ∀ q, (if nOK t tp q 0 15 = true then vv t tp q else 0) ≤ 15 := by
    intro q
    by_cases z : nOK t tp q 0 15 = true
    · rw [if_pos z]
      exact (of_decide_eq_true z).2.2.2
    · rw [if_neg z]; decide
  rcases h with ⟨p, h1, h2, h3, h4⟩ | ⟨p, q, h1, h2, h3⟩
  · obtain ⟨M', a1, a2, a3, a4, a5⟩ := number5 (lo := 0) (hi := 15) (by decide) (by decide) h1
    have hq := h2.2.1
    have ek := hk _ h2
    refine ⟨_, M', a1, vb _, ?_⟩
    cases hb : nOK t tp (rn isB t tp p) 0 15 with
    | true =>
      rw [hb] at ek
      obtain ⟨n1, n2, n3⟩ := (nOK_e hb).resolve_right (by omega)
      obtain ⟨b1, b2, b3, b4, b5⟩ := needs_t (k := k) h2 h3 (by rw [ek]; decide)
      rw [n2] at b1
      have hge : p ≤ rn isB t tp p := rn_ge
      have hge2 : rn isB t tp p ≤ rn isD t tp (rn isB t tp p) := rn_ge
      rw [if_pos rfl]
      exact ⟨Or.inl ⟨_, a4 hb, b1, b2, ⟨p, by omega, h4⟩, by rw [h2.2.2.2.2.2.2, n3]⟩, a3, b4, b3, a2, b5⟩
    | false =>
      rw [hb] at ek
      obtain ⟨b1, b2, b3, b4, b5⟩ := needs_f (k := k) h2 (fun _ => ek)
      have c := a5 hb
      rw [FF_m] at c
      exact ⟨Or.inr ⟨_, _, c, b1, b2⟩, a3, b4, b3, a2, b5⟩
  · obtain ⟨M', a1, a2, a3, a4, a5⟩ := number5 (lo := 0) (hi := 15) (by decide) (by decide) h1
    have h200 := h2.1.1
    have hq := h2.2.1
    have hw0 : ¬ N 46 11 = 0 := by rw [h3]; decide
    obtain ⟨b1, b2, b3, b4, b5⟩ := needs_f (k := k) h2 (fun z => absurd z hw0)
    refine ⟨_, M', a1, vb _, Or.inr ?_, a3, b4, b3, a2, b5⟩
    cases hb : nOK t tp (rn isB t tp p) 0 15 with
    | true => exact ⟨_, q, a4 hb, b1, b2⟩
    | false =>
      have c := a5 hb
      rw [FF_n (by omega)] at c
      exact ⟨_, q, c, b1, b2⟩
theorem J_mark {t : Nat → Nat} {tp : Nat} {M N : Mem} {g : Nat → Prop} (h : JJ t tp M N g) :
    JJ t tp (mX3_takeMark M) (mX6_itemHere_103 N) (fun p' => ∃ p, p < p' ∧ g p) ∧ G5 M (mX3_takeMark M) ∧ F6c N (mX6_itemHere_103 N) ∧ mX6_itemHere_103 N 47 = N 47 ∧ PX3_takeMark M ∧ PX6_itemHere_103 N := by
  have key : ∀ q, LEX N t tp q → q ≤ tp ∧ (mX6_itemHere_103 N = if q < tp ∧ t q = 59 then mX6_needs 1 N else mX6_needs 0 N) ∧ (q < tp ∧ t q = 59 → te t tp q = q + 1) ∧ (PX6_needs 1 N → PX6_needs 0 N → PX6_itemHere_103 N) := by
    intro q hl
    have h200 := hl.1.1
    have hq := hl.2.1
    have k3 : N 46 7 = 3 ↔ tk t tp q = 3 := hl.tk_iff 3 (by decide)
    have t59 : q < tp ∧ t q = 59 → tk t tp q = 3 ∧ te t tp q = q + 1 := by
      rintro ⟨z1, z2⟩
      have hA : isA (t q) = false := by rw [z2]; decide
      have hD : isD (t q) = false := by rw [z2]; decide
      unfold tk te
      rw [if_pos z1, if_pos z1, hA, hD, if_neg (by decide), if_neg (by decide), if_neg (by decide), if_neg (by decide)]
      exact ⟨rfl, rfl⟩
    refine ⟨hq, ?_, fun z => (t59 z).2, fun p1 p0 => ?_⟩
    · unfold mX6_itemHere_103 mX6_itemHere_129 mX6_itemHere_130
      have e59 : nI (t q) = 59 ↔ t q = 59 := eq_n (b := 59) (hl.1.2.1 q) (by decide)
      rw [hl.2.2.2.1]
      by_cases z : q < tp ∧ t q = 59
      · rw [if_pos z, if_pos (k3.mpr (t59 z).1), byte_n hl.1 z.1, if_pos (e59.mpr z.2)]
      · rw [if_neg z]
        by_cases y : N 46 7 = 3
        · have y3 := k3.mp y
          have hlt : q < tp := by
            unfold tk at y3
            by_cases x : q < tp
            · exact x
            · rw [if_neg x] at y3; omega
          rw [if_pos y, byte_n hl.1 hlt, if_neg (fun x => z ⟨hlt, e59.mp x⟩)]
        · rw [if_neg y]
    · unfold PX6_itemHere_103 PX6_itemHere_129 PX6_itemHere_130
      rw [hl.2.2.2.1]
      exact ⟨fun _ => ⟨pbyte hl.1 (by omega), fun _ => p1, fun _ => p0⟩, fun _ => p0⟩
  rcases h with ⟨p, h1, h2, h3, h4⟩ | ⟨p, q, h1, h2, h3⟩
  · obtain ⟨k1, k2, k3, k4⟩ := key _ h2
    obtain ⟨a1, a2, a3, a4⟩ := takeMark5 h1
    obtain ⟨b1, b2, b3, b4, b5⟩ := needs_t (k := 1) h2 h3 (by decide)
    obtain ⟨c1, c2, c3, c4, c5⟩ := needs_f (k := 0) h2 (fun _ => rfl)
    have hge : p ≤ rn isB t tp p := rn_ge
    by_cases z : rn isB t tp p < tp ∧ t (rn isB t tp p) = 59
    · rw [k2, if_pos z]
      rw [k3 z] at b1
      exact ⟨Or.inl ⟨_, a1 z, b1, b2, p, by omega, h4⟩, a3, b4, b3, a4, k4 b5 c5⟩
    · rw [k2, if_neg z]
      have c := a2 z
      rw [FF_m] at c
      exact ⟨Or.inr ⟨_, _, c, c1, c2⟩, a3, c4, c3, a4, k4 b5 c5⟩
  · obtain ⟨k1, k2, k3, k4⟩ := key _ h2
    obtain ⟨a1, a2, a3, a4⟩ := takeMark5 h1
    have h200 := h2.1.1
    have hw0 : ¬ N 46 11 = 0 := by rw [h3]; decide
    obtain ⟨b1, b2, b3, b4, b5⟩ := needs_f (k := 1) h2 (fun z => absurd z hw0)
    obtain ⟨c1, c2, c3, c4, c5⟩ := needs_f (k := 0) h2 (fun _ => rfl)
    have cl : ∃ p', CS (mX3_takeMark M) t tp p' (nI q) := by
      by_cases z : rn isB t tp p < tp ∧ t (rn isB t tp p) = 59
      · exact ⟨_, a1 z⟩
      · have c := a2 z
        rw [FF_n (by omega)] at c
        exact ⟨_, c⟩
    obtain ⟨p', cl⟩ := cl
    rw [k2]
    by_cases z : q < tp ∧ t q = 59
    · rw [if_pos z]; exact ⟨Or.inr ⟨p', q, cl, b1, b2⟩, a3, b4, b3, a4, k4 b5 c5⟩
    · rw [if_neg z]; exact ⟨Or.inr ⟨p', q, cl, c1, c2⟩, a3, c4, c3, a4, k4 b5 c5⟩
