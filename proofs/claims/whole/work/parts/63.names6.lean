/-! names, by the reference -/
theorem te_A {t : Nat → Nat} {tp q L : Nat} (hL : 0 < L) (h : rn isA t tp q = q + L) : q < tp ∧ isA (t q) = true ∧ tk t tp q = 1 ∧ te t tp q = q + L := by
  have hlt : q < tp := by
    rcases Nat.lt_or_ge q tp with z | z
    · exact z
    · rw [rn_stop z] at h; omega
  have hA : isA (t q) = true := by
    cases x : isA (t q) with
    | true => rfl
    | false => rw [rn_no x] at h; omega
  refine ⟨hlt, hA, ?_, ?_⟩
  · unfold tk; rw [if_pos hlt, hA, if_pos rfl]
  · unfold te; rw [if_pos hlt, hA, if_pos rfl, h]
theorem A_te {t : Nat → Nat} {tp q L : Nat} (h1 : tk t tp q = 1) (h2 : te t tp q = q + L) : rn isA t tp q = q + L := by
  unfold tk at h1
  by_cases hlt : q < tp
  · rw [if_pos hlt] at h1
    cases hA : isA (t q) with
    | true =>
      unfold te at h2
      rw [if_pos hlt, hA, if_pos rfl] at h2
      exact h2
    | false =>
      rw [hA, if_neg (by decide)] at h1
      cases hD : isD (t q) with
      | true => rw [hD, if_pos rfl] at h1; omega
      | false => rw [hD, if_neg (by decide)] at h1; omega
  · rw [if_neg hlt] at h1; omega
theorem te_ge {t : Nat → Nat} {tp q : Nat} : q ≤ te t tp q := by
  unfold te
  repeat' split
  · exact rn_ge
  · exact rn_ge
  · omega
  · omega
theorem tk_le (t : Nat → Nat) (tp q : Nat) : tk t tp q ≤ 3 := by
  unfold tk
  repeat' split
  all_goals decide
theorem LEX.tk_iff {N : Mem} {t : Nat → Nat} {tp q : Nat} (h : LEX N t tp q) (k : Nat) (hk : k < 10) : N 46 7 = nI k ↔ tk t tp q = k := by
  rw [h.2.2.2.2.1]
  have := tk_le t tp q
  exact eq_n (by omega) (by omega)
theorem LEX.len_iff {N : Mem} {t : Nat → Nat} {tp q : Nat} (h : LEX N t tp q) (L : Nat) (hL : L < 10) : N 46 9 - N 46 8 = nI L ↔ te t tp q = q + L := by
  have h200 := h.1.1
  have hle := te_le (t := t) h.2.1
  have hge := te_ge (t := t) (tp := tp) (q := q)
  rw [h.2.2.2.2.2.1, h.2.2.2.1, nI_subc hge, eq_n (by omega) (by omega)]
  omega
theorem LEX.at {N : Mem} {t : Nat → Nat} {tp q : Nat} (h : LEX N t tp q) (i : Nat) (hi : q + i < tp) : mX6_byteAt (nI (q + i)) N = nI (t (q + i)) := byte_n h.1 hi
theorem ite_c {α : Type} {x c : Nat} {ci : Int32} (e : ci = nI c) (hx : x < 256) (hc : c < 256) (A B : α) : (if nI x = ci then A else B) = (if x = c then A else B) := by
  subst e
  by_cases h : x = c
  · rw [if_pos h, if_pos ((eq_n hx hc).mpr h)]
  · rw [if_neg h, if_neg (fun z => h ((eq_n hx hc).mp z))]
/-- the tests that a name's length and its four bytes pass -/
theorem isName6 {N : Mem} {t : Nat → Nat} {tp q : Nat} (h : LEX N t tp q) {L a b c e : Nat} (hL3 : 3 ≤ L) (hL : L < 10) (ha : a < 256) (hb : b < 256) (hc : c < 256) (he : e < 256) :
    mX6_isName (nI L) (nI a) (nI b) (nI c) (nI e) N = (if rn isA t tp q = q + L then (if t q = a then (if t (q + 1) = b then (if t (q + 2) = c then (if t (q + (L - 1)) = e then true else false) else false) else false) else false) else false) ∧ PX6_isName (nI L) (nI a) (nI b) (nI c) (nI e) N := by
  have h200 := h.1.1
  have ht := h.1.2.1
  have k1 : N 46 7 = 1 ↔ tk t tp q = 1 := h.tk_iff 1 (by decide)
  have kL := h.len_iff L hL
  have h8 := h.2.2.2.1
  have e1 : nI q + 1 = nI (q + 1) := (nI_succ q).symm
  have e2 : nI q + 2 = nI (q + 2) := nI_add q 2
  unfold mX6_isName PX6_isName
  by_cases z : rn isA t tp q = q + L
  · obtain ⟨x1, x2, x3, x4⟩ := te_A (by omega) z
    have hle := te_le (t := t) h.2.1
    have el : N 46 9 - 1 = nI (q + (L - 1)) := by
      rw [h.2.2.2.2.2.1, x4, show nI (q + L) - 1 = nI (q + L - 1) from nI_subc (b := 1) (by omega)]
      congr 1
      omega
    rw [if_pos z, if_pos (k1.mpr x3), if_pos (kL.mpr x4), h8, e1, e2, el, byte_n h.1 x1, byte_n h.1 (show q + 1 < tp by omega), byte_n h.1 (show q + 2 < tp by omega), byte_n h.1 (show q + (L - 1) < tp by omega), ite_c rfl (ht q) ha, ite_c rfl (ht (q + 1)) hb, ite_c rfl (ht (q + 2)) hc, ite_c rfl (ht (q + (L - 1))) he]
    exact ⟨rfl, fun _ _ => ⟨pbyte h.1 (by omega), fun _ => ⟨pbyte h.1 (by omega), fun _ => ⟨pbyte h.1 (by omega), fun _ => pbyte h.1 (by omega)⟩⟩⟩⟩
  · rw [if_neg z]
    by_cases y : N 46 7 = 1
    · rw [if_pos y]
      have y2 : ¬ N 46 9 - N 46 8 = nI L := fun x => z (A_te (k1.mp y) (kL.mp x))
      rw [if_neg y2]
      exact ⟨rfl, fun _ x => absurd x y2⟩
    · rw [if_neg y]
      exact ⟨rfl, fun x => absurd x y⟩
theorem isSame6 {N : Mem} {t : Nat → Nat} {tp q : Nat} (h : LEX N t tp q) {i a b c : Nat} (hi : q + i + 2 < tp) (ha : a < 256) (hb : b < 256) (hc : c < 256) :
    mX6_isSame (nI i) (nI a) (nI b) (nI c) N = (if t (q + i) = a then (if t (q + i + 1) = b then (if t (q + i + 2) = c then true else false) else false) else false) ∧ PX6_isSame (nI i) (nI a) (nI b) (nI c) N := by
  have h200 := h.1.1
  have ht := h.1.2.1
  have e0 : N 46 8 + nI i = nI (q + i) := by rw [h.2.2.2.1, nI_add]
  have e1 : nI (q + i) + 1 = nI (q + i + 1) := (nI_succ _).symm
  have e2 : nI (q + i) + 2 = nI (q + i + 2) := nI_add _ 2
  unfold mX6_isSame PX6_isSame
  rw [e0, e1, e2, byte_n h.1 (show q + i < tp by omega), byte_n h.1 (show q + i + 1 < tp by omega), byte_n h.1 hi, ite_c rfl (ht _) ha, ite_c rfl (ht _) hb, ite_c rfl (ht _) hc]
  exact ⟨rfl, pbyte h.1 (by omega), fun _ => ⟨pbyte h.1 (by omega), fun _ => pbyte h.1 (by omega)⟩⟩
theorem n6_wet {N : Mem} {t : Nat → Nat} {tp q : Nat} (h : LEX N t tp q) : mX6_isName 3 119 101 116 116 N = nmB t tp (strN.getD 0 []) q ∧ PX6_isName 3 119 101 116 116 N := by
  have en : nmB t tp (strN.getD 0 []) q = (if rn isA t tp q = q + 3 then (if t q = 119 then (if t (q + 1) = 101 then (if t (q + 2) = 116 then true else false) else false) else false) else false) := rfl
  obtain ⟨m, p⟩ := isName6 h (L := 3) (a := 119) (b := 101) (c := 116) (e := 116) (by decide) (by decide) (by decide) (by decide) (by decide) (by decide)
  refine ⟨?_, p⟩
  rw [en]
  refine Eq.trans m ?_
  by_cases z : t (q + 2) = 116
  · rw [if_pos z]
  · simp only [if_neg z]
theorem n6_wind {N : Mem} {t : Nat → Nat} {tp q : Nat} (h : LEX N t tp q) : mX6_isFour 119 105 110 100 N = nmB t tp (strN.getD 1 []) q ∧ PX6_isFour 119 105 110 100 N := by
  have en : nmB t tp (strN.getD 1 []) q = (if rn isA t tp q = q + 4 then (if t q = 119 then (if t (q + 1) = 105 then (if t (q + 2) = 110 then (if t (q + 3) = 100 then true else false) else false) else false) else false) else false) := rfl
  obtain ⟨m, p⟩ := isName6 h (L := 4) (a := 119) (b := 105) (c := 110) (e := 100) (by decide) (by decide) (by decide) (by decide) (by decide) (by decide)
  refine ⟨?_, p⟩
  rw [en]
  exact m
theorem n6_turn {N : Mem} {t : Nat → Nat} {tp q : Nat} (h : LEX N t tp q) : mX6_isFour 116 117 114 110 N = nmB t tp (strN.getD 2 []) q ∧ PX6_isFour 116 117 114 110 N := by
  have en : nmB t tp (strN.getD 2 []) q = (if rn isA t tp q = q + 4 then (if t q = 116 then (if t (q + 1) = 117 then (if t (q + 2) = 114 then (if t (q + 3) = 110 then true else false) else false) else false) else false) else false) := rfl
  obtain ⟨m, p⟩ := isName6 h (L := 4) (a := 116) (b := 117) (c := 114) (e := 110) (by decide) (by decide) (by decide) (by decide) (by decide) (by decide)
  refine ⟨?_, p⟩
  rw [en]
  exact m
theorem n6_damp {N : Mem} {t : Nat → Nat} {tp q : Nat} (h : LEX N t tp q) : mX6_isFour 100 97 109 112 N = nmB t tp (strN.getD 3 []) q ∧ PX6_isFour 100 97 109 112 N := by
  have en : nmB t tp (strN.getD 3 []) q = (if rn isA t tp q = q + 4 then (if t q = 100 then (if t (q + 1) = 97 then (if t (q + 2) = 109 then (if t (q + 3) = 112 then true else false) else false) else false) else false) else false) := rfl
  obtain ⟨m, p⟩ := isName6 h (L := 4) (a := 100) (b := 97) (c := 109) (e := 112) (by decide) (by decide) (by decide) (by decide) (by decide) (by decide)
  refine ⟨?_, p⟩
  rw [en]
  exact m
theorem n6_shy {N : Mem} {t : Nat → Nat} {tp q : Nat} (h : LEX N t tp q) : mX6_isName 3 115 104 121 121 N = nmB t tp (strN.getD 4 []) q ∧ PX6_isName 3 115 104 121 121 N := by
  have en : nmB t tp (strN.getD 4 []) q = (if rn isA t tp q = q + 3 then (if t q = 115 then (if t (q + 1) = 104 then (if t (q + 2) = 121 then true else false) else false) else false) else false) := rfl
  obtain ⟨m, p⟩ := isName6 h (L := 3) (a := 115) (b := 104) (c := 121) (e := 121) (by decide) (by decide) (by decide) (by decide) (by decide) (by decide)
  refine ⟨?_, p⟩
  rw [en]
  refine Eq.trans m ?_
  by_cases z : t (q + 2) = 121
  · rw [if_pos z]
  · simp only [if_neg z]
theorem n6_gust {N : Mem} {t : Nat → Nat} {tp q : Nat} (h : LEX N t tp q) : mX6_isFour 103 117 115 116 N = nmB t tp (strN.getD 5 []) q ∧ PX6_isFour 103 117 115 116 N := by
  have en : nmB t tp (strN.getD 5 []) q = (if rn isA t tp q = q + 4 then (if t q = 103 then (if t (q + 1) = 117 then (if t (q + 2) = 115 then (if t (q + 3) = 116 then true else false) else false) else false) else false) else false) := rfl
  obtain ⟨m, p⟩ := isName6 h (L := 4) (a := 103) (b := 117) (c := 115) (e := 116) (by decide) (by decide) (by decide) (by decide) (by decide) (by decide)
  refine ⟨?_, p⟩
  rw [en]
  exact m
theorem n6_air {N : Mem} {t : Nat → Nat} {tp q : Nat} (h : LEX N t tp q) : mX6_isName 3 97 105 114 114 N = nmB t tp (strN.getD 6 []) q ∧ PX6_isName 3 97 105 114 114 N := by
  have en : nmB t tp (strN.getD 6 []) q = (if rn isA t tp q = q + 3 then (if t q = 97 then (if t (q + 1) = 105 then (if t (q + 2) = 114 then true else false) else false) else false) else false) := rfl
  obtain ⟨m, p⟩ := isName6 h (L := 3) (a := 97) (b := 105) (c := 114) (e := 114) (by decide) (by decide) (by decide) (by decide) (by decide) (by decide)
  refine ⟨?_, p⟩
  rw [en]
  refine Eq.trans m ?_
  by_cases z : t (q + 2) = 114
  · rw [if_pos z]
  · simp only [if_neg z]
theorem n6_rain {N : Mem} {t : Nat → Nat} {tp q : Nat} (h : LEX N t tp q) : mX6_isFour 114 97 105 110 N = nmB t tp (strN.getD 7 []) q ∧ PX6_isFour 114 97 105 110 N := by
  have en : nmB t tp (strN.getD 7 []) q = (if rn isA t tp q = q + 4 then (if t q = 114 then (if t (q + 1) = 97 then (if t (q + 2) = 105 then (if t (q + 3) = 110 then true else false) else false) else false) else false) else false) := rfl
  obtain ⟨m, p⟩ := isName6 h (L := 4) (a := 114) (b := 97) (c := 105) (e := 110) (by decide) (by decide) (by decide) (by decide) (by decide) (by decide)
  refine ⟨?_, p⟩
  rw [en]
  exact m
theorem n6_fog {N : Mem} {t : Nat → Nat} {tp q : Nat} (h : LEX N t tp q) : mX6_isName 3 102 111 103 103 N = nmB t tp (strN.getD 8 []) q ∧ PX6_isName 3 102 111 103 103 N := by
  have en : nmB t tp (strN.getD 8 []) q = (if rn isA t tp q = q + 3 then (if t q = 102 then (if t (q + 1) = 111 then (if t (q + 2) = 103 then true else false) else false) else false) else false) := rfl
  obtain ⟨m, p⟩ := isName6 h (L := 3) (a := 102) (b := 111) (c := 103) (e := 103) (by decide) (by decide) (by decide) (by decide) (by decide) (by decide)
  refine ⟨?_, p⟩
  rw [en]
  refine Eq.trans m ?_
  by_cases z : t (q + 2) = 103
  · rw [if_pos z]
  · simp only [if_neg z]
theorem n6_drizzle {N : Mem} {t : Nat → Nat} {tp q : Nat} (h : LEX N t tp q) : (if mX6_isName 7 100 114 105 101 N = true then mX6_isSame 3 122 122 108 N else false) = nmB t tp (strN.getD 9 []) q ∧ PX6_isName 7 100 114 105 101 N ∧ (mX6_isName 7 100 114 105 101 N = true → PX6_isSame 3 122 122 108 N) := by
  have en : nmB t tp (strN.getD 9 []) q = (if rn isA t tp q = q + 7 then (if t q = 100 then (if t (q + 1) = 114 then (if t (q + 2) = 105 then (if t (q + 3) = 122 then (if t (q + 4) = 122 then (if t (q + 5) = 108 then (if t (q + 6) = 101 then true else false) else false) else false) else false) else false) else false) else false) else false) := rfl
  have hq := h.2.1
  obtain ⟨m, p⟩ := isName6 h (L := 7) (a := 100) (b := 114) (c := 105) (e := 101) (by decide) (by decide) (by decide) (by decide) (by decide) (by decide)
  have m' : mX6_isName 7 100 114 105 101 N = _ := m
  rw [en, m']
  by_cases z : rn isA t tp q = q + 7
  · have hle := rn_le (P := isA) (t := t) hq
    obtain ⟨m2, p2⟩ := isSame6 h (i := 3) (a := 122) (b := 122) (c := 108) (by omega) (by decide) (by decide) (by decide)
    have m2' : mX6_isSame 3 122 122 108 N = _ := m2
    rw [if_pos z, if_pos z, m2']
    refine ⟨?_, p, fun _ => p2⟩
    by_cases z0 : t q = 100 <;> by_cases z1 : t (q + 1) = 114 <;> by_cases z2 : t (q + 2) = 105 <;> by_cases z3 : t (q + 3) = 122 <;> by_cases z4 : t (q + 4) = 122 <;> by_cases z5 : t (q + 5) = 108 <;> by_cases z6 : t (q + 6) = 101 <;> simp [z0, z1, z2, z3, z4, z5, z6]
  · rw [if_neg z, if_neg z, if_neg (by decide)]
    exact ⟨rfl, p, fun x => (by cases x)⟩
theorem n6_mist {N : Mem} {t : Nat → Nat} {tp q : Nat} (h : LEX N t tp q) : mX6_isFour 109 105 115 116 N = nmB t tp (strN.getD 10 []) q ∧ PX6_isFour 109 105 115 116 N := by
  have en : nmB t tp (strN.getD 10 []) q = (if rn isA t tp q = q + 4 then (if t q = 109 then (if t (q + 1) = 105 then (if t (q + 2) = 115 then (if t (q + 3) = 116 then true else false) else false) else false) else false) else false) := rfl
  obtain ⟨m, p⟩ := isName6 h (L := 4) (a := 109) (b := 105) (c := 115) (e := 116) (by decide) (by decide) (by decide) (by decide) (by decide) (by decide)
  refine ⟨?_, p⟩
  rw [en]
  exact m
theorem n6_heat {N : Mem} {t : Nat → Nat} {tp q : Nat} (h : LEX N t tp q) : mX6_isFour 104 101 97 116 N = nmB t tp (strN.getD 11 []) q ∧ PX6_isFour 104 101 97 116 N := by
  have en : nmB t tp (strN.getD 11 []) q = (if rn isA t tp q = q + 4 then (if t q = 104 then (if t (q + 1) = 101 then (if t (q + 2) = 97 then (if t (q + 3) = 116 then true else false) else false) else false) else false) else false) := rfl
  obtain ⟨m, p⟩ := isName6 h (L := 4) (a := 104) (b := 101) (c := 97) (e := 116) (by decide) (by decide) (by decide) (by decide) (by decide) (by decide)
  refine ⟨?_, p⟩
  rw [en]
  exact m
theorem n6_at {N : Mem} {t : Nat → Nat} {tp q : Nat} (h : LEX N t tp q) : mX6_isTwo 97 116 N = nmB t tp (strN.getD 12 []) q ∧ PX6_isTwo 97 116 N := by
  have en : nmB t tp (strN.getD 12 []) q = (if rn isA t tp q = q + 2 then (if t q = 97 then (if t (q + 1) = 116 then true else false) else false) else false) := rfl
  have h200 := h.1.1
  have ht := h.1.2.1
  have k1 : N 46 7 = 1 ↔ tk t tp q = 1 := h.tk_iff 1 (by decide)
  have kL : N 46 9 - N 46 8 = 2 ↔ te t tp q = q + 2 := h.len_iff 2 (by decide)
  have h8 := h.2.2.2.1
  have e1 : nI q + 1 = nI (q + 1) := (nI_succ q).symm
  rw [en]
  unfold mX6_isTwo PX6_isTwo
  by_cases z : rn isA t tp q = q + 2
  · obtain ⟨x1, x2, x3, x4⟩ := te_A (by decide) z
    have hle := te_le (t := t) h.2.1
    rw [if_pos z, if_pos (k1.mpr x3), if_pos (kL.mpr x4), h8, e1, byte_n h.1 x1, byte_n h.1 (show q + 1 < tp by omega), ite_c (ci := 97) (c := 97) rfl (ht q) (by decide), ite_c (ci := 116) (c := 116) rfl (ht (q + 1)) (by decide)]
    exact ⟨rfl, fun _ _ => ⟨pbyte h.1 (by omega), fun _ => pbyte h.1 (by omega)⟩⟩
  · rw [if_neg z]
    by_cases y : N 46 7 = 1
    · have y2 : ¬ N 46 9 - N 46 8 = 2 := fun x => z (A_te (k1.mp y) (kL.mp x))
      rw [if_pos y, if_neg y2]
      exact ⟨rfl, fun _ x => absurd x y2⟩
    · rw [if_neg y]
      exact ⟨rfl, fun x => absurd x y⟩
theorem n6_force {N : Mem} {t : Nat → Nat} {tp q : Nat} (h : LEX N t tp q) : mX6_isFive 102 111 114 99 101 N = nmB t tp (strN.getD 13 []) q ∧ PX6_isFive 102 111 114 99 101 N := by
  have en : nmB t tp (strN.getD 13 []) q = (if rn isA t tp q = q + 5 then (if t q = 102 then (if t (q + 1) = 111 then (if t (q + 2) = 114 then (if t (q + 3) = 99 then (if t (q + 4) = 101 then true else false) else false) else false) else false) else false) else false) := rfl
  have h200 := h.1.1
  have ht := h.1.2.1
  have hq := h.2.1
  obtain ⟨m, p⟩ := isName6 h (L := 5) (a := 102) (b := 111) (c := 114) (e := 101) (by decide) (by decide) (by decide) (by decide) (by decide) (by decide)
  have m' : mX6_isName 5 102 111 114 101 N = _ := m
  have e3 : N 46 8 + 3 = nI (q + 3) := by rw [h.2.2.2.1]; exact nI_add q 3
  rw [en]
  unfold mX6_isFive PX6_isFive
  rw [m', e3]
  refine ⟨?_, p, fun _ => pbyte h.1 (by omega)⟩
  by_cases z : rn isA t tp q = q + 5
  · have hle := rn_le (P := isA) (t := t) hq
    rw [if_pos z, if_pos z, byte_n h.1 (show q + 3 < tp by omega), ite_c (ci := 99) (c := 99) rfl (ht (q + 3)) (by decide)]
    by_cases z0 : t q = 102 <;> by_cases z1 : t (q + 1) = 111 <;> by_cases z2 : t (q + 2) = 114 <;> by_cases z3 : t (q + 3) = 99 <;> by_cases z4 : t (q + 4) = 101 <;> simp [z0, z1, z2, z3, z4]
  · rw [if_neg z, if_neg z, if_neg (by decide)]
theorem n6_errand {N : Mem} {t : Nat → Nat} {tp q : Nat} (h : LEX N t tp q) : (if mX6_isName 6 101 114 114 100 N = true then mX6_isSame 2 114 97 110 N else false) = nmB t tp (strN.getD 14 []) q ∧ PX6_isName 6 101 114 114 100 N ∧ (mX6_isName 6 101 114 114 100 N = true → PX6_isSame 2 114 97 110 N) := by
  have en : nmB t tp (strN.getD 14 []) q = (if rn isA t tp q = q + 6 then (if t q = 101 then (if t (q + 1) = 114 then (if t (q + 2) = 114 then (if t (q + 3) = 97 then (if t (q + 4) = 110 then (if t (q + 5) = 100 then true else false) else false) else false) else false) else false) else false) else false) := rfl
  have hq := h.2.1
  obtain ⟨m, p⟩ := isName6 h (L := 6) (a := 101) (b := 114) (c := 114) (e := 100) (by decide) (by decide) (by decide) (by decide) (by decide) (by decide)
  have m' : mX6_isName 6 101 114 114 100 N = _ := m
  rw [en, m']
  by_cases z : rn isA t tp q = q + 6
  · have hle := rn_le (P := isA) (t := t) hq
    obtain ⟨m2, p2⟩ := isSame6 h (i := 2) (a := 114) (b := 97) (c := 110) (by omega) (by decide) (by decide) (by decide)
    have m2' : mX6_isSame 2 114 97 110 N = _ := m2
    rw [if_pos z, if_pos z, m2']
    refine ⟨?_, p, fun _ => p2⟩
    by_cases z0 : t q = 101 <;> by_cases z1 : t (q + 1) = 114 <;> by_cases z2 : t (q + 2) = 114 <;> by_cases z3 : t (q + 3) = 97 <;> by_cases z4 : t (q + 4) = 110 <;> by_cases z5 : t (q + 5) = 100 <;> simp [z0, z1, z2, z3, z4, z5]
  · rw [if_neg z, if_neg z, if_neg (by decide)]
    exact ⟨rfl, p, fun x => (by cases x)⟩
theorem n6_is {N : Mem} {t : Nat → Nat} {tp q : Nat} (h : LEX N t tp q) : mX6_isTwo 105 115 N = nmB t tp (strN.getD 15 []) q ∧ PX6_isTwo 105 115 N := by
  have en : nmB t tp (strN.getD 15 []) q = (if rn isA t tp q = q + 2 then (if t q = 105 then (if t (q + 1) = 115 then true else false) else false) else false) := rfl
  have h200 := h.1.1
  have ht := h.1.2.1
  have k1 : N 46 7 = 1 ↔ tk t tp q = 1 := h.tk_iff 1 (by decide)
  have kL : N 46 9 - N 46 8 = 2 ↔ te t tp q = q + 2 := h.len_iff 2 (by decide)
  have h8 := h.2.2.2.1
  have e1 : nI q + 1 = nI (q + 1) := (nI_succ q).symm
  rw [en]
  unfold mX6_isTwo PX6_isTwo
  by_cases z : rn isA t tp q = q + 2
  · obtain ⟨x1, x2, x3, x4⟩ := te_A (by decide) z
    have hle := te_le (t := t) h.2.1
    rw [if_pos z, if_pos (k1.mpr x3), if_pos (kL.mpr x4), h8, e1, byte_n h.1 x1, byte_n h.1 (show q + 1 < tp by omega), ite_c (ci := 105) (c := 105) rfl (ht q) (by decide), ite_c (ci := 115) (c := 115) rfl (ht (q + 1)) (by decide)]
    exact ⟨rfl, fun _ _ => ⟨pbyte h.1 (by omega), fun _ => pbyte h.1 (by omega)⟩⟩
  · rw [if_neg z]
    by_cases y : N 46 7 = 1
    · have y2 : ¬ N 46 9 - N 46 8 = 2 := fun x => z (A_te (k1.mp y) (kL.mp x))
      rw [if_pos y, if_neg y2]
      exact ⟨rfl, fun _ x => absurd x y2⟩
    · rw [if_neg y]
      exact ⟨rfl, fun x => absurd x y⟩
/-- which kind's name stands there -/
def kdT (t : Nat → Nat) (tp q : Nat) : Int32 := if nmB t tp (strN.getD 6 []) q = true then 0 else if nmB t tp (strN.getD 7 []) q = true then 1 else if nmB t tp (strN.getD 8 []) q = true then 2 else if nmB t tp (strN.getD 9 []) q = true then 3 else if nmB t tp (strN.getD 10 []) q = true then 4 else if nmB t tp (strN.getD 11 []) q = true then 5 else -1
theorem kind5 {M : Mem} {t : Nat → Nat} {tp q : Nat} {f : Int32} (h : CS M t tp q f) : mX3_kindHere M = kdT t tp q ∧ PX3_kindHere M := by
  have n := fun s hs => name5 (s := s) h.1 hs h.2.1 h.2.2.1
  unfold mX3_kindHere kdT PX3_kindHere
  rw [(n 6 (by decide)).1, (n 7 (by decide)).1, (n 8 (by decide)).1, (n 9 (by decide)).1, (n 10 (by decide)).1, (n 11 (by decide)).1]
  exact ⟨rfl, (n 6 (by decide)).2, fun _ => ⟨(n 7 (by decide)).2, fun _ => ⟨(n 8 (by decide)).2, fun _ => ⟨(n 9 (by decide)).2, fun _ => ⟨(n 10 (by decide)).2, fun _ => (n 11 (by decide)).2⟩⟩⟩⟩⟩
theorem kind6 {N : Mem} {t : Nat → Nat} {tp q : Nat} (h : LEX N t tp q) : mX6_kindHere N = kdT t tp q ∧ PX6_kindHere N := by
  obtain ⟨a1, a2⟩ := n6_air h
  obtain ⟨b1, b2⟩ := n6_rain h
  obtain ⟨c1, c2⟩ := n6_fog h
  obtain ⟨d1, d2, d3⟩ := n6_drizzle h
  obtain ⟨e1, e2⟩ := n6_mist h
  obtain ⟨g1, g2⟩ := n6_heat h
  have p86 : PX6_kindHere_86 N := ⟨e2, fun _ => g2⟩
  unfold mX6_kindHere kdT PX6_kindHere
  rw [a1, b1, c1, ← d1]
  refine ⟨?_, a2, fun _ => ⟨b2, fun _ => ⟨c2, fun _ => ⟨d2, fun z => ⟨d3 z, fun _ => p86⟩, fun _ => p86⟩⟩⟩⟩
  unfold mX6_kindHere_86
  rw [e1, g1]
  by_cases z : mX6_isName 7 100 114 105 101 N = true
  · rw [if_pos z, if_pos z]
  · rw [if_neg z, if_neg z]
    rfl
/-- which other name stands there: 0 wind, 1 turn, .. -/
def owT (t : Nat → Nat) (tp q : Nat) : Int32 := if nmB t tp (strN.getD 1 []) q = true then 3 else if nmB t tp (strN.getD 2 []) q = true then 4 else if nmB t tp (strN.getD 3 []) q = true then 5 else if nmB t tp (strN.getD 4 []) q = true then 6 else if nmB t tp (strN.getD 5 []) q = true then 7 else -1
theorem own6 {N : Mem} {t : Nat → Nat} {tp q : Nat} (h : LEX N t tp q) : mX6_ownHere N = owT t tp q ∧ PX6_ownHere N := by
  obtain ⟨a1, a2⟩ := n6_wind h
  obtain ⟨b1, b2⟩ := n6_turn h
  obtain ⟨c1, c2⟩ := n6_damp h
  obtain ⟨d1, d2⟩ := n6_shy h
  obtain ⟨e1, e2⟩ := n6_gust h
  unfold mX6_ownHere owT PX6_ownHere
  rw [a1, b1, c1, d1, e1]
  exact ⟨rfl, a2, fun _ => ⟨b2, fun _ => ⟨c2, fun _ => ⟨d2, fun _ => e2⟩⟩⟩⟩
theorem nmB_len {t : Nat → Nat} {tp q : Nat} {l : List Nat} (h : nmB t tp l q = true) : rn isA t tp q = q + l.length ∧ nmL t l q = true := by
  unfold nmB at h
  by_cases z : rn isA t tp q = q + l.length
  · rw [if_pos z] at h; exact ⟨z, h⟩
  · rw [if_neg z] at h; cases h
theorem nmB_ne {t : Nat → Nat} {tp q : Nat} {l m : List Nat} (h : nmB t tp l q = true) (hne : l.length ≠ m.length) : nmB t tp m q = false := by
  have h1 := (nmB_len h).1
  unfold nmB
  rw [if_neg (by omega)]
theorem wet_own {t : Nat → Nat} {tp q : Nat} (h : nmB t tp (strN.getD 0 []) q = true) : owT t tp q = -1 := by
  have e4 : nmB t tp (strN.getD 4 []) q = false := by
    have h2 := (nmB_len h).2
    have h3 : (if t q = 119 then nmL t [101, 116] (q + 1) else false) = true := h2
    have h4 : t q = 119 := by
      by_cases z : t q = 119
      · exact z
      · rw [if_neg z] at h3; cases h3
    unfold nmB
    by_cases z : rn isA t tp q = q + (strN.getD 4 []).length
    · rw [if_pos z]
      show (if t q = 115 then nmL t [104, 121] (q + 1) else false) = false
      rw [if_neg (by omega)]
    · rw [if_neg z]
  unfold owT
  rw [nmB_ne (m := strN.getD 1 []) h (by decide), nmB_ne (m := strN.getD 2 []) h (by decide), nmB_ne (m := strN.getD 3 []) h (by decide), e4, nmB_ne (m := strN.getD 5 []) h (by decide)]
  rfl
