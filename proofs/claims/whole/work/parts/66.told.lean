/-! an air, a wet house, a number of its own told -/
def G15 (M M' : Mem) : Prop := ∀ p, (p < 15 ∨ 22 < p) → M' p = M p
theorem G5.g {M M' : Mem} (h : G5 M M') : G15 M M' := fun p hp => h p (by omega)
theorem G15.rf (M : Mem) : G15 M M := fun _ _ => rfl
theorem G15.trans {A B C : Mem} (h1 : G15 A B) (h2 : G15 B C) : G15 A C := fun q hq => (h2 q hq).trans (h1 q hq)
theorem G5.R {M M' : Mem} {s : Nat → Int32} {n : Nat} (h : G5 M M') (hR : R M 15 s n) : R M' 15 s n := hR.congr (fun j hj => h _ (by omega)) (fun _ _ => rfl)
def JR (t : Nat → Nat) (tp : Nat) (M N : Mem) (q : Nat) : Prop := JJ t tp M N (fun p' => q < p' ∧ ∃ n, R M 15 (N 47) n) ∧ ∃ s n, R M 15 s n
theorem JJ.imp {t : Nat → Nat} {tp : Nat} {M N : Mem} {g g' : Nat → Prop} (h : JJ t tp M N g) (hg : ∀ p, g p → g' p) : JJ t tp M N g' := by
  rcases h with ⟨p, h1, h2, h3, h4⟩ | h
  · exact Or.inl ⟨p, h1, h2, h3, hg p h4⟩
  · exact Or.inr h
theorem JJ.get {t : Nat → Nat} {tp : Nat} {M N : Mem} {g : Nat → Prop} (h : JJ t tp M N g) (hw : N 46 11 = 0) : ∃ p, g p := by
  rcases h with ⟨p, h1, h2, h3, h4⟩ | ⟨p, q, h1, h2, h3⟩
  · exact ⟨p, h4⟩
  · rw [hw] at h3; exact absurd h3 (by decide)
theorem JJ.n {t : Nat → Nat} {tp : Nat} {M N N' : Mem} {g : Nat → Prop} (h : JJ t tp M N g) (h46 : N' 46 = N 46) (h51 : N' 51 = N 51) : JJ t tp M N' g := by
  rcases h with ⟨p, h1, h2, h3, h4⟩ | ⟨p, q, h1, h2, h3⟩
  · exact Or.inl ⟨p, h1, h2.of (fun z _ => by rw [h46]) h51, by rw [h46]; exact h3, h4⟩
  · exact Or.inr ⟨p, q, h1, h2.of (fun z _ => by rw [h46]) h51, by rw [h46]; exact h3⟩
theorem JJ.m {t : Nat → Nat} {tp : Nat} {M M' N : Mem} {g : Nat → Prop} (h : JJ t tp M N g) (h22 : M' 22 = M 22) (h23 : M' 23 = M 23) : JJ t tp M' N g := by
  have c : ∀ {p f}, CS M t tp p f → CS M' t tp p f := fun h => ⟨h.1.of (by rw [h22]) h23, h.2.1, by rw [h22]; exact h.2.2.1, by rw [h22]; exact h.2.2.2⟩
  rcases h with ⟨p, h1, h2, h3, h4⟩ | ⟨p, q, h1, h2, h3⟩
  · exact Or.inl ⟨p, c h1, h2, h3, h4⟩
  · exact Or.inr ⟨p, q, c h1, h2, h3⟩
theorem row_fin (s : Nat → Int32) (n : Nat) (K h f e : Int32) : upd (upd (upd (comeS s n K 3 0 0) (24 + 4 * n + 3) h) (24 + 4 * n + 1) f) (24 + 4 * n + 2) e = comeS s n K f e h := by
  funext j
  unfold comeS
  by_cases j0 : j = 0
  · subst j0
    rw [upd_ne (by omega), upd_ne (by omega), upd_ne (by omega), upd_at, upd_at]
  · by_cases j1 : j = 24 + 4 * n
    · subst j1
      rw [upd_ne (by omega), upd_ne (by omega), upd_ne (by omega), upd_ne j0, upd_ne (by omega), upd_ne (by omega), upd_ne (by omega), upd_at, upd_ne j0, upd_ne (by omega), upd_ne (by omega), upd_ne (by omega), upd_at]
    · by_cases j2 : j = 24 + 4 * n + 1
      · subst j2
        rw [upd_ne (by omega), upd_at, upd_ne j0, upd_ne (by omega), upd_ne (by omega), upd_at]
      · by_cases j3 : j = 24 + 4 * n + 2
        · subst j3
          rw [upd_at, upd_ne j0, upd_ne (by omega), upd_at]
        · by_cases j4 : j = 24 + 4 * n + 3
          · subst j4
            rw [upd_ne j3, upd_ne j2, upd_at, upd_ne j0, upd_at]
          · rw [upd_ne j3, upd_ne j2, upd_ne j4, upd_ne j0, upd_ne j4, upd_ne j3, upd_ne j2, upd_ne j1, upd_ne j0, upd_ne j4, upd_ne j3, upd_ne j2, upd_ne j1]
theorem h103 (v2 : Int32) (N : Mem) : mX6_airHere_103 v2 N = mX6_perhaps (b2i (if mX6_isName 6 101 114 114 100 N = true then mX6_isSame 2 114 97 110 N else false)) (v2 + 2) 15 N ∧ (PX6_isName 6 101 114 114 100 N → (mX6_isName 6 101 114 114 100 N = true → PX6_isSame 2 114 97 110 N) → PX6_perhaps (b2i (if mX6_isName 6 101 114 114 100 N = true then mX6_isSame 2 114 97 110 N else false)) (v2 + 2) 15 N → PX6_airHere_103 v2 N) := by
  unfold mX6_airHere_103 mX6_airHere_139 mX6_airHere_140 PX6_airHere_103 PX6_airHere_139 PX6_airHere_140
  by_cases z : mX6_isName 6 101 114 114 100 N = true
  · rw [if_pos z, if_pos z]
    cases y : mX6_isSame 2 114 97 110 N with
    | true =>
      rw [if_pos rfl]
      exact ⟨rfl, fun p1 p2 p3 => ⟨p1, fun _ => ⟨p2 z, fun _ => p3, fun w => absurd rfl w⟩, fun w => absurd z w⟩⟩
    | false =>
      rw [if_neg (by decide)]
      exact ⟨rfl, fun p1 p2 p3 => ⟨p1, fun _ => ⟨p2 z, fun w => (by cases w), fun _ => p3⟩, fun w => absurd z w⟩⟩
  · rw [if_neg z, if_neg z]
    exact ⟨rfl, fun p1 p2 p3 => ⟨p1, fun w => absurd w z, fun _ => p3⟩⟩
/-- from the house on -/
theorem air_tail {t : Nat → Nat} {tp q n : Nat} {s : Nat → Int32} {K : Int32} {M N : Mem} (hn : n < 8) (hK : KD K) (hR : R M 15 s n) (h : JJ t tp M N (fun p' => q < p' ∧ N 47 = comeS s n K 3 0 0)) :
    JR t tp (mX3_tellAir_28 15 K M) (mX6_airHere_59 (24 + (4 * nI n)) N) q ∧ G15 M (mX3_tellAir_28 15 K M) ∧ F6c N (mX6_airHere_59 (24 + (4 * nI n)) N) ∧ PX3_tellAir_28 15 K M ∧ PX6_airHere_59 (24 + (4 * nI n)) N := by
  have ek : 24 + (4 * nI n) = nI (24 + 4 * n) := by
    rw [show (4 : Int32) * nI n = nI (4 * n) from nI_mulc 4 n]
    exact nI_add 24 (4 * n)
  have ek1 : (24 + (4 * nI n)) + 1 = nI (24 + 4 * n + 1) := by rw [ek]; exact nI_add _ 1
  have ek2 : (24 + (4 * nI n)) + 2 = nI (24 + 4 * n + 2) := by rw [ek]; exact nI_add _ 2
  have ek3 : (24 + (4 * nI n)) + 3 = nI (24 + 4 * n + 3) := by rw [ek]; exact nI_add _ 3
  obtain ⟨k0, e0⟩ : ∃ y, y = (if N 46 11 = 0 then (24 + (4 * nI n)) + 3 else 0) := ⟨_, rfl⟩
  have e59 : mX6_airHere_59 (24 + (4 * nI n)) N = mX6_airHere_74 (24 + (4 * nI n)) k0 N := by
    unfold mX6_airHere_59
    rw [e0]
    by_cases z : N 46 11 = 0
    · rw [if_pos z, if_pos z]
    · rw [if_neg z, if_neg z]
  have p59 : PX6_airHere_74 (24 + (4 * nI n)) k0 N → PX6_airHere_59 (24 + (4 * nI n)) N := by
    intro p
    unfold PX6_airHere_59
    refine ⟨fun z => ?_, fun z => ?_⟩
    · rw [if_pos z] at e0; rw [← e0]; exact p
    · rw [if_neg z] at e0; rw [← e0]; exact p
  -- the house
  obtain ⟨hh, M3, a1, a2, a3, a4, a5, a6, a7, a8⟩ := J_num (lo := 0) (hi := 15) (a := 24 + 4 * n + 3) (at' := k0) (by decide) (by decide) h (by omega) (fun z => by rw [e0, if_pos z, ek3])
  have a1' : mX3_number 0 15 M = (nI hh, M3) := a1
  have a8' : PX6_numberTo k0 0 15 N := a8
  obtain ⟨N4, e4⟩ : ∃ y, y = mX6_numberTo k0 0 15 N := ⟨_, rfl⟩
  have a4' : JJ t tp M3 N4 (fun p' => (∃ p, p < p' ∧ q < p ∧ N 47 = comeS s n K 3 0 0) ∧ N4 47 = upd (N 47) (24 + 4 * n + 3) (nI hh)) := by rw [e4]; exact a4
  have a6' : F6c N N4 := by rw [e4]; exact a6
  -- the force
  obtain ⟨b1, M3', f, M4, c1, c2, c3, c4, c5, c6, c7, c8, c9⟩ := J_perh (s := 13) (hi := 9) (a := 24 + 4 * n + 1) (d := 3) (k := b2i (mX6_isFive 102 111 114 99 101 N4)) (at' := (24 + (4 * nI n)) + 1) (by decide) (by decide) (by decide) a4' (by omega) (fun _ => ek1) (fun q' hl => by rw [(n6_force hl).1]) (fun w => by
    obtain ⟨p, ⟨p1, _, _, g1⟩, g2⟩ := a4'.get w
    rw [g2, g1, upd_ne (by omega)]
    unfold comeS
    rw [upd_ne (by omega), upd_ne (by omega), upd_ne (by omega), upd_at]
    rfl)
  obtain ⟨N5, e5⟩ : ∃ y, y = mX6_perhaps (b2i (mX6_isFive 102 111 114 99 101 N4)) ((24 + (4 * nI n)) + 1) 9 N4 := ⟨_, rfl⟩
  have c5' : JJ t tp M4 N5 (fun p' => (∃ p, p ≤ p' ∧ (∃ p1, p1 < p ∧ q < p1 ∧ N 47 = comeS s n K 3 0 0) ∧ N4 47 = upd (N 47) (24 + 4 * n + 3) (nI hh)) ∧ N5 47 = upd (N4 47) (24 + 4 * n + 1) (nI f)) := by rw [e5]; exact c5
  have c7' : F6c N4 N5 := by rw [e5]; exact c7
  -- the errand
  obtain ⟨k14, e14⟩ : ∃ y, y = b2i (if mX6_isName 6 101 114 114 100 N5 = true then mX6_isSame 2 114 97 110 N5 else false) := ⟨_, rfl⟩
  obtain ⟨b2, M4', ee, M5, d1, d2, d3, d4, d5, d6, d7, d8, d9⟩ := J_perh (s := 14) (hi := 15) (a := 24 + 4 * n + 2) (d := 0) (k := k14) (at' := (24 + (4 * nI n)) + 2) (by decide) (by decide) (by decide) c5' (by omega) (fun _ => ek2) (fun q' hl => by rw [e14, (n6_errand hl).1]) (fun w => by
    obtain ⟨p, ⟨p1, _, ⟨_, _, _, g1⟩, g2⟩, g3⟩ := c5'.get w
    rw [g3, g2, g1, upd_ne (by omega), upd_ne (by omega)]
    unfold comeS
    rw [upd_ne (by omega), upd_ne (by omega), upd_at]
    rfl)
  -- the class adds
  have hR5 : R M5 15 s n := (a5.trans (c6.trans d6)).R hR
  obtain ⟨M6, x1, x2, x3, x4, x5, x6, x7, x8, x9, x10⟩ := add_eq (b := 15) (a1 := K) (a2 := nI f) (a3 := nI ee) (a4 := nI hh) hR5.2.1.1 hn
  have hR6 : R M6 15 (comeS s n K (nI f) (nI ee) (nI hh)) (n + 1) := come_R hR5 hn hK ⟨ee, by omega, rfl⟩ ⟨hh, by omega, rfl⟩ x2 x3 x4 x5 x6 x7 x8
  have m78 : mX3_tellAir_78 15 K (nI hh) (nI f) (nI ee) M5 = M6 := by
    unfold mX3_tellAir_78
    rw [x1]
  have m56 : mX3_tellAir_56 15 K (nI hh) (nI f) M4 = M6 ∧ PX3_tellAir_56 15 K (nI hh) (nI f) M4 := by
    unfold mX3_tellAir_56 mX3_tellAir_64 mX3_tellAir_74 PX3_tellAir_56 PX3_tellAir_64 PX3_tellAir_74
    rw [d1]
    dsimp only
    cases b2 with
    | true =>
      obtain ⟨y1, y2⟩ := d2 rfl
      have y1' : mX3_number 0 15 M4' = (nI ee, M5) := y1
      rw [if_neg (by decide), y1']
      exact ⟨m78, d8, fun z => absurd z (by decide), fun _ => ⟨y2, x10⟩⟩
    | false =>
      obtain ⟨y1, y2⟩ := d3 rfl
      rw [y1, y2] at m78 x10
      rw [if_pos (by decide)]
      exact ⟨m78, d8, fun _ => x10, fun z => absurd (by decide) z⟩
  have m42 : mX3_tellAir_28 15 K M = M6 ∧ PX3_tellAir_28 15 K M := by
    unfold mX3_tellAir_28 mX3_tellAir_35 mX3_tellAir_42 mX3_tellAir_52 PX3_tellAir_28 PX3_tellAir_35 PX3_tellAir_42 PX3_tellAir_52
    rw [a1']
    dsimp only
    rw [c1]
    dsimp only
    cases b1 with
    | true =>
      obtain ⟨y1, y2⟩ := c2 rfl
      have y1' : mX3_number 0 9 M3' = (nI f, M4) := y1
      rw [if_neg (by decide), y1']
      exact ⟨m56.1, a7, c8, fun z => absurd z (by decide), fun _ => ⟨y2, m56.2⟩⟩
    | false =>
      obtain ⟨y1, y2⟩ := c3 rfl
      rw [y1, y2] at m56
      rw [if_pos (by decide)]
      exact ⟨m56.1, a7, c8, fun _ => m56.2, fun z => absurd (by decide) z⟩
  obtain ⟨h1, h2⟩ := h103 (24 + (4 * nI n)) N5
  rw [← e14] at h1 h2
  have m6 : mX6_airHere_59 (24 + (4 * nI n)) N = mX6_perhaps k14 ((24 + (4 * nI n)) + 2) 15 N5 := by
    rw [e59]
    unfold mX6_airHere_74 mX6_airHere_80
    rw [← e4, ← e5]
    exact h1
  have lex5 : (PX6_isName 6 101 114 114 100 N5 ∧ (mX6_isName 6 101 114 114 100 N5 = true → PX6_isSame 2 114 97 110 N5)) ∧ PX6_isFive 102 111 114 99 101 N4 := by
    constructor
    · rcases c5' with ⟨p, _, hl, _⟩ | ⟨p, q', _, hl, _⟩
      · exact (n6_errand hl).2
      · exact (n6_errand hl).2
    · rcases a4' with ⟨p, _, hl, _⟩ | ⟨p, q', _, hl, _⟩
      · exact (n6_force hl).2
      · exact (n6_force hl).2
  rw [m42.1, m6]
  refine ⟨⟨?_, _, _, hR6⟩, (a5.trans (c6.trans d6)).g.trans (fun p hp => x9 p (by omega)), a6'.trans (c7'.trans d7), m42.2, p59 ?_⟩
  · have d5' : JJ t tp M6 (mX6_perhaps k14 ((24 + (4 * nI n)) + 2) 15 N5) _ := d5.m (x9 22 (by decide)) (x9 23 (by decide))
    refine d5'.imp ?_
    rintro p ⟨⟨p1, g1, ⟨p2, g2, ⟨p3, g3, g4, g5⟩, g6⟩, g7⟩, g8⟩
    have er : mX6_perhaps k14 ((24 + (4 * nI n)) + 2) 15 N5 47 = comeS s n K (nI f) (nI ee) (nI hh) := by
      have g8' : mX6_perhaps k14 ((24 + (4 * nI n)) + 2) 15 N5 47 = _ := g8
      rw [g8', g7, g6, g5, row_fin]
    exact ⟨by omega, n + 1, by rw [er]; exact hR6⟩
  · unfold PX6_airHere_74 PX6_airHere_80
    rw [← e4, ← e5]
    exact ⟨a8', lex5.2, c9, h2 lex5.1.1 lex5.1.2 d9⟩
theorem vcp_le {t : Nat → Nat} (ht : ∀ i, t i < 256) : ∀ (k i a : Nat), a ≤ 11000 → vcp t k i a ≤ 11000 := by
  intro k
  induction k with
  | zero => intro i a h; exact h
  | succ k ih =>
    intro i a h
    have := ht i
    rw [vcp]
    apply ih
    by_cases z : a ≤ 999
    · rw [if_pos z]; omega
    · rw [if_neg z]; exact h
theorem air_sim {t : Nat → Nat} {tp q n : Nat} {s : Nat → Int32} {M N : Mem} (hc : CS M t tp q (-1)) (hl : LEX N t tp q) (hw : N 46 11 = 0) (hR : R M 15 s n) (hs : N 47 = s) (hk : ¬ kdT t tp q < 0) :
    JR t tp (mX3_tellAir 15 (kdT t tp q) M) (mX6_airHere (kdT t tp q) N) q ∧ G15 M (mX3_tellAir 15 (kdT t tp q) M) ∧ F6c N (mX6_airHere (kdT t tp q) N) ∧ PX3_tellAir 15 (kdT t tp q) M ∧ PX6_airHere (kdT t tp q) N := by
  have hn := hR.1
  have n6 : M 15 6 = nI n := hR.2.1.1
  have n0 : N 47 0 = nI n := by rw [hs]; exact hR.2.1.2
  have c5 : M 15 6 < 8 ↔ n < 8 := by rw [n6]; exact nI_lt_iff (b := 8) (by omega) (by decide)
  have c6 : 8 ≤ N 47 0 ↔ 8 ≤ n := by rw [n0]; exact nI_le_iff (a := 8) (by decide) (by omega)
  -- the name and the kind
  have hK : KD (kdT t tp q) ∧ ∃ L, 0 < L ∧ rn isA t tp q = q + L := by
    unfold kdT at hk ⊢
    by_cases z6 : nmB t tp (strN.getD 6 []) q = true
    · rw [if_pos z6]; exact ⟨⟨0, by decide, rfl⟩, _, (show 0 < (strN.getD 6 []).length by decide), (nmB_len z6).1⟩
    · rw [if_neg z6] at hk ⊢
      by_cases z7 : nmB t tp (strN.getD 7 []) q = true
      · rw [if_pos z7]; exact ⟨⟨1, by decide, rfl⟩, _, (show 0 < (strN.getD 7 []).length by decide), (nmB_len z7).1⟩
      · rw [if_neg z7] at hk ⊢
        by_cases z8 : nmB t tp (strN.getD 8 []) q = true
        · rw [if_pos z8]; exact ⟨⟨2, by decide, rfl⟩, _, (show 0 < (strN.getD 8 []).length by decide), (nmB_len z8).1⟩
        · rw [if_neg z8] at hk ⊢
          by_cases z9 : nmB t tp (strN.getD 9 []) q = true
          · rw [if_pos z9]; exact ⟨⟨3, by decide, rfl⟩, _, (show 0 < (strN.getD 9 []).length by decide), (nmB_len z9).1⟩
          · rw [if_neg z9] at hk ⊢
            by_cases z10 : nmB t tp (strN.getD 10 []) q = true
            · rw [if_pos z10]; exact ⟨⟨4, by decide, rfl⟩, _, (show 0 < (strN.getD 10 []).length by decide), (nmB_len z10).1⟩
            · rw [if_neg z10] at hk ⊢
              by_cases z11 : nmB t tp (strN.getD 11 []) q = true
              · rw [if_pos z11]; exact ⟨⟨5, by decide, rfl⟩, _, (show 0 < (strN.getD 11 []).length by decide), (nmB_len z11).1⟩
              · rw [if_neg z11] at hk
                exact absurd (by decide) hk
  obtain ⟨hKD, L, hL0, hL⟩ := hK
  obtain ⟨l1, l2, l3, l4⟩ := te_A hL0 hL
  obtain ⟨K, eK⟩ : ∃ y, y = kdT t tp q := ⟨_, rfl⟩
  rw [← eK] at hKD ⊢
  by_cases h8 : n < 8
  · -- one more
    have b0 : ¬ 8 ≤ N 47 0 := fun z => by have := c6.mp z; omega
    obtain ⟨e1, e2⟩ := endA hc.1 hc.2.1 hc.2.2.1
    obtain ⟨d1, d2⟩ := hc.go (p' := rn isA t tp q) (rn_le hc.2.1)
    obtain ⟨M1, f1⟩ : ∃ y, y = upm M 22 2 (nI (rn isA t tp q)) := ⟨_, rfl⟩
    rw [← f1] at d1 d2
    obtain ⟨g1, g2, g3, g4, g5⟩ := needs_t (k := 1) hl hw (by decide)
    rw [l4, ← hL] at g1
    obtain ⟨N1, f2⟩ : ∃ y, y = mX6_needs 1 N := ⟨_, rfl⟩
    rw [← f2] at g1 g2 g3 g4
    have J1 : JJ t tp M1 N1 (fun p' => q < p') := Or.inl ⟨_, d1, g1, g2, by omega⟩
    obtain ⟨j1, j2, j3, j4, j5, j6⟩ := J_name (s := 12) (k := b2i (mX6_isTwo 97 116 N1)) (by decide) J1 (fun q' h' => by rw [(n6_at h').1])
    obtain ⟨M2, f3⟩ : ∃ y, y = mX3_takeName 12 M1 := ⟨_, rfl⟩
    obtain ⟨N2, f4⟩ : ∃ y, y = mX6_needs (b2i (mX6_isTwo 97 116 N1)) N1 := ⟨_, rfl⟩
    rw [← f3, ← f4] at j1
    rw [← f3] at j2
    rw [← f4] at j3 j4
    have p2 : PX6_isTwo 97 116 N1 := (n6_at g1).2
    have n47 : N2 47 = s := by rw [j4, g3, hs]
    have n20 : N2 47 0 = nI n := by rw [n47]; exact hR.2.1.2
    obtain ⟨k1, k2⟩ := comes_eq (a1 := K) (a2 := 3) (a3 := 0) (a4 := 0) n20 h8
    obtain ⟨N3, f5⟩ : ∃ y, y = (if N2 46 11 = 0 then mX6_comes K 3 0 0 N2 else N2) := ⟨_, rfl⟩
    have F3 : N3 46 = N2 46 ∧ N3 51 = N2 51 ∧ F6c N2 N3 ∧ (N2 46 11 = 0 → N3 47 = comeS s n K 3 0 0) := by
      rw [f5]
      by_cases z : N2 46 11 = 0
      · rw [if_pos z, k1]
        exact ⟨upr_ne (by decide), upr_ne (by decide), ⟨fun p _ p2 => upr_ne p2, fun z _ => by rw [upr_ne (by decide)]⟩, fun _ => by rw [upr_at, n47]⟩
      · rw [if_neg z]
        exact ⟨rfl, rfl, F6c.rf _, fun y => absurd y z⟩
    obtain ⟨w1, w2, w3, w4⟩ := F3
    have J3 : JJ t tp M2 N3 (fun p' => q < p' ∧ N3 47 = comeS s n K 3 0 0) := by
      rcases j1 with ⟨p, x1, x2, x3, ⟨p1, x4, x5⟩⟩ | x
      · exact (show JJ t tp M2 N2 (fun p' => q < p' ∧ N3 47 = comeS s n K 3 0 0) from Or.inl ⟨p, x1, x2, x3, by omega, w4 x3⟩).n w1 w2
      · exact (show JJ t tp M2 N2 (fun p' => q < p' ∧ N3 47 = comeS s n K 3 0 0) from Or.inr x).n w1 w2
    have hR2 : R M2 15 s n := (d2.trans j2).R hR
    obtain ⟨t1, t2, t3, t4, t5⟩ := air_tail h8 hKD hR2 J3
    have m5 : mX3_tellAir 15 K M = mX3_tellAir_28 15 K M2 := by
      unfold mX3_tellAir
      rw [if_pos (c5.mpr h8), e1, ← f1, ← f3]
    have m6 : mX6_airHere K N = mX6_airHere_59 (24 + (4 * nI n)) N3 := by
      unfold mX6_airHere mX6_airHere_29 mX6_airHere_32 mX6_airHere_44
      rw [if_neg b0, n0, ← f2, ← f4, f5]
      by_cases z : N2 46 11 = 0
      · rw [if_pos z, if_pos z]
      · rw [if_neg z, if_neg z]
    rw [m5, m6]
    refine ⟨t1, (d2.trans j2).g.trans t2, g4.trans (j3.trans (w3.trans t3)), ?_, ?_⟩
    · unfold PX3_tellAir
      rw [e1, ← f1, ← f3]
      exact fun _ => ⟨e2, j5, t4⟩
    · unfold PX6_airHere PX6_airHere_29 PX6_airHere_32 PX6_airHere_44
      rw [n0, ← f2, ← f4]
      refine ⟨fun z => absurd (by rw [← n0] at z; exact z) b0, fun _ => ⟨g5, p2, j6, fun z => ⟨k2, ?_⟩, fun z => ?_⟩⟩
      · rw [if_pos z] at f5; rw [← f5]; exact t5
      · rw [if_neg z] at f5; rw [← f5]; exact t5
  · -- a ninth one
    have b0 : 8 ≤ N 47 0 := c6.mpr (by omega)
    obtain ⟨a1, a2⟩ := fault5 hc
    rw [FF_m] at a1
    have m5 : mX3_tellAir 15 K M = mX3_findFault M := by
      unfold mX3_tellAir
      rw [if_neg (fun z => h8 (c5.mp z))]
    obtain ⟨g1, g2, g3, g4, g5⟩ := needs_f (k := 0) hl (fun _ => rfl)
    obtain ⟨N1, f2⟩ : ∃ y, y = mX6_needs 0 N := ⟨_, rfl⟩
    rw [← f2] at g1 g2 g3 g4
    have w1 : ¬ N1 46 11 = 0 := by rw [g2]; decide
    obtain ⟨i1, i2, i3, i4, i5⟩ := needs_f (k := b2i (mX6_isTwo 97 116 N1)) g1 (fun z => absurd z w1)
    obtain ⟨N2, f4⟩ : ∃ y, y = mX6_needs (b2i (mX6_isTwo 97 116 N1)) N1 := ⟨_, rfl⟩
    rw [← f4] at i1 i2 i3 i4
    have w2 : ¬ N2 46 11 = 0 := by rw [i2]; decide
    obtain ⟨v2, ev2⟩ : ∃ y, y = (24 : Int32) + (4 * nI n) := ⟨_, rfl⟩
    obtain ⟨o1, o2, o3, o4⟩ := num_f (at' := 0) (lo := 0) (hi := 15) i1 (by decide) (by decide) (Or.inr i2) (fun z => absurd z w2) (fun z => absurd z w2)
    obtain ⟨N4, f6⟩ : ∃ y, y = mX6_numberTo 0 0 15 N2 := ⟨_, rfl⟩
    have o1' : LEX N4 t tp q := by rw [f6]; exact o1
    have o2' : N4 46 11 = 1 := by rw [f6]; exact o2
    have o3' : F6c N2 N4 := by rw [f6]; exact o3
    have w4 : ¬ N4 46 11 = 0 := by rw [o2']; decide
    have per : ∀ k a b, mX6_perhaps k a b N4 = N4 ∧ PX6_perhaps k a b N4 := by
      intro k a b
      unfold mX6_perhaps PX6_perhaps
      rw [if_neg w4]
      exact ⟨rfl, fun z => absurd z w4⟩
    obtain ⟨h1, h2⟩ := h103 v2 N4
    rw [(per _ _ _).1] at h1
    have m6 : mX6_airHere K N = N4 := by
      unfold mX6_airHere mX6_airHere_29 mX6_airHere_32 mX6_airHere_44 mX6_airHere_59 mX6_airHere_74 mX6_airHere_80
      rw [if_pos b0, n0, ← f2, ← f4, if_neg w2, if_neg w2, ← f6, ← ev2, (per _ _ _).1, h1]
    have p80 : PX6_airHere_74 v2 0 N2 := by
      unfold PX6_airHere_74 PX6_airHere_80
      rw [← f6, (per _ _ _).1]
      exact ⟨o4, (n6_force o1').2, (per _ _ _).2, h2 (n6_errand o1').2.1 (n6_errand o1').2.2 (per _ _ _).2⟩
    rw [m5, m6]
    refine ⟨⟨Or.inr ⟨_, q, a1, o1', o2'⟩, s, n, a2.R hR⟩, a2.g, g4.trans (i4.trans o3'), ?_, ?_⟩
    · unfold PX3_tellAir
      exact fun z => absurd (c5.mp z) h8
    · unfold PX6_airHere PX6_airHere_29 PX6_airHere_32 PX6_airHere_44 PX6_airHere_59
      rw [n0, ← f2, ← f4, ← ev2]
      rw [n0] at b0
      exact ⟨fun _ => ⟨g5, (n6_at g1).2, i5, fun z => absurd z w2, fun _ => ⟨fun z => absurd z w2, fun _ => p80⟩⟩, fun z => absurd b0 z⟩
