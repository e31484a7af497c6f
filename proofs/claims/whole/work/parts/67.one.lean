/-! one thing told, whichever -/
theorem wet4 {N : Mem} {t : Nat → Nat} {tp q : Nat} (h : LEX N t tp q) : mX6_wetHere_4 N = mX6_wetHere_45 (N 46 10) (b2i (nOK t tp q 0 15)) N ∧ (PX6_wetHere_45 (N 46 10) 0 N → (nOK t tp q 0 15 = true → PX6_wetHere_45 (N 46 10) 1 N) → PX6_wetHere_4 N) := by
  have hv := h.2.2.2.2.2.2
  have hb : tv t tp q ≤ 11000 := vcp_le h.1.2.1 _ _ _ (by decide)
  have e0 : ¬ N 46 10 < nI 0 := by rw [hv]; exact Int32.not_lt.mpr (nI_le (Nat.zero_le _) (by omega))
  have e1 : nI 15 < N 46 10 ↔ 16 ≤ N 46 10 := by
    rw [hv, nI_lt_iff (by decide) (by omega)]
    exact (nI_le_iff (a := 16) (by decide) (by omega)).symm
  have nc := num_cond h (lo := 0) (hi := 15) (by decide) (by decide) (mX6_wetHere_45 (N 46 10) 1 N) (mX6_wetHere_45 (N 46 10) 0 N)
  rw [if_neg e0] at nc
  have nc' : mX6_wetHere_4 N = if nOK t tp q 0 15 = true then mX6_wetHere_45 (N 46 10) 1 N else mX6_wetHere_45 (N 46 10) 0 N := by
    rw [← nc]
    unfold mX6_wetHere_4 mX6_wetHere_44
    by_cases z : 16 ≤ N 46 10
    · rw [if_pos z, if_pos (e1.mpr z)]
    · rw [if_neg z, if_neg (fun y => z (e1.mp y))]
  have np := num_cond h (lo := 0) (hi := 15) (by decide) (by decide) True False
  rw [if_neg e0] at np
  constructor
  · rw [nc']
    cases nOK t tp q 0 15 with
    | true => rw [if_pos rfl]; rfl
    | false => rw [if_neg (by decide)]; rfl
  · intro p0 p1
    unfold PX6_wetHere_4 PX6_wetHere_44
    refine ⟨fun y2 => ⟨fun _ => p0, fun y3 => ⟨fun _ => p0, fun y4 => p1 ?_⟩⟩, fun _ => p0⟩
    rw [if_pos y2, if_neg y3, if_neg (fun z => y4 (e1.mp z))] at np
    cases hn : nOK t tp q 0 15 with
    | true => rfl
    | false => rw [hn, if_neg (by decide)] at np; exact absurd trivial (np ▸ id)
theorem wet_sim {t : Nat → Nat} {tp q n : Nat} {s : Nat → Int32} {M N : Mem} (hc : CS M t tp (rn isA t tp q) (-1)) (hl : LEX N t tp q) (hA : te t tp q = rn isA t tp q) (hq : q < rn isA t tp q) (hw : N 46 11 = 0) (hR : R M 15 s n) (hs : N 47 = s) :
    JR t tp (mX3_tellWet 15 M) (mX6_wetHere N) q ∧ G15 M (mX3_tellWet 15 M) ∧ F6c N (mX6_wetHere N) ∧ PX3_tellWet 15 M ∧ PX6_wetHere N := by
  obtain ⟨n1, n2, n3⟩ := next6 hl.1 (te_le hl.2.1) hl.2.2.2.2.2.1
  rw [hA] at n1
  obtain ⟨N1, f1⟩ : ∃ y, y = mX6_nextToken N := ⟨_, rfl⟩
  rw [← f1] at n1 n2
  have w1 : N1 46 11 = 0 := (n2.2 11 (by omega)).trans hw
  have s1 : N1 47 = s := (n2.1 47 (by decide)).trans hs
  obtain ⟨q1, eq1⟩ : ∃ y, y = rn isB t tp (rn isA t tp q) := ⟨_, rfl⟩
  have J1 : JJ t tp M N1 (fun p' => q < p') := Or.inl ⟨_, hc, n1, w1, hq⟩
  rw [← eq1] at n1
  have only : ∀ q', LEX N1 t tp q' → q' = q1 := by
    intro q' h'
    have e := h'.2.2.2.1.symm.trans n1.2.2.2.1
    have b1 := h'.2.1
    have b2 := n1.2.1
    have b3 := n1.1.1
    exact (nI_inj (by omega) (by omega)).mp e
  obtain ⟨k, ek⟩ : ∃ y, y = b2i (nOK t tp q1 0 15) := ⟨_, rfl⟩
  obtain ⟨v, M2, a1, a2, a3, a4, a5, a6, a7, a8⟩ := J_look (k := k) J1 (fun q' h' => by rw [only q' h']; exact ek)
  have a1' : mX3_number 0 15 M = (nI v, M2) := a1
  obtain ⟨N2, f2⟩ : ∃ y, y = mX6_needs k N1 := ⟨_, rfl⟩
  rw [← f2] at a3 a5 a6
  obtain ⟨k2, ek2⟩ : ∃ y, y = b2i (mX6_isTwo 105 115 N2) := ⟨_, rfl⟩
  obtain ⟨j1, j2, j3, j4, j5, j6⟩ := J_name (s := 15) (k := k2) (by decide) a3 (fun q' h' => by rw [ek2, (n6_is h').1])
  obtain ⟨M3, f3⟩ : ∃ y, y = mX3_takeName 15 M2 := ⟨_, rfl⟩
  obtain ⟨N3, f4⟩ : ∃ y, y = mX6_needs k2 N2 := ⟨_, rfl⟩
  rw [← f3, ← f4] at j1
  rw [← f3] at j2
  rw [← f4] at j3 j4
  have p2 : PX6_isTwo 105 115 N2 := by
    rcases a3 with ⟨p, _, h', _⟩ | ⟨p, q', _, h', _⟩
    · exact (n6_is h').2
    · exact (n6_is h').2
  obtain ⟨at', ea⟩ : ∃ y, y = (if N3 46 11 = 0 then 8 + N1 46 10 else 0) := ⟨_, rfl⟩
  have hat : N3 46 11 = 0 → at' = nI (8 + v) := by
    intro z
    obtain ⟨p, ⟨p1, _, _, g⟩⟩ := j1.get z
    rw [ea, if_pos z, g]
    exact nI_add 8 v
  obtain ⟨x, M4, b1, b2, b3, b4, b5, b6, b7, b8⟩ := J_num (lo := 0) (hi := 99) (a := 8 + v) (at' := at') (by decide) (by decide) j1 (by omega) hat
  have b1' : mX3_number 0 99 M3 = (nI x, M4) := b1
  obtain ⟨N4, f5⟩ : ∃ y, y = mX6_numberTo at' 0 99 N3 := ⟨_, rfl⟩
  have b4' : JJ t tp M4 N4 (fun p' => (∃ p, p < p' ∧ ∃ p1, p1 < p ∧ (∃ p2, p2 < p1 ∧ q < p2) ∧ N1 46 10 = nI v) ∧ N4 47 = upd (N3 47) (8 + v) (nI x)) := by rw [f5]; exact b4
  have b6' : F6c N3 N4 := by rw [f5]; exact b6
  have hR4 : R M4 15 s n := (a4.trans (j2.trans b5)).R hR
  have hR5 : R (upm M4 17 v (nI x)) 15 (upd s (8 + v) (nI x)) n := hR4.wet (by omega)
  have m5 : mX3_tellWet 15 M = upm M4 17 v (nI x) ∧ PX3_tellWet 15 M := by
    unfold mX3_tellWet mX3_tellWet_7 mX3_tellWet_14 mX3_tellWet_26 PX3_tellWet PX3_tellWet_7 PX3_tellWet_14 PX3_tellWet_26
    rw [a1']
    dsimp only
    rw [← f3, b1']
    dsimp only
    rw [nIc (by omega)]
    exact ⟨rfl, a7, j5, b7, vin (by omega) (by decide)⟩
  obtain ⟨x1, x2⟩ := wet4 n1
  rw [← ek] at x1
  have m6 : mX6_wetHere N = N4 := by
    unfold mX6_wetHere
    rw [← f1, x1]
    unfold mX6_wetHere_45 mX6_wetHere_48 mX6_wetHere_60 mX6_wetHere_76
    rw [← f2, ← ek2, ← f4]
    by_cases z : N3 46 11 = 0
    · rw [if_pos z] at ea
      rw [if_pos z, ← ea, f5]
    · rw [if_neg z] at ea
      rw [if_neg z, f5, ea]
  have p45 : PX6_wetHere_45 (N1 46 10) k N1 := by
    unfold PX6_wetHere_45 PX6_wetHere_48 PX6_wetHere_60 PX6_wetHere_76
    rw [← f2, ← ek2, ← f4]
    refine ⟨a8, p2, j6, fun z => ?_, fun z => ?_⟩
    · rw [if_pos z] at ea; rw [← ea]; exact b8
    · rw [if_neg z] at ea; rw [ea] at b8; exact b8
  rw [m5.1, m6]
  refine ⟨⟨?_, _, _, hR5⟩, (a4.trans (j2.trans b5)).g.trans (fun p hp => upm_ne (by omega)), n2.c.trans (a5.trans (j3.trans b6')), m5.2, ?_⟩
  · refine (b4'.m (M' := upm M4 17 v (nI x)) (upm_ne (by decide)) (upm_ne (by decide))).imp ?_
    rintro p ⟨⟨p1, g1, p2, g2, ⟨p3, g3, g4⟩, g5⟩, g6⟩
    have er : N4 47 = upd s (8 + v) (nI x) := by rw [g6, j4, a6, s1]
    exact ⟨by omega, n, by rw [er]; exact hR5⟩
  · unfold PX6_wetHere
    rw [← f1]
    refine ⟨n3, ?_⟩
    -- the number is right, or it isn't: both ways the premises hold
    refine x2 ?_ (fun hn => ?_)
    · cases hn : nOK t tp q1 0 15 with
      | false => rw [hn] at ek; rw [ek] at p45; exact p45
      | true =>
        -- never asked
        obtain ⟨y1, y2, y3, y4, y5⟩ := needs_f (k := 0) n1 (fun _ => rfl)
        obtain ⟨N5, f6⟩ : ∃ y, y = mX6_needs 0 N1 := ⟨_, rfl⟩
        rw [← f6] at y1 y2
        have w5 : ¬ N5 46 11 = 0 := by rw [y2]; decide
        obtain ⟨z1, z2, z3, z4, z5⟩ := needs_f (k := b2i (mX6_isTwo 105 115 N5)) y1 (fun z => absurd z w5)
        obtain ⟨N6, f7⟩ : ∃ y, y = mX6_needs (b2i (mX6_isTwo 105 115 N5)) N5 := ⟨_, rfl⟩
        rw [← f7] at z1 z2
        have w6 : ¬ N6 46 11 = 0 := by rw [z2]; decide
        unfold PX6_wetHere_45 PX6_wetHere_48 PX6_wetHere_60 PX6_wetHere_76
        rw [← f6, ← f7]
        exact ⟨y5, (n6_is y1).2, z5, fun z => absurd z w6, fun _ => (num_f (at' := 0) (lo := 0) (hi := 99) z1 (by decide) (by decide) (Or.inr z2) (fun z => absurd z w6) (fun z => absurd z w6)).2.2.2⟩
    · rw [hn] at ek; rw [ek] at p45; exact p45
theorem law_in : ∀ L, L < 4 → ∃ lo hi, lo ≤ hi ∧ hi ≤ 99 ∧ st_1 (nI L) = nI lo ∧ st_2 (nI L) = nI hi ∧ (L = 0 → 1 ≤ lo ∧ hi ≤ 9) := by
  intro L hL
  have : L = 0 ∨ L = 1 ∨ L = 2 ∨ L = 3 := by omega
  rcases this with rfl | rfl | rfl | rfl
  · exact ⟨1, 9, by decide, by decide, by decide, by decide, fun _ => by decide⟩
  · exact ⟨0, 99, by decide, by decide, by decide, by decide, fun z => by omega⟩
  · exact ⟨0, 9, by decide, by decide, by decide, by decide, fun z => by omega⟩
  · exact ⟨0, 99, by decide, by decide, by decide, by decide, fun z => by omega⟩
theorem it42 {N : Mem} : mX6_itemHere_30 3 N = mX6_itemHere_103 (mX6_numberTo 3 0 3 N) ∧ mX6_itemHere_30 4 N = mX6_itemHere_103 (mX6_numberTo 4 1 9 N) ∧ mX6_itemHere_30 5 N = mX6_itemHere_103 (mX6_numberTo 5 0 99 N) ∧ mX6_itemHere_30 6 N = mX6_itemHere_103 (mX6_numberTo 6 0 9 N) ∧ mX6_itemHere_30 7 N = mX6_itemHere_103 (mX6_numberTo 7 0 99 N) := by
  unfold mX6_itemHere_30 mX6_itemHere_42 mX6_itemHere_62 mX6_itemHere_69 mX6_itemHere_72
  exact ⟨rfl, rfl, rfl, rfl, rfl⟩
theorem it42P {N : Mem} {w lo hi : Int32} (h : (w = 3 ∧ lo = 0 ∧ hi = 3) ∨ (w = 4 ∧ lo = 1 ∧ hi = 9) ∨ (w = 5 ∧ lo = 0 ∧ hi = 99) ∨ (w = 6 ∧ lo = 0 ∧ hi = 9) ∨ (w = 7 ∧ lo = 0 ∧ hi = 99)) (p : PX6_numberTo w lo hi N) (p2 : PX6_itemHere_103 (mX6_numberTo w lo hi N)) : PX6_itemHere_30 w N := by
  unfold PX6_itemHere_30 PX6_itemHere_42 PX6_itemHere_62 PX6_itemHere_69 PX6_itemHere_72
  rcases h with ⟨rfl, rfl, rfl⟩ | ⟨rfl, rfl, rfl⟩ | ⟨rfl, rfl, rfl⟩ | ⟨rfl, rfl, rfl⟩ | ⟨rfl, rfl, rfl⟩
  · exact ⟨fun z => absurd z (by decide), fun _ => ⟨fun _ => ⟨p, p2⟩, fun z => absurd rfl z⟩⟩
  · exact ⟨fun _ => ⟨fun z => absurd z (by decide), fun _ => ⟨fun z => absurd z (by decide), fun _ => ⟨fun z => absurd z (by decide), fun _ => ⟨p, p2⟩⟩⟩⟩, fun z => absurd rfl z⟩
  · exact ⟨fun z => absurd z (by decide), fun _ => ⟨fun z => absurd z (by decide), fun _ => ⟨fun _ => ⟨p, p2⟩, fun z => absurd rfl z⟩⟩⟩
  · exact ⟨fun z => absurd z (by decide), fun _ => ⟨fun z => absurd z (by decide), fun _ => ⟨fun z => absurd z (by decide), fun _ => ⟨fun z => absurd z (by decide), fun _ => ⟨p, p2⟩⟩⟩⟩⟩
  · exact ⟨fun z => absurd z (by decide), fun _ => ⟨fun z => absurd z (by decide), fun _ => ⟨fun z => absurd z (by decide), fun _ => ⟨fun _ => ⟨p, p2⟩, fun z => absurd rfl z⟩⟩⟩⟩
/-- a number of its own: what both do -/
theorem own_sim {t : Nat → Nat} {tp q n lo hi a : Nat} {s : Nat → Int32} {M N : Mem} (hc : CS M t tp (rn isA t tp q) (-1)) (hl : LEX N t tp q) (hA : te t tp q = rn isA t tp q) (hq : q < rn isA t tp q) (hw : N 46 11 = 0) (hR : R M 15 s n) (hs : N 47 = s) (hlo : lo ≤ hi) (hhi : hi ≤ 99) (ha : a < 56) :
    ∃ v M', mX3_number (nI lo) (nI hi) M = (nI v, M') ∧ lo ≤ v ∧ v ≤ hi ∧ JJ t tp M' (mX6_numberTo (nI a) (nI lo) (nI hi) (mX6_nextToken N)) (fun p' => q < p' ∧ mX6_numberTo (nI a) (nI lo) (nI hi) (mX6_nextToken N) 47 = upd s a (nI v)) ∧ R M' 15 s n ∧ G15 M M' ∧ F6c N (mX6_numberTo (nI a) (nI lo) (nI hi) (mX6_nextToken N)) ∧ PX3_number (nI lo) (nI hi) M ∧ PX6_nextToken N ∧ PX6_numberTo (nI a) (nI lo) (nI hi) (mX6_nextToken N) := by
  obtain ⟨n1, n2, n3⟩ := next6 hl.1 (te_le hl.2.1) hl.2.2.2.2.2.1
  rw [hA] at n1
  obtain ⟨N1, f1⟩ : ∃ y, y = mX6_nextToken N := ⟨_, rfl⟩
  rw [← f1] at n1 n2 ⊢
  have w1 : N1 46 11 = 0 := (n2.2 11 (by omega)).trans hw
  have s1 : N1 47 = s := (n2.1 47 (by decide)).trans hs
  have J1 : JJ t tp M N1 (fun p' => q < p') := Or.inl ⟨_, hc, n1, w1, hq⟩
  obtain ⟨v, M', b1, b2, b3, b4, b5, b6, b7, b8⟩ := J_num (lo := lo) (hi := hi) (a := a) (at' := nI a) hlo (by omega) J1 ha (fun _ => rfl)
  refine ⟨v, M', b1, b2, b3, b4.imp ?_, b5.R hR, b5.g, n2.c.trans b6, b7, n3, b8⟩
  rintro p ⟨⟨p1, g1, g2⟩, g3⟩
  exact ⟨by omega, by rw [g3, s1]⟩
theorem tn {t : Nat → Nat} {tp q sx : Nat} {M : Mem} (hs : sx < 16) (h : CS M t tp q (-1)) (hqb : rn isB t tp q = q) : ∃ M', mX3_takesName sx M = (nmB t tp (strN.getD sx []) q, M') ∧ (nmB t tp (strN.getD sx []) q = true → CS M' t tp (rn isA t tp q) (-1)) ∧ (nmB t tp (strN.getD sx []) q = false → CS M' t tp q (-1)) ∧ G5 M M' ∧ PX3_takesName sx M := by
  obtain ⟨M', a1, a2, a3, a4⟩ := takesName5 hs h
  rw [hqb] at a1 a2
  refine ⟨M', a1, fun z => ?_, fun z => ?_, a3, a4⟩
  · rw [if_pos z] at a2; exact a2
  · rw [if_neg (by rw [z]; decide)] at a2; exact a2
