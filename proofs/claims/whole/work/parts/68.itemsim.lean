/-! THE TEXT, one thing: the class and the reference -/
theorem law_sim {t : Nat → Nat} {tp q n L lo hi : Nat} {s : Nat → Int32} {M N : Mem} (hL : L < 4) (e1 : st_1 (nI L) = nI lo) (e2 : st_2 (nI L) = nI hi) (hlo : lo ≤ hi) (hhi : hi ≤ 99) (h0 : L = 0 → 1 ≤ lo ∧ hi ≤ 9) (hc : CS M t tp (rn isA t tp q) (-1)) (hl : LEX N t tp q) (hA : te t tp q = rn isA t tp q) (hq : q < rn isA t tp q) (hw : N 46 11 = 0) (hR : R M 15 s n) (hs : N 47 = s) :
    JR t tp (mX3_tellLaw 15 (nI L) M) (mX6_numberTo (nI (4 + L)) (nI lo) (nI hi) (mX6_nextToken N)) q ∧ G15 M (mX3_tellLaw 15 (nI L) M) ∧ F6c N (mX6_numberTo (nI (4 + L)) (nI lo) (nI hi) (mX6_nextToken N)) ∧ PX3_tellLaw 15 (nI L) M ∧ PX6_nextToken N ∧ PX6_numberTo (nI (4 + L)) (nI lo) (nI hi) (mX6_nextToken N) := by
  obtain ⟨v, M', a1, a2, a3, a4, a5, a6, a7, a8, a9, a10⟩ := own_sim (a := 4 + L) hc hl hA hq hw hR hs hlo hhi (by omega)
  have hR2 : R (upm M' 16 L (nI v)) 15 (upd s (4 + L) (nI v)) n := a5.law hL (fun z => ⟨v, by have := h0 z; omega, by have := h0 z; omega, rfl⟩) (fun _ => ⟨v, by omega, rfl⟩)
  have hv : vp_in (nI L) 4 := vin hL (by decide)
  have m5 : mX3_tellLaw 15 (nI L) M = upm M' 16 L (nI v) ∧ PX3_tellLaw 15 (nI L) M := by
    unfold mX3_tellLaw mX3_tellLaw_19 PX3_tellLaw PX3_tellLaw_19
    rw [e1, e2, a1, nIc (by omega)]
    exact ⟨rfl, hv, hv, a8, hv⟩
  rw [m5.1]
  refine ⟨⟨(a4.m (M' := upm M' 16 L (nI v)) (upm_ne (by decide)) (upm_ne (by decide))).imp ?_, _, _, hR2⟩, a6.trans (fun p hp => upm_ne (by omega)), a7, m5.2, a9, a10⟩
  rintro p ⟨g1, g2⟩
  exact ⟨g1, n, by rw [g2]; exact hR2⟩
theorem JR.mark {t : Nat → Nat} {tp q : Nat} {M N : Mem} (h : JR t tp M N q) : JR t tp (mX3_takeMark M) (mX6_itemHere_103 N) q ∧ G15 M (mX3_takeMark M) ∧ F6c N (mX6_itemHere_103 N) ∧ PX3_takeMark M ∧ PX6_itemHere_103 N := by
  obtain ⟨h1, s, n, h2⟩ := h
  obtain ⟨a1, a2, a3, a4, a5, a6⟩ := J_mark h1
  refine ⟨⟨a1.imp ?_, s, n, a2.R h2⟩, a2.g, a3, a5, a6⟩
  rintro p ⟨p1, g1, g2, n', g3⟩
  exact ⟨by omega, n', by rw [a4]; exact a2.R g3⟩
theorem lk0_t (M : Mem) : mX3_tellOne_24 15 (b2i true) M = mX3_takeMark (mX3_tellWet 15 M) ∧ (PX3_tellWet 15 M ∧ PX3_takeMark (mX3_tellWet 15 M) → PX3_tellOne_24 15 (b2i true) M) := by
  unfold mX3_tellOne_24 PX3_tellOne_24 mX3_tellOne_32 PX3_tellOne_32 mX3_tellOne_133 PX3_tellOne_133
  rw [if_neg (show ¬ b2i true = 0 by decide)]
  exact ⟨rfl, fun p => ⟨fun z => absurd z (by decide), fun _ => p⟩⟩
theorem lk0_f {M M' : Mem} {b : Bool} (e : mX3_takesName 1 M = (b, M')) : mX3_tellOne_24 15 (b2i false) M = mX3_tellOne_41 15 (b2i b) M' ∧ (PX3_takesName 1 M → PX3_tellOne_41 15 (b2i b) M' → PX3_tellOne_24 15 (b2i false) M) := by
  unfold mX3_tellOne_24 PX3_tellOne_24
  rw [if_pos (show b2i false = 0 by decide), e]
  exact ⟨rfl, fun p1 p2 => ⟨fun _ => ⟨p1, p2⟩, fun z => absurd (by decide) z⟩⟩
theorem lk1_t {M M9 : Mem} {v : Int32} (e : mX3_number 0 3 M = (v, M9)) : mX3_tellOne_41 15 (b2i true) M = mX3_takeMark (upm M9 15 8 v) ∧ (PX3_number 0 3 M → PX3_takeMark (upm M9 15 8 v) → PX3_tellOne_41 15 (b2i true) M) := by
  unfold mX3_tellOne_41 PX3_tellOne_41 mX3_tellOne_51 PX3_tellOne_51 mX3_tellOne_133 PX3_tellOne_133
  rw [if_neg (show ¬ b2i true = 0 by decide), e]
  exact ⟨rfl, fun p1 p2 => ⟨fun z => absurd z (by decide), fun _ => ⟨p1, p2⟩⟩⟩
theorem lk1_f {M M' : Mem} {b : Bool} (e : mX3_takesName 2 M = (b, M')) : mX3_tellOne_41 15 (b2i false) M = mX3_tellOne_63 15 (b2i b) M' ∧ (PX3_takesName 2 M → PX3_tellOne_63 15 (b2i b) M' → PX3_tellOne_41 15 (b2i false) M) := by
  unfold mX3_tellOne_41 PX3_tellOne_41
  rw [if_pos (show b2i false = 0 by decide), e]
  exact ⟨rfl, fun p1 p2 => ⟨fun _ => ⟨p1, p2⟩, fun z => absurd (by decide) z⟩⟩
theorem lk2_t (M : Mem) : mX3_tellOne_63 15 (b2i true) M = mX3_takeMark (mX3_tellLaw 15 0 M) ∧ (PX3_tellLaw 15 0 M ∧ PX3_takeMark (mX3_tellLaw 15 0 M) → PX3_tellOne_63 15 (b2i true) M) := by
  unfold mX3_tellOne_63 PX3_tellOne_63 mX3_tellOne_72 PX3_tellOne_72 mX3_tellOne_133 PX3_tellOne_133
  rw [if_neg (show ¬ b2i true = 0 by decide)]
  exact ⟨rfl, fun p => ⟨fun z => absurd z (by decide), fun _ => p⟩⟩
theorem lk2_f {M M' : Mem} {b : Bool} (e : mX3_takesName 3 M = (b, M')) : mX3_tellOne_63 15 (b2i false) M = mX3_tellOne_81 15 (b2i b) M' ∧ (PX3_takesName 3 M → PX3_tellOne_81 15 (b2i b) M' → PX3_tellOne_63 15 (b2i false) M) := by
  unfold mX3_tellOne_63 PX3_tellOne_63
  rw [if_pos (show b2i false = 0 by decide), e]
  exact ⟨rfl, fun p1 p2 => ⟨fun _ => ⟨p1, p2⟩, fun z => absurd (by decide) z⟩⟩
theorem lk3_t (M : Mem) : mX3_tellOne_81 15 (b2i true) M = mX3_takeMark (mX3_tellLaw 15 1 M) ∧ (PX3_tellLaw 15 1 M ∧ PX3_takeMark (mX3_tellLaw 15 1 M) → PX3_tellOne_81 15 (b2i true) M) := by
  unfold mX3_tellOne_81 PX3_tellOne_81 mX3_tellOne_90 PX3_tellOne_90 mX3_tellOne_133 PX3_tellOne_133
  rw [if_neg (show ¬ b2i true = 0 by decide)]
  exact ⟨rfl, fun p => ⟨fun z => absurd z (by decide), fun _ => p⟩⟩
theorem lk3_f {M M' : Mem} {b : Bool} (e : mX3_takesName 4 M = (b, M')) : mX3_tellOne_81 15 (b2i false) M = mX3_tellOne_99 15 (b2i b) M' ∧ (PX3_takesName 4 M → PX3_tellOne_99 15 (b2i b) M' → PX3_tellOne_81 15 (b2i false) M) := by
  unfold mX3_tellOne_81 PX3_tellOne_81
  rw [if_pos (show b2i false = 0 by decide), e]
  exact ⟨rfl, fun p1 p2 => ⟨fun _ => ⟨p1, p2⟩, fun z => absurd (by decide) z⟩⟩
theorem lk4_t (M : Mem) : mX3_tellOne_99 15 (b2i true) M = mX3_takeMark (mX3_tellLaw 15 2 M) ∧ (PX3_tellLaw 15 2 M ∧ PX3_takeMark (mX3_tellLaw 15 2 M) → PX3_tellOne_99 15 (b2i true) M) := by
  unfold mX3_tellOne_99 PX3_tellOne_99 mX3_tellOne_108 PX3_tellOne_108 mX3_tellOne_133 PX3_tellOne_133
  rw [if_neg (show ¬ b2i true = 0 by decide)]
  exact ⟨rfl, fun p => ⟨fun z => absurd z (by decide), fun _ => p⟩⟩
theorem lk4_f {M M' : Mem} {b : Bool} (e : mX3_takesName 5 M = (b, M')) : mX3_tellOne_99 15 (b2i false) M = mX3_tellOne_117 15 (b2i b) M' ∧ (PX3_takesName 5 M → PX3_tellOne_117 15 (b2i b) M' → PX3_tellOne_99 15 (b2i false) M) := by
  unfold mX3_tellOne_99 PX3_tellOne_99
  rw [if_pos (show b2i false = 0 by decide), e]
  exact ⟨rfl, fun p1 p2 => ⟨fun _ => ⟨p1, p2⟩, fun z => absurd (by decide) z⟩⟩
theorem lk5_t (M : Mem) : mX3_tellOne_117 15 (b2i true) M = mX3_takeMark (mX3_tellLaw 15 3 M) ∧ (PX3_tellLaw 15 3 M ∧ PX3_takeMark (mX3_tellLaw 15 3 M) → PX3_tellOne_117 15 (b2i true) M) := by
  unfold mX3_tellOne_117 PX3_tellOne_117 mX3_tellOne_126 PX3_tellOne_126 mX3_tellOne_133 PX3_tellOne_133
  rw [if_neg (show ¬ b2i true = 0 by decide)]
  exact ⟨rfl, fun p => ⟨fun z => absurd z (by decide), fun _ => p⟩⟩
theorem lk5_f (M : Mem) : mX3_tellOne_117 15 (b2i false) M = mX3_takeMark (mX3_findFault M) ∧ (PX3_takeMark (mX3_findFault M) → PX3_tellOne_117 15 (b2i false) M) := by
  unfold mX3_tellOne_117 PX3_tellOne_117 mX3_tellOne_133 PX3_tellOne_133
  rw [if_pos (show b2i false = 0 by decide)]
  exact ⟨rfl, fun p => ⟨fun _ => p, fun z => absurd (by decide) z⟩⟩
theorem lk_0 {M M' : Mem} {b : Bool} (hk : mX3_kindHere M < 0) (e : mX3_takesName 0 M = (b, M')) : mX3_tellOne 15 M = mX3_tellOne_24 15 (b2i b) M' ∧ (PX3_kindHere M → PX3_takesName 0 M → PX3_tellOne_24 15 (b2i b) M' → PX3_tellOne 15 M) := by
  unfold mX3_tellOne PX3_tellOne
  rw [if_pos hk, e]
  exact ⟨rfl, fun p0 p1 p2 => ⟨p0, fun _ => ⟨p1, p2⟩, fun z => absurd hk z⟩⟩
theorem item_sim {t : Nat → Nat} {tp q n : Nat} {s : Nat → Int32} {M N : Mem} (hc : CS M t tp q (-1)) (hl : LEX N t tp q) (hw : N 46 11 = 0) (hR : R M 15 s n) (hs : N 47 = s) :
    JR t tp (mX3_tellOne 15 M) (mX6_itemHere N) q ∧ G15 M (mX3_tellOne 15 M) ∧ F6c N (mX6_itemHere N) ∧ PX3_tellOne 15 M ∧ PX6_itemHere N := by
  have hqb : rn isB t tp q = q := by
    rcases Nat.lt_or_ge q tp with z | z
    · exact rn_no (hl.2.2.1 z)
    · exact rn_stop z
  obtain ⟨k1, k2⟩ := kind5 hc
  obtain ⟨k3, k4⟩ := kind6 hl
  obtain ⟨o1, o2⟩ := own6 hl
  by_cases hk : kdT t tp q < 0
  case neg =>
    obtain ⟨a1, a2, a3, a4, a5⟩ := air_sim hc hl hw hR hs hk
    obtain ⟨b1, b2, b3, b4, b5⟩ := a1.mark
    have m5 : mX3_tellOne 15 M = mX3_takeMark (mX3_tellAir 15 (kdT t tp q) M) := by
      unfold mX3_tellOne mX3_tellOne_15 mX3_tellOne_133
      rw [k1, if_neg hk]
    have m6 : mX6_itemHere N = mX6_itemHere_103 (mX6_airHere (kdT t tp q) N) := by
      unfold mX6_itemHere mX6_itemHere_19
      rw [k3, if_neg hk]
    rw [m5, m6]
    refine ⟨b1, a2.trans b2, a3.trans b3, ?_, ?_⟩
    · unfold PX3_tellOne PX3_tellOne_15 PX3_tellOne_133
      rw [k1]
      exact ⟨k2, fun z => absurd z hk, fun _ => ⟨a4, b4⟩⟩
    · unfold PX6_itemHere PX6_itemHere_19
      rw [k3]
      exact ⟨k4, o2, fun z => absurd z hk, fun _ => ⟨a5, b5⟩⟩
  -- no kind
  have len : ∀ sx, sx < 16 → nmB t tp (strN.getD sx []) q = true → te t tp q = rn isA t tp q ∧ q < rn isA t tp q := by
    intro sx hsx h
    have h1 := (nmB_len h).1
    have h2 := (str_len sx hsx).2.2.1
    obtain ⟨_, _, _, h4⟩ := te_A (by omega) h1
    exact ⟨by omega, by omega⟩
  obtain ⟨w1, w2⟩ := n6_wet hl
  have P6 : (owT t tp q < 0 → (nmB t tp (strN.getD 0 []) q = true → PX6_wetHere N ∧ PX6_itemHere_103 (mX6_wetHere N)) ∧ (nmB t tp (strN.getD 0 []) q = false → PX6_needs 0 N ∧ PX6_itemHere_103 (mX6_needs 0 N))) → (¬ owT t tp q < 0 → PX6_nextToken N ∧ PX6_itemHere_30 (owT t tp q) (mX6_nextToken N)) → PX6_itemHere N := by
    intro h1 h2
    unfold PX6_itemHere PX6_itemHere_95
    rw [k3, o1, w1]
    refine ⟨k4, o2, fun _ => ⟨fun z => ⟨w2, fun y => (h1 z).1 y, fun y => (h1 z).2 (Bool.not_eq_true _ ▸ y)⟩, h2⟩, fun z => absurd hk z⟩
  obtain ⟨M0, a1, a2, a3, a4, a5⟩ := tn (sx := 0) (by decide) hc hqb
  cases h0 : nmB t tp (strN.getD 0 []) q with
  | true =>
    obtain ⟨l1, l2⟩ := len 0 (by decide) h0
    have ho : owT t tp q = -1 := wet_own h0
    obtain ⟨b1, b2, b3, b4, b5⟩ := wet_sim (a2 h0) hl l1 l2 hw (a4.R hR) hs
    obtain ⟨c1, c2, c3, c4, c5⟩ := b1.mark
    rw [h0] at a1
    obtain ⟨x1, x2⟩ := lk_0 (by rw [k1]; exact hk) a1
    obtain ⟨x3, x4⟩ := lk0_t M0
    have m5 : mX3_tellOne 15 M = mX3_takeMark (mX3_tellWet 15 M0) := x1.trans x3
    have m6 : mX6_itemHere N = mX6_itemHere_103 (mX6_wetHere N) := by
      unfold mX6_itemHere mX6_itemHere_95
      rw [k3, if_pos hk, o1, ho, if_pos (by decide), w1, h0, if_pos rfl]
    rw [m5, m6]
    refine ⟨c1, a4.g.trans (b2.trans c2), b3.trans c3, ?_, P6 (fun _ => ⟨fun _ => ⟨b5, c5⟩, fun z => absurd h0 (by rw [z]; decide)⟩) (fun z => absurd (by rw [ho]; decide) z)⟩
    exact x2 k2 a5 (x4 ⟨b4, c4⟩)
  | false =>
    rw [h0] at a1
    obtain ⟨E0, Q0⟩ := lk_0 (by rw [k1]; exact hk) a1
    replace Q0 := Q0 k2 a5
    obtain ⟨M1, a11, a12, a13, a14, a15⟩ := tn (sx := 1) (by decide) (a3 h0) hqb
    obtain ⟨E1, Q1⟩ := lk0_f a11
    replace E1 := E0.trans E1
    replace Q1 := fun p => Q0 (Q1 a15 p)
    cases h1 : nmB t tp (strN.getD 1 []) q with
    | true =>
      rw [h1] at E1 Q1
      obtain ⟨l1, l2⟩ := len 1 (by decide) h1
      have ho : owT t tp q = 3 := by
        unfold owT
        rw [h1, if_pos rfl]
      obtain ⟨v, M9, b1, b2, b3, b4, b5, b6, b7, b8, b9, b10⟩ := own_sim (lo := 0) (hi := 3) (a := 3) (a12 h1) hl l1 l2 hw ((a4.trans a14).R hR) hs (by decide) (by decide) (by decide)
      have b1' : mX3_number 0 3 M1 = (nI v, M9) := b1
      have hR2 : R (upm M9 15 8 (nI v)) 15 (upd s 3 (nI v)) n := b5.wind ⟨v, by omega, rfl⟩
      have J2 : JR t tp (upm M9 15 8 (nI v)) (mX6_numberTo 3 0 3 (mX6_nextToken N)) q := ⟨(b4.m (M' := upm M9 15 8 (nI v)) (upm_ne (by decide)) (upm_ne (by decide))).imp (fun p g => ⟨g.1, n, by rw [show mX6_numberTo 3 0 3 (mX6_nextToken N) 47 = _ from g.2]; exact hR2⟩), _, _, hR2⟩
      obtain ⟨c1, c2, c3, c4, c5⟩ := J2.mark
      obtain ⟨x3, x4⟩ := lk1_t b1'
      have m5 : mX3_tellOne 15 M = mX3_takeMark (upm M9 15 8 (nI v)) := E1.trans x3
      have m6 : mX6_itemHere N = mX6_itemHere_103 (mX6_numberTo 3 0 3 (mX6_nextToken N)) := by
        unfold mX6_itemHere
        rw [k3, if_pos hk, o1, ho, if_neg (by decide), it42.1]
      rw [m5, m6]
      exact ⟨c1, ((a4.trans a14)).g.trans (b6.trans (G15.trans (fun p hp => upm_ne (by omega)) c2)), b7.trans c3, Q1 (x4 b8 c4), P6 (fun z => absurd z (by rw [ho]; decide)) (fun _ => by rw [ho]; exact ⟨b9, it42P (Or.inl ⟨rfl, rfl, rfl⟩) b10 c5⟩)⟩
    | false =>
      rw [h1] at E1 Q1
      obtain ⟨M2, a21, a22, a23, a24, a25⟩ := tn (sx := 2) (by decide) (a13 h1) hqb
      obtain ⟨E2, Q2⟩ := lk1_f a21
      replace E2 := E1.trans E2
      replace Q2 := fun p => Q1 (Q2 a25 p)
      cases h2 : nmB t tp (strN.getD 2 []) q with
      | true =>
        rw [h2] at E2 Q2
        obtain ⟨l1, l2⟩ := len 2 (by decide) h2
        have ho : owT t tp q = 4 := by
          unfold owT
          rw [h1, if_neg (show ¬ false = true by decide), h2, if_pos rfl]
        obtain ⟨b1, b2, b3, b4, b9, b10⟩ := law_sim (L := 0) (lo := 1) (hi := 9) (by decide) (by decide) (by decide) (by decide) (by decide) (by decide) (a22 h2) hl l1 l2 hw (((a4.trans a14).trans a24).R hR) hs
        have b1' : JR t tp (mX3_tellLaw 15 0 M2) (mX6_numberTo 4 1 9 (mX6_nextToken N)) q := b1
        have b2' : G15 M2 (mX3_tellLaw 15 0 M2) := b2
        have b4' : PX3_tellLaw 15 0 M2 := b4
        obtain ⟨c1, c2, c3, c4, c5⟩ := b1'.mark
        obtain ⟨x3, x4⟩ := lk2_t M2
        have m5 : mX3_tellOne 15 M = mX3_takeMark (mX3_tellLaw 15 0 M2) := E2.trans x3
        have m6 : mX6_itemHere N = mX6_itemHere_103 (mX6_numberTo 4 1 9 (mX6_nextToken N)) := by
          unfold mX6_itemHere
          rw [k3, if_pos hk, o1, ho, if_neg (by decide), it42.2.1]
        rw [m5, m6]
        exact ⟨c1, (((a4.trans a14).trans a24)).g.trans (b2'.trans c2), b3.trans c3, Q2 (x4 ⟨b4', c4⟩), P6 (fun z => absurd z (by rw [ho]; decide)) (fun _ => by rw [ho]; exact ⟨b9, it42P (Or.inr (Or.inl ⟨rfl, rfl, rfl⟩)) b10 c5⟩)⟩
      | false =>
        rw [h2] at E2 Q2
        obtain ⟨M3, a31, a32, a33, a34, a35⟩ := tn (sx := 3) (by decide) (a23 h2) hqb
        obtain ⟨E3, Q3⟩ := lk2_f a31
        replace E3 := E2.trans E3
        replace Q3 := fun p => Q2 (Q3 a35 p)
        cases h3 : nmB t tp (strN.getD 3 []) q with
        | true =>
          rw [h3] at E3 Q3
          obtain ⟨l1, l2⟩ := len 3 (by decide) h3
          have ho : owT t tp q = 5 := by
            unfold owT
            rw [h1, if_neg (show ¬ false = true by decide), h2, if_neg (show ¬ false = true by decide), h3, if_pos rfl]
          obtain ⟨b1, b2, b3, b4, b9, b10⟩ := law_sim (L := 1) (lo := 0) (hi := 99) (by decide) (by decide) (by decide) (by decide) (by decide) (by decide) (a32 h3) hl l1 l2 hw ((((a4.trans a14).trans a24).trans a34).R hR) hs
          have b1' : JR t tp (mX3_tellLaw 15 1 M3) (mX6_numberTo 5 0 99 (mX6_nextToken N)) q := b1
          have b2' : G15 M3 (mX3_tellLaw 15 1 M3) := b2
          have b4' : PX3_tellLaw 15 1 M3 := b4
          obtain ⟨c1, c2, c3, c4, c5⟩ := b1'.mark
          obtain ⟨x3, x4⟩ := lk3_t M3
          have m5 : mX3_tellOne 15 M = mX3_takeMark (mX3_tellLaw 15 1 M3) := E3.trans x3
          have m6 : mX6_itemHere N = mX6_itemHere_103 (mX6_numberTo 5 0 99 (mX6_nextToken N)) := by
            unfold mX6_itemHere
            rw [k3, if_pos hk, o1, ho, if_neg (by decide), it42.2.2.1]
          rw [m5, m6]
          exact ⟨c1, ((((a4.trans a14).trans a24).trans a34)).g.trans (b2'.trans c2), b3.trans c3, Q3 (x4 ⟨b4', c4⟩), P6 (fun z => absurd z (by rw [ho]; decide)) (fun _ => by rw [ho]; exact ⟨b9, it42P (Or.inr (Or.inr (Or.inl ⟨rfl, rfl, rfl⟩))) b10 c5⟩)⟩
        | false =>
          rw [h3] at E3 Q3
          obtain ⟨M4, a41, a42, a43, a44, a45⟩ := tn (sx := 4) (by decide) (a33 h3) hqb
          obtain ⟨E4, Q4⟩ := lk3_f a41
          replace E4 := E3.trans E4
          replace Q4 := fun p => Q3 (Q4 a45 p)
          cases h4 : nmB t tp (strN.getD 4 []) q with
          | true =>
            rw [h4] at E4 Q4
            obtain ⟨l1, l2⟩ := len 4 (by decide) h4
            have ho : owT t tp q = 6 := by
              unfold owT
              rw [h1, if_neg (show ¬ false = true by decide), h2, if_neg (show ¬ false = true by decide), h3, if_neg (show ¬ false = true by decide), h4, if_pos rfl]
            obtain ⟨b1, b2, b3, b4, b9, b10⟩ := law_sim (L := 2) (lo := 0) (hi := 9) (by decide) (by decide) (by decide) (by decide) (by decide) (by decide) (a42 h4) hl l1 l2 hw (((((a4.trans a14).trans a24).trans a34).trans a44).R hR) hs
            have b1' : JR t tp (mX3_tellLaw 15 2 M4) (mX6_numberTo 6 0 9 (mX6_nextToken N)) q := b1
            have b2' : G15 M4 (mX3_tellLaw 15 2 M4) := b2
            have b4' : PX3_tellLaw 15 2 M4 := b4
            obtain ⟨c1, c2, c3, c4, c5⟩ := b1'.mark
            obtain ⟨x3, x4⟩ := lk4_t M4
            have m5 : mX3_tellOne 15 M = mX3_takeMark (mX3_tellLaw 15 2 M4) := E4.trans x3
            have m6 : mX6_itemHere N = mX6_itemHere_103 (mX6_numberTo 6 0 9 (mX6_nextToken N)) := by
              unfold mX6_itemHere
              rw [k3, if_pos hk, o1, ho, if_neg (by decide), it42.2.2.2.1]
            rw [m5, m6]
            exact ⟨c1, (((((a4.trans a14).trans a24).trans a34).trans a44)).g.trans (b2'.trans c2), b3.trans c3, Q4 (x4 ⟨b4', c4⟩), P6 (fun z => absurd z (by rw [ho]; decide)) (fun _ => by rw [ho]; exact ⟨b9, it42P (Or.inr (Or.inr (Or.inr (Or.inl ⟨rfl, rfl, rfl⟩)))) b10 c5⟩)⟩
          | false =>
            rw [h4] at E4 Q4
            obtain ⟨M5, a51, a52, a53, a54, a55⟩ := tn (sx := 5) (by decide) (a43 h4) hqb
            obtain ⟨E5, Q5⟩ := lk4_f a51
            replace E5 := E4.trans E5
            replace Q5 := fun p => Q4 (Q5 a55 p)
            cases h5 : nmB t tp (strN.getD 5 []) q with
            | true =>
              rw [h5] at E5 Q5
              obtain ⟨l1, l2⟩ := len 5 (by decide) h5
              have ho : owT t tp q = 7 := by
                unfold owT
                rw [h1, if_neg (show ¬ false = true by decide), h2, if_neg (show ¬ false = true by decide), h3, if_neg (show ¬ false = true by decide), h4, if_neg (show ¬ false = true by decide), h5, if_pos rfl]
              obtain ⟨b1, b2, b3, b4, b9, b10⟩ := law_sim (L := 3) (lo := 0) (hi := 99) (by decide) (by decide) (by decide) (by decide) (by decide) (by decide) (a52 h5) hl l1 l2 hw ((((((a4.trans a14).trans a24).trans a34).trans a44).trans a54).R hR) hs
              have b1' : JR t tp (mX3_tellLaw 15 3 M5) (mX6_numberTo 7 0 99 (mX6_nextToken N)) q := b1
              have b2' : G15 M5 (mX3_tellLaw 15 3 M5) := b2
              have b4' : PX3_tellLaw 15 3 M5 := b4
              obtain ⟨c1, c2, c3, c4, c5⟩ := b1'.mark
              obtain ⟨x3, x4⟩ := lk5_t M5
              have m5 : mX3_tellOne 15 M = mX3_takeMark (mX3_tellLaw 15 3 M5) := E5.trans x3
              have m6 : mX6_itemHere N = mX6_itemHere_103 (mX6_numberTo 7 0 99 (mX6_nextToken N)) := by
                unfold mX6_itemHere
                rw [k3, if_pos hk, o1, ho, if_neg (by decide), it42.2.2.2.2]
              rw [m5, m6]
              exact ⟨c1, ((((((a4.trans a14).trans a24).trans a34).trans a44).trans a54)).g.trans (b2'.trans c2), b3.trans c3, Q5 (x4 ⟨b4', c4⟩), P6 (fun z => absurd z (by rw [ho]; decide)) (fun _ => by rw [ho]; exact ⟨b9, it42P (Or.inr (Or.inr (Or.inr (Or.inr ⟨rfl, rfl, rfl⟩)))) b10 c5⟩)⟩
            | false =>
              rw [h5] at E5 Q5
              have ho : owT t tp q = -1 := by
                unfold owT
                rw [h1, if_neg (show ¬ false = true by decide), h2, if_neg (show ¬ false = true by decide), h3, if_neg (show ¬ false = true by decide), h4, if_neg (show ¬ false = true by decide), h5, if_neg (show ¬ false = true by decide)]
              obtain ⟨b1, b2⟩ := fault5 (a53 h5)
              rw [FF_m] at b1
              obtain ⟨d1, d2, d3, d4, d5⟩ := needs_f (k := 0) hl (fun _ => rfl)
              have J2 : JR t tp (mX3_findFault M5) (mX6_needs 0 N) q := ⟨Or.inr ⟨_, q, b1, d1, d2⟩, _, _, ((((((a4.trans a14).trans a24).trans a34).trans a44).trans a54).trans b2).R hR⟩
              obtain ⟨c1, c2, c3, c4, c5⟩ := J2.mark
              obtain ⟨x3, x4⟩ := lk5_f M5
              have m5 : mX3_tellOne 15 M = mX3_takeMark (mX3_findFault M5) := E5.trans x3
              have m6 : mX6_itemHere N = mX6_itemHere_103 (mX6_needs 0 N) := by
                unfold mX6_itemHere
                rw [k3, if_pos hk, o1, ho, if_pos (by decide), w1, h0, if_neg (by decide)]
              rw [m5, m6]
              exact ⟨c1, ((((((a4.trans a14).trans a24).trans a34).trans a44).trans a54).trans b2).g.trans c2, d4.trans c3, Q5 (x4 c4), P6 (fun _ => ⟨fun z => absurd z (by rw [h0]; decide), fun _ => ⟨d5, c5⟩⟩) (fun z => absurd (by rw [ho]; decide) z)⟩
