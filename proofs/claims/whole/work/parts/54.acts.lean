theorem rmP {kd : Nat} (hk : kd < 6) (nm fc x : Int32) (T : TT) : RM kd nm fc (mX6_parts x) (PX6_parts x) T (sP kd nm fc x T).1 (sP kd nm fc x T).2.1 (sP kd nm fc x T).2.2 := by
  have n2 : ∀ N : Mem, C6 kd nm fc N false T → N 46 26 = nI kd := fun N h => h.2.1
  have plain : (kd = 0 ∨ kd = 1 ∨ kd = 2 ∨ kd = 4) → RM kd nm fc (mX6_parts x) (PX6_parts x) T (sPP nm fc x T).1 (sPP nm fc x T).2.1 (sPP nm fc x T).2.2 := by
    intro hkd
    have q3 : ¬ nI kd = 3 := by rcases hkd with rfl | rfl | rfl | rfl <;> decide
    have q5 : ¬ nI kd = 5 := by rcases hkd with rfl | rfl | rfl | rfl <;> decide
    refine rm_of (k := mX6_partsPlain x) (Q := PX6_partsPlain x) (fun N hC => ?_) (fun N hC q => ?_) (rmPP nm fc x T)
    · unfold mX6_parts
      rw [n2 N hC, if_neg q3, if_neg q5]
    · unfold PX6_parts
      rw [n2 N hC]
      exact ⟨fun z => absurd z q3, fun _ => ⟨fun z => absurd z q5, fun _ => q⟩⟩
  rcases k6 hk with rfl | rfl | rfl | rfl | rfl | rfl
  · exact plain (by decide)
  · exact plain (by decide)
  · exact plain (by decide)
  · refine rm_of (k := fun N => mX6_parts_14 x (mX6_runs 50 N)) (Q := fun N => PX6_runs 50 N ∧ PX6_parts_14 x (mX6_runs 50 N)) (fun N hC => ?_) (fun N hC q => ?_) ?_
    · unfold mX6_parts
      rw [n2 N hC, if_pos (by decide)]
    · unfold PX6_parts
      rw [n2 N hC]
      exact ⟨fun _ => q, fun z => absurd (by decide) z⟩
    · refine rm_runs (k := mX6_parts_14 x) (Q := PX6_parts_14 x) (fun N => rfl) (fun N a b => ⟨a, b⟩) ?_
      refine rm_of (k := fun N => mX6_parts_24 (mX6_partsPlain (x - fc) N).1 (mX6_partsPlain (x - fc) N).2) (Q := PX6_partsPlain (x - fc)) (fun N hC => ?_) (fun N hC q => ?_) ?_
      · unfold mX6_parts_14
        rw [hC.2.2.2.1]
      · unfold PX6_parts_14
        rw [hC.2.2.2.1]
        exact ⟨q, trivial⟩
      · refine rm_then (rmPP nm fc (x - fc) (nt 50 T)) (fun N N' e c => ?_) (fun N N' e c q => q)
        show mX6_parts_24 (mX6_partsPlain (x - fc) N).1 (mX6_partsPlain (x - fc) N).2 = _
        rw [e]
        rfl
  · exact plain (by decide)
  · refine rm_of (k := fun N => mX6_parts_41 x (mX6_runs 61 N)) (Q := fun N => PX6_runs 61 N ∧ PX6_parts_41 x (mX6_runs 61 N)) (fun N hC => ?_) (fun N hC q => ?_) ?_
    · unfold mX6_parts
      rw [n2 N hC, if_neg (by decide), if_pos (by decide)]
    · unfold PX6_parts
      rw [n2 N hC]
      exact ⟨fun z => absurd z (by decide), fun _ => ⟨fun _ => q, fun z => absurd (by decide) z⟩⟩
    · refine rm_runs (k := mX6_parts_41 x) (Q := PX6_parts_41 x) (fun N => rfl) (fun N a b => ⟨a, b⟩) ?_
      have h := rmPP (kd := 5) nm fc x (nt 61 T)
      unfold sPP at h
      dsimp only at h
      have e : sP 5 nm fc x T = if nm = fc then (0, true, nt 12 (nt 61 T)) else (x / (fc - nm) + (sD 5 nm nm (nt 12 (nt 61 T))).1, false, (sD 5 nm nm (nt 12 (nt 61 T))).2) := rfl
      rw [e]
      by_cases q : nm = fc
      · rw [if_pos q, decide_eq_true q] at h
        rw [if_pos q]
        refine rm_then h (fun N N' e c => ?_) (fun N N' e c q => ?_)
        · have z : ¬ N' 46 29 = 0 := by rw [show N' 46 29 = b2i true from c.1]; decide
          unfold mX6_parts_41 mX6_parts_46
          rw [e]
          dsimp only
          rw [if_neg z]
        · have z : ¬ N' 46 29 = 0 := by rw [show N' 46 29 = b2i true from c.1]; decide
          unfold PX6_parts_41 PX6_parts_46
          rw [e]
          exact ⟨q, fun y => absurd y z⟩
      · rw [if_neg q, decide_eq_false q] at h
        rw [if_neg q]
        refine rm_two h (rmDd hk nm fc nm _) (fun N N' N2 e c e2 => ?_) (fun N N' N2 e c e2 q q2 => ?_)
        · have z : N' 46 29 = 0 := c.1
          unfold mX6_parts_41 mX6_parts_46 mX6_parts_67
          rw [e]
          dsimp only
          rw [if_pos z, c.2.2.1, e2]
        · unfold PX6_parts_41 PX6_parts_46
          rw [e]
          dsimp only
          rw [c.2.2.1]
          exact ⟨q, fun _ => ⟨q2, trivial⟩⟩
theorem rmHP {kd : Nat} (hk : kd < 6) (nm fc x : Int32) (T : TT) : RM kd nm fc (mX6_haltsPlain x) (PX6_haltsPlain x) T (sHP kd nm fc x T).1 false (sHP kd nm fc x T).2 := by
  refine rm_runs (k := mX6_haltsPlain_6 x) (Q := PX6_haltsPlain_6 x) (fun N => rfl) (fun N a b => ⟨a, b⟩) ?_
  refine rm_then (rmR hk nm fc x (nt 13 T)) (fun N N' e c => ?_) (fun N N' e _ q => ⟨q, trivial⟩)
  unfold mX6_haltsPlain_6
  rw [e]
  rfl
theorem rmH16 {kd : Nat} (hk : kd < 6) (nm fc x : Int32) (T : TT) : RM kd nm fc (mX6_halts_16 x) (PX6_halts_16 x) T ((sHP kd nm fc x (nt 31 T)).1 - (sP kd nm fc nm (sHP kd nm fc x (nt 31 T)).2).1) (sP kd nm fc nm (sHP kd nm fc x (nt 31 T)).2).2.1 (sP kd nm fc nm (sHP kd nm fc x (nt 31 T)).2).2.2 := by
  refine rm_runs (k := mX6_halts_22 x) (Q := PX6_halts_22 x) (fun N => rfl) (fun N a b => ⟨a, b⟩) ?_
  refine rm_two (rmHP hk nm fc x (nt 31 T)) (rmP hk nm fc nm _) (fun N N' N2 e c e2 => ?_) (fun N N' N2 e c e2 q q2 => ?_)
  · unfold mX6_halts_22 mX6_halts_27 mX6_halts_37
    rw [e]
    dsimp only
    rw [c.2.2.1, e2]
  · unfold PX6_halts_22 PX6_halts_27
    rw [e]
    dsimp only
    rw [c.2.2.1]
    exact ⟨q, q2, trivial⟩
theorem rmH {kd : Nat} (hk : kd < 6) (nm fc x : Int32) (T : TT) : RM kd nm fc (mX6_halts x) (PX6_halts x) T (sH kd nm fc x T).1 (sH kd nm fc x T).2.1 (sH kd nm fc x T).2.2 := by
  have n2 : ∀ N : Mem, C6 kd nm fc N false T → N 46 26 = nI kd := fun N h => h.2.1
  have plain : (kd = 0 ∨ kd = 1 ∨ kd = 3) → RM kd nm fc (mX6_halts x) (PX6_halts x) T (sHP kd nm fc x T).1 false (sHP kd nm fc x T).2 := by
    intro hkd
    have q2 : ¬ nI kd = 2 := by rcases hkd with rfl | rfl | rfl <;> decide
    have q4 : ¬ nI kd = 4 := by rcases hkd with rfl | rfl | rfl <;> decide
    have q5 : ¬ nI kd = 5 := by rcases hkd with rfl | rfl | rfl <;> decide
    refine rm_of (k := mX6_haltsPlain x) (Q := PX6_haltsPlain x) (fun N hC => ?_) (fun N hC q => ?_) (rmHP hk nm fc x T)
    · unfold mX6_halts
      rw [n2 N hC, if_neg q2, if_neg q4, if_neg q5]
    · unfold PX6_halts
      rw [n2 N hC]
      exact ⟨fun z => absurd z q2, fun _ => ⟨fun z => absurd z q4, fun _ => ⟨fun z => absurd z q5, fun _ => q⟩⟩⟩
  rcases k6 hk with rfl | rfl | rfl | rfl | rfl | rfl
  · exact plain (by decide)
  · exact plain (by decide)
  · refine rm_of (k := mX6_halts_16 x) (Q := PX6_halts_16 x) (fun N hC => ?_) (fun N hC q => ?_) (rmH16 hk nm fc x T)
    · unfold mX6_halts
      rw [n2 N hC, if_pos (by decide)]
    · unfold PX6_halts
      rw [n2 N hC]
      exact ⟨fun _ => q, fun z => absurd (by decide) z⟩
  · exact plain (by decide)
  · refine rm_of (k := mX6_halts_16 x) (Q := PX6_halts_16 x) (fun N hC => ?_) (fun N hC q => ?_) (rmH16 hk nm fc x T)
    · unfold mX6_halts
      rw [n2 N hC, if_neg (by decide), if_pos (by decide)]
    · unfold PX6_halts
      rw [n2 N hC]
      exact ⟨fun z => absurd z (by decide), fun _ => ⟨fun _ => q, fun z => absurd (by decide) z⟩⟩
  · refine rm_of (k := fun N => mX6_halts_53 x (mX6_runs 60 N)) (Q := fun N => PX6_runs 60 N ∧ PX6_halts_53 x (mX6_runs 60 N)) (fun N hC => ?_) (fun N hC q => ?_) ?_
    · unfold mX6_halts
      rw [n2 N hC, if_neg (by decide), if_neg (by decide), if_pos (by decide)]
    · unfold PX6_halts
      rw [n2 N hC]
      exact ⟨fun z => absurd z (by decide), fun _ => ⟨fun z => absurd z (by decide), fun _ => ⟨fun _ => q, fun z => absurd (by decide) z⟩⟩⟩
    · refine rm_runs (k := mX6_halts_53 x) (Q := PX6_halts_53 x) (fun N => rfl) (fun N a b => ⟨a, b⟩) ?_
      refine rm_then (rmHP hk nm fc x (nt 60 T)) (fun N N' e c => ?_) (fun N N' e _ q => ⟨q, trivial⟩)
      unfold mX6_halts_53
      rw [e]
      rfl
/-- any act -/
def sA (kd a : Nat) (nm fc x : Int32) (T : TT) : Int32 × Bool × TT := if a = 0 then ((sD kd nm x T).1, false, (sD kd nm x T).2) else if a = 1 then ((sR kd nm fc x T).1, false, (sR kd nm fc x T).2) else if a = 2 then sP kd nm fc x T else sH kd nm fc x T
theorem a4 {a : Nat} (h : a < 4) : a = 0 ∨ a = 1 ∨ a = 2 ∨ a = 3 := by omega
theorem rnA {kd a : Nat} (hk : kd < 6) (ha : a < 4) (nm fc x : Int32) (T : TT) : RN kd nm fc 7 (bd kd a) x T (sA kd a nm fc x T).1 (sA kd a nm fc x T).2.1 (sA kd a nm fc x T).2.2 := by
  rcases a4 ha with rfl | rfl | rfl | rfl
  · exact (rnD hk nm fc x T).mono (by decide)
  · exact (rnR hk nm fc x T).mono (by decide)
  · exact (rnP hk nm fc x T).mono (by decide)
  · exact rnH hk nm fc x T
def gA (a : Nat) (x : Int32) (N : Mem) : Int32 × Mem := if a = 0 then mX6_drifts x N else if a = 1 then mX6_drips x N else if a = 2 then mX6_parts x N else mX6_halts x N
def pA (a : Nat) (x : Int32) (N : Mem) : Prop := if a = 0 then PX6_drifts x N else if a = 1 then PX6_drips x N else if a = 2 then PX6_parts x N else PX6_halts x N
theorem rmA {kd a : Nat} (hk : kd < 6) (ha : a < 4) (nm fc x : Int32) (T : TT) : RM kd nm fc (gA a x) (pA a x) T (sA kd a nm fc x T).1 (sA kd a nm fc x T).2.1 (sA kd a nm fc x T).2.2 := by
  rcases a4 ha with rfl | rfl | rfl | rfl
  · exact rmDd hk nm fc x T
  · exact rmR hk nm fc x T
  · exact rmP hk nm fc x T
  · exact rmH hk nm fc x T
def aM1 (M : Mem) : Mem := upm (upm M 46 25 0) 46 29 0
def aM2 (v : Nat) (M : Mem) : Mem := upm (aM1 M) 46 26 (mX6_its (aM1 M 61 v) 0 (aM1 M))
def aM3 (v : Nat) (M : Mem) : Mem := upm (aM2 v M) 46 27 (aM2 v M 61 v)
def aM4 (v : Nat) (M : Mem) : Mem := upm (aM3 v M) 46 28 (mX6_its (aM3 v M 61 v) 1 (aM3 v M))
theorem act6_eq (a1 a2 a3 : Int32) (M : Mem) : mX6_act a1 a2 a3 M = (if (mX6_isShelf a1) = true then (if (mX6_isIn ((a2 : Int32).toInt64) 0 3) = true then (if (mX6_heldOn a1 (upm M 46 25 0)) = 1 then (if a2 = 0 then (mX6_act_89 (mX6_drifts a3 (aM4 a1.toNatClampNeg M)).1 (mX6_drifts a3 (aM4 a1.toNatClampNeg M)).2) else (if a2 = 1 then (mX6_act_102 (mX6_drips a3 (aM4 a1.toNatClampNeg M)).1 (mX6_drips a3 (aM4 a1.toNatClampNeg M)).2) else (if a2 = 2 then (mX6_act_115 (mX6_parts a3 (aM4 a1.toNatClampNeg M)).1 (mX6_parts a3 (aM4 a1.toNatClampNeg M)).2) else (mX6_act_123 (mX6_halts a3 (aM4 a1.toNatClampNeg M)).1 (mX6_halts a3 (aM4 a1.toNatClampNeg M)).2)))) else (0, (upm M 46 25 0))) else (0, (upm M 46 25 0))) else (0, (upm M 46 25 0))) := rfl
theorem act6_P (a1 a2 a3 : Int32) (M : Mem) (h : ((mX6_isShelf a1) = true → ((mX6_isIn ((a2 : Int32).toInt64) 0 3) = true → PX6_heldOn a1 (upm M 46 25 0) ∧ (((mX6_heldOn a1 (upm M 46 25 0)) = 1 → vp_in a1 4 ∧ (PX6_its ((aM1 M) 61 a1.toNatClampNeg) 0 (aM1 M) ∧ (vp_in a1 4 ∧ (vp_in a1 4 ∧ (PX6_its ((aM3 a1.toNatClampNeg M) 61 a1.toNatClampNeg) 1 (aM3 a1.toNatClampNeg M) ∧ (((a2 = 0 → PX6_drifts a3 (aM4 a1.toNatClampNeg M) ∧ (PX6_act_89 ((mX6_drifts a3 (aM4 a1.toNatClampNeg M)).1) ((mX6_drifts a3 (aM4 a1.toNatClampNeg M)).2))) ∧ (¬ a2 = 0 → ((a2 = 1 → PX6_drips a3 (aM4 a1.toNatClampNeg M) ∧ (PX6_act_102 ((mX6_drips a3 (aM4 a1.toNatClampNeg M)).1) ((mX6_drips a3 (aM4 a1.toNatClampNeg M)).2))) ∧ (¬ a2 = 1 → ((a2 = 2 → PX6_parts a3 (aM4 a1.toNatClampNeg M) ∧ (PX6_act_115 ((mX6_parts a3 (aM4 a1.toNatClampNeg M)).1) ((mX6_parts a3 (aM4 a1.toNatClampNeg M)).2))) ∧ (¬ a2 = 2 → PX6_halts a3 (aM4 a1.toNatClampNeg M) ∧ (PX6_act_123 ((mX6_halts a3 (aM4 a1.toNatClampNeg M)).1) ((mX6_halts a3 (aM4 a1.toNatClampNeg M)).2)))))))))))))))))) : PX6_act a1 a2 a3 M := h
theorem act6_val {a : Nat} (ha : a < 4) (t x : Int32) (M : Mem) (h1 : mX6_isShelf t = true) (h2 : mX6_isIn (nI a).toInt64 0 3 = true) (h3 : mX6_heldOn t (upm M 46 25 0) = 1) : mX6_act t (nI a) x M = mX6_act_123 (gA a x (aM4 t.toNatClampNeg M)).1 (gA a x (aM4 t.toNatClampNeg M)).2 := by
  rw [act6_eq, if_pos h1, if_pos h2, if_pos h3]
  rcases a4 ha with rfl | rfl | rfl | rfl
  · rw [if_pos (by decide)]
    rfl
  · rw [if_neg (by decide), if_pos (by decide)]
    rfl
  · rw [if_neg (by decide), if_neg (by decide), if_pos (by decide)]
    rfl
  · rw [if_neg (by decide), if_neg (by decide), if_neg (by decide)]
    rfl
theorem act6_pre {a : Nat} (ha : a < 4) (t x : Int32) (M : Mem) (hv : vp_in t 4) (h3 : PX6_heldOn t (upm M 46 25 0)) (p0 : PX6_its (aM1 M 61 t.toNatClampNeg) 0 (aM1 M)) (p1 : PX6_its (aM3 t.toNatClampNeg M 61 t.toNatClampNeg) 1 (aM3 t.toNatClampNeg M)) (hp : pA a x (aM4 t.toNatClampNeg M)) : PX6_act t (nI a) x M := by
  refine act6_P _ _ _ _ (fun _ _ => ⟨h3, fun _ => ⟨hv, p0, hv, hv, p1, ?_⟩⟩)
  rcases a4 ha with rfl | rfl | rfl | rfl
  · exact ⟨fun _ => ⟨hp, trivial⟩, fun q => absurd (by decide) q⟩
  · exact ⟨fun q => absurd q (by decide), fun _ => ⟨fun _ => ⟨hp, trivial⟩, fun q => absurd (by decide) q⟩⟩
  · exact ⟨fun q => absurd q (by decide), fun _ => ⟨fun q => absurd q (by decide), fun _ => ⟨fun _ => ⟨hp, trivial⟩, fun q => absurd (by decide) q⟩⟩⟩
  · exact ⟨fun q => absurd q (by decide), fun _ => ⟨fun q => absurd q (by decide), fun _ => ⟨fun q => absurd q (by decide), fun _ => ⟨hp, trivial⟩⟩⟩⟩
theorem Inv.acts {M M' : Mem} (h : Inv M) (g : ∀ p, p ≠ 26 → p ≠ 27 → p ≠ 46 → p ≠ 63 → M' p = M p) (g46 : ∀ z, z < 25 → M' 46 z = M 46 z) (hA : InvA M') : Inv M' := by
  obtain ⟨⟨n, hR⟩, hK, hT, hW, hS, hV, -⟩ := h
  have g0 := g 0 (by decide) (by decide) (by decide) (by decide)
  exact ⟨InvR.of hR (fun p h1 h2 => g p (by omega) (by omega) (by omega) (by omega)) (fun k _ => by rw [g 47 (by decide) (by decide) (by decide) (by decide)]), hK.of (by rw [g0]) (g46 4 (by decide)) (fun p h1 h2 => g p (by omega) (by omega) (by omega) (by omega)) (g 48 (by decide) (by decide) (by decide) (by decide)), hT.of (by rw [g 22 (by decide) (by decide) (by decide) (by decide)]) (g46 6 (by decide)) (g 23 (by decide) (by decide) (by decide) (by decide)) (g 51 (by decide) (by decide) (by decide) (by decide)), hW.of (by rw [g0]) (g46 17 (by decide)) (g 28 (by decide) (by decide) (by decide) (by decide)) (g 56 (by decide) (by decide) (by decide) (by decide)), hS.of (fun p h1 h2 => g p (by omega) (by omega) (by omega) (by omega)) (g 57 (by decide) (by decide) (by decide) (by decide)) (g 58 (by decide) (by decide) (by decide) (by decide)) (g 59 (by decide) (by decide) (by decide) (by decide)), hV.of (fun p h1 h2 => g p (by omega) (by omega) (by omega) (by omega)) (g 60 (by decide) (by decide) (by decide) (by decide)) (g 61 (by decide) (by decide) (by decide) (by decide)) (g 62 (by decide) (by decide) (by decide) (by decide)), hA⟩
theorem Inv.act0 {M : Mem} (h : Inv M) : Inv (upm (upm M 26 1 0) 46 25 0) :=
  h.acts (fun p a b c d => by rw [upm_ne c, upm_ne a]) (fun z hz => by rw [upm_at, upd_ne (by omega), upm_ne (by decide)]) ⟨0, by decide, by rw [upm_ne (by decide), upm_at, upd_at]; rfl, by rw [upm_at, upd_at]; rfl, fun i hi => absurd hi (by omega)⟩
theorem ok_act {M : Mem} (a b x : Int32) (h : Inv M) : OKm (PX5_act a b x) (mX5_act a b x) (PX6_act a b x) (mX6_act a b x) M := by
  have es := isShelf_iff a
  have ei : mX6_isIn b.toInt64 0 3 = mX5_isWithin b 0 3 := isIn_eq b 0 3
  obtain ⟨n, hR⟩ := h.1
  have hn := hR.1
  have fail : (PX5_act a b x M) → mX5_act a b x M = (0, upm M 26 1 0) → PX6_act a b x (upm M 26 1 0) → mX6_act a b x (upm M 26 1 0) = (0, upm (upm M 26 1 0) 46 25 0) → OKm (PX5_act a b x) (mX5_act a b x) (PX6_act a b x) (mX6_act a b x) M := by
    intro p5 u5 p6 u6
    unfold OKm
    rw [u5]
    dsimp only
    rw [u6]
    exact ⟨p5, p6, rfl, h.act0⟩
  by_cases hh : 0 ≤ a ∧ a ≤ 3
  case neg =>
    have hh6 : ¬ mX6_isShelf a = true := fun q => hh (es.mp q)
    refine fail (fun q => absurd q hh) ?_ (act6_P _ _ _ _ (fun q => absurd q hh6)) ?_
    · unfold mX5_act
      rw [if_neg hh]
    · rw [act6_eq, if_neg hh6]
  have hh6 := es.mpr hh
  obtain ⟨t, ht, rfl⟩ := sheet_n hh
  have hv : vp_in (nI t) 4 := vin ht (by decide)
  have ct : (nI t).toNatClampNeg = t := nIc (by omega)
  obtain ⟨ph, h3⟩ := hold3 (M5 := upm M 26 1 0) (N6 := upm (upm M 26 1 0) 46 25 0) h hR ht (upm_ne (by omega)) (upm_ne (by decide)) (by rw [upm_ne (by decide), upm_ne (by decide)]) (by rw [upm_ne (by decide), upm_ne (by decide)]) (by rw [upm_ne (by decide), upm_ne (by decide)])
  have nohold : ¬ mX5_holdsAir (42 + t) (upm M 26 1 0) = true → ¬ mX6_heldOn (nI t) (upm (upm M 26 1 0) 46 25 0) = 1 → OKm (PX5_act (nI t) b x) (mX5_act (nI t) b x) (PX6_act (nI t) b x) (mX6_act (nI t) b x) M := by
    intro q5 q6
    refine fail ?_ ?_ (act6_P _ _ _ _ (fun _ _ => ⟨ph, fun q => absurd q q6⟩)) ?_
    · unfold PX5_act
      rw [vpl_n ht]
      exact fun _ q => absurd q q5
    · unfold mX5_act
      rw [if_pos hh, vpl_n ht, if_neg q5]
    · rw [act6_eq, if_pos hh6, if_neg q6]
      by_cases z : mX6_isIn b.toInt64 0 3 = true
      · rw [if_pos z]
      · rw [if_neg z]
  rcases h3 with ⟨a1, a2, a3, o, ho, a4', a5⟩ | ⟨a1, a2, a3⟩ | ⟨a1, a2, a3⟩
  case inr.inl => exact nohold a1 (by rw [a2]; decide)
  case inr.inr => exact nohold a1 (by rw [a2]; decide)
  by_cases hb : mX5_isWithin b 0 3 = true
  case neg =>
    have hb6 : ¬ mX6_isIn b.toInt64 0 3 = true := by rw [ei]; exact hb
    refine fail ?_ ?_ (act6_P _ _ _ _ (fun _ q => absurd q hb6)) ?_
    · unfold PX5_act
      exact fun _ _ q => absurd q hb
    · unfold mX5_act
      rw [if_pos hh, vpl_n ht, if_pos a1, if_neg hb]
    · rw [act6_eq, if_pos hh6, if_neg hb6]
  have hb6 : mX6_isIn b.toInt64 0 3 = true := by rw [ei]; exact hb
  obtain ⟨c, hc, rfl⟩ := within_n (m := 3) (by decide) hb
  have hc4 : c < 4 := by omega
  have h8 : o < 8 := by omega
  have co : (nI o).toNatClampNeg = o := nIc (by omega)
  have vo : vp_in (nI o) 8 := vin h8 (by decide)
  obtain ⟨r1, r2, -, -, ⟨kd, hk, r5⟩, -⟩ := hR.ra ho
  have m1 : M 4 o = nI kd := r1.trans r5
  -- the class
  obtain ⟨Mp, ep⟩ : ∃ y, y = upm (mX0_takeThing (M 4 o) (nI o) (M 5 o) (upm M 26 1 0)) 26 2 0 := ⟨_, rfl⟩
  have fp : ∀ p, p ≠ 26 → Mp p = M p := fun p hp => by
    rw [ep]
    unfold mX0_takeThing
    rw [upm_ne hp, upm_ne hp, upm_ne hp, upm_ne hp, upm_ne hp]
  have cp : C5 kd (nI o) (M 5 o) Mp false (0, fun _ => 0) := by
    rw [ep]
    unfold mX0_takeThing C5
    refine ⟨?_, ?_, ?_, ?_, ?_⟩
    · rw [upm_at, upd_at]; rfl
    · rw [upm_at, upd_ne (by decide), upm_at, upd_ne (by decide), upm_at, upd_ne (by decide), upm_at, upd_at, m1]
    · rw [upm_at, upd_ne (by decide), upm_at, upd_ne (by decide), upm_at, upd_at]
    · rw [upm_at, upd_ne (by decide), upm_at, upd_at]
    · refine ⟨by decide, ?_, fun i hi => absurd hi (by show ¬ i < 0; omega)⟩
      rw [upm_at, upd_ne (by decide), upm_at, upd_ne (by decide), upm_at, upd_ne (by decide), upm_at, upd_ne (by decide), upm_at, upd_at]
      rfl
  obtain ⟨eb, pb⟩ := bodyOf5 (a := c) hk hc4 cp
  obtain ⟨M', e1, p1, c1, f1⟩ := rnA hk hc4 (nI o) (M 5 o) x (0, fun _ => 0) 60 0 Mp (by decide) (by decide) cp
  have e1' : mX0_run 60 (bd kd c) x 0 Mp = _ := e1
  have p1' : PX0_run 60 (bd kd c) x 0 Mp := p1
  have g1 : ∀ p, p ≠ 26 → p ≠ 27 → M' p = M p := fun p a b => (f1 p a b).trans (fp p a)
  obtain ⟨V, eV⟩ : ∃ y, y = sA kd c (nI o) (M 5 o) x (0, fun _ => 0) := ⟨_, rfl⟩
  rw [← eV] at e1' c1
  have ea1 : upm M 26 1 0 (42 + t) 1 = nI o := by rw [upm_ne (by omega)]; exact a4'
  have ea4 : upm M 26 1 0 4 o = M 4 o := by rw [upm_ne (by decide)]
  have ea5 : upm M 26 1 0 5 o = M 5 o := by rw [upm_ne (by decide)]
  have perf : mX0_perform (nI c) x (mX0_takeThing (M 4 o) (nI o) (M 5 o) (upm M 26 1 0)) = (V.1, M') := by
    unfold mX0_perform
    rw [← ep, eb, e1']
  have u5 : mX5_act (nI t) (nI c) x M = (if V.2.1 = true then -15 else V.1, M') := by
    unfold mX5_act mX5_act_78 mX5_act_87
    rw [if_pos hh, vpl_n ht, if_pos a1, if_pos hb, ea1, co, ea4, ea5, perf]
    dsimp only
    cases hp : V.2.1 with
    | true =>
      rw [hp] at c1
      rw [if_neg (show ¬ M' 26 2 = 0 by rw [c1.1]; decide), if_pos rfl]
    | false =>
      rw [hp] at c1
      rw [if_pos (show M' 26 2 = 0 by rw [c1.1]; decide), if_neg (by decide)]
  have p5 : PX5_act (nI t) (nI c) x M := by
    unfold PX5_act PX5_act_78 PX5_act_87 PX0_perform
    rw [vpl_n ht, ea1, co, ea4, ea5, ← ep, eb]
    exact fun _ _ _ => ⟨vo, vo, ⟨pb, p1'⟩, trivial⟩
  -- the reference
  obtain ⟨Nb, en⟩ : ∃ y, y = aM4 t M' := ⟨_, rfl⟩
  have n61 : ∀ N : Mem, N 61 = M' 61 → N 61 t = nI o := fun N e => by rw [e, g1 61 (by decide) (by decide)]; exact a5
  have x1 : aM1 M' 61 = M' 61 := by unfold aM1; rw [upm_ne (by decide), upm_ne (by decide)]
  have x2 : aM2 t M' 61 = M' 61 := by unfold aM2; rw [upm_ne (by decide), x1]
  have x3 : aM3 t M' 61 = M' 61 := by unfold aM3; rw [upm_ne (by decide), x2]
  have y1 : aM1 M' 47 = M 47 := by unfold aM1; rw [upm_ne (by decide), upm_ne (by decide), g1 47 (by decide) (by decide)]
  have y3 : aM3 t M' 47 = M 47 := by unfold aM3 aM2; rw [upm_ne (by decide), upm_ne (by decide), y1]
  have fn : ∀ p, p ≠ 46 → Nb p = M' p := fun p hp => by
    rw [en]
    unfold aM4 aM3 aM2 aM1
    rw [upm_ne hp, upm_ne hp, upm_ne hp, upm_ne hp, upm_ne hp]
  have fn46 : ∀ z, z < 25 → Nb 46 z = M' 46 z := fun z hz => by
    rw [en]
    unfold aM4 aM3 aM2 aM1
    rw [upm_at, upd_ne (by omega), upm_at, upd_ne (by omega), upm_at, upd_ne (by omega), upm_at, upd_ne (by omega), upm_at, upd_ne (by omega)]
  have cn : C6 kd (nI o) (M 5 o) Nb false (0, fun _ => 0) := by
    rw [en]
    unfold aM4 C6
    rw [n61 _ x3, its1 h8, y3]
    unfold aM3
    rw [n61 _ x2]
    unfold aM2
    rw [n61 _ x1, its0 h8, y1]
    unfold aM1
    refine ⟨?_, ?_, ?_, ?_, ?_⟩
    · rw [upm_at, upd_ne (by decide), upm_at, upd_ne (by decide), upm_at, upd_ne (by decide), upm_at, upd_at]; rfl
    · rw [upm_at, upd_ne (by decide), upm_at, upd_ne (by decide), upm_at, upd_at, ← r5]
    · rw [upm_at, upd_ne (by decide), upm_at, upd_at]
    · rw [upm_at, upd_at]; exact r2.symm
    · refine ⟨by decide, ?_, fun i hi => absurd hi (by show ¬ i < 0; omega)⟩
      rw [upm_at, upd_ne (by decide), upm_at, upd_ne (by decide), upm_at, upd_ne (by decide), upm_at, upd_ne (by decide), upm_at, upd_at]
      rfl
  obtain ⟨N', e2, p2, c2, f2⟩ := rmA hk hc4 (nI o) (M 5 o) x (0, fun _ => 0) Nb cn
  rw [← eV] at e2 c2
  obtain ⟨ph', h3'⟩ := hold3 (M5 := upm M 26 1 0) (N6 := upm M' 46 25 0) h hR ht (upm_ne (by omega)) (upm_ne (by decide)) (by rw [upm_ne (by decide), g1 60 (by decide) (by decide)]) (by rw [upm_ne (by decide), g1 61 (by decide) (by decide)]) (by rw [upm_ne (by decide), g1 47 (by decide) (by decide)])
  have a2' : mX6_heldOn (nI t) (upm M' 46 25 0) = 1 := by
    rcases h3' with ⟨_, z, _⟩ | ⟨z, _⟩ | ⟨z, _⟩
    · exact z
    · exact absurd a1 z
    · exact absurd a1 z
  have u6 : mX6_act (nI t) (nI c) x M' = (if V.2.1 = true then -15 else V.1, N') := by
    rw [act6_val hc4 (nI t) x M' hh6 hb6 a2', ct, ← en, e2]
    unfold mX6_act_123
    dsimp only
    cases hp : V.2.1 with
    | true =>
      rw [hp] at c2
      rw [if_neg (show ¬ N' 46 29 = 0 by rw [c2.1]; decide), if_pos rfl]
    | false =>
      rw [hp] at c2
      rw [if_pos (show N' 46 29 = 0 by rw [c2.1]; decide), if_neg (by decide)]
  have p6 : PX6_act (nI t) (nI c) x M' := by
    refine act6_pre hc4 (nI t) x M' hv ph' ?_ ?_ ?_
    · rw [ct, n61 _ x1]; exact pits0 h8
    · rw [ct, n61 _ x3]; exact pits1 h8
    · rw [ct, ← en]; exact p2
  unfold OKm
  rw [u5]
  dsimp only
  rw [u6]
  refine ⟨p5, p6, rfl, ?_⟩
  change Inv N'
  have k26 : N' 26 = M' 26 := by rw [f2.1 26 (by decide) (by decide), fn 26 (by decide)]
  have k27 : N' 27 = M' 27 := by rw [f2.1 27 (by decide) (by decide), fn 27 (by decide)]
  obtain ⟨-, -, -, -, t5⟩ := c1
  obtain ⟨-, -, -, -, t6⟩ := c2
  refine h.acts (fun p q1 q2 q3 q4 => by rw [f2.1 p q3 q4, fn p q3, g1 p q1 q2]) (fun z hz => by rw [f2.2 z hz, fn46 z hz, g1 46 (by decide) (by decide)]) ⟨V.2.2.1, t5.1, ?_, t6.2.1, fun i hi => ?_⟩
  · rw [k26]; exact t5.2.1
  · rw [k27]; exact (t5.2.2 i hi).trans (t6.2.2 i hi).symm
