/-! DRAWS -/
def zn (z : Int32) : Int32 := z * 1103515245 + 12345
def dr (z : Int32) : Int32 := (((zn z) : Int32).toUInt32 >>> ((16 : Int32).toUInt32 &&& Int32.toUInt32 31)).toInt32
theorem draw_eq (b : Nat) (M : Mem) : mX4_draw b M = (dr (M b 9), upm M b 9 (zn (M b 9))) := by
  unfold mX4_draw dr zn
  rw [upm_at, upd_at]
theorem drawn_eq (N : Mem) : mX6_drawn N = (dr (N 47 2), upm N 47 2 (zn (N 47 2))) := by
  unfold mX6_drawn dr zn
  rw [upm_at, upd_at]
theorem dr_n (z : Int32) : ∃ x, x < 65536 ∧ dr z = nI x := by
  have h := pk_ushr (zn z) 16 16 (by decide)
  refine ⟨(dr z).toBitVec.toNat, ?_, ?_⟩
  · unfold dr
    rw [h]
    have := (zn z).toBitVec.isLt
    omega
  · apply Int32.toBitVec_inj.mp
    show (dr z).toBitVec = BitVec.ofNat 32 (dr z).toBitVec.toNat
    rw [BitVec.ofNat_toNat, BitVec.setWidth_eq]
theorem dr_way (z : Int32) : WY (irem (dr z) 4) := by
  obtain ⟨x, hx, e⟩ := dr_n z
  rw [e]
  have := pk_rem (a := x) (d := 4) (by omega) (by decide) (by decide)
  exact ⟨x % 4, by omega, this⟩
/-- the row behind a STEP BY DRAWS -/
def stepD (s : Nat → Int32) (n : Nat) : Nat → Int32 :=
  if s 7 ≤ irem (dr (s 2)) 100 then stepS (upd s 2 (zn (s 2))) n
  else stepS (upd (upd s 2 (zn (zn (s 2)))) 3 (irem (dr (zn (s 2))) 4)) n
theorem stepD_R {M : Mem} {b n : Nat} {s : Nat → Int32} (hR : R M b s n) : R (mX4_takeStepByDraws b M) b (stepD s n) n ∧ PX4_takeStepByDraws b M ∧ ∀ p, p ≠ b → p ≠ b + 2 → p ≠ b + 6 → mX4_takeStepByDraws b M p = M p := by
  have ez : M b 9 = s 2 := hR.2.2.1
  have r1 := hR.zed (w := zn (s 2))
  obtain ⟨M1, e1⟩ : ∃ x, x = upm M b 9 (zn (s 2)) := ⟨_, rfl⟩
  rw [← e1] at r1
  have eg : M1 (b + 1) 3 = s 7 := (r1.rc.2.2.1 3 (by decide)).trans (upd_ne (by decide))
  have ez1 : M1 b 9 = zn (s 2) := by rw [e1, upm_at, upd_at]
  have d1 : mX4_draw b M = (dr (s 2), M1) := by rw [draw_eq, ez, ← e1]
  have r2 := (r1.zed (w := zn (zn (s 2)))).wind (dr_way (zn (s 2)))
  obtain ⟨M2, e2⟩ : ∃ x, x = upm (upm M1 b 9 (zn (zn (s 2)))) b 8 (irem (dr (zn (s 2))) 4) := ⟨_, rfl⟩
  rw [← e2] at r2
  have d2 : mX4_draw b M1 = (dr (zn (s 2)), upm M1 b 9 (zn (zn (s 2)))) := by rw [draw_eq, ez1]
  have uu : upd (upd (upd s 2 (zn (s 2))) 2 (zn (zn (s 2)))) 3 (irem (dr (zn (s 2))) 4) = upd (upd s 2 (zn (zn (s 2)))) 3 (irem (dr (zn (s 2))) 4) := by
    funext k
    by_cases k3 : k = 3
    · subst k3; rw [upd_at, upd_at]
    · rw [upd_ne k3, upd_ne k3]
      by_cases k2 : k = 2
      · subst k2; rw [upd_at, upd_at]
      · rw [upd_ne k2, upd_ne k2, upd_ne k2]
  rw [uu] at r2
  have f1 : ∀ p, p ≠ b → M1 p = M p := fun p hp => by rw [e1, upm_ne hp]
  have f2 : ∀ p, p ≠ b → M2 p = M p := fun p hp => by rw [e2, upm_ne hp, upm_ne hp, f1 p hp]
  by_cases q : s 7 ≤ irem (dr (s 2)) 100
  · obtain ⟨a1, a2, a3⟩ := takeStep_R r1
    have unf : mX4_takeStepByDraws b M = mX4_takeStep b M1 := by
      unfold mX4_takeStepByDraws mX4_takeStepByDraws_4 mX4_takeStepByDraws_26
      rw [d1]
      simp only [eg, if_pos q]
    rw [unf]
    unfold stepD
    rw [if_pos q]
    refine ⟨a1, ?_, fun p h1 h2 h3 => (a3 p h1 h2 h3).trans (f1 p h1)⟩
    unfold PX4_takeStepByDraws PX4_takeStepByDraws_4 PX4_takeStepByDraws_26 PX4_takeStepByDraws_21
    rw [d1]
    simp only [eg]
    exact ⟨fun _ => a2, fun z => absurd q z⟩
  · obtain ⟨a1, a2, a3⟩ := takeStep_R r2
    have unf : mX4_takeStepByDraws b M = mX4_takeStep b M2 := by
      unfold mX4_takeStepByDraws mX4_takeStepByDraws_4 mX4_takeStepByDraws_21 mX4_takeStepByDraws_26
      rw [d1]
      simp only [eg, if_neg q, d2, ← e2]
    rw [unf]
    unfold stepD
    rw [if_neg q]
    refine ⟨a1, ?_, fun p h1 h2 h3 => (a3 p h1 h2 h3).trans (f2 p h1)⟩
    unfold PX4_takeStepByDraws PX4_takeStepByDraws_4 PX4_takeStepByDraws_21 PX4_takeStepByDraws_26
    rw [d1]
    simp only [eg, d2, ← e2]
    exact ⟨fun z => absurd z q, fun _ => a2⟩
theorem GS.stepD {s : Nat → Int32} {n : Nat} (h : GS s n) : GS (stepD s n) n := (stepD_R h.r).1.gs
theorem step6 {N : Mem} {s : Nat → Int32} {n : Nat} (hG : GS s n) (hs : N 47 = s) : mX6_step N = (mX6_size (mX6_stopped (upr N 47 (stepD s n))) (upr N 47 (stepD s n)), upr N 47 (stepD s n)) ∧ PX6_step N := by
  have hz : GS (upd s 2 (zn (s 2))) n := (hG.r.zed (w := zn (s 2))).gs
  have hz2 : GS (upd (upd s 2 (zn (zn (s 2)))) 3 (irem (dr (zn (s 2))) 4)) n := ((hG.r.zed (w := zn (zn (s 2)))).wind (dr_way (zn (s 2)))).gs
  have d1 : mX6_drawn N = (dr (s 2), upr N 47 (upd s 2 (zn (s 2)))) := by rw [drawn_eq, hs, upm_upr, hs]
  have d2 : mX6_drawn (upr N 47 (upd s 2 (zn (s 2)))) = (dr (zn (s 2)), upr N 47 (upd s 2 (zn (zn (s 2))))) := by
    rw [drawn_eq, upm_upr, upr_at, upd_at, upr_upr]
    congr 2
    funext k
    by_cases k2 : k = 2
    · subst k2; rw [upd_at, upd_at]
    · rw [upd_ne k2, upd_ne k2, upd_ne k2]
  have e3 : (3 : Int32).toNatClampNeg = 3 := by decide
  have v3 : vp_in 3 56 := vin_l (by decide) (by decide)
  have eg : upr N 47 (upd s 2 (zn (s 2))) 47 7 = s 7 := by rw [upr_at, upd_ne (by decide)]
  have ew : upm (upr N 47 (upd s 2 (zn (zn (s 2))))) 47 3 (irem (dr (zn (s 2))) 4) = upr N 47 (upd (upd s 2 (zn (zn (s 2)))) 3 (irem (dr (zn (s 2))) 4)) := by rw [upm_upr, upr_at, upr_upr]
  by_cases q : s 7 ≤ irem (dr (s 2)) 100
  · obtain ⟨g1, g2⟩ := goesOn_eq (N := upr N 47 (upd s 2 (zn (s 2)))) hz (upr_at _ _ _)
    rw [upr_upr] at g1
    have es : stepD s n = stepS (upd s 2 (zn (s 2))) n := by unfold stepD; rw [if_pos q]
    have hst := errands_eq (N := upr N 47 (stepD s n)) hG.stepD.r (upr_at _ _ _)
    have hct := count_eq (stopped_lt (N := upr N 47 (stepD s n)) hG.stepD (upr_at _ _ _)) (upr N 47 (stepD s n))
    unfold mX6_step mX6_step_4 mX6_step_29 mX6_step_33 PX6_step PX6_step_4 PX6_step_29 PX6_step_33
    rw [d1]
    simp only [eg, if_pos q, g1, ← es]
    exact ⟨trivial, fun _ => ⟨g2, hst.2.2, hct.2⟩, fun z => absurd q z⟩
  · obtain ⟨g1, g2⟩ := goesOn_eq (N := upr N 47 (upd (upd s 2 (zn (zn (s 2)))) 3 (irem (dr (zn (s 2))) 4))) hz2 (upr_at _ _ _)
    rw [upr_upr] at g1
    have es : stepD s n = stepS (upd (upd s 2 (zn (zn (s 2)))) 3 (irem (dr (zn (s 2))) 4)) n := by unfold stepD; rw [if_neg q]
    have hst := errands_eq (N := upr N 47 (stepD s n)) hG.stepD.r (upr_at _ _ _)
    have hct := count_eq (stopped_lt (N := upr N 47 (stepD s n)) hG.stepD (upr_at _ _ _)) (upr N 47 (stepD s n))
    unfold mX6_step mX6_step_4 mX6_step_26 mX6_step_29 mX6_step_33 PX6_step PX6_step_4 PX6_step_26 PX6_step_29 PX6_step_33
    rw [d1]
    simp only [eg, if_neg q, d2, e3, ew, g1, ← es]
    exact ⟨trivial, fun z => absurd z q, fun _ => ⟨v3, g2, hst.2.2, hct.2⟩⟩
theorem ok_step {M : Mem} (h : Inv M) : OKm PX5_step mX5_step PX6_step mX6_step M := by
  obtain ⟨n, hR⟩ := h.1
  obtain ⟨a1, a2, a3⟩ := stepD_R hR
  obtain ⟨M1, e1⟩ : ∃ x, x = mX4_takeStepByDraws 1 M := ⟨_, rfl⟩
  rw [← e1] at a1 a3
  have s47 : M1 47 = M 47 := a3 47 (by decide) (by decide) (by decide)
  obtain ⟨g1, g2⟩ := step6 (N := M1) hR.gs s47
  obtain ⟨x1, x2, x3⟩ := errands_eq (N := upr M1 47 (stepD (M 47) n)) a1 (upr_at _ _ _)
  obtain ⟨c1, c2⟩ := count_eq (stopped_lt (N := upr M1 47 (stepD (M 47) n)) hR.gs.stepD (upr_at _ _ _)) (upr M1 47 (stepD (M 47) n))
  unfold OKm mX5_step mX5_step_7 PX5_step PX5_step_7
  rw [← e1]
  refine ⟨⟨a2, x2⟩, g2, ?_, ?_⟩
  · rw [g1, x1]
    exact c1
  · rw [g1]
    show Inv (upr M1 47 (stepD (M 47) n))
    refine h.now (fun p hp h7 => ?_) ⟨n, a1.congr (fun j hj => upr_ne (by omega)) (fun j hj => by rw [upr_at])⟩
    unfold PS at hp
    rw [upr_ne (by omega)]
    exact a3 p (by omega) (by omega) (by omega)
