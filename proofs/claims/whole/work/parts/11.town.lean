abbrev mtJ7_fill_53178 : MT := (RJ7, yJ7_fill_53178, cJ7_fill_53178, 4, none)
theorem miJ7_fill_53178 : MS mtJ7_fill_53178 2 := ⟨wd_320, wd_319, wd_87, ⟨by decide, by decide, by decide +kernel⟩, by decide⟩
def mJ7_fill_53178_5 (p0 : Nat) (n0 : Nat)  : Nat → Int32 → Int32 → Int32 → Mem → Mem
  | 0, _, _, _, M => M
  | n + 1, v1, v2, v3, M => (if v3 ≤ v2 then M else (mJ7_fill_53178_5 p0 n0 n v1 (v2 + 1) v3 (upm M p0 v2.toNatClampNeg v1)))
def PJ7_fill_53178_5 (p0 : Nat) (n0 : Nat)  : Nat → Int32 → Int32 → Int32 → Mem → Prop
  | 0, _, _, _, _ => False
  | n + 1, v1, v2, v3, M => (¬ v3 ≤ v2 → vp_in v2 n0 ∧ (PJ7_fill_53178_5 p0 n0 n v1 (v2 + 1) v3 (upm M p0 v2.toNatClampNeg v1)))
set_option maxRecDepth 100000 in
theorem cJ7_fill_53178_5 (p0 : Nat) (n0 : Nat) (h0 : SH[p0]? = some (.inr (.inl n0)))  (M0 : Mem) : ∀ (n : Nat) (v1 : Int32) (v2 : Int32) (v3 : Int32) (M : Mem), PJ7_fill_53178_5 p0 n0 n v1 v2 v3 M → AWP (GV mtJ7_fill_53178 0 M0 (mJ7_fill_53178_5 p0 n0 n v1 v2 v3 M)) mtJ7_fill_53178 5 [(0, .ref p0), (1, .int v1), (2, .int v2), (3, .int v3)] [] M := by
  intro n
  induction n with
  | zero =>
    intro v1 v2 v3 M hp
    exact hp.elim
  | succ n ih =>
    intro v1 v2 v3 M hp
    rw [mJ7_fill_53178_5]
    rw [PJ7_fill_53178_5] at hp
    refine r_iload_n MF.bs dJ7_fill_53178_5 rfl 2 rfl ?_
    refine r_iload_n MF.bs dJ7_fill_53178_6 rfl 3 rfl ?_
    refine r_ite (GV mtJ7_fill_53178 0 M0) (fun h_1 => ?_) (fun h_1 => ?_)
    · refine r_icmp_ge_t MF.bs (tgt := 20) dJ7_fill_53178_7 (by decide) h_1 ?_
      exact r_vret dJ7_fill_53178_20 rfl
    · have hp := hp h_1
      refine r_icmp_ge_f MF.bs (tgt := 20) dJ7_fill_53178_7 (by decide) h_1 ?_
      obtain ⟨hq_2, hp⟩ := hp
      refine r_aload_n MF.bs dJ7_fill_53178_10 rfl 0 rfl ?_
      refine r_iload_n MF.bs dJ7_fill_53178_11 rfl 2 rfl ?_
      refine r_iload_n MF.bs dJ7_fill_53178_12 rfl 1 rfl ?_
      refine r_iastore MF.bs dJ7_fill_53178_13 h0 hq_2 ?_
      refine r_iinc MF.bs (v := (v2 + 1)) (lv' := [(2, .int (v2 + 1)), (0, .ref p0), (1, .int v1), (3, .int v3)]) dJ7_fill_53178_14 2 rfl rfl (by decide) rfl ?_
      refine r_goto MF.bs dJ7_fill_53178_17 (tgt := 5) (by decide) ?_
      refine r_sub [(0, .ref p0), (1, .int v1), (2, .int (v2 + 1)), (3, .int v3)] [1, 2, 0, 3] rfl ?_
      exact ih v1 (v2 + 1) v3 (upm M p0 v2.toNatClampNeg v1) hp
def mJ7_fill_53178 (p0 : Nat) (n0 : Nat) (a1 : Int32) (M : Mem) : Mem := (mJ7_fill_53178_5 p0 n0 400 a1 0 (nI n0) M)
def PJ7_fill_53178 (p0 : Nat) (n0 : Nat) (a1 : Int32) (M : Mem) : Prop := PJ7_fill_53178_5 p0 n0 400 a1 0 (nI n0) M
set_option maxRecDepth 100000 in
theorem ctJ7_fill_53178 (p0 : Nat) (n0 : Nat) (h0 : SH[p0]? = some (.inr (.inl n0))) (a1 : Int32) (M : Mem) (hp : PJ7_fill_53178 p0 n0 a1 M) : CT mtJ7_fill_53178 0 [.ref p0, .int a1] M (none, mJ7_fill_53178 p0 n0 a1 M) := by
  refine CT.of (by decide) rfl (Nat.le_of_ble_eq_true rfl) ?_
  show AWP (GV mtJ7_fill_53178 0 M (mJ7_fill_53178 p0 n0 a1 M)) mtJ7_fill_53178 0 [(0, .ref p0), (1, .int a1)] [] M
  unfold mJ7_fill_53178
  unfold PJ7_fill_53178 at hp
  refine r_iconst MF.bs dJ7_fill_53178_0 (v := 0) (by decide) ?_
  refine r_istore_n MF.bs (lv' := [(2, .int 0), (0, .ref p0), (1, .int a1)]) dJ7_fill_53178_1 rfl (by decide) rfl ?_
  refine r_aload_n MF.bs dJ7_fill_53178_2 rfl 1 rfl ?_
  refine r_alen MF.bs dJ7_fill_53178_3 (v := nI n0) h0 rfl ?_
  refine r_istore_n MF.bs (lv' := [(3, .int (nI n0)), (2, .int 0), (0, .ref p0), (1, .int a1)]) dJ7_fill_53178_4 rfl (by decide) rfl ?_
  refine r_sub [(0, .ref p0), (1, .int a1), (2, .int 0), (3, .int (nI n0))] [2, 3, 1, 0] rfl ?_
  exact cJ7_fill_53178_5 p0 n0 h0 M 400 a1 0 (nI n0) M hp
abbrev mtX4_clear : MT := (RX4, yX4_clear, cX4_clear, 1, none)
theorem miX4_clear : MV mtX4_clear 0 := ⟨wd_317, ⟨wd_315, wd_316⟩, wd_80, ⟨by decide, by decide, by decide +kernel⟩, by decide⟩
def mX4_clear_21 (b : Nat)  (M : Mem) : Mem := (upm (upm (upm M b 6 0) b 7 0) b 8 0)
def PX4_clear_21 (b : Nat)  (M : Mem) : Prop := True
set_option maxRecDepth 100000 in
theorem cX4_clear_21 (b : Nat) (hb : TB b)  (M0 : Mem) (M : Mem) (hp : PX4_clear_21 b M) : AWP (GV mtX4_clear 1 M0 (mX4_clear_21 b M)) mtX4_clear 21 [(0, .ref b)] [] M := by
  unfold mX4_clear_21
  unfold PX4_clear_21 at hp
  refine r_aload_n MF.bs dX4_clear_21 rfl 0 rfl ?_
  refine r_iconst MF.bs dX4_clear_22 (v := 0) (by decide) ?_
  refine r_putI MF.bs dX4_clear_23 (sh_t hb) rfl 6 (by decide) wd_127 rfl rfl rfl rfl rfl ?_
  refine r_aload_n MF.bs dX4_clear_26 rfl 0 rfl ?_
  refine r_iconst MF.bs dX4_clear_27 (v := 0) (by decide) ?_
  refine r_putI MF.bs dX4_clear_28 (sh_t hb) rfl 7 (by decide) wd_130 rfl rfl rfl rfl rfl ?_
  refine r_aload_n MF.bs dX4_clear_31 rfl 0 rfl ?_
  refine r_iconst MF.bs dX4_clear_32 (v := 0) (by decide) ?_
  refine r_putI MF.bs dX4_clear_33 (sh_t hb) rfl 8 (by decide) wd_132 rfl rfl rfl rfl rfl ?_
  exact r_vret dX4_clear_36 rfl
def mX4_clear (b : Nat) (M : Mem) : Mem := (mX4_clear_21 b (mJ7_fill_53178 (b + 2) 16 0 (upr M (b + 1) (va_cpy (fun i => (stT_0).getD i 0) (M (b + 1)) 0 0 4))))
def PX4_clear (b : Nat) (M : Mem) : Prop := PJ7_fill_53178 (b + 2) 16 0 (upr M (b + 1) (va_cpy (fun i => (stT_0).getD i 0) (M (b + 1)) 0 0 4)) ∧ (PX4_clear_21 b (mJ7_fill_53178 (b + 2) 16 0 (upr M (b + 1) (va_cpy (fun i => (stT_0).getD i 0) (M (b + 1)) 0 0 4))))
set_option maxRecDepth 100000 in
theorem ctX4_clear (b : Nat) (hb : TB b) (M : Mem) (hp : PX4_clear b M) : CT mtX4_clear 1 [.ref b] M (none, mX4_clear b M) := by
  refine CT.of (by decide) rfl (Nat.le_of_ble_eq_true rfl) ?_
  show AWP (GV mtX4_clear 1 M (mX4_clear b M)) mtX4_clear 0 [(0, .ref b)] [] M
  unfold mX4_clear
  unfold PX4_clear at hp
  obtain ⟨hq_1, hp⟩ := hp
  refine r_getsN MF.bs (i := 0) dX4_clear_0 rfl nw_0 ?_
  refine r_iconst MF.bs dX4_clear_3 (v := 0) (by decide) ?_
  refine r_aload_n MF.bs dX4_clear_4 rfl 0 rfl ?_
  refine r_getR MF.bs dX4_clear_5 (sh_t hb) rfl 0 (by decide) wd_113 rfl ?_
  refine r_iconst MF.bs dX4_clear_8 (v := 0) (by decide) ?_
  refine r_iconst MF.bs dX4_clear_9 (v := 4) (by decide) ?_
  refine r_copyt MF.bs (j := 0) (n := 4) dX4_clear_10 wd_110 rfl (sh_t1 hb) (by decide) (by decide) (by decide) (by decide) (Nat.le_of_ble_eq_true rfl) (by decide) ?_
  refine r_aload_n MF.bs dX4_clear_13 rfl 0 rfl ?_
  refine r_getR MF.bs dX4_clear_14 (sh_t hb) rfl 1 (by decide) wd_116 rfl ?_
  refine r_iconst MF.bs dX4_clear_17 (v := 0) (by decide) ?_
  refine r_callS_n MF.bs (st := []) dX4_clear_18 (ctJ7_fill_53178 (b + 2) 16 (sh_t2 hb) 0 (upr M (b + 1) (va_cpy (fun i => (stT_0).getD i 0) (M (b + 1)) 0 0 4)) hq_1) miJ7_fill_53178 wd_318 rfl (by decide) rfl (Nat.le_of_ble_eq_true rfl) ?_
  exact cX4_clear_21 b hb M (mJ7_fill_53178 (b + 2) 16 0 (upr M (b + 1) (va_cpy (fun i => (stT_0).getD i 0) (M (b + 1)) 0 0 4))) hp
abbrev mtX4_become : MT := (RX4, yX4_become, cX4_become, 2, none)
theorem miX4_become : MV mtX4_become 1 := ⟨wd_457, ⟨wd_455, wd_456⟩, wd_80, ⟨by decide, by decide, by decide +kernel⟩, by decide⟩
def mX4_become_89 (b : Nat) (q1 : Nat)  (M : Mem) : Mem := (upm (upm (upm (upm M b 6 (M q1 6)) b 7 ((upm M b 6 (M q1 6)) q1 7)) b 8 ((upm (upm M b 6 (M q1 6)) b 7 ((upm M b 6 (M q1 6)) q1 7)) q1 8)) b 9 ((upm (upm (upm M b 6 (M q1 6)) b 7 ((upm M b 6 (M q1 6)) q1 7)) b 8 ((upm (upm M b 6 (M q1 6)) b 7 ((upm M b 6 (M q1 6)) q1 7)) q1 8)) q1 9))
def PX4_become_89 (b : Nat) (q1 : Nat)  (M : Mem) : Prop := True
set_option maxRecDepth 100000 in
theorem cX4_become_89 (b : Nat) (q1 : Nat) (hb : TB b) (h1 : TB q1)  (M0 : Mem) (M : Mem) (hp : PX4_become_89 b q1 M) : AWP (GV mtX4_become 1 M0 (mX4_become_89 b q1 M)) mtX4_become 89 [(0, .ref b), (1, .ref q1)] [] M := by
  unfold mX4_become_89
  unfold PX4_become_89 at hp
  refine r_aload_n MF.bs dX4_become_89 rfl 0 rfl ?_
  refine r_aload_n MF.bs dX4_become_90 rfl 1 rfl ?_
  refine r_getI MF.bs dX4_become_91 (sh_t h1) rfl 6 (by decide) wd_127 rfl ?_
  refine r_putI MF.bs dX4_become_94 (sh_t hb) rfl 6 (by decide) wd_127 rfl rfl rfl rfl rfl ?_
  refine r_aload_n MF.bs dX4_become_97 rfl 0 rfl ?_
  refine r_aload_n MF.bs dX4_become_98 rfl 1 rfl ?_
  refine r_getI MF.bs dX4_become_99 (sh_t h1) rfl 7 (by decide) wd_130 rfl ?_
  refine r_putI MF.bs dX4_become_102 (sh_t hb) rfl 7 (by decide) wd_130 rfl rfl rfl rfl rfl ?_
  refine r_aload_n MF.bs dX4_become_105 rfl 0 rfl ?_
  refine r_aload_n MF.bs dX4_become_106 rfl 1 rfl ?_
  refine r_getI MF.bs dX4_become_107 (sh_t h1) rfl 8 (by decide) wd_132 rfl ?_
  refine r_putI MF.bs dX4_become_110 (sh_t hb) rfl 8 (by decide) wd_132 rfl rfl rfl rfl rfl ?_
  refine r_aload_n MF.bs dX4_become_113 rfl 0 rfl ?_
  refine r_aload_n MF.bs dX4_become_114 rfl 1 rfl ?_
  refine r_getI MF.bs dX4_become_115 (sh_t h1) rfl 9 (by decide) wd_135 rfl ?_
  refine r_putI MF.bs dX4_become_118 (sh_t hb) rfl 9 (by decide) wd_135 rfl rfl rfl rfl rfl ?_
  exact r_vret dX4_become_121 rfl
def mX4_become_74 (b : Nat) (q1 : Nat)  (M : Mem) : Mem := (mX4_become_89 b q1 (upr M (b + 6) (va_cpy (M (q1 + 6)) (M (b + 6)) 0 0 8)))
def PX4_become_74 (b : Nat) (q1 : Nat)  (M : Mem) : Prop := PX4_become_89 b q1 (upr M (b + 6) (va_cpy (M (q1 + 6)) (M (b + 6)) 0 0 8))
set_option maxRecDepth 100000 in
theorem cX4_become_74 (b : Nat) (q1 : Nat) (hb : TB b) (h1 : TB q1)  (M0 : Mem) (M : Mem) (hp : PX4_become_74 b q1 M) : AWP (GV mtX4_become 1 M0 (mX4_become_74 b q1 M)) mtX4_become 74 [(0, .ref b), (1, .ref q1)] [] M := by
  unfold mX4_become_74
  unfold PX4_become_74 at hp
  refine r_aload_n MF.bs dX4_become_74 rfl 1 rfl ?_
  refine r_getR MF.bs dX4_become_75 (sh_t h1) rfl 5 (by decide) wd_125 rfl ?_
  refine r_iconst MF.bs dX4_become_78 (v := 0) (by decide) ?_
  refine r_aload_n MF.bs dX4_become_79 rfl 0 rfl ?_
  refine r_getR MF.bs dX4_become_80 (sh_t hb) rfl 5 (by decide) wd_125 rfl ?_
  refine r_iconst MF.bs dX4_become_83 (v := 0) (by decide) ?_
  refine r_bipush MF.bs dX4_become_84 (v := 8) (by decide) ?_
  refine r_copy MF.bs dX4_become_86 wd_110 (n := 8) (sh_t6 h1) (sh_t6 hb) (by decide) (by decide) (by decide) (Nat.le_of_ble_eq_true rfl) (by decide) ?_
  exact cX4_become_89 b q1 hb h1 M0 (upr M (b + 6) (va_cpy (M (q1 + 6)) (M (b + 6)) 0 0 8)) hp
def mX4_become_59 (b : Nat) (q1 : Nat)  (M : Mem) : Mem := (mX4_become_74 b q1 (upr M (b + 5) (va_cpy (M (q1 + 5)) (M (b + 5)) 0 0 8)))
def PX4_become_59 (b : Nat) (q1 : Nat)  (M : Mem) : Prop := PX4_become_74 b q1 (upr M (b + 5) (va_cpy (M (q1 + 5)) (M (b + 5)) 0 0 8))
set_option maxRecDepth 100000 in
theorem cX4_become_59 (b : Nat) (q1 : Nat) (hb : TB b) (h1 : TB q1)  (M0 : Mem) (M : Mem) (hp : PX4_become_59 b q1 M) : AWP (GV mtX4_become 1 M0 (mX4_become_59 b q1 M)) mtX4_become 59 [(0, .ref b), (1, .ref q1)] [] M := by
  unfold mX4_become_59
  unfold PX4_become_59 at hp
  refine r_aload_n MF.bs dX4_become_59 rfl 1 rfl ?_
  refine r_getR MF.bs dX4_become_60 (sh_t h1) rfl 4 (by decide) wd_123 rfl ?_
  refine r_iconst MF.bs dX4_become_63 (v := 0) (by decide) ?_
  refine r_aload_n MF.bs dX4_become_64 rfl 0 rfl ?_
  refine r_getR MF.bs dX4_become_65 (sh_t hb) rfl 4 (by decide) wd_123 rfl ?_
  refine r_iconst MF.bs dX4_become_68 (v := 0) (by decide) ?_
  refine r_bipush MF.bs dX4_become_69 (v := 8) (by decide) ?_
  refine r_copy MF.bs dX4_become_71 wd_110 (n := 8) (sh_t5 h1) (sh_t5 hb) (by decide) (by decide) (by decide) (Nat.le_of_ble_eq_true rfl) (by decide) ?_
  exact cX4_become_74 b q1 hb h1 M0 (upr M (b + 5) (va_cpy (M (q1 + 5)) (M (b + 5)) 0 0 8)) hp
def mX4_become_44 (b : Nat) (q1 : Nat)  (M : Mem) : Mem := (mX4_become_59 b q1 (upr M (b + 4) (va_cpy (M (q1 + 4)) (M (b + 4)) 0 0 8)))
def PX4_become_44 (b : Nat) (q1 : Nat)  (M : Mem) : Prop := PX4_become_59 b q1 (upr M (b + 4) (va_cpy (M (q1 + 4)) (M (b + 4)) 0 0 8))
set_option maxRecDepth 100000 in
theorem cX4_become_44 (b : Nat) (q1 : Nat) (hb : TB b) (h1 : TB q1)  (M0 : Mem) (M : Mem) (hp : PX4_become_44 b q1 M) : AWP (GV mtX4_become 1 M0 (mX4_become_44 b q1 M)) mtX4_become 44 [(0, .ref b), (1, .ref q1)] [] M := by
  unfold mX4_become_44
  unfold PX4_become_44 at hp
  refine r_aload_n MF.bs dX4_become_44 rfl 1 rfl ?_
  refine r_getR MF.bs dX4_become_45 (sh_t h1) rfl 3 (by decide) wd_121 rfl ?_
  refine r_iconst MF.bs dX4_become_48 (v := 0) (by decide) ?_
  refine r_aload_n MF.bs dX4_become_49 rfl 0 rfl ?_
  refine r_getR MF.bs dX4_become_50 (sh_t hb) rfl 3 (by decide) wd_121 rfl ?_
  refine r_iconst MF.bs dX4_become_53 (v := 0) (by decide) ?_
  refine r_bipush MF.bs dX4_become_54 (v := 8) (by decide) ?_
  refine r_copy MF.bs dX4_become_56 wd_110 (n := 8) (sh_t4 h1) (sh_t4 hb) (by decide) (by decide) (by decide) (Nat.le_of_ble_eq_true rfl) (by decide) ?_
  exact cX4_become_59 b q1 hb h1 M0 (upr M (b + 4) (va_cpy (M (q1 + 4)) (M (b + 4)) 0 0 8)) hp
def mX4_become_29 (b : Nat) (q1 : Nat)  (M : Mem) : Mem := (mX4_become_44 b q1 (upr M (b + 3) (va_cpy (M (q1 + 3)) (M (b + 3)) 0 0 8)))
def PX4_become_29 (b : Nat) (q1 : Nat)  (M : Mem) : Prop := PX4_become_44 b q1 (upr M (b + 3) (va_cpy (M (q1 + 3)) (M (b + 3)) 0 0 8))
set_option maxRecDepth 100000 in
theorem cX4_become_29 (b : Nat) (q1 : Nat) (hb : TB b) (h1 : TB q1)  (M0 : Mem) (M : Mem) (hp : PX4_become_29 b q1 M) : AWP (GV mtX4_become 1 M0 (mX4_become_29 b q1 M)) mtX4_become 29 [(0, .ref b), (1, .ref q1)] [] M := by
  unfold mX4_become_29
  unfold PX4_become_29 at hp
  refine r_aload_n MF.bs dX4_become_29 rfl 1 rfl ?_
  refine r_getR MF.bs dX4_become_30 (sh_t h1) rfl 2 (by decide) wd_119 rfl ?_
  refine r_iconst MF.bs dX4_become_33 (v := 0) (by decide) ?_
  refine r_aload_n MF.bs dX4_become_34 rfl 0 rfl ?_
  refine r_getR MF.bs dX4_become_35 (sh_t hb) rfl 2 (by decide) wd_119 rfl ?_
  refine r_iconst MF.bs dX4_become_38 (v := 0) (by decide) ?_
  refine r_bipush MF.bs dX4_become_39 (v := 8) (by decide) ?_
  refine r_copy MF.bs dX4_become_41 wd_110 (n := 8) (sh_t3 h1) (sh_t3 hb) (by decide) (by decide) (by decide) (Nat.le_of_ble_eq_true rfl) (by decide) ?_
  exact cX4_become_44 b q1 hb h1 M0 (upr M (b + 3) (va_cpy (M (q1 + 3)) (M (b + 3)) 0 0 8)) hp
def mX4_become_14 (b : Nat) (q1 : Nat)  (M : Mem) : Mem := (mX4_become_29 b q1 (upr M (b + 2) (va_cpy (M (q1 + 2)) (M (b + 2)) 0 0 16)))
def PX4_become_14 (b : Nat) (q1 : Nat)  (M : Mem) : Prop := PX4_become_29 b q1 (upr M (b + 2) (va_cpy (M (q1 + 2)) (M (b + 2)) 0 0 16))
set_option maxRecDepth 100000 in
theorem cX4_become_14 (b : Nat) (q1 : Nat) (hb : TB b) (h1 : TB q1)  (M0 : Mem) (M : Mem) (hp : PX4_become_14 b q1 M) : AWP (GV mtX4_become 1 M0 (mX4_become_14 b q1 M)) mtX4_become 14 [(0, .ref b), (1, .ref q1)] [] M := by
  unfold mX4_become_14
  unfold PX4_become_14 at hp
  refine r_aload_n MF.bs dX4_become_14 rfl 1 rfl ?_
  refine r_getR MF.bs dX4_become_15 (sh_t h1) rfl 1 (by decide) wd_116 rfl ?_
  refine r_iconst MF.bs dX4_become_18 (v := 0) (by decide) ?_
  refine r_aload_n MF.bs dX4_become_19 rfl 0 rfl ?_
  refine r_getR MF.bs dX4_become_20 (sh_t hb) rfl 1 (by decide) wd_116 rfl ?_
  refine r_iconst MF.bs dX4_become_23 (v := 0) (by decide) ?_
  refine r_bipush MF.bs dX4_become_24 (v := 16) (by decide) ?_
  refine r_copy MF.bs dX4_become_26 wd_110 (n := 16) (sh_t2 h1) (sh_t2 hb) (by decide) (by decide) (by decide) (Nat.le_of_ble_eq_true rfl) (by decide) ?_
  exact cX4_become_29 b q1 hb h1 M0 (upr M (b + 2) (va_cpy (M (q1 + 2)) (M (b + 2)) 0 0 16)) hp
def mX4_become (b : Nat) (q1 : Nat) (M : Mem) : Mem := (mX4_become_14 b q1 (upr M (b + 1) (va_cpy (M (q1 + 1)) (M (b + 1)) 0 0 4)))
def PX4_become (b : Nat) (q1 : Nat) (M : Mem) : Prop := PX4_become_14 b q1 (upr M (b + 1) (va_cpy (M (q1 + 1)) (M (b + 1)) 0 0 4))
set_option maxRecDepth 100000 in
theorem ctX4_become (b : Nat) (q1 : Nat) (hb : TB b) (h1 : TB q1) (M : Mem) (hp : PX4_become b q1 M) : CT mtX4_become 1 [.ref b, .ref q1] M (none, mX4_become b q1 M) := by
  refine CT.of (by decide) rfl (Nat.le_of_ble_eq_true rfl) ?_
  show AWP (GV mtX4_become 1 M (mX4_become b q1 M)) mtX4_become 0 [(0, .ref b), (1, .ref q1)] [] M
  unfold mX4_become
  unfold PX4_become at hp
  refine r_aload_n MF.bs dX4_become_0 rfl 1 rfl ?_
  refine r_getR MF.bs dX4_become_1 (sh_t h1) rfl 0 (by decide) wd_113 rfl ?_
  refine r_iconst MF.bs dX4_become_4 (v := 0) (by decide) ?_
  refine r_aload_n MF.bs dX4_become_5 rfl 0 rfl ?_
  refine r_getR MF.bs dX4_become_6 (sh_t hb) rfl 0 (by decide) wd_113 rfl ?_
  refine r_iconst MF.bs dX4_become_9 (v := 0) (by decide) ?_
  refine r_iconst MF.bs dX4_become_10 (v := 4) (by decide) ?_
  refine r_copy MF.bs dX4_become_11 wd_110 (n := 4) (sh_t1 h1) (sh_t1 hb) (by decide) (by decide) (by decide) (Nat.le_of_ble_eq_true rfl) (by decide) ?_
  exact cX4_become_14 b q1 hb h1 M (upr M (b + 1) (va_cpy (M (q1 + 1)) (M (b + 1)) 0 0 4)) hp
abbrev mtX5_isWithin : MT := (RX5, yX5_isWithin, cX5_isWithin, 3, (some .boolean))
theorem miX5_isWithin : MS mtX5_isWithin 3 := ⟨wd_305, wd_304, wd_79, ⟨by decide, by decide, by decide +kernel⟩, by decide⟩
def mX5_isWithin  (a0 : Int32) (a1 : Int32) (a2 : Int32) : Bool := (if a0 < a1 then false else (if a2 < a0 then false else true))
set_option maxRecDepth 100000 in
theorem ctX5_isWithin   (a0 : Int32) (a1 : Int32) (a2 : Int32) (M : Mem) : CT mtX5_isWithin 0 [.int a0, .int a1, .int a2] M (some (.int (b2i (mX5_isWithin a0 a1 a2))), M) := by
  refine CT.of (by decide) rfl (Nat.le_of_ble_eq_true rfl) ?_
  show AWP (GB mtX5_isWithin 0 M M (mX5_isWithin a0 a1 a2)) mtX5_isWithin 0 [(0, .int a0), (1, .int a1), (2, .int a2)] [] M
  unfold mX5_isWithin
  refine r_iload_n MF.bs dX5_isWithin_0 rfl 0 rfl ?_
  refine r_iload_n MF.bs dX5_isWithin_1 rfl 1 rfl ?_
  refine r_ite (GB mtX5_isWithin 0 M M) (fun h_1 => ?_) (fun h_1 => ?_)
  · refine r_icmp_lt_t MF.bs (tgt := 14) dX5_isWithin_2 (by decide) h_1 ?_
    refine r_iconst MF.bs dX5_isWithin_14 (v := 0) (by decide) ?_
    exact r_zret0 dX5_isWithin_15 rfl
  · refine r_icmp_lt_f MF.bs (tgt := 14) dX5_isWithin_2 (by decide) h_1 ?_
    refine r_iload_n MF.bs dX5_isWithin_5 rfl 0 rfl ?_
    refine r_iload_n MF.bs dX5_isWithin_6 rfl 2 rfl ?_
    refine r_ite (GB mtX5_isWithin 0 M M) (fun h_2 => ?_) (fun h_2 => ?_)
    · refine r_icmp_gt_t MF.bs (tgt := 14) dX5_isWithin_7 (by decide) h_2 ?_
      refine r_iconst MF.bs dX5_isWithin_14 (v := 0) (by decide) ?_
      exact r_zret0 dX5_isWithin_15 rfl
    · refine r_icmp_gt_f MF.bs (tgt := 14) dX5_isWithin_7 (by decide) h_2 ?_
      refine r_iconst MF.bs dX5_isWithin_10 (v := 1) (by decide) ?_
      refine r_goto MF.bs dX5_isWithin_11 (tgt := 15) (by decide) ?_
      exact r_zret1 dX5_isWithin_15 rfl
abbrev mtX4_has : MT := (RX4, yX4_has, cX4_has, 2, (some .boolean))
theorem miX4_has : MV mtX4_has 1 := ⟨wd_493, ⟨wd_491, wd_492⟩, wd_80, ⟨by decide, by decide, by decide +kernel⟩, by decide⟩
def mX4_has (b : Nat) (a1 : Int32) (M : Mem) : Bool := (mX5_isWithin a1 0 ((M b 6) - 1))
set_option maxRecDepth 100000 in
theorem ctX4_has (b : Nat) (hb : TB b) (a1 : Int32) (M : Mem) : CT mtX4_has 1 [.ref b, .int a1] M (some (.int (b2i (mX4_has b a1 M))), M) := by
  refine CT.of (by decide) rfl (Nat.le_of_ble_eq_true rfl) ?_
  show AWP (GB mtX4_has 1 M M (mX4_has b a1 M)) mtX4_has 0 [(0, .ref b), (1, .int a1)] [] M
  unfold mX4_has
  refine r_iload_n MF.bs dX4_has_0 rfl 1 rfl ?_
  refine r_iconst MF.bs dX4_has_1 (v := 0) (by decide) ?_
  refine r_aload_n MF.bs dX4_has_2 rfl 0 rfl ?_
  refine r_getI MF.bs dX4_has_3 (sh_t hb) rfl 6 (by decide) wd_127 rfl ?_
  refine r_iconst MF.bs dX4_has_6 (v := 1) (by decide) ?_
  refine r_isub MF.bs dX4_has_7 ?_
  refine r_callSN_v MF.bs (st := []) dX4_has_8 (ctX5_isWithin a1 0 ((M b 6) - 1) M) miX5_isWithin nw_8 rfl (by decide) rfl (Nat.le_of_ble_eq_true rfl) ?_
  exact r_zret dX4_has_11 rfl (b2i_nar _)
abbrev mtX4_add : MT := (RX4, yX4_add, cX4_add, 5, (some .boolean))
theorem miX4_add : MV mtX4_add 4 := ⟨wd_430, ⟨wd_428, wd_429⟩, wd_80, ⟨by decide, by decide, by decide +kernel⟩, by decide⟩
def mX4_add (b : Nat) (a1 : Int32) (a2 : Int32) (a3 : Int32) (a4 : Int32) (M : Mem) : Bool × Mem := (if (M b 6) < 8 then (true, (upm (upm (upm (upm (upm M (b + 3) (M b 6).toNatClampNeg a1) (b + 4) ((upm M (b + 3) (M b 6).toNatClampNeg a1) b 6).toNatClampNeg a2) (b + 5) ((upm (upm M (b + 3) (M b 6).toNatClampNeg a1) (b + 4) ((upm M (b + 3) (M b 6).toNatClampNeg a1) b 6).toNatClampNeg a2) b 6).toNatClampNeg a3) (b + 6) ((upm (upm (upm M (b + 3) (M b 6).toNatClampNeg a1) (b + 4) ((upm M (b + 3) (M b 6).toNatClampNeg a1) b 6).toNatClampNeg a2) (b + 5) ((upm (upm M (b + 3) (M b 6).toNatClampNeg a1) (b + 4) ((upm M (b + 3) (M b 6).toNatClampNeg a1) b 6).toNatClampNeg a2) b 6).toNatClampNeg a3) b 6).toNatClampNeg a4) b 6 (((upm (upm (upm (upm M (b + 3) (M b 6).toNatClampNeg a1) (b + 4) ((upm M (b + 3) (M b 6).toNatClampNeg a1) b 6).toNatClampNeg a2) (b + 5) ((upm (upm M (b + 3) (M b 6).toNatClampNeg a1) (b + 4) ((upm M (b + 3) (M b 6).toNatClampNeg a1) b 6).toNatClampNeg a2) b 6).toNatClampNeg a3) (b + 6) ((upm (upm (upm M (b + 3) (M b 6).toNatClampNeg a1) (b + 4) ((upm M (b + 3) (M b 6).toNatClampNeg a1) b 6).toNatClampNeg a2) (b + 5) ((upm (upm M (b + 3) (M b 6).toNatClampNeg a1) (b + 4) ((upm M (b + 3) (M b 6).toNatClampNeg a1) b 6).toNatClampNeg a2) b 6).toNatClampNeg a3) b 6).toNatClampNeg a4) b 6) + 1))) else (false, M))
def PX4_add (b : Nat) (a1 : Int32) (a2 : Int32) (a3 : Int32) (a4 : Int32) (M : Mem) : Prop := ((M b 6) < 8 → vp_in (M b 6) 8 ∧ (vp_in ((upm M (b + 3) (M b 6).toNatClampNeg a1) b 6) 8 ∧ (vp_in ((upm (upm M (b + 3) (M b 6).toNatClampNeg a1) (b + 4) ((upm M (b + 3) (M b 6).toNatClampNeg a1) b 6).toNatClampNeg a2) b 6) 8 ∧ (vp_in ((upm (upm (upm M (b + 3) (M b 6).toNatClampNeg a1) (b + 4) ((upm M (b + 3) (M b 6).toNatClampNeg a1) b 6).toNatClampNeg a2) (b + 5) ((upm (upm M (b + 3) (M b 6).toNatClampNeg a1) (b + 4) ((upm M (b + 3) (M b 6).toNatClampNeg a1) b 6).toNatClampNeg a2) b 6).toNatClampNeg a3) b 6) 8))))
set_option maxRecDepth 100000 in
theorem ctX4_add (b : Nat) (hb : TB b) (a1 : Int32) (a2 : Int32) (a3 : Int32) (a4 : Int32) (M : Mem) (hp : PX4_add b a1 a2 a3 a4 M) : CT mtX4_add 0 [.ref b, .int a1, .int a2, .int a3, .int a4] M (some (.int (b2i ((mX4_add b a1 a2 a3 a4 M).1))), (mX4_add b a1 a2 a3 a4 M).2) := by
  refine CT.of (by decide) rfl (Nat.le_of_ble_eq_true rfl) ?_
  show AWP (GBM mtX4_add 0 M (mX4_add b a1 a2 a3 a4 M)) mtX4_add 0 [(0, .ref b), (1, .int a1), (2, .int a2), (3, .int a3), (4, .int a4)] [] M
  unfold mX4_add
  unfold PX4_add at hp
  refine r_aload_n MF.bs dX4_add_0 rfl 0 rfl ?_
  refine r_getI MF.bs dX4_add_1 (sh_t hb) rfl 6 (by decide) wd_127 rfl ?_
  refine r_bipush MF.bs dX4_add_4 (v := 8) (by decide) ?_
  refine r_ite (GBM mtX4_add 0 M) (fun h_1 => ?_) (fun h_1 => ?_)
  · have hp := hp h_1
    refine r_icmp_lt_t MF.bs (tgt := 11) dX4_add_6 (by decide) h_1 ?_
    obtain ⟨hq_2, hp⟩ := hp
    obtain ⟨hq_3, hp⟩ := hp
    obtain ⟨hq_4, hp⟩ := hp
    have hq_5 := hp
    refine r_aload_n MF.bs dX4_add_11 rfl 0 rfl ?_
    refine r_getR MF.bs dX4_add_12 (sh_t hb) rfl 2 (by decide) wd_119 rfl ?_
    refine r_aload_n MF.bs dX4_add_15 rfl 0 rfl ?_
    refine r_getI MF.bs dX4_add_16 (sh_t hb) rfl 6 (by decide) wd_127 rfl ?_
    refine r_iload_n MF.bs dX4_add_19 rfl 1 rfl ?_
    refine r_iastore MF.bs dX4_add_20 (sh_t3 hb) hq_2 ?_
    refine r_aload_n MF.bs dX4_add_21 rfl 0 rfl ?_
    refine r_getR MF.bs dX4_add_22 (sh_t hb) rfl 3 (by decide) wd_121 rfl ?_
    refine r_aload_n MF.bs dX4_add_25 rfl 0 rfl ?_
    refine r_getI MF.bs dX4_add_26 (sh_t hb) rfl 6 (by decide) wd_127 rfl ?_
    refine r_iload_n MF.bs dX4_add_29 rfl 2 rfl ?_
    refine r_iastore MF.bs dX4_add_30 (sh_t4 hb) hq_3 ?_
    refine r_aload_n MF.bs dX4_add_31 rfl 0 rfl ?_
    refine r_getR MF.bs dX4_add_32 (sh_t hb) rfl 4 (by decide) wd_123 rfl ?_
    refine r_aload_n MF.bs dX4_add_35 rfl 0 rfl ?_
    refine r_getI MF.bs dX4_add_36 (sh_t hb) rfl 6 (by decide) wd_127 rfl ?_
    refine r_iload_n MF.bs dX4_add_39 rfl 3 rfl ?_
    refine r_iastore MF.bs dX4_add_40 (sh_t5 hb) hq_4 ?_
    refine r_aload_n MF.bs dX4_add_41 rfl 0 rfl ?_
    refine r_getR MF.bs dX4_add_42 (sh_t hb) rfl 5 (by decide) wd_125 rfl ?_
    refine r_aload_n MF.bs dX4_add_45 rfl 0 rfl ?_
    refine r_getI MF.bs dX4_add_46 (sh_t hb) rfl 6 (by decide) wd_127 rfl ?_
    refine r_iload MF.bs dX4_add_49 4 rfl ?_
    refine r_iastore MF.bs dX4_add_51 (sh_t6 hb) hq_5 ?_
    refine r_aload_n MF.bs dX4_add_52 rfl 0 rfl ?_
    refine r_dup MF.bs dX4_add_53 rfl ?_
    refine r_getI MF.bs dX4_add_54 (sh_t hb) rfl 6 (by decide) wd_127 rfl ?_
    refine r_iconst MF.bs dX4_add_57 (v := 1) (by decide) ?_
    refine r_iadd MF.bs dX4_add_58 ?_
    refine r_putI MF.bs dX4_add_59 (sh_t hb) rfl 6 (by decide) wd_127 rfl rfl rfl rfl rfl ?_
    refine r_iconst MF.bs dX4_add_62 (v := 1) (by decide) ?_
    exact r_zret (v := 1) dX4_add_63 rfl rfl
  · refine r_icmp_lt_f MF.bs (tgt := 11) dX4_add_6 (by decide) h_1 ?_
    refine r_iconst MF.bs dX4_add_9 (v := 0) (by decide) ?_
    exact r_zret (v := 0) dX4_add_10 rfl rfl
abbrev mtX4_wayOfFog : MT := (RX4, yX4_wayOfFog, cX4_wayOfFog, 1, (some .int))
theorem miX4_wayOfFog : MV mtX4_wayOfFog 0 := ⟨wd_506, ⟨wd_505, wd_15⟩, wd_80, ⟨by decide, by decide, by decide +kernel⟩, by decide⟩
def mX4_wayOfFog (b : Nat) (M : Mem) : Int32 := (if (irem (M b 7) 2) = 0 then (M b 8) else 4)
set_option maxRecDepth 100000 in
theorem ctX4_wayOfFog (b : Nat) (hb : TB b) (M : Mem) : CT mtX4_wayOfFog 0 [.ref b] M (some (.int (mX4_wayOfFog b M)), M) := by
  refine CT.of (by decide) rfl (Nat.le_of_ble_eq_true rfl) ?_
  show AWP (GI mtX4_wayOfFog 0 M M (mX4_wayOfFog b M)) mtX4_wayOfFog 0 [(0, .ref b)] [] M
  unfold mX4_wayOfFog
  refine r_aload_n MF.bs dX4_wayOfFog_0 rfl 0 rfl ?_
  refine r_getI MF.bs dX4_wayOfFog_1 (sh_t hb) rfl 7 (by decide) wd_130 rfl ?_
  refine r_iconst MF.bs dX4_wayOfFog_4 (v := 2) (by decide) ?_
  refine r_irem MF.bs dX4_wayOfFog_5 (by decide) ?_
  refine r_ite (GI mtX4_wayOfFog 0 M M) (fun h_1 => ?_) (fun h_1 => ?_)
  · refine r_if_ne_f MF.bs (tgt := 16) dX4_wayOfFog_6 (by decide) h_1 ?_
    refine r_aload_n MF.bs dX4_wayOfFog_9 rfl 0 rfl ?_
    refine r_getI MF.bs dX4_wayOfFog_10 (sh_t hb) rfl 8 (by decide) wd_132 rfl ?_
    refine r_goto MF.bs dX4_wayOfFog_13 (tgt := 17) (by decide) ?_
    exact r_iret dX4_wayOfFog_17 rfl
  · refine r_if_ne_t MF.bs (tgt := 16) dX4_wayOfFog_6 (by decide) h_1 ?_
    refine r_iconst MF.bs dX4_wayOfFog_16 (v := 4) (by decide) ?_
    exact r_iret dX4_wayOfFog_17 rfl
abbrev mtX5_columnOf : MT := (RX5, yX5_columnOf, cX5_columnOf, 1, (some .int))
theorem miX5_columnOf : MS mtX5_columnOf 1 := ⟨wd_512, wd_511, wd_79, ⟨by decide, by decide, by decide +kernel⟩, by decide⟩
def mX5_columnOf  (a0 : Int32) : Int32 := (irem a0 4)
set_option maxRecDepth 100000 in
theorem ctX5_columnOf   (a0 : Int32) (M : Mem) : CT mtX5_columnOf 0 [.int a0] M (some (.int (mX5_columnOf a0)), M) := by
  refine CT.of (by decide) rfl (Nat.le_of_ble_eq_true rfl) ?_
  show AWP (GI mtX5_columnOf 0 M M (mX5_columnOf a0)) mtX5_columnOf 0 [(0, .int a0)] [] M
  unfold mX5_columnOf
  refine r_iload_n MF.bs dX5_columnOf_0 rfl 0 rfl ?_
  refine r_iconst MF.bs dX5_columnOf_1 (v := 4) (by decide) ?_
  refine r_irem MF.bs dX5_columnOf_2 (by decide) ?_
  exact r_iret dX5_columnOf_3 rfl
abbrev mtX5_rowOf : MT := (RX5, yX5_rowOf, cX5_rowOf, 1, (some .int))
theorem miX5_rowOf : MS mtX5_rowOf 1 := ⟨wd_515, wd_514, wd_79, ⟨by decide, by decide, by decide +kernel⟩, by decide⟩
def mX5_rowOf  (a0 : Int32) : Int32 := (a0 / 4)
set_option maxRecDepth 100000 in
theorem ctX5_rowOf   (a0 : Int32) (M : Mem) : CT mtX5_rowOf 0 [.int a0] M (some (.int (mX5_rowOf a0)), M) := by
  refine CT.of (by decide) rfl (Nat.le_of_ble_eq_true rfl) ?_
  show AWP (GI mtX5_rowOf 0 M M (mX5_rowOf a0)) mtX5_rowOf 0 [(0, .int a0)] [] M
  unfold mX5_rowOf
  refine r_iload_n MF.bs dX5_rowOf_0 rfl 0 rfl ?_
  refine r_iconst MF.bs dX5_rowOf_1 (v := 4) (by decide) ?_
  refine r_idiv MF.bs dX5_rowOf_2 (by decide) ?_
  exact r_iret dX5_rowOf_3 rfl
abbrev mtX5_wayTowards : MT := (RX5, yX5_wayTowards, cX5_wayTowards, 2, (some .int))
theorem miX5_wayTowards : MS mtX5_wayTowards 2 := ⟨wd_509, wd_508, wd_79, ⟨by decide, by decide, by decide +kernel⟩, by decide⟩
def mX5_wayTowards  (a0 : Int32) (a1 : Int32) : Int32 := (if (mX5_columnOf a0) = (mX5_columnOf a1) then (if (mX5_rowOf a0) = (mX5_rowOf a1) then 4 else (if (mX5_rowOf a1) ≤ (mX5_rowOf a0) then 3 else 1)) else (if (mX5_columnOf a1) ≤ (mX5_columnOf a0) then 2 else 0))
set_option maxRecDepth 100000 in
theorem ctX5_wayTowards   (a0 : Int32) (a1 : Int32) (M : Mem) : CT mtX5_wayTowards 1 [.int a0, .int a1] M (some (.int (mX5_wayTowards a0 a1)), M) := by
  refine CT.of (by decide) rfl (Nat.le_of_ble_eq_true rfl) ?_
  show AWP (GI mtX5_wayTowards 1 M M (mX5_wayTowards a0 a1)) mtX5_wayTowards 0 [(0, .int a0), (1, .int a1)] [] M
  unfold mX5_wayTowards
  refine r_iload_n MF.bs dX5_wayTowards_0 rfl 0 rfl ?_
  refine r_callS_v MF.bs (st := []) dX5_wayTowards_1 (ctX5_columnOf a0 M) miX5_columnOf wd_510 rfl (by decide) rfl (Nat.le_of_ble_eq_true rfl) ?_
  refine r_iload_n MF.bs dX5_wayTowards_4 rfl 1 rfl ?_
  refine r_callS_v MF.bs (st := [.int (mX5_columnOf a0)]) dX5_wayTowards_5 (ctX5_columnOf a1 M) miX5_columnOf wd_510 rfl (by decide) rfl (Nat.le_of_ble_eq_true rfl) ?_
  refine r_ite (GI mtX5_wayTowards 1 M M) (fun h_1 => ?_) (fun h_1 => ?_)
  · refine r_icmp_eq_t MF.bs (tgt := 28) dX5_wayTowards_8 (by decide) h_1 ?_
    refine r_iload_n MF.bs dX5_wayTowards_28 rfl 0 rfl ?_
    refine r_callS_v MF.bs (st := []) dX5_wayTowards_29 (ctX5_rowOf a0 M) miX5_rowOf wd_513 rfl (by decide) rfl (Nat.le_of_ble_eq_true rfl) ?_
    refine r_iload_n MF.bs dX5_wayTowards_32 rfl 1 rfl ?_
    refine r_callS_v MF.bs (st := [.int (mX5_rowOf a0)]) dX5_wayTowards_33 (ctX5_rowOf a1 M) miX5_rowOf wd_513 rfl (by decide) rfl (Nat.le_of_ble_eq_true rfl) ?_
    refine r_ite (GI mtX5_wayTowards 1 M M) (fun h_2 => ?_) (fun h_2 => ?_)
    · refine r_icmp_eq_t MF.bs (tgt := 56) dX5_wayTowards_36 (by decide) h_2 ?_
      refine r_iconst MF.bs dX5_wayTowards_56 (v := 4) (by decide) ?_
      exact r_iret dX5_wayTowards_57 rfl
    · refine r_icmp_eq_f MF.bs (tgt := 56) dX5_wayTowards_36 (by decide) h_2 ?_
      refine r_iload_n MF.bs dX5_wayTowards_39 rfl 0 rfl ?_
      refine r_callS_v MF.bs (st := []) dX5_wayTowards_40 (ctX5_rowOf a0 M) miX5_rowOf wd_513 rfl (by decide) rfl (Nat.le_of_ble_eq_true rfl) ?_
      refine r_iload_n MF.bs dX5_wayTowards_43 rfl 1 rfl ?_
      refine r_callS_v MF.bs (st := [.int (mX5_rowOf a0)]) dX5_wayTowards_44 (ctX5_rowOf a1 M) miX5_rowOf wd_513 rfl (by decide) rfl (Nat.le_of_ble_eq_true rfl) ?_
      refine r_ite (GI mtX5_wayTowards 1 M M) (fun h_3 => ?_) (fun h_3 => ?_)
      · refine r_icmp_ge_t MF.bs (tgt := 54) dX5_wayTowards_47 (by decide) h_3 ?_
        refine r_iconst MF.bs dX5_wayTowards_54 (v := 3) (by decide) ?_
        exact r_iret dX5_wayTowards_55 rfl
      · refine r_icmp_ge_f MF.bs (tgt := 54) dX5_wayTowards_47 (by decide) h_3 ?_
        refine r_iconst MF.bs dX5_wayTowards_50 (v := 1) (by decide) ?_
        refine r_goto MF.bs dX5_wayTowards_51 (tgt := 55) (by decide) ?_
        exact r_iret dX5_wayTowards_55 rfl
  · refine r_icmp_eq_f MF.bs (tgt := 28) dX5_wayTowards_8 (by decide) h_1 ?_
    refine r_iload_n MF.bs dX5_wayTowards_11 rfl 0 rfl ?_
    refine r_callS_v MF.bs (st := []) dX5_wayTowards_12 (ctX5_columnOf a0 M) miX5_columnOf wd_510 rfl (by decide) rfl (Nat.le_of_ble_eq_true rfl) ?_
    refine r_iload_n MF.bs dX5_wayTowards_15 rfl 1 rfl ?_
    refine r_callS_v MF.bs (st := [.int (mX5_columnOf a0)]) dX5_wayTowards_16 (ctX5_columnOf a1 M) miX5_columnOf wd_510 rfl (by decide) rfl (Nat.le_of_ble_eq_true rfl) ?_
    refine r_ite (GI mtX5_wayTowards 1 M M) (fun h_4 => ?_) (fun h_4 => ?_)
    · refine r_icmp_ge_t MF.bs (tgt := 26) dX5_wayTowards_19 (by decide) h_4 ?_
      refine r_iconst MF.bs dX5_wayTowards_26 (v := 2) (by decide) ?_
      exact r_iret dX5_wayTowards_27 rfl
    · refine r_icmp_ge_f MF.bs (tgt := 26) dX5_wayTowards_19 (by decide) h_4 ?_
      refine r_iconst MF.bs dX5_wayTowards_22 (v := 0) (by decide) ?_
      refine r_goto MF.bs dX5_wayTowards_23 (tgt := 27) (by decide) ?_
      exact r_iret dX5_wayTowards_27 rfl
abbrev mtX4_wayWanted : MT := (RX4, yX4_wayWanted, cX4_wayWanted, 2, (some .int))
theorem miX4_wayWanted : MV mtX4_wayWanted 1 := ⟨wd_502, ⟨wd_501, wd_14⟩, wd_80, ⟨by decide, by decide, by decide +kernel⟩, by decide⟩
def mX4_wayWanted (b : Nat) (a1 : Int32) (M : Mem) : Int32 := (if (M (b + 3) a1.toNatClampNeg) = 1 then (if (M (b + 1) 2) ≤ (M (b + 4) a1.toNatClampNeg) then (M b 8) else 4) else (if (M (b + 3) a1.toNatClampNeg) = 2 then (mX4_wayOfFog b M) else (if (M (b + 3) a1.toNatClampNeg) = 3 then (mX5_wayTowards (M (b + 6) a1.toNatClampNeg) (M (b + 5) a1.toNatClampNeg)) else (if (M (b + 3) a1.toNatClampNeg) = 4 then (if (irem (M b 7) 4) = 0 then (mX4_wayOfFog b M) else (mX5_wayTowards (M (b + 6) a1.toNatClampNeg) (M (b + 5) a1.toNatClampNeg))) else (if (M (b + 3) a1.toNatClampNeg) = 5 then 4 else (M b 8))))))
def PX4_wayWanted (b : Nat) (a1 : Int32) (M : Mem) : Prop := vp_in a1 8 ∧ ((((M (b + 3) a1.toNatClampNeg) = 1 → vp_in a1 8) ∧ (¬ (M (b + 3) a1.toNatClampNeg) = 1 → (¬ (M (b + 3) a1.toNatClampNeg) = 2 → (((M (b + 3) a1.toNatClampNeg) = 3 → vp_in a1 8 ∧ (vp_in a1 8)) ∧ (¬ (M (b + 3) a1.toNatClampNeg) = 3 → ((M (b + 3) a1.toNatClampNeg) = 4 → (¬ (irem (M b 7) 4) = 0 → vp_in a1 8 ∧ (vp_in a1 8)))))))))
set_option maxRecDepth 100000 in
theorem ctX4_wayWanted (b : Nat) (hb : TB b) (a1 : Int32) (M : Mem) (hp : PX4_wayWanted b a1 M) : CT mtX4_wayWanted 2 [.ref b, .int a1] M (some (.int (mX4_wayWanted b a1 M)), M) := by
  refine CT.of (by decide) rfl (Nat.le_of_ble_eq_true rfl) ?_
  show AWP (GI mtX4_wayWanted 2 M M (mX4_wayWanted b a1 M)) mtX4_wayWanted 0 [(0, .ref b), (1, .int a1)] [] M
  unfold mX4_wayWanted
  unfold PX4_wayWanted at hp
  obtain ⟨hq_1, hp⟩ := hp
  refine r_aload_n MF.bs dX4_wayWanted_0 rfl 0 rfl ?_
  refine r_getR MF.bs dX4_wayWanted_1 (sh_t hb) rfl 2 (by decide) wd_119 rfl ?_
  refine r_iload_n MF.bs dX4_wayWanted_4 rfl 1 rfl ?_
  refine r_iaload MF.bs dX4_wayWanted_5 (sh_t3 hb) hq_1 ?_
  refine r_ite (GI mtX4_wayWanted 2 M M) (fun h_2 => ?_) (fun h_2 => ?_)
  · have hp := hp.1 h_2
    refine r_tsw_in MF.bs (tgt := 40) dX4_wayWanted_6 h_2 (by decide) (by decide) rfl (by decide) ?_
    have hq_3 := hp
    refine r_aload_n MF.bs dX4_wayWanted_40 rfl 0 rfl ?_
    refine r_getR MF.bs dX4_wayWanted_41 (sh_t hb) rfl 3 (by decide) wd_121 rfl ?_
    refine r_iload_n MF.bs dX4_wayWanted_44 rfl 1 rfl ?_
    refine r_iaload MF.bs dX4_wayWanted_45 (sh_t4 hb) hq_3 ?_
    refine r_aload_n MF.bs dX4_wayWanted_46 rfl 0 rfl ?_
    refine r_getR MF.bs dX4_wayWanted_47 (sh_t hb) rfl 0 (by decide) wd_113 rfl ?_
    refine r_iconst MF.bs dX4_wayWanted_50 (v := 2) (by decide) ?_
    refine r_ialoadL MF.bs dX4_wayWanted_51 (sh_t1 hb) (vin_l (by decide) (by decide)) (k9 := 2) (by decide) ?_
    refine r_ite (GI mtX4_wayWanted 2 M M) (fun h_4 => ?_) (fun h_4 => ?_)
    · refine r_icmp_ge_t MF.bs (tgt := 59) dX4_wayWanted_52 (by decide) h_4 ?_
      refine r_aload_n MF.bs dX4_wayWanted_59 rfl 0 rfl ?_
      refine r_getI MF.bs dX4_wayWanted_60 (sh_t hb) rfl 8 (by decide) wd_132 rfl ?_
      exact r_iret dX4_wayWanted_63 rfl
    · refine r_icmp_ge_f MF.bs (tgt := 59) dX4_wayWanted_52 (by decide) h_4 ?_
      refine r_iconst MF.bs dX4_wayWanted_55 (v := 4) (by decide) ?_
      refine r_goto MF.bs dX4_wayWanted_56 (tgt := 63) (by decide) ?_
      exact r_iret dX4_wayWanted_63 rfl
  · have hp := hp.2 h_2
    refine r_ite (GI mtX4_wayWanted 2 M M) (fun h_5 => ?_) (fun h_5 => ?_)
    · refine r_tsw_in MF.bs (tgt := 64) dX4_wayWanted_6 h_5 (by decide) (by decide) rfl (by decide) ?_
      refine r_aload_n MF.bs dX4_wayWanted_64 rfl 0 rfl ?_
      refine r_callV_v MF.bs (st := []) dX4_wayWanted_65 (ctX4_wayOfFog b hb M) miX4_wayOfFog wd_503 rfl (by decide) rfl (Nat.le_of_ble_eq_true rfl) (sh_t hb) rfl rfl ?_
      exact r_iret dX4_wayWanted_68 rfl
    · have hp := hp h_5
      refine r_ite (GI mtX4_wayWanted 2 M M) (fun h_6 => ?_) (fun h_6 => ?_)
      · have hp := hp.1 h_6
        refine r_tsw_in MF.bs (tgt := 69) dX4_wayWanted_6 h_6 (by decide) (by decide) rfl (by decide) ?_
        obtain ⟨hq_7, hp⟩ := hp
        have hq_8 := hp
        refine r_aload_n MF.bs dX4_wayWanted_69 rfl 0 rfl ?_
        refine r_getR MF.bs dX4_wayWanted_70 (sh_t hb) rfl 5 (by decide) wd_125 rfl ?_
        refine r_iload_n MF.bs dX4_wayWanted_73 rfl 1 rfl ?_
        refine r_iaload MF.bs dX4_wayWanted_74 (sh_t6 hb) hq_7 ?_
        refine r_aload_n MF.bs dX4_wayWanted_75 rfl 0 rfl ?_
        refine r_getR MF.bs dX4_wayWanted_76 (sh_t hb) rfl 4 (by decide) wd_123 rfl ?_
        refine r_iload_n MF.bs dX4_wayWanted_79 rfl 1 rfl ?_
        refine r_iaload MF.bs dX4_wayWanted_80 (sh_t5 hb) hq_8 ?_
        refine r_callSN_v MF.bs (st := []) dX4_wayWanted_81 (ctX5_wayTowards (M (b + 6) a1.toNatClampNeg) (M (b + 5) a1.toNatClampNeg) M) miX5_wayTowards nw_9 rfl (by decide) rfl (Nat.le_of_ble_eq_true rfl) ?_
        exact r_iret dX4_wayWanted_84 rfl
      · have hp := hp.2 h_6
        refine r_ite (GI mtX4_wayWanted 2 M M) (fun h_9 => ?_) (fun h_9 => ?_)
        · have hp := hp h_9
          refine r_tsw_in MF.bs (tgt := 85) dX4_wayWanted_6 h_9 (by decide) (by decide) rfl (by decide) ?_
          refine r_aload_n MF.bs dX4_wayWanted_85 rfl 0 rfl ?_
          refine r_getI MF.bs dX4_wayWanted_86 (sh_t hb) rfl 7 (by decide) wd_130 rfl ?_
          refine r_iconst MF.bs dX4_wayWanted_89 (v := 4) (by decide) ?_
          refine r_irem MF.bs dX4_wayWanted_90 (by decide) ?_
          refine r_ite (GI mtX4_wayWanted 2 M M) (fun h_10 => ?_) (fun h_10 => ?_)
          · refine r_if_ne_f MF.bs (tgt := 101) dX4_wayWanted_91 (by decide) h_10 ?_
            refine r_aload_n MF.bs dX4_wayWanted_94 rfl 0 rfl ?_
            refine r_callV_v MF.bs (st := []) dX4_wayWanted_95 (ctX4_wayOfFog b hb M) miX4_wayOfFog wd_503 rfl (by decide) rfl (Nat.le_of_ble_eq_true rfl) (sh_t hb) rfl rfl ?_
            refine r_goto MF.bs dX4_wayWanted_98 (tgt := 116) (by decide) ?_
            exact r_iret dX4_wayWanted_116 rfl
          · have hp := hp h_10
            refine r_if_ne_t MF.bs (tgt := 101) dX4_wayWanted_91 (by decide) h_10 ?_
            obtain ⟨hq_11, hp⟩ := hp
            have hq_12 := hp
            refine r_aload_n MF.bs dX4_wayWanted_101 rfl 0 rfl ?_
            refine r_getR MF.bs dX4_wayWanted_102 (sh_t hb) rfl 5 (by decide) wd_125 rfl ?_
            refine r_iload_n MF.bs dX4_wayWanted_105 rfl 1 rfl ?_
            refine r_iaload MF.bs dX4_wayWanted_106 (sh_t6 hb) hq_11 ?_
            refine r_aload_n MF.bs dX4_wayWanted_107 rfl 0 rfl ?_
            refine r_getR MF.bs dX4_wayWanted_108 (sh_t hb) rfl 4 (by decide) wd_123 rfl ?_
            refine r_iload_n MF.bs dX4_wayWanted_111 rfl 1 rfl ?_
            refine r_iaload MF.bs dX4_wayWanted_112 (sh_t5 hb) hq_12 ?_
            refine r_callSN_v MF.bs (st := []) dX4_wayWanted_113 (ctX5_wayTowards (M (b + 6) a1.toNatClampNeg) (M (b + 5) a1.toNatClampNeg) M) miX5_wayTowards nw_9 rfl (by decide) rfl (Nat.le_of_ble_eq_true rfl) ?_
            exact r_iret dX4_wayWanted_116 rfl
        · refine r_ite (GI mtX4_wayWanted 2 M M) (fun h_13 => ?_) (fun h_13 => ?_)
          · refine r_tsw_in MF.bs (tgt := 117) dX4_wayWanted_6 h_13 (by decide) (by decide) rfl (by decide) ?_
            refine r_iconst MF.bs dX4_wayWanted_117 (v := 4) (by decide) ?_
            exact r_iret dX4_wayWanted_118 rfl
          · refine r_tsw_out MF.bs (tgt := 119) dX4_wayWanted_6 (by have e0 := lv_neT (a := 1) h_2 (by decide); have e1 := lv_neT (a := 2) h_5 (by decide); have e2 := lv_neT (a := 3) h_6 (by decide); have e3 := lv_neT (a := 4) h_9 (by decide); have e4 := lv_neT (a := 5) h_13 (by decide); omega) (by decide) ?_
            refine r_aload_n MF.bs dX4_wayWanted_119 rfl 0 rfl ?_
            refine r_getI MF.bs dX4_wayWanted_120 (sh_t hb) rfl 8 (by decide) wd_132 rfl ?_
            exact r_iret dX4_wayWanted_123 rfl
abbrev mtX5_nextHouse : MT := (RX5, yX5_nextHouse, cX5_nextHouse, 2, (some .int))
theorem miX5_nextHouse : MS mtX5_nextHouse 2 := ⟨wd_518, wd_517, wd_79, ⟨by decide, by decide, by decide +kernel⟩, by decide⟩
def mX5_nextHouse  (a0 : Int32) (a1 : Int32) : Int32 := (if a1 = 0 then (if 3 ≤ (mX5_columnOf a0) then a0 else (a0 + 1)) else (if a1 = 1 then (if 3 ≤ (mX5_rowOf a0) then a0 else (a0 + 4)) else (if a1 = 2 then (if (mX5_columnOf a0) ≤ 0 then a0 else (a0 - 1)) else (if a1 = 3 then (if (mX5_rowOf a0) ≤ 0 then a0 else (a0 - 4)) else a0))))
set_option maxRecDepth 100000 in
theorem ctX5_nextHouse   (a0 : Int32) (a1 : Int32) (M : Mem) : CT mtX5_nextHouse 1 [.int a0, .int a1] M (some (.int (mX5_nextHouse a0 a1)), M) := by
  refine CT.of (by decide) rfl (Nat.le_of_ble_eq_true rfl) ?_
  show AWP (GI mtX5_nextHouse 1 M M (mX5_nextHouse a0 a1)) mtX5_nextHouse 0 [(0, .int a0), (1, .int a1)] [] M
  unfold mX5_nextHouse
  refine r_iload_n MF.bs dX5_nextHouse_0 rfl 1 rfl ?_
  refine r_ite (GI mtX5_nextHouse 1 M M) (fun h_1 => ?_) (fun h_1 => ?_)
  · refine r_tsw_in MF.bs (tgt := 32) dX5_nextHouse_1 h_1 (by decide) (by decide) rfl (by decide) ?_
    refine r_iload_n MF.bs dX5_nextHouse_32 rfl 0 rfl ?_
    refine r_callS_v MF.bs (st := []) dX5_nextHouse_33 (ctX5_columnOf a0 M) miX5_columnOf wd_510 rfl (by decide) rfl (Nat.le_of_ble_eq_true rfl) ?_
    refine r_iconst MF.bs dX5_nextHouse_36 (v := 3) (by decide) ?_
    refine r_ite (GI mtX5_nextHouse 1 M M) (fun h_2 => ?_) (fun h_2 => ?_)
    · refine r_icmp_ge_t MF.bs (tgt := 46) dX5_nextHouse_37 (by decide) h_2 ?_
      refine r_iload_n MF.bs dX5_nextHouse_46 rfl 0 rfl ?_
      exact r_iret dX5_nextHouse_47 rfl
    · refine r_icmp_ge_f MF.bs (tgt := 46) dX5_nextHouse_37 (by decide) h_2 ?_
      refine r_iload_n MF.bs dX5_nextHouse_40 rfl 0 rfl ?_
      refine r_iconst MF.bs dX5_nextHouse_41 (v := 1) (by decide) ?_
      refine r_iadd MF.bs dX5_nextHouse_42 ?_
      refine r_goto MF.bs dX5_nextHouse_43 (tgt := 47) (by decide) ?_
      exact r_iret dX5_nextHouse_47 rfl
  · refine r_ite (GI mtX5_nextHouse 1 M M) (fun h_3 => ?_) (fun h_3 => ?_)
    · refine r_tsw_in MF.bs (tgt := 48) dX5_nextHouse_1 h_3 (by decide) (by decide) rfl (by decide) ?_
      refine r_iload_n MF.bs dX5_nextHouse_48 rfl 0 rfl ?_
      refine r_callS_v MF.bs (st := []) dX5_nextHouse_49 (ctX5_rowOf a0 M) miX5_rowOf wd_513 rfl (by decide) rfl (Nat.le_of_ble_eq_true rfl) ?_
      refine r_iconst MF.bs dX5_nextHouse_52 (v := 3) (by decide) ?_
      refine r_ite (GI mtX5_nextHouse 1 M M) (fun h_4 => ?_) (fun h_4 => ?_)
      · refine r_icmp_ge_t MF.bs (tgt := 62) dX5_nextHouse_53 (by decide) h_4 ?_
        refine r_iload_n MF.bs dX5_nextHouse_62 rfl 0 rfl ?_
        exact r_iret dX5_nextHouse_63 rfl
      · refine r_icmp_ge_f MF.bs (tgt := 62) dX5_nextHouse_53 (by decide) h_4 ?_
        refine r_iload_n MF.bs dX5_nextHouse_56 rfl 0 rfl ?_
        refine r_iconst MF.bs dX5_nextHouse_57 (v := 4) (by decide) ?_
        refine r_iadd MF.bs dX5_nextHouse_58 ?_
        refine r_goto MF.bs dX5_nextHouse_59 (tgt := 63) (by decide) ?_
        exact r_iret dX5_nextHouse_63 rfl
    · refine r_ite (GI mtX5_nextHouse 1 M M) (fun h_5 => ?_) (fun h_5 => ?_)
      · refine r_tsw_in MF.bs (tgt := 64) dX5_nextHouse_1 h_5 (by decide) (by decide) rfl (by decide) ?_
        refine r_iload_n MF.bs dX5_nextHouse_64 rfl 0 rfl ?_
        refine r_callS_v MF.bs (st := []) dX5_nextHouse_65 (ctX5_columnOf a0 M) miX5_columnOf wd_510 rfl (by decide) rfl (Nat.le_of_ble_eq_true rfl) ?_
        refine r_ite (GI mtX5_nextHouse 1 M M) (fun h_6 => ?_) (fun h_6 => ?_)
        · refine r_if_le_t MF.bs (tgt := 77) dX5_nextHouse_68 (by decide) h_6 ?_
          refine r_iload_n MF.bs dX5_nextHouse_77 rfl 0 rfl ?_
          exact r_iret dX5_nextHouse_78 rfl
        · refine r_if_le_f MF.bs (tgt := 77) dX5_nextHouse_68 (by decide) h_6 ?_
          refine r_iload_n MF.bs dX5_nextHouse_71 rfl 0 rfl ?_
          refine r_iconst MF.bs dX5_nextHouse_72 (v := 1) (by decide) ?_
          refine r_isub MF.bs dX5_nextHouse_73 ?_
          refine r_goto MF.bs dX5_nextHouse_74 (tgt := 78) (by decide) ?_
          exact r_iret dX5_nextHouse_78 rfl
      · refine r_ite (GI mtX5_nextHouse 1 M M) (fun h_7 => ?_) (fun h_7 => ?_)
        · refine r_tsw_in MF.bs (tgt := 79) dX5_nextHouse_1 h_7 (by decide) (by decide) rfl (by decide) ?_
          refine r_iload_n MF.bs dX5_nextHouse_79 rfl 0 rfl ?_
          refine r_callS_v MF.bs (st := []) dX5_nextHouse_80 (ctX5_rowOf a0 M) miX5_rowOf wd_513 rfl (by decide) rfl (Nat.le_of_ble_eq_true rfl) ?_
          refine r_ite (GI mtX5_nextHouse 1 M M) (fun h_8 => ?_) (fun h_8 => ?_)
          · refine r_if_le_t MF.bs (tgt := 92) dX5_nextHouse_83 (by decide) h_8 ?_
            refine r_iload_n MF.bs dX5_nextHouse_92 rfl 0 rfl ?_
            exact r_iret dX5_nextHouse_93 rfl
          · refine r_if_le_f MF.bs (tgt := 92) dX5_nextHouse_83 (by decide) h_8 ?_
            refine r_iload_n MF.bs dX5_nextHouse_86 rfl 0 rfl ?_
            refine r_iconst MF.bs dX5_nextHouse_87 (v := 4) (by decide) ?_
            refine r_isub MF.bs dX5_nextHouse_88 ?_
            refine r_goto MF.bs dX5_nextHouse_89 (tgt := 93) (by decide) ?_
            exact r_iret dX5_nextHouse_93 rfl
        · refine r_tsw_out MF.bs (tgt := 94) dX5_nextHouse_1 (by have e0 := lv_neT (a := 0) h_1 (by decide); have e1 := lv_neT (a := 1) h_3 (by decide); have e2 := lv_neT (a := 2) h_5 (by decide); have e3 := lv_neT (a := 3) h_7 (by decide); omega) (by decide) ?_
          refine r_iload_n MF.bs dX5_nextHouse_94 rfl 0 rfl ?_
          exact r_iret dX5_nextHouse_95 rfl
abbrev mtX4_goes : MT := (RX4, yX4_goes, cX4_goes, 3, (some .int))
theorem miX4_goes : MV mtX4_goes 1 := ⟨wd_498, ⟨wd_496, wd_497⟩, wd_80, ⟨by decide, by decide, by decide +kernel⟩, by decide⟩
def mX4_goes (b : Nat) (a1 : Int32) (M : Mem) : Int32 := (if (mX5_nextHouse (M (b + 6) a1.toNatClampNeg) (mX4_wayWanted b a1 M)) = (M (b + 6) a1.toNatClampNeg) then 4 else (mX4_wayWanted b a1 M))
def PX4_goes (b : Nat) (a1 : Int32) (M : Mem) : Prop := PX4_wayWanted b a1 M ∧ (vp_in a1 8 ∧ (vp_in a1 8))
set_option maxRecDepth 100000 in
theorem ctX4_goes (b : Nat) (hb : TB b) (a1 : Int32) (M : Mem) (hp : PX4_goes b a1 M) : CT mtX4_goes 3 [.ref b, .int a1] M (some (.int (mX4_goes b a1 M)), M) := by
  refine CT.of (by decide) rfl (Nat.le_of_ble_eq_true rfl) ?_
  show AWP (GI mtX4_goes 3 M M (mX4_goes b a1 M)) mtX4_goes 0 [(0, .ref b), (1, .int a1)] [] M
  unfold mX4_goes
  unfold PX4_goes at hp
  obtain ⟨hq_1, hp⟩ := hp
  obtain ⟨hq_2, hp⟩ := hp
  have hq_3 := hp
  refine r_aload_n MF.bs dX4_goes_0 rfl 0 rfl ?_
  refine r_iload_n MF.bs dX4_goes_1 rfl 1 rfl ?_
  refine r_callV_v MF.bs (st := []) dX4_goes_2 (ctX4_wayWanted b hb a1 M hq_1) miX4_wayWanted wd_499 rfl (by decide) rfl (Nat.le_of_ble_eq_true rfl) (sh_t hb) rfl rfl ?_
  refine r_istore_n MF.bs (lv' := [(2, .int (mX4_wayWanted b a1 M)), (0, .ref b), (1, .int a1)]) dX4_goes_5 rfl (by decide) rfl ?_
  refine r_aload_n MF.bs dX4_goes_6 rfl 1 rfl ?_
  refine r_getR MF.bs dX4_goes_7 (sh_t hb) rfl 5 (by decide) wd_125 rfl ?_
  refine r_iload_n MF.bs dX4_goes_10 rfl 2 rfl ?_
  refine r_iaload MF.bs dX4_goes_11 (sh_t6 hb) hq_2 ?_
  refine r_iload_n MF.bs dX4_goes_12 rfl 0 rfl ?_
  refine r_callSN_v MF.bs (st := []) dX4_goes_13 (ctX5_nextHouse (M (b + 6) a1.toNatClampNeg) (mX4_wayWanted b a1 M) M) miX5_nextHouse nw_10 rfl (by decide) rfl (Nat.le_of_ble_eq_true rfl) ?_
  refine r_aload_n MF.bs dX4_goes_16 rfl 1 rfl ?_
  refine r_getR MF.bs dX4_goes_17 (sh_t hb) rfl 5 (by decide) wd_125 rfl ?_
  refine r_iload_n MF.bs dX4_goes_20 rfl 2 rfl ?_
  refine r_iaload MF.bs dX4_goes_21 (sh_t6 hb) hq_3 ?_
  refine r_ite (GI mtX4_goes 3 M M) (fun h_4 => ?_) (fun h_4 => ?_)
  · refine r_icmp_ne_f MF.bs (tgt := 29) dX4_goes_22 (by decide) h_4 ?_
    refine r_iconst MF.bs dX4_goes_25 (v := 4) (by decide) ?_
    refine r_goto MF.bs dX4_goes_26 (tgt := 30) (by decide) ?_
    exact r_iret dX4_goes_30 rfl
  · refine r_icmp_ne_t MF.bs (tgt := 29) dX4_goes_22 (by decide) h_4 ?_
    refine r_iload_n MF.bs dX4_goes_29 rfl 0 rfl ?_
    exact r_iret dX4_goes_30 rfl
abbrev mtX4_wets : MT := (RX4, yX4_wets, cX4_wets, 2, (some .int))
theorem miX4_wets : MV mtX4_wets 1 := ⟨wd_522, ⟨wd_520, wd_521⟩, wd_80, ⟨by decide, by decide, by decide +kernel⟩, by decide⟩
def mX4_wets (b : Nat) (a1 : Int32) (M : Mem) : Int32 := (if (M (b + 3) a1.toNatClampNeg) = 1 then (1 + (M (b + 4) a1.toNatClampNeg)) else (if (M (b + 3) a1.toNatClampNeg) = 2 then 1 else (if (M (b + 3) a1.toNatClampNeg) = 3 then (if (M (b + 6) a1.toNatClampNeg) = (M (b + 5) a1.toNatClampNeg) then (2 * (1 + (M (b + 4) a1.toNatClampNeg))) else (1 + (M (b + 4) a1.toNatClampNeg))) else (if (M (b + 3) a1.toNatClampNeg) = 4 then (1 + ((M (b + 4) a1.toNatClampNeg) / 3)) else (if (M (b + 3) a1.toNatClampNeg) = 5 then (-(M (b + 4) a1.toNatClampNeg)) else 0)))))
def PX4_wets (b : Nat) (a1 : Int32) (M : Mem) : Prop := vp_in a1 8 ∧ ((((M (b + 3) a1.toNatClampNeg) = 1 → vp_in a1 8) ∧ (¬ (M (b + 3) a1.toNatClampNeg) = 1 → (¬ (M (b + 3) a1.toNatClampNeg) = 2 → (((M (b + 3) a1.toNatClampNeg) = 3 → vp_in a1 8 ∧ (vp_in a1 8 ∧ ((((M (b + 6) a1.toNatClampNeg) = (M (b + 5) a1.toNatClampNeg) → vp_in a1 8) ∧ (¬ (M (b + 6) a1.toNatClampNeg) = (M (b + 5) a1.toNatClampNeg) → vp_in a1 8))))) ∧ (¬ (M (b + 3) a1.toNatClampNeg) = 3 → (((M (b + 3) a1.toNatClampNeg) = 4 → vp_in a1 8) ∧ (¬ (M (b + 3) a1.toNatClampNeg) = 4 → ((M (b + 3) a1.toNatClampNeg) = 5 → vp_in a1 8)))))))))
set_option maxRecDepth 100000 in
theorem ctX4_wets (b : Nat) (hb : TB b) (a1 : Int32) (M : Mem) (hp : PX4_wets b a1 M) : CT mtX4_wets 0 [.ref b, .int a1] M (some (.int (mX4_wets b a1 M)), M) := by
  refine CT.of (by decide) rfl (Nat.le_of_ble_eq_true rfl) ?_
  show AWP (GI mtX4_wets 0 M M (mX4_wets b a1 M)) mtX4_wets 0 [(0, .ref b), (1, .int a1)] [] M
  unfold mX4_wets
  unfold PX4_wets at hp
  obtain ⟨hq_1, hp⟩ := hp
  refine r_aload_n MF.bs dX4_wets_0 rfl 0 rfl ?_
  refine r_getR MF.bs dX4_wets_1 (sh_t hb) rfl 2 (by decide) wd_119 rfl ?_
  refine r_iload_n MF.bs dX4_wets_4 rfl 1 rfl ?_
  refine r_iaload MF.bs dX4_wets_5 (sh_t3 hb) hq_1 ?_
  refine r_ite (GI mtX4_wets 0 M M) (fun h_2 => ?_) (fun h_2 => ?_)
  · have hp := hp.1 h_2
    refine r_tsw_in MF.bs (tgt := 40) dX4_wets_6 h_2 (by decide) (by decide) rfl (by decide) ?_
    have hq_3 := hp
    refine r_iconst MF.bs dX4_wets_40 (v := 1) (by decide) ?_
    refine r_aload_n MF.bs dX4_wets_41 rfl 0 rfl ?_
    refine r_getR MF.bs dX4_wets_42 (sh_t hb) rfl 3 (by decide) wd_121 rfl ?_
    refine r_iload_n MF.bs dX4_wets_45 rfl 1 rfl ?_
    refine r_iaload MF.bs dX4_wets_46 (sh_t4 hb) hq_3 ?_
    refine r_iadd MF.bs dX4_wets_47 ?_
    exact r_iret dX4_wets_48 rfl
  · have hp := hp.2 h_2
    refine r_ite (GI mtX4_wets 0 M M) (fun h_4 => ?_) (fun h_4 => ?_)
    · refine r_tsw_in MF.bs (tgt := 49) dX4_wets_6 h_4 (by decide) (by decide) rfl (by decide) ?_
      refine r_iconst MF.bs dX4_wets_49 (v := 1) (by decide) ?_
      exact r_iret dX4_wets_50 rfl
    · have hp := hp h_4
      refine r_ite (GI mtX4_wets 0 M M) (fun h_5 => ?_) (fun h_5 => ?_)
      · have hp := hp.1 h_5
        refine r_tsw_in MF.bs (tgt := 51) dX4_wets_6 h_5 (by decide) (by decide) rfl (by decide) ?_
        obtain ⟨hq_6, hp⟩ := hp
        obtain ⟨hq_7, hp⟩ := hp
        refine r_aload_n MF.bs dX4_wets_51 rfl 0 rfl ?_
        refine r_getR MF.bs dX4_wets_52 (sh_t hb) rfl 5 (by decide) wd_125 rfl ?_
        refine r_iload_n MF.bs dX4_wets_55 rfl 1 rfl ?_
        refine r_iaload MF.bs dX4_wets_56 (sh_t6 hb) hq_6 ?_
        refine r_aload_n MF.bs dX4_wets_57 rfl 0 rfl ?_
        refine r_getR MF.bs dX4_wets_58 (sh_t hb) rfl 4 (by decide) wd_123 rfl ?_
        refine r_iload_n MF.bs dX4_wets_61 rfl 1 rfl ?_
        refine r_iaload MF.bs dX4_wets_62 (sh_t5 hb) hq_7 ?_
        refine r_ite (GI mtX4_wets 0 M M) (fun h_8 => ?_) (fun h_8 => ?_)
        · have hp := hp.1 h_8
          refine r_icmp_ne_f MF.bs (tgt := 79) dX4_wets_63 (by decide) h_8 ?_
          have hq_9 := hp
          refine r_iconst MF.bs dX4_wets_66 (v := 2) (by decide) ?_
          refine r_iconst MF.bs dX4_wets_67 (v := 1) (by decide) ?_
          refine r_aload_n MF.bs dX4_wets_68 rfl 0 rfl ?_
          refine r_getR MF.bs dX4_wets_69 (sh_t hb) rfl 3 (by decide) wd_121 rfl ?_
          refine r_iload_n MF.bs dX4_wets_72 rfl 1 rfl ?_
          refine r_iaload MF.bs dX4_wets_73 (sh_t4 hb) hq_9 ?_
          refine r_iadd MF.bs dX4_wets_74 ?_
          refine r_imul MF.bs dX4_wets_75 ?_
          refine r_goto MF.bs dX4_wets_76 (tgt := 87) (by decide) ?_
          exact r_iret dX4_wets_87 rfl
        · have hp := hp.2 h_8
          refine r_icmp_ne_t MF.bs (tgt := 79) dX4_wets_63 (by decide) h_8 ?_
          have hq_10 := hp
          refine r_iconst MF.bs dX4_wets_79 (v := 1) (by decide) ?_
          refine r_aload_n MF.bs dX4_wets_80 rfl 0 rfl ?_
          refine r_getR MF.bs dX4_wets_81 (sh_t hb) rfl 3 (by decide) wd_121 rfl ?_
          refine r_iload_n MF.bs dX4_wets_84 rfl 1 rfl ?_
          refine r_iaload MF.bs dX4_wets_85 (sh_t4 hb) hq_10 ?_
          refine r_iadd MF.bs dX4_wets_86 ?_
          exact r_iret dX4_wets_87 rfl
      · have hp := hp.2 h_5
        refine r_ite (GI mtX4_wets 0 M M) (fun h_11 => ?_) (fun h_11 => ?_)
        · have hp := hp.1 h_11
          refine r_tsw_in MF.bs (tgt := 88) dX4_wets_6 h_11 (by decide) (by decide) rfl (by decide) ?_
          have hq_12 := hp
          refine r_iconst MF.bs dX4_wets_88 (v := 1) (by decide) ?_
          refine r_aload_n MF.bs dX4_wets_89 rfl 0 rfl ?_
          refine r_getR MF.bs dX4_wets_90 (sh_t hb) rfl 3 (by decide) wd_121 rfl ?_
          refine r_iload_n MF.bs dX4_wets_93 rfl 1 rfl ?_
          refine r_iaload MF.bs dX4_wets_94 (sh_t4 hb) hq_12 ?_
          refine r_iconst MF.bs dX4_wets_95 (v := 3) (by decide) ?_
          refine r_idiv MF.bs dX4_wets_96 (by decide) ?_
          refine r_iadd MF.bs dX4_wets_97 ?_
          exact r_iret dX4_wets_98 rfl
        · have hp := hp.2 h_11
          refine r_ite (GI mtX4_wets 0 M M) (fun h_13 => ?_) (fun h_13 => ?_)
          · have hp := hp h_13
            refine r_tsw_in MF.bs (tgt := 99) dX4_wets_6 h_13 (by decide) (by decide) rfl (by decide) ?_
            have hq_14 := hp
            refine r_aload_n MF.bs dX4_wets_99 rfl 0 rfl ?_
            refine r_getR MF.bs dX4_wets_100 (sh_t hb) rfl 3 (by decide) wd_121 rfl ?_
            refine r_iload_n MF.bs dX4_wets_103 rfl 1 rfl ?_
            refine r_iaload MF.bs dX4_wets_104 (sh_t4 hb) hq_14 ?_
            refine r_ineg MF.bs dX4_wets_105 ?_
            exact r_iret dX4_wets_106 rfl
          · refine r_tsw_out MF.bs (tgt := 107) dX4_wets_6 (by have e0 := lv_neT (a := 1) h_2 (by decide); have e1 := lv_neT (a := 2) h_4 (by decide); have e2 := lv_neT (a := 3) h_5 (by decide); have e3 := lv_neT (a := 4) h_11 (by decide); have e4 := lv_neT (a := 5) h_13 (by decide); omega) (by decide) ?_
            refine r_iconst MF.bs dX4_wets_107 (v := 0) (by decide) ?_
            exact r_iret dX4_wets_108 rfl
abbrev mtX4_turnWind : MT := (RX4, yX4_turnWind, cX4_turnWind, 1, none)
theorem miX4_turnWind : MV mtX4_turnWind 0 := ⟨wd_562, ⟨wd_561, wd_16⟩, wd_80, ⟨by decide, by decide, by decide +kernel⟩, by decide⟩
def mX4_turnWind (b : Nat) (M : Mem) : Mem := (if (M b 7) ≤ 0 then M else (if (M (b + 1) 0) ≤ 0 then M else (if (irem (M b 7) (M (b + 1) 0)) = 0 then (upm M b 8 (irem ((M b 8) + 1) 4)) else M)))
def PX4_turnWind (b : Nat) (M : Mem) : Prop := (¬ (M b 7) ≤ 0 → (¬ (M (b + 1) 0) ≤ 0 → ¬ (M (b + 1) 0) = 0))
set_option maxRecDepth 100000 in
theorem ctX4_turnWind (b : Nat) (hb : TB b) (M : Mem) (hp : PX4_turnWind b M) : CT mtX4_turnWind 0 [.ref b] M (none, mX4_turnWind b M) := by
  refine CT.of (by decide) rfl (Nat.le_of_ble_eq_true rfl) ?_
  show AWP (GV mtX4_turnWind 0 M (mX4_turnWind b M)) mtX4_turnWind 0 [(0, .ref b)] [] M
  unfold mX4_turnWind
  unfold PX4_turnWind at hp
  refine r_aload_n MF.bs dX4_turnWind_0 rfl 0 rfl ?_
  refine r_getI MF.bs dX4_turnWind_1 (sh_t hb) rfl 7 (by decide) wd_130 rfl ?_
  refine r_ite (GV mtX4_turnWind 0 M) (fun h_1 => ?_) (fun h_1 => ?_)
  · refine r_if_le_t MF.bs (tgt := 42) dX4_turnWind_4 (by decide) h_1 ?_
    exact r_vret dX4_turnWind_42 rfl
  · have hp := hp h_1
    refine r_if_le_f MF.bs (tgt := 42) dX4_turnWind_4 (by decide) h_1 ?_
    refine r_aload_n MF.bs dX4_turnWind_7 rfl 0 rfl ?_
    refine r_getR MF.bs dX4_turnWind_8 (sh_t hb) rfl 0 (by decide) wd_113 rfl ?_
    refine r_iconst MF.bs dX4_turnWind_11 (v := 0) (by decide) ?_
    refine r_ialoadL MF.bs dX4_turnWind_12 (sh_t1 hb) (vin_l (by decide) (by decide)) (k9 := 0) (by decide) ?_
    refine r_ite (GV mtX4_turnWind 0 M) (fun h_2 => ?_) (fun h_2 => ?_)
    · refine r_if_le_t MF.bs (tgt := 42) dX4_turnWind_13 (by decide) h_2 ?_
      exact r_vret dX4_turnWind_42 rfl
    · have hp := hp h_2
      refine r_if_le_f MF.bs (tgt := 42) dX4_turnWind_13 (by decide) h_2 ?_
      have hq_3 := hp
      refine r_aload_n MF.bs dX4_turnWind_16 rfl 0 rfl ?_
      refine r_getI MF.bs dX4_turnWind_17 (sh_t hb) rfl 7 (by decide) wd_130 rfl ?_
      refine r_aload_n MF.bs dX4_turnWind_20 rfl 0 rfl ?_
      refine r_getR MF.bs dX4_turnWind_21 (sh_t hb) rfl 0 (by decide) wd_113 rfl ?_
      refine r_iconst MF.bs dX4_turnWind_24 (v := 0) (by decide) ?_
      refine r_ialoadL MF.bs dX4_turnWind_25 (sh_t1 hb) (vin_l (by decide) (by decide)) (k9 := 0) (by decide) ?_
      refine r_irem MF.bs dX4_turnWind_26 hq_3 ?_
      refine r_ite (GV mtX4_turnWind 0 M) (fun h_4 => ?_) (fun h_4 => ?_)
      · refine r_if_ne_f MF.bs (tgt := 42) dX4_turnWind_27 (by decide) h_4 ?_
        refine r_aload_n MF.bs dX4_turnWind_30 rfl 0 rfl ?_
        refine r_aload_n MF.bs dX4_turnWind_31 rfl 0 rfl ?_
        refine r_getI MF.bs dX4_turnWind_32 (sh_t hb) rfl 8 (by decide) wd_132 rfl ?_
        refine r_iconst MF.bs dX4_turnWind_35 (v := 1) (by decide) ?_
        refine r_iadd MF.bs dX4_turnWind_36 ?_
        refine r_iconst MF.bs dX4_turnWind_37 (v := 4) (by decide) ?_
        refine r_irem MF.bs dX4_turnWind_38 (by decide) ?_
        refine r_putI MF.bs dX4_turnWind_39 (sh_t hb) rfl 8 (by decide) wd_132 rfl rfl rfl rfl rfl ?_
        exact r_vret dX4_turnWind_42 rfl
      · refine r_if_ne_t MF.bs (tgt := 42) dX4_turnWind_27 (by decide) h_4 ?_
        exact r_vret dX4_turnWind_42 rfl
abbrev mtX5_held : MT := (RX5, yX5_held, cX5_held, 2, (some .int))
theorem miX5_held : MS mtX5_held 2 := ⟨wd_567, wd_566, wd_79, ⟨by decide, by decide, by decide +kernel⟩, by decide⟩
def mX5_held  (a0 : Int32) (a1 : Int32) : Int32 := (imax 0 (imin a1 a0))
set_option maxRecDepth 100000 in
theorem ctX5_held   (a0 : Int32) (a1 : Int32) (M : Mem) : CT mtX5_held 1 [.int a0, .int a1] M (some (.int (mX5_held a0 a1)), M) := by
  refine CT.of (by decide) rfl (Nat.le_of_ble_eq_true rfl) ?_
  show AWP (GI mtX5_held 1 M M (mX5_held a0 a1)) mtX5_held 0 [(0, .int a0), (1, .int a1)] [] M
  unfold mX5_held
  refine r_iconst MF.bs dX5_held_0 (v := 0) (by decide) ?_
  refine r_iload_n MF.bs dX5_held_1 rfl 1 rfl ?_
  refine r_iload_n MF.bs dX5_held_2 rfl 0 rfl ?_
  refine r_mmin MF.bs (st := [.int 0]) dX5_held_3 wd_568 wd_569 wd_92 wd_570 (Nat.le_of_ble_eq_true rfl) (by decide) ?_
  refine r_mmax MF.bs (st := []) dX5_held_6 wd_571 wd_572 wd_92 wd_573 (Nat.le_of_ble_eq_true rfl) (by decide) ?_
  exact r_iret dX5_held_9 rfl
abbrev mtX4_takeStep : MT := (RX4, yX4_takeStep, cX4_takeStep, 2, none)
theorem miX4_takeStep : MV mtX4_takeStep 0 := ⟨wd_558, ⟨wd_556, wd_557⟩, wd_80, ⟨by decide, by decide, by decide +kernel⟩, by decide⟩
def mX4_takeStep_42 (b : Nat)  : Nat → Int32 → Mem → Mem
  | 0, _, M => M
  | n + 1, v1, M => (if (M b 6) ≤ v1 then (upm M b 7 ((M b 7) + 1)) else (mX4_takeStep_42 b n (v1 + 1) (upm M (b + 2) (M (b + 6) v1.toNatClampNeg).toNatClampNeg (mX5_held ((M (b + 2) (M (b + 6) v1.toNatClampNeg).toNatClampNeg) + (mX4_wets b v1 M)) 99))))
def PX4_takeStep_42 (b : Nat)  : Nat → Int32 → Mem → Prop
  | 0, _, _ => False
  | n + 1, v1, M => (¬ (M b 6) ≤ v1 → vp_in v1 8 ∧ (vp_in v1 8 ∧ (vp_in (M (b + 6) v1.toNatClampNeg) 16 ∧ (PX4_wets b v1 M ∧ (vp_in (M (b + 6) v1.toNatClampNeg) 16 ∧ (PX4_takeStep_42 b n (v1 + 1) (upm M (b + 2) (M (b + 6) v1.toNatClampNeg).toNatClampNeg (mX5_held ((M (b + 2) (M (b + 6) v1.toNatClampNeg).toNatClampNeg) + (mX4_wets b v1 M)) 99))))))))
set_option maxRecDepth 100000 in
theorem cX4_takeStep_42 (b : Nat) (hb : TB b)  (M0 : Mem) : ∀ (n : Nat) (v1 : Int32) (M : Mem), PX4_takeStep_42 b n v1 M → AWP (GV mtX4_takeStep 4 M0 (mX4_takeStep_42 b n v1 M)) mtX4_takeStep 42 [(0, .ref b), (1, .int v1)] [] M := by
  intro n
  induction n with
  | zero =>
    intro v1 M hp
    exact hp.elim
  | succ n ih =>
    intro v1 M hp
    rw [mX4_takeStep_42]
    rw [PX4_takeStep_42] at hp
    refine r_iload_n MF.bs dX4_takeStep_42 rfl 1 rfl ?_
    refine r_aload_n MF.bs dX4_takeStep_43 rfl 0 rfl ?_
    refine r_getI MF.bs dX4_takeStep_44 (sh_t hb) rfl 6 (by decide) wd_127 rfl ?_
    refine r_ite (GV mtX4_takeStep 4 M0) (fun h_6 => ?_) (fun h_6 => ?_)
    · refine r_icmp_ge_t MF.bs (tgt := 89) dX4_takeStep_47 (by decide) h_6 ?_
      refine r_aload_n MF.bs dX4_takeStep_89 rfl 0 rfl ?_
      refine r_dup MF.bs dX4_takeStep_90 rfl ?_
      refine r_getI MF.bs dX4_takeStep_91 (sh_t hb) rfl 7 (by decide) wd_130 rfl ?_
      refine r_iconst MF.bs dX4_takeStep_94 (v := 1) (by decide) ?_
      refine r_iadd MF.bs dX4_takeStep_95 ?_
      refine r_putI MF.bs dX4_takeStep_96 (sh_t hb) rfl 7 (by decide) wd_130 rfl rfl rfl rfl rfl ?_
      exact r_vret dX4_takeStep_99 rfl
    · have hp := hp h_6
      refine r_icmp_ge_f MF.bs (tgt := 89) dX4_takeStep_47 (by decide) h_6 ?_
      obtain ⟨hq_7, hp⟩ := hp
      obtain ⟨hq_8, hp⟩ := hp
      obtain ⟨hq_9, hp⟩ := hp
      obtain ⟨hq_10, hp⟩ := hp
      obtain ⟨hq_11, hp⟩ := hp
      refine r_aload_n MF.bs dX4_takeStep_50 rfl 0 rfl ?_
      refine r_getR MF.bs dX4_takeStep_51 (sh_t hb) rfl 1 (by decide) wd_116 rfl ?_
      refine r_aload_n MF.bs dX4_takeStep_54 rfl 0 rfl ?_
      refine r_getR MF.bs dX4_takeStep_55 (sh_t hb) rfl 5 (by decide) wd_125 rfl ?_
      refine r_iload_n MF.bs dX4_takeStep_58 rfl 1 rfl ?_
      refine r_iaload MF.bs dX4_takeStep_59 (sh_t6 hb) hq_7 ?_
      refine r_aload_n MF.bs dX4_takeStep_60 rfl 0 rfl ?_
      refine r_getR MF.bs dX4_takeStep_61 (sh_t hb) rfl 1 (by decide) wd_116 rfl ?_
      refine r_aload_n MF.bs dX4_takeStep_64 rfl 0 rfl ?_
      refine r_getR MF.bs dX4_takeStep_65 (sh_t hb) rfl 5 (by decide) wd_125 rfl ?_
      refine r_iload_n MF.bs dX4_takeStep_68 rfl 1 rfl ?_
      refine r_iaload MF.bs dX4_takeStep_69 (sh_t6 hb) hq_8 ?_
      refine r_iaload MF.bs dX4_takeStep_70 (sh_t2 hb) hq_9 ?_
      refine r_aload_n MF.bs dX4_takeStep_71 rfl 0 rfl ?_
      refine r_iload_n MF.bs dX4_takeStep_72 rfl 1 rfl ?_
      refine r_callV_v MF.bs (st := [.int (M (b + 2) (M (b + 6) v1.toNatClampNeg).toNatClampNeg), .int (M (b + 6) v1.toNatClampNeg), .ref (b + 2)]) dX4_takeStep_73 (ctX4_wets b hb v1 M hq_10) miX4_wets wd_564 rfl (by decide) rfl (Nat.le_of_ble_eq_true rfl) (sh_t hb) rfl rfl ?_
      refine r_iadd MF.bs dX4_takeStep_76 ?_
      refine r_bipush MF.bs dX4_takeStep_77 (v := 99) (by decide) ?_
      refine r_callSN_v MF.bs (st := [.int (M (b + 6) v1.toNatClampNeg), .ref (b + 2)]) dX4_takeStep_79 (ctX5_held ((M (b + 2) (M (b + 6) v1.toNatClampNeg).toNatClampNeg) + (mX4_wets b v1 M)) 99 M) miX5_held nw_11 rfl (by decide) rfl (Nat.le_of_ble_eq_true rfl) ?_
      refine r_iastore MF.bs dX4_takeStep_82 (sh_t2 hb) hq_11 ?_
      refine r_iinc MF.bs (v := (v1 + 1)) (lv' := [(1, .int (v1 + 1)), (0, .ref b)]) dX4_takeStep_83 1 rfl rfl (by decide) rfl ?_
      refine r_goto MF.bs dX4_takeStep_86 (tgt := 42) (by decide) ?_
      refine r_sub [(0, .ref b), (1, .int (v1 + 1))] [1, 0] rfl ?_
      exact ih (v1 + 1) (upm M (b + 2) (M (b + 6) v1.toNatClampNeg).toNatClampNeg (mX5_held ((M (b + 2) (M (b + 6) v1.toNatClampNeg).toNatClampNeg) + (mX4_wets b v1 M)) 99)) hp
def mX4_takeStep_6 (b : Nat)  : Nat → Int32 → Mem → Mem
  | 0, _, M => M
  | n + 1, v1, M => (if (M b 6) ≤ v1 then (mX4_takeStep_42 b 400 0 M) else (mX4_takeStep_6 b n (v1 + 1) (upm M (b + 6) v1.toNatClampNeg (mX5_nextHouse (M (b + 6) v1.toNatClampNeg) (mX4_goes b v1 M)))))
def PX4_takeStep_6 (b : Nat)  : Nat → Int32 → Mem → Prop
  | 0, _, _ => False
  | n + 1, v1, M => (((M b 6) ≤ v1 → PX4_takeStep_42 b 400 0 M) ∧ (¬ (M b 6) ≤ v1 → vp_in v1 8 ∧ (PX4_goes b v1 M ∧ (vp_in v1 8 ∧ (PX4_takeStep_6 b n (v1 + 1) (upm M (b + 6) v1.toNatClampNeg (mX5_nextHouse (M (b + 6) v1.toNatClampNeg) (mX4_goes b v1 M))))))))
set_option maxRecDepth 100000 in
theorem cX4_takeStep_6 (b : Nat) (hb : TB b)  (M0 : Mem) : ∀ (n : Nat) (v1 : Int32) (M : Mem), PX4_takeStep_6 b n v1 M → AWP (GV mtX4_takeStep 4 M0 (mX4_takeStep_6 b n v1 M)) mtX4_takeStep 6 [(0, .ref b), (1, .int v1)] [] M := by
  intro n
  induction n with
  | zero =>
    intro v1 M hp
    exact hp.elim
  | succ n ih =>
    intro v1 M hp
    rw [mX4_takeStep_6]
    rw [PX4_takeStep_6] at hp
    refine r_iload_n MF.bs dX4_takeStep_6 rfl 1 rfl ?_
    refine r_aload_n MF.bs dX4_takeStep_7 rfl 0 rfl ?_
    refine r_getI MF.bs dX4_takeStep_8 (sh_t hb) rfl 6 (by decide) wd_127 rfl ?_
    refine r_ite (GV mtX4_takeStep 4 M0) (fun h_2 => ?_) (fun h_2 => ?_)
    · have hp := hp.1 h_2
      refine r_icmp_ge_t MF.bs (tgt := 40) dX4_takeStep_11 (by decide) h_2 ?_
      refine r_iconst MF.bs dX4_takeStep_40 (v := 0) (by decide) ?_
      refine r_istore_n MF.bs (lv' := [(1, .int 0), (0, .ref b)]) dX4_takeStep_41 rfl (by decide) rfl ?_
      refine r_sub [(0, .ref b), (1, .int 0)] [1, 0] rfl ?_
      exact cX4_takeStep_42 b hb M0 400 0 M hp
    · have hp := hp.2 h_2
      refine r_icmp_ge_f MF.bs (tgt := 40) dX4_takeStep_11 (by decide) h_2 ?_
      obtain ⟨hq_3, hp⟩ := hp
      obtain ⟨hq_4, hp⟩ := hp
      obtain ⟨hq_5, hp⟩ := hp
      refine r_aload_n MF.bs dX4_takeStep_14 rfl 0 rfl ?_
      refine r_getR MF.bs dX4_takeStep_15 (sh_t hb) rfl 5 (by decide) wd_125 rfl ?_
      refine r_iload_n MF.bs dX4_takeStep_18 rfl 1 rfl ?_
      refine r_aload_n MF.bs dX4_takeStep_19 rfl 0 rfl ?_
      refine r_getR MF.bs dX4_takeStep_20 (sh_t hb) rfl 5 (by decide) wd_125 rfl ?_
      refine r_iload_n MF.bs dX4_takeStep_23 rfl 1 rfl ?_
      refine r_iaload MF.bs dX4_takeStep_24 (sh_t6 hb) hq_3 ?_
      refine r_aload_n MF.bs dX4_takeStep_25 rfl 0 rfl ?_
      refine r_iload_n MF.bs dX4_takeStep_26 rfl 1 rfl ?_
      refine r_callV_v MF.bs (st := [.int (M (b + 6) v1.toNatClampNeg), .int v1, .ref (b + 6)]) dX4_takeStep_27 (ctX4_goes b hb v1 M hq_4) miX4_goes wd_563 rfl (by decide) rfl (Nat.le_of_ble_eq_true rfl) (sh_t hb) rfl rfl ?_
      refine r_callSN_v MF.bs (st := [.int v1, .ref (b + 6)]) dX4_takeStep_30 (ctX5_nextHouse (M (b + 6) v1.toNatClampNeg) (mX4_goes b v1 M) M) miX5_nextHouse nw_10 rfl (by decide) rfl (Nat.le_of_ble_eq_true rfl) ?_
      refine r_iastore MF.bs dX4_takeStep_33 (sh_t6 hb) hq_5 ?_
      refine r_iinc MF.bs (v := (v1 + 1)) (lv' := [(1, .int (v1 + 1)), (0, .ref b)]) dX4_takeStep_34 1 rfl rfl (by decide) rfl ?_
      refine r_goto MF.bs dX4_takeStep_37 (tgt := 6) (by decide) ?_
      refine r_sub [(0, .ref b), (1, .int (v1 + 1))] [1, 0] rfl ?_
      exact ih (v1 + 1) (upm M (b + 6) v1.toNatClampNeg (mX5_nextHouse (M (b + 6) v1.toNatClampNeg) (mX4_goes b v1 M))) hp
def mX4_takeStep_4 (b : Nat)  (M : Mem) : Mem := (mX4_takeStep_6 b 400 0 M)
def PX4_takeStep_4 (b : Nat)  (M : Mem) : Prop := PX4_takeStep_6 b 400 0 M
set_option maxRecDepth 100000 in
theorem cX4_takeStep_4 (b : Nat) (hb : TB b)  (M0 : Mem) (M : Mem) (hp : PX4_takeStep_4 b M) : AWP (GV mtX4_takeStep 4 M0 (mX4_takeStep_4 b M)) mtX4_takeStep 4 [(0, .ref b)] [] M := by
  unfold mX4_takeStep_4
  unfold PX4_takeStep_4 at hp
  refine r_iconst MF.bs dX4_takeStep_4 (v := 0) (by decide) ?_
  refine r_istore_n MF.bs (lv' := [(1, .int 0), (0, .ref b)]) dX4_takeStep_5 rfl (by decide) rfl ?_
  refine r_sub [(0, .ref b), (1, .int 0)] [1, 0] rfl ?_
  exact cX4_takeStep_6 b hb M0 400 0 M hp
def mX4_takeStep (b : Nat) (M : Mem) : Mem := (mX4_takeStep_4 b (mX4_turnWind b M))
def PX4_takeStep (b : Nat) (M : Mem) : Prop := PX4_turnWind b M ∧ (PX4_takeStep_4 b (mX4_turnWind b M))
set_option maxRecDepth 100000 in
theorem ctX4_takeStep (b : Nat) (hb : TB b) (M : Mem) (hp : PX4_takeStep b M) : CT mtX4_takeStep 4 [.ref b] M (none, mX4_takeStep b M) := by
  refine CT.of (by decide) rfl (Nat.le_of_ble_eq_true rfl) ?_
  show AWP (GV mtX4_takeStep 4 M (mX4_takeStep b M)) mtX4_takeStep 0 [(0, .ref b)] [] M
  unfold mX4_takeStep
  unfold PX4_takeStep at hp
  obtain ⟨hq_1, hp⟩ := hp
  refine r_aload_n MF.bs dX4_takeStep_0 rfl 0 rfl ?_
  refine r_callV_n MF.bs (st := []) dX4_takeStep_1 (ctX4_turnWind b hb M hq_1) miX4_turnWind wd_559 rfl (by decide) rfl (Nat.le_of_ble_eq_true rfl) (sh_t hb) rfl rfl ?_
  exact cX4_takeStep_4 b hb M (mX4_turnWind b M) hp
abbrev mtX4_draw : MT := (RX4, yX4_draw, cX4_draw, 1, (some .int))
theorem miX4_draw : MV mtX4_draw 0 := ⟨wd_599, ⟨wd_598, wd_17⟩, wd_80, ⟨by decide, by decide, by decide +kernel⟩, by decide⟩
def mX4_draw (b : Nat) (M : Mem) : Int32 × Mem := ((((((upm M b 9 (((M b 9) * 1103515245) + 12345)) b 9) : Int32).toUInt32 >>> ((16 : Int32).toUInt32 &&& Int32.toUInt32 31)).toInt32), (upm M b 9 (((M b 9) * 1103515245) + 12345)))
set_option maxRecDepth 100000 in
theorem ctX4_draw (b : Nat) (hb : TB b) (M : Mem) : CT mtX4_draw 0 [.ref b] M (some (.int ((mX4_draw b M).1)), (mX4_draw b M).2) := by
  refine CT.of (by decide) rfl (Nat.le_of_ble_eq_true rfl) ?_
  show AWP (GIM mtX4_draw 0 M (mX4_draw b M)) mtX4_draw 0 [(0, .ref b)] [] M
  unfold mX4_draw
  refine r_aload_n MF.bs dX4_draw_0 rfl 0 rfl ?_
  refine r_aload_n MF.bs dX4_draw_1 rfl 0 rfl ?_
  refine r_getI MF.bs dX4_draw_2 (sh_t hb) rfl 9 (by decide) wd_135 rfl ?_
  refine r_ldc MF.bs (v := 1103515245) dX4_draw_5 wd_600 ?_
  refine r_imul MF.bs dX4_draw_7 ?_
  refine r_sipush MF.bs dX4_draw_8 (v := 12345) (by decide) ?_
  refine r_iadd MF.bs dX4_draw_11 ?_
  refine r_putI MF.bs dX4_draw_12 (sh_t hb) rfl 9 (by decide) wd_135 rfl rfl rfl rfl rfl ?_
  refine r_aload_n MF.bs dX4_draw_15 rfl 0 rfl ?_
  refine r_getI MF.bs dX4_draw_16 (sh_t hb) rfl 9 (by decide) wd_135 rfl ?_
  refine r_bipush MF.bs dX4_draw_19 (v := 16) (by decide) ?_
  refine r_iushr MF.bs dX4_draw_21 ?_
  exact r_iret dX4_draw_22 rfl
abbrev mtX4_takeStepByDraws : MT := (RX4, yX4_takeStepByDraws, cX4_takeStepByDraws, 1, none)
theorem miX4_takeStepByDraws : MV mtX4_takeStepByDraws 0 := ⟨wd_595, ⟨wd_593, wd_594⟩, wd_80, ⟨by decide, by decide, by decide +kernel⟩, by decide⟩
def mX4_takeStepByDraws_26 (b : Nat)  (M : Mem) : Mem := (mX4_takeStep b M)
def PX4_takeStepByDraws_26 (b : Nat)  (M : Mem) : Prop := PX4_takeStep b M
set_option maxRecDepth 100000 in
theorem cX4_takeStepByDraws_26 (b : Nat) (hb : TB b)  (M0 : Mem) (M : Mem) (hp : PX4_takeStepByDraws_26 b M) : AWP (GV mtX4_takeStepByDraws 5 M0 (mX4_takeStepByDraws_26 b M)) mtX4_takeStepByDraws 26 [(0, .ref b)] [] M := by
  unfold mX4_takeStepByDraws_26
  unfold PX4_takeStepByDraws_26 at hp
  have hq_2 := hp
  refine r_aload_n MF.bs dX4_takeStepByDraws_26 rfl 0 rfl ?_
  refine r_callV_n MF.bs (st := []) dX4_takeStepByDraws_27 (ctX4_takeStep b hb M hq_2) miX4_takeStep wd_601 rfl (by decide) rfl (Nat.le_of_ble_eq_true rfl) (sh_t hb) rfl rfl ?_
  exact r_vret dX4_takeStepByDraws_30 rfl
def mX4_takeStepByDraws_21 (b : Nat)  (k0 : Int32) (M : Mem) : Mem := (mX4_takeStepByDraws_26 b (upm M b 8 (irem k0 4)))
def PX4_takeStepByDraws_21 (b : Nat)  (k0 : Int32) (M : Mem) : Prop := PX4_takeStepByDraws_26 b (upm M b 8 (irem k0 4))
set_option maxRecDepth 100000 in
theorem cX4_takeStepByDraws_21 (b : Nat) (hb : TB b)  (M0 : Mem) (k0 : Int32) (M : Mem) (hp : PX4_takeStepByDraws_21 b k0 M) : AWP (GV mtX4_takeStepByDraws 5 M0 (mX4_takeStepByDraws_21 b k0 M)) mtX4_takeStepByDraws 21 [(0, .ref b)] [.int k0, .ref b] M := by
  unfold mX4_takeStepByDraws_21
  unfold PX4_takeStepByDraws_21 at hp
  refine r_iconst MF.bs dX4_takeStepByDraws_21 (v := 4) (by decide) ?_
  refine r_irem MF.bs dX4_takeStepByDraws_22 (by decide) ?_
  refine r_putI MF.bs dX4_takeStepByDraws_23 (sh_t hb) rfl 8 (by decide) wd_132 rfl rfl rfl rfl rfl ?_
  exact cX4_takeStepByDraws_26 b hb M0 (upm M b 8 (irem k0 4)) hp
def mX4_takeStepByDraws_4 (b : Nat)  (k0 : Int32) (M : Mem) : Mem := (if (M (b + 1) 3) ≤ (irem k0 100) then (mX4_takeStepByDraws_26 b M) else (mX4_takeStepByDraws_21 b ((mX4_draw b M).1) ((mX4_draw b M).2)))
def PX4_takeStepByDraws_4 (b : Nat)  (k0 : Int32) (M : Mem) : Prop := (((M (b + 1) 3) ≤ (irem k0 100) → PX4_takeStepByDraws_26 b M) ∧ (¬ (M (b + 1) 3) ≤ (irem k0 100) → PX4_takeStepByDraws_21 b ((mX4_draw b M).1) ((mX4_draw b M).2)))
set_option maxRecDepth 100000 in
theorem cX4_takeStepByDraws_4 (b : Nat) (hb : TB b)  (M0 : Mem) (k0 : Int32) (M : Mem) (hp : PX4_takeStepByDraws_4 b k0 M) : AWP (GV mtX4_takeStepByDraws 5 M0 (mX4_takeStepByDraws_4 b k0 M)) mtX4_takeStepByDraws 4 [(0, .ref b)] [.int k0] M := by
  unfold mX4_takeStepByDraws_4
  unfold PX4_takeStepByDraws_4 at hp
  refine r_bipush MF.bs dX4_takeStepByDraws_4 (v := 100) (by decide) ?_
  refine r_irem MF.bs dX4_takeStepByDraws_6 (by decide) ?_
  refine r_aload_n MF.bs dX4_takeStepByDraws_7 rfl 0 rfl ?_
  refine r_getR MF.bs dX4_takeStepByDraws_8 (sh_t hb) rfl 0 (by decide) wd_113 rfl ?_
  refine r_iconst MF.bs dX4_takeStepByDraws_11 (v := 3) (by decide) ?_
  refine r_ialoadL MF.bs dX4_takeStepByDraws_12 (sh_t1 hb) (vin_l (by decide) (by decide)) (k9 := 3) (by decide) ?_
  refine r_ite (GV mtX4_takeStepByDraws 5 M0) (fun h_1 => ?_) (fun h_1 => ?_)
  · have hp := hp.1 h_1
    refine r_icmp_ge_t MF.bs (tgt := 26) dX4_takeStepByDraws_13 (by decide) h_1 ?_
    exact cX4_takeStepByDraws_26 b hb M0 M hp
  · have hp := hp.2 h_1
    refine r_icmp_ge_f MF.bs (tgt := 26) dX4_takeStepByDraws_13 (by decide) h_1 ?_
    refine r_aload_n MF.bs dX4_takeStepByDraws_16 rfl 0 rfl ?_
    refine r_aload_n MF.bs dX4_takeStepByDraws_17 rfl 0 rfl ?_
    refine r_callV_v MF.bs (st := [.ref b]) dX4_takeStepByDraws_18 (ctX4_draw b hb M) miX4_draw wd_596 rfl (by decide) rfl (Nat.le_of_ble_eq_true rfl) (sh_t hb) rfl rfl ?_
    exact cX4_takeStepByDraws_21 b hb M0 ((mX4_draw b M).1) ((mX4_draw b M).2) hp
def mX4_takeStepByDraws (b : Nat) (M : Mem) : Mem := (mX4_takeStepByDraws_4 b ((mX4_draw b M).1) ((mX4_draw b M).2))
def PX4_takeStepByDraws (b : Nat) (M : Mem) : Prop := PX4_takeStepByDraws_4 b ((mX4_draw b M).1) ((mX4_draw b M).2)
set_option maxRecDepth 100000 in
theorem ctX4_takeStepByDraws (b : Nat) (hb : TB b) (M : Mem) (hp : PX4_takeStepByDraws b M) : CT mtX4_takeStepByDraws 5 [.ref b] M (none, mX4_takeStepByDraws b M) := by
  refine CT.of (by decide) rfl (Nat.le_of_ble_eq_true rfl) ?_
  show AWP (GV mtX4_takeStepByDraws 5 M (mX4_takeStepByDraws b M)) mtX4_takeStepByDraws 0 [(0, .ref b)] [] M
  unfold mX4_takeStepByDraws
  unfold PX4_takeStepByDraws at hp
  refine r_aload_n MF.bs dX4_takeStepByDraws_0 rfl 0 rfl ?_
  refine r_callV_v MF.bs (st := []) dX4_takeStepByDraws_1 (ctX4_draw b hb M) miX4_draw wd_596 rfl (by decide) rfl (Nat.le_of_ble_eq_true rfl) (sh_t hb) rfl rfl ?_
  exact cX4_takeStepByDraws_4 b hb M ((mX4_draw b M).1) ((mX4_draw b M).2) hp
abbrev mtX4_walk : MT := (RX4, yX4_walk, cX4_walk, 5, none)
theorem miX4_walk : MV mtX4_walk 3 := ⟨wd_638, ⟨wd_636, wd_637⟩, wd_80, ⟨by decide, by decide, by decide +kernel⟩, by decide⟩
def mX4_walk_29 (b : Nat) (p3 : Nat) (n3 : Nat)  (kf12 : Int32 → Int32 → Int32 → Mem → Mem) (v1 : Int32) (v2 : Int32) (v4 : Int32) (M : Mem) : Mem := (kf12 v1 v2 (v4 + 1) (upm (upm (upm M (b + 6) v1.toNatClampNeg (mX5_nextHouse (M (b + 6) v1.toNatClampNeg) (mX4_goes b v1 M))) b 7 (((upm M (b + 6) v1.toNatClampNeg (mX5_nextHouse (M (b + 6) v1.toNatClampNeg) (mX4_goes b v1 M))) b 7) + 1)) p3 v4.toNatClampNeg ((upm (upm M (b + 6) v1.toNatClampNeg (mX5_nextHouse (M (b + 6) v1.toNatClampNeg) (mX4_goes b v1 M))) b 7 (((upm M (b + 6) v1.toNatClampNeg (mX5_nextHouse (M (b + 6) v1.toNatClampNeg) (mX4_goes b v1 M))) b 7) + 1)) (b + 6) v1.toNatClampNeg)))
def PX4_walk_29 (b : Nat) (p3 : Nat) (n3 : Nat)  (kP12 : Int32 → Int32 → Int32 → Mem → Prop) (v1 : Int32) (v2 : Int32) (v4 : Int32) (M : Mem) : Prop := vp_in v1 8 ∧ (PX4_goes b v1 M ∧ (vp_in v1 8 ∧ (vp_in v1 8 ∧ (vp_in v4 n3 ∧ (kP12 v1 v2 (v4 + 1) (upm (upm (upm M (b + 6) v1.toNatClampNeg (mX5_nextHouse (M (b + 6) v1.toNatClampNeg) (mX4_goes b v1 M))) b 7 (((upm M (b + 6) v1.toNatClampNeg (mX5_nextHouse (M (b + 6) v1.toNatClampNeg) (mX4_goes b v1 M))) b 7) + 1)) p3 v4.toNatClampNeg ((upm (upm M (b + 6) v1.toNatClampNeg (mX5_nextHouse (M (b + 6) v1.toNatClampNeg) (mX4_goes b v1 M))) b 7 (((upm M (b + 6) v1.toNatClampNeg (mX5_nextHouse (M (b + 6) v1.toNatClampNeg) (mX4_goes b v1 M))) b 7) + 1)) (b + 6) v1.toNatClampNeg)))))))
set_option maxRecDepth 100000 in
theorem cX4_walk_29 (b : Nat) (p3 : Nat) (n3 : Nat) (hb : TB b) (h3 : SH[p3]? = some (.inr (.inl n3)))  (M0 : Mem) (kf12 : Int32 → Int32 → Int32 → Mem → Mem) (kP12 : Int32 → Int32 → Int32 → Mem → Prop) (hk12 : ∀ (v1 : Int32) (v2 : Int32) (v4 : Int32) (M : Mem), kP12 v1 v2 v4 M → AWP (GV mtX4_walk 4 M0 (kf12 v1 v2 v4 M)) mtX4_walk 12 [(0, .ref b), (1, .int v1), (2, .int v2), (3, .ref p3), (4, .int v4)] [] M) (v1 : Int32) (v2 : Int32) (v4 : Int32) (M : Mem) (hp : PX4_walk_29 b p3 n3 kP12 v1 v2 v4 M) : AWP (GV mtX4_walk 4 M0 (mX4_walk_29 b p3 n3 kf12 v1 v2 v4 M)) mtX4_walk 29 [(0, .ref b), (1, .int v1), (2, .int v2), (3, .ref p3), (4, .int v4)] [] M := by
  unfold mX4_walk_29
  unfold PX4_walk_29 at hp
  obtain ⟨hq_6, hp⟩ := hp
  obtain ⟨hq_7, hp⟩ := hp
  obtain ⟨hq_8, hp⟩ := hp
  obtain ⟨hq_9, hp⟩ := hp
  obtain ⟨hq_10, hp⟩ := hp
  refine r_aload_n MF.bs dX4_walk_29 rfl 0 rfl ?_
  refine r_getR MF.bs dX4_walk_30 (sh_t hb) rfl 5 (by decide) wd_125 rfl ?_
  refine r_iload_n MF.bs dX4_walk_33 rfl 1 rfl ?_
  refine r_aload_n MF.bs dX4_walk_34 rfl 0 rfl ?_
  refine r_getR MF.bs dX4_walk_35 (sh_t hb) rfl 5 (by decide) wd_125 rfl ?_
  refine r_iload_n MF.bs dX4_walk_38 rfl 1 rfl ?_
  refine r_iaload MF.bs dX4_walk_39 (sh_t6 hb) hq_6 ?_
  refine r_aload_n MF.bs dX4_walk_40 rfl 0 rfl ?_
  refine r_iload_n MF.bs dX4_walk_41 rfl 1 rfl ?_
  refine r_callV_v MF.bs (st := [.int (M (b + 6) v1.toNatClampNeg), .int v1, .ref (b + 6)]) dX4_walk_42 (ctX4_goes b hb v1 M hq_7) miX4_goes wd_563 rfl (by decide) rfl (Nat.le_of_ble_eq_true rfl) (sh_t hb) rfl rfl ?_
  refine r_callSN_v MF.bs (st := [.int v1, .ref (b + 6)]) dX4_walk_45 (ctX5_nextHouse (M (b + 6) v1.toNatClampNeg) (mX4_goes b v1 M) M) miX5_nextHouse nw_10 rfl (by decide) rfl (Nat.le_of_ble_eq_true rfl) ?_
  refine r_iastore MF.bs dX4_walk_48 (sh_t6 hb) hq_8 ?_
  refine r_aload_n MF.bs dX4_walk_49 rfl 0 rfl ?_
  refine r_dup MF.bs dX4_walk_50 rfl ?_
  refine r_getI MF.bs dX4_walk_51 (sh_t hb) rfl 7 (by decide) wd_130 rfl ?_
  refine r_iconst MF.bs dX4_walk_54 (v := 1) (by decide) ?_
  refine r_iadd MF.bs dX4_walk_55 ?_
  refine r_putI MF.bs dX4_walk_56 (sh_t hb) rfl 7 (by decide) wd_130 rfl rfl rfl rfl rfl ?_
  refine r_aload_n MF.bs dX4_walk_59 rfl 3 rfl ?_
  refine r_iload MF.bs dX4_walk_60 4 rfl ?_
  refine r_aload_n MF.bs dX4_walk_62 rfl 0 rfl ?_
  refine r_getR MF.bs dX4_walk_63 (sh_t hb) rfl 5 (by decide) wd_125 rfl ?_
  refine r_iload_n MF.bs dX4_walk_66 rfl 1 rfl ?_
  refine r_iaload MF.bs dX4_walk_67 (sh_t6 hb) hq_9 ?_
  refine r_iastore MF.bs dX4_walk_68 h3 hq_10 ?_
  refine r_iinc MF.bs (v := (v4 + 1)) (lv' := [(4, .int (v4 + 1)), (0, .ref b), (1, .int v1), (2, .int v2), (3, .ref p3)]) dX4_walk_69 4 rfl rfl (by decide) rfl ?_
  refine r_goto MF.bs dX4_walk_72 (tgt := 12) (by decide) ?_
  refine r_sub [(0, .ref b), (1, .int v1), (2, .int v2), (3, .ref p3), (4, .int (v4 + 1))] [1, 2, 3, 4, 0] rfl ?_
  exact hk12 v1 v2 (v4 + 1) (upm (upm (upm M (b + 6) v1.toNatClampNeg (mX5_nextHouse (M (b + 6) v1.toNatClampNeg) (mX4_goes b v1 M))) b 7 (((upm M (b + 6) v1.toNatClampNeg (mX5_nextHouse (M (b + 6) v1.toNatClampNeg) (mX4_goes b v1 M))) b 7) + 1)) p3 v4.toNatClampNeg ((upm (upm M (b + 6) v1.toNatClampNeg (mX5_nextHouse (M (b + 6) v1.toNatClampNeg) (mX4_goes b v1 M))) b 7 (((upm M (b + 6) v1.toNatClampNeg (mX5_nextHouse (M (b + 6) v1.toNatClampNeg) (mX4_goes b v1 M))) b 7) + 1)) (b + 6) v1.toNatClampNeg)) hp
def mX4_walk_12 (b : Nat) (p3 : Nat) (n3 : Nat)  : Nat → Int32 → Int32 → Int32 → Mem → Mem
  | 0, _, _, _, M => M
  | n + 1, v1, v2, v4, M => (if v2 < v4 then M else (if (nI n3) ≤ v4 then M else (mX4_walk_29 b p3 n3 (mX4_walk_12 b p3 n3 n) v1 v2 v4 (mX4_turnWind b M))))
def PX4_walk_12 (b : Nat) (p3 : Nat) (n3 : Nat)  : Nat → Int32 → Int32 → Int32 → Mem → Prop
  | 0, _, _, _, _ => False
  | n + 1, v1, v2, v4, M => (¬ v2 < v4 → (¬ (nI n3) ≤ v4 → PX4_turnWind b M ∧ (PX4_walk_29 b p3 n3 (PX4_walk_12 b p3 n3 n) v1 v2 v4 (mX4_turnWind b M))))
set_option maxRecDepth 100000 in
theorem cX4_walk_12 (b : Nat) (p3 : Nat) (n3 : Nat) (hb : TB b) (h3 : SH[p3]? = some (.inr (.inl n3)))  (M0 : Mem) : ∀ (n : Nat) (v1 : Int32) (v2 : Int32) (v4 : Int32) (M : Mem), PX4_walk_12 b p3 n3 n v1 v2 v4 M → AWP (GV mtX4_walk 4 M0 (mX4_walk_12 b p3 n3 n v1 v2 v4 M)) mtX4_walk 12 [(0, .ref b), (1, .int v1), (2, .int v2), (3, .ref p3), (4, .int v4)] [] M := by
  intro n
  induction n with
  | zero =>
    intro v1 v2 v4 M hp
    exact hp.elim
  | succ n ih =>
    intro v1 v2 v4 M hp
    rw [mX4_walk_12]
    rw [PX4_walk_12] at hp
    refine r_iload MF.bs dX4_walk_12 4 rfl ?_
    refine r_iload_n MF.bs dX4_walk_14 rfl 2 rfl ?_
    refine r_ite (GV mtX4_walk 4 M0) (fun h_3 => ?_) (fun h_3 => ?_)
    · refine r_icmp_gt_t MF.bs (tgt := 75) dX4_walk_15 (by decide) h_3 ?_
      exact r_vret dX4_walk_75 rfl
    · have hp := hp h_3
      refine r_icmp_gt_f MF.bs (tgt := 75) dX4_walk_15 (by decide) h_3 ?_
      refine r_iload MF.bs dX4_walk_18 4 rfl ?_
      refine r_aload_n MF.bs dX4_walk_20 rfl 3 rfl ?_
      refine r_alen MF.bs dX4_walk_21 (v := nI n3) h3 rfl ?_
      refine r_ite (GV mtX4_walk 4 M0) (fun h_4 => ?_) (fun h_4 => ?_)
      · refine r_icmp_ge_t MF.bs (tgt := 75) dX4_walk_22 (by decide) h_4 ?_
        exact r_vret dX4_walk_75 rfl
      · have hp := hp h_4
        refine r_icmp_ge_f MF.bs (tgt := 75) dX4_walk_22 (by decide) h_4 ?_
        obtain ⟨hq_5, hp⟩ := hp
        refine r_aload_n MF.bs dX4_walk_25 rfl 0 rfl ?_
        refine r_callV_n MF.bs (st := []) dX4_walk_26 (ctX4_turnWind b hb M hq_5) miX4_turnWind wd_559 rfl (by decide) rfl (Nat.le_of_ble_eq_true rfl) (sh_t hb) rfl rfl ?_
        exact cX4_walk_29 b p3 n3 hb h3 M0 (mX4_walk_12 b p3 n3 n) (PX4_walk_12 b p3 n3 n) ih v1 v2 v4 (mX4_turnWind b M) hp
def mX4_walk (b : Nat) (p3 : Nat) (n3 : Nat) (a1 : Int32) (a2 : Int32) (M : Mem) : Mem := (mX4_walk_12 b p3 n3 400 a1 a2 1 (upm M p3 0 (M (b + 6) a1.toNatClampNeg)))
def PX4_walk (b : Nat) (p3 : Nat) (n3 : Nat) (a1 : Int32) (a2 : Int32) (M : Mem) : Prop := vp_in a1 8 ∧ (vp_in 0 n3 ∧ (PX4_walk_12 b p3 n3 400 a1 a2 1 (upm M p3 0 (M (b + 6) a1.toNatClampNeg))))
set_option maxRecDepth 100000 in
theorem ctX4_walk (b : Nat) (p3 : Nat) (n3 : Nat) (hb : TB b) (h3 : SH[p3]? = some (.inr (.inl n3))) (a1 : Int32) (a2 : Int32) (M : Mem) (hp : PX4_walk b p3 n3 a1 a2 M) : CT mtX4_walk 4 [.ref b, .int a1, .int a2, .ref p3] M (none, mX4_walk b p3 n3 a1 a2 M) := by
  refine CT.of (by decide) rfl (Nat.le_of_ble_eq_true rfl) ?_
  show AWP (GV mtX4_walk 4 M (mX4_walk b p3 n3 a1 a2 M)) mtX4_walk 0 [(0, .ref b), (1, .int a1), (2, .int a2), (3, .ref p3)] [] M
  unfold mX4_walk
  unfold PX4_walk at hp
  obtain ⟨hq_1, hp⟩ := hp
  obtain ⟨hq_2, hp⟩ := hp
  refine r_aload_n MF.bs dX4_walk_0 rfl 3 rfl ?_
  refine r_iconst MF.bs dX4_walk_1 (v := 0) (by decide) ?_
  refine r_aload_n MF.bs dX4_walk_2 rfl 0 rfl ?_
  refine r_getR MF.bs dX4_walk_3 (sh_t hb) rfl 5 (by decide) wd_125 rfl ?_
  refine r_iload_n MF.bs dX4_walk_6 rfl 1 rfl ?_
  refine r_iaload MF.bs dX4_walk_7 (sh_t6 hb) hq_1 ?_
  refine r_iastoreL MF.bs dX4_walk_8 h3 hq_2 (k9 := 0) (by decide) ?_
  refine r_iconst MF.bs dX4_walk_9 (v := 1) (by decide) ?_
  refine r_istore MF.bs (lv' := [(4, .int 1), (0, .ref b), (1, .int a1), (2, .int a2), (3, .ref p3)]) dX4_walk_10 (by decide) rfl ?_
  refine r_sub [(0, .ref b), (1, .int a1), (2, .int a2), (3, .ref p3), (4, .int 1)] [1, 2, 3, 4, 0] rfl ?_
  exact cX4_walk_12 b p3 n3 hb h3 M 400 a1 a2 1 (upm M p3 0 (M (b + 6) a1.toNatClampNeg)) hp
abbrev mtX5_apart : MT := (RX5, yX5_apart, cX5_apart, 2, (some .int))
theorem miX5_apart : MS mtX5_apart 2 := ⟨wd_661, wd_660, wd_79, ⟨by decide, by decide, by decide +kernel⟩, by decide⟩
def mX5_apart  (a0 : Int32) (a1 : Int32) : Int32 := ((iabs ((mX5_columnOf a0) - (mX5_columnOf a1))) + (iabs ((mX5_rowOf a0) - (mX5_rowOf a1))))
set_option maxRecDepth 100000 in
theorem ctX5_apart   (a0 : Int32) (a1 : Int32) (M : Mem) : CT mtX5_apart 1 [.int a0, .int a1] M (some (.int (mX5_apart a0 a1)), M) := by
  refine CT.of (by decide) rfl (Nat.le_of_ble_eq_true rfl) ?_
  show AWP (GI mtX5_apart 1 M M (mX5_apart a0 a1)) mtX5_apart 0 [(0, .int a0), (1, .int a1)] [] M
  unfold mX5_apart
  refine r_iload_n MF.bs dX5_apart_0 rfl 0 rfl ?_
  refine r_callS_v MF.bs (st := []) dX5_apart_1 (ctX5_columnOf a0 M) miX5_columnOf wd_510 rfl (by decide) rfl (Nat.le_of_ble_eq_true rfl) ?_
  refine r_iload_n MF.bs dX5_apart_4 rfl 1 rfl ?_
  refine r_callS_v MF.bs (st := [.int (mX5_columnOf a0)]) dX5_apart_5 (ctX5_columnOf a1 M) miX5_columnOf wd_510 rfl (by decide) rfl (Nat.le_of_ble_eq_true rfl) ?_
  refine r_isub MF.bs dX5_apart_8 ?_
  refine r_mabs MF.bs (st := []) dX5_apart_9 wd_662 wd_663 wd_92 wd_664 (Nat.le_of_ble_eq_true rfl) (by decide) ?_
  refine r_iload_n MF.bs dX5_apart_12 rfl 0 rfl ?_
  refine r_callS_v MF.bs (st := [.int (iabs ((mX5_columnOf a0) - (mX5_columnOf a1)))]) dX5_apart_13 (ctX5_rowOf a0 M) miX5_rowOf wd_513 rfl (by decide) rfl (Nat.le_of_ble_eq_true rfl) ?_
  refine r_iload_n MF.bs dX5_apart_16 rfl 1 rfl ?_
  refine r_callS_v MF.bs (st := [.int (mX5_rowOf a0), .int (iabs ((mX5_columnOf a0) - (mX5_columnOf a1)))]) dX5_apart_17 (ctX5_rowOf a1 M) miX5_rowOf wd_513 rfl (by decide) rfl (Nat.le_of_ble_eq_true rfl) ?_
  refine r_isub MF.bs dX5_apart_20 ?_
  refine r_mabs MF.bs (st := [.int (iabs ((mX5_columnOf a0) - (mX5_columnOf a1)))]) dX5_apart_21 wd_662 wd_663 wd_92 wd_664 (Nat.le_of_ble_eq_true rfl) (by decide) ?_
  refine r_iadd MF.bs dX5_apart_24 ?_
  exact r_iret dX5_apart_25 rfl
abbrev mtX4_rowPart : MT := (RX4, yX4_rowPart, cX4_rowPart, 3, (some .int))
theorem miX4_rowPart : MV mtX4_rowPart 2 := ⟨wd_742, ⟨wd_740, wd_741⟩, wd_80, ⟨by decide, by decide, by decide +kernel⟩, by decide⟩
def mX4_rowPart (b : Nat) (a1 : Int32) (a2 : Int32) (M : Mem) : Int32 := (if a2 = 0 then (M (b + 6) a1.toNatClampNeg) else (if a2 = 1 then (M (b + 2) (M (b + 6) a1.toNatClampNeg).toNatClampNeg) else (mX5_apart (M (b + 6) a1.toNatClampNeg) (M (b + 5) a1.toNatClampNeg))))
def PX4_rowPart (b : Nat) (a1 : Int32) (a2 : Int32) (M : Mem) : Prop := ((a2 = 0 → vp_in a1 8) ∧ (¬ a2 = 0 → ((a2 = 1 → vp_in a1 8 ∧ (vp_in (M (b + 6) a1.toNatClampNeg) 16)) ∧ (¬ a2 = 1 → vp_in a1 8 ∧ (vp_in a1 8)))))
set_option maxRecDepth 100000 in
theorem ctX4_rowPart (b : Nat) (hb : TB b) (a1 : Int32) (a2 : Int32) (M : Mem) (hp : PX4_rowPart b a1 a2 M) : CT mtX4_rowPart 2 [.ref b, .int a1, .int a2] M (some (.int (mX4_rowPart b a1 a2 M)), M) := by
  refine CT.of (by decide) rfl (Nat.le_of_ble_eq_true rfl) ?_
  show AWP (GI mtX4_rowPart 2 M M (mX4_rowPart b a1 a2 M)) mtX4_rowPart 0 [(0, .ref b), (1, .int a1), (2, .int a2)] [] M
  unfold mX4_rowPart
  unfold PX4_rowPart at hp
  refine r_iload_n MF.bs dX4_rowPart_0 rfl 2 rfl ?_
  refine r_ite (GI mtX4_rowPart 2 M M) (fun h_1 => ?_) (fun h_1 => ?_)
  · have hp := hp.1 h_1
    refine r_lsw MF.bs (off := 27) (tgt := 28) dX4_rowPart_1 (by decide) (by rw [h_1]; try rfl) (by decide) ?_
    have hq_2 := hp
    refine r_aload_n MF.bs dX4_rowPart_28 rfl 0 rfl ?_
    refine r_getR MF.bs dX4_rowPart_29 (sh_t hb) rfl 5 (by decide) wd_125 rfl ?_
    refine r_iload_n MF.bs dX4_rowPart_32 rfl 1 rfl ?_
    refine r_iaload MF.bs dX4_rowPart_33 (sh_t6 hb) hq_2 ?_
    exact r_iret dX4_rowPart_34 rfl
  · have hp := hp.2 h_1
    refine r_ite (GI mtX4_rowPart 2 M M) (fun h_3 => ?_) (fun h_3 => ?_)
    · have hp := hp.1 h_3
      refine r_lsw MF.bs (off := 34) (tgt := 35) dX4_rowPart_1 (by decide) (by rw [h_3]; try rfl) (by decide) ?_
      obtain ⟨hq_4, hp⟩ := hp
      have hq_5 := hp
      refine r_aload_n MF.bs dX4_rowPart_35 rfl 0 rfl ?_
      refine r_getR MF.bs dX4_rowPart_36 (sh_t hb) rfl 1 (by decide) wd_116 rfl ?_
      refine r_aload_n MF.bs dX4_rowPart_39 rfl 0 rfl ?_
      refine r_getR MF.bs dX4_rowPart_40 (sh_t hb) rfl 5 (by decide) wd_125 rfl ?_
      refine r_iload_n MF.bs dX4_rowPart_43 rfl 1 rfl ?_
      refine r_iaload MF.bs dX4_rowPart_44 (sh_t6 hb) hq_4 ?_
      refine r_iaload MF.bs dX4_rowPart_45 (sh_t2 hb) hq_5 ?_
      exact r_iret dX4_rowPart_46 rfl
    · have hp := hp.2 h_3
      refine r_lsw MF.bs (off := 46) (tgt := 47) dX4_rowPart_1 (by decide) ((lv_osw h_1 (by decide)).trans ((lv_osw h_3 (by decide)).trans (rfl))) (by decide) ?_
      obtain ⟨hq_6, hp⟩ := hp
      have hq_7 := hp
      refine r_aload_n MF.bs dX4_rowPart_47 rfl 0 rfl ?_
      refine r_getR MF.bs dX4_rowPart_48 (sh_t hb) rfl 5 (by decide) wd_125 rfl ?_
      refine r_iload_n MF.bs dX4_rowPart_51 rfl 1 rfl ?_
      refine r_iaload MF.bs dX4_rowPart_52 (sh_t6 hb) hq_6 ?_
      refine r_aload_n MF.bs dX4_rowPart_53 rfl 0 rfl ?_
      refine r_getR MF.bs dX4_rowPart_54 (sh_t hb) rfl 4 (by decide) wd_123 rfl ?_
      refine r_iload_n MF.bs dX4_rowPart_57 rfl 1 rfl ?_
      refine r_iaload MF.bs dX4_rowPart_58 (sh_t5 hb) hq_7 ?_
      refine r_callSN_v MF.bs (st := []) dX4_rowPart_59 (ctX5_apart (M (b + 6) a1.toNatClampNeg) (M (b + 5) a1.toNatClampNeg) M) miX5_apart nw_12 rfl (by decide) rfl (Nat.le_of_ble_eq_true rfl) ?_
      exact r_iret dX4_rowPart_62 rfl
abbrev mtX4_standsOtherwise : MT := (RX4, yX4_standsOtherwise, cX4_standsOtherwise, 3, (some .boolean))
theorem miX4_standsOtherwise : MV mtX4_standsOtherwise 1 := ⟨wd_610, ⟨wd_608, wd_609⟩, wd_80, ⟨by decide, by decide, by decide +kernel⟩, by decide⟩
def mX4_standsOtherwise_2 (b : Nat) (p1 : Nat) (n1 : Nat)  : Nat → Int32 → Mem → Bool
  | 0, _, _ => false
  | n + 1, v2, M => (if (M b 6) ≤ v2 then false else (if (nI n1) ≤ v2 then false else (if (M (b + 6) v2.toNatClampNeg) = (M p1 v2.toNatClampNeg) then (mX4_standsOtherwise_2 b p1 n1 n (v2 + 1) M) else true)))
def PX4_standsOtherwise_2 (b : Nat) (p1 : Nat) (n1 : Nat)  : Nat → Int32 → Mem → Prop
  | 0, _, _ => False
  | n + 1, v2, M => (¬ (M b 6) ≤ v2 → (¬ (nI n1) ≤ v2 → vp_in v2 8 ∧ (vp_in v2 n1 ∧ (((M (b + 6) v2.toNatClampNeg) = (M p1 v2.toNatClampNeg) → PX4_standsOtherwise_2 b p1 n1 n (v2 + 1) M)))))
set_option maxRecDepth 100000 in
theorem cX4_standsOtherwise_2 (b : Nat) (p1 : Nat) (n1 : Nat) (hb : TB b) (h1 : SH[p1]? = some (.inr (.inl n1)))  : ∀ (n : Nat) (v2 : Int32) (M : Mem), PX4_standsOtherwise_2 b p1 n1 n v2 M → AWP (GB mtX4_standsOtherwise 0 M M (mX4_standsOtherwise_2 b p1 n1 n v2 M)) mtX4_standsOtherwise 2 [(0, .ref b), (1, .ref p1), (2, .int v2)] [] M := by
  intro n
  induction n with
  | zero =>
    intro v2 M hp
    exact hp.elim
  | succ n ih =>
    intro v2 M hp
    rw [mX4_standsOtherwise_2]
    rw [PX4_standsOtherwise_2] at hp
    refine r_iload_n MF.bs dX4_standsOtherwise_2 rfl 2 rfl ?_
    refine r_aload_n MF.bs dX4_standsOtherwise_3 rfl 0 rfl ?_
    refine r_getI MF.bs dX4_standsOtherwise_4 (sh_t hb) rfl 6 (by decide) wd_127 rfl ?_
    refine r_ite (GB mtX4_standsOtherwise 0 M M) (fun h_1 => ?_) (fun h_1 => ?_)
    · refine r_icmp_ge_t MF.bs (tgt := 36) dX4_standsOtherwise_7 (by decide) h_1 ?_
      refine r_iconst MF.bs dX4_standsOtherwise_36 (v := 0) (by decide) ?_
      exact r_zret0 dX4_standsOtherwise_37 rfl
    · have hp := hp h_1
      refine r_icmp_ge_f MF.bs (tgt := 36) dX4_standsOtherwise_7 (by decide) h_1 ?_
      refine r_iload_n MF.bs dX4_standsOtherwise_10 rfl 2 rfl ?_
      refine r_aload_n MF.bs dX4_standsOtherwise_11 rfl 1 rfl ?_
      refine r_alen MF.bs dX4_standsOtherwise_12 (v := nI n1) h1 rfl ?_
      refine r_ite (GB mtX4_standsOtherwise 0 M M) (fun h_2 => ?_) (fun h_2 => ?_)
      · refine r_icmp_ge_t MF.bs (tgt := 36) dX4_standsOtherwise_13 (by decide) h_2 ?_
        refine r_iconst MF.bs dX4_standsOtherwise_36 (v := 0) (by decide) ?_
        exact r_zret0 dX4_standsOtherwise_37 rfl
      · have hp := hp h_2
        refine r_icmp_ge_f MF.bs (tgt := 36) dX4_standsOtherwise_13 (by decide) h_2 ?_
        obtain ⟨hq_3, hp⟩ := hp
        obtain ⟨hq_4, hp⟩ := hp
        refine r_aload_n MF.bs dX4_standsOtherwise_16 rfl 0 rfl ?_
        refine r_getR MF.bs dX4_standsOtherwise_17 (sh_t hb) rfl 5 (by decide) wd_125 rfl ?_
        refine r_iload_n MF.bs dX4_standsOtherwise_20 rfl 2 rfl ?_
        refine r_iaload MF.bs dX4_standsOtherwise_21 (sh_t6 hb) hq_3 ?_
        refine r_aload_n MF.bs dX4_standsOtherwise_22 rfl 1 rfl ?_
        refine r_iload_n MF.bs dX4_standsOtherwise_23 rfl 2 rfl ?_
        refine r_iaload MF.bs dX4_standsOtherwise_24 h1 hq_4 ?_
        refine r_ite (GB mtX4_standsOtherwise 0 M M) (fun h_5 => ?_) (fun h_5 => ?_)
        · have hp := hp h_5
          refine r_icmp_eq_t MF.bs (tgt := 30) dX4_standsOtherwise_25 (by decide) h_5 ?_
          refine r_iinc MF.bs (v := (v2 + 1)) (lv' := [(2, .int (v2 + 1)), (0, .ref b), (1, .ref p1)]) dX4_standsOtherwise_30 2 rfl rfl (by decide) rfl ?_
          refine r_goto MF.bs dX4_standsOtherwise_33 (tgt := 2) (by decide) ?_
          refine r_sub [(0, .ref b), (1, .ref p1), (2, .int (v2 + 1))] [1, 2, 0] rfl ?_
          exact ih (v2 + 1) M hp
        · refine r_icmp_eq_f MF.bs (tgt := 30) dX4_standsOtherwise_25 (by decide) h_5 ?_
          refine r_iconst MF.bs dX4_standsOtherwise_28 (v := 1) (by decide) ?_
          exact r_zret1 dX4_standsOtherwise_29 rfl
def mX4_standsOtherwise (b : Nat) (p1 : Nat) (n1 : Nat) (M : Mem) : Bool := (mX4_standsOtherwise_2 b p1 n1 400 0 M)
def PX4_standsOtherwise (b : Nat) (p1 : Nat) (n1 : Nat) (M : Mem) : Prop := PX4_standsOtherwise_2 b p1 n1 400 0 M
set_option maxRecDepth 100000 in
theorem ctX4_standsOtherwise (b : Nat) (p1 : Nat) (n1 : Nat) (hb : TB b) (h1 : SH[p1]? = some (.inr (.inl n1))) (M : Mem) (hp : PX4_standsOtherwise b p1 n1 M) : CT mtX4_standsOtherwise 0 [.ref b, .ref p1] M (some (.int (b2i (mX4_standsOtherwise b p1 n1 M))), M) := by
  refine CT.of (by decide) rfl (Nat.le_of_ble_eq_true rfl) ?_
  show AWP (GB mtX4_standsOtherwise 0 M M (mX4_standsOtherwise b p1 n1 M)) mtX4_standsOtherwise 0 [(0, .ref b), (1, .ref p1)] [] M
  unfold mX4_standsOtherwise
  unfold PX4_standsOtherwise at hp
  refine r_iconst MF.bs dX4_standsOtherwise_0 (v := 0) (by decide) ?_
  refine r_istore_n MF.bs (lv' := [(2, .int 0), (0, .ref b), (1, .ref p1)]) dX4_standsOtherwise_1 rfl (by decide) rfl ?_
  refine r_sub [(0, .ref b), (1, .ref p1), (2, .int 0)] [1, 2, 0] rfl ?_
  exact cX4_standsOtherwise_2 b p1 n1 hb h1 400 0 M hp
abbrev mtX4_airsAt : MT := (RX4, yX4_airsAt, cX4_airsAt, 4, (some .int))
theorem miX4_airsAt : MV mtX4_airsAt 1 := ⟨wd_550, ⟨wd_548, wd_549⟩, wd_80, ⟨by decide, by decide, by decide +kernel⟩, by decide⟩
def mX4_airsAt_30 (b : Nat)  (kf4 : Int32 → Int32 → Int32 → Mem → Int32) (v1 : Int32) (v3 : Int32) (k0 : Int32) (k1 : Int32) (M : Mem) : Int32 := (kf4 v1 (k1 ||| k0) (v3 + 1) M)
def PX4_airsAt_30 (b : Nat)  (kP4 : Int32 → Int32 → Int32 → Mem → Prop) (v1 : Int32) (v3 : Int32) (k0 : Int32) (k1 : Int32) (M : Mem) : Prop := kP4 v1 (k1 ||| k0) (v3 + 1) M
set_option maxRecDepth 100000 in
theorem cX4_airsAt_30 (b : Nat) (hb : TB b)  (kf4 : Int32 → Int32 → Int32 → Mem → Int32) (kP4 : Int32 → Int32 → Int32 → Mem → Prop) (hk4 : ∀ (v1 : Int32) (v2 : Int32) (v3 : Int32) (M : Mem), kP4 v1 v2 v3 M → AWP (GI mtX4_airsAt 0 M M (kf4 v1 v2 v3 M)) mtX4_airsAt 4 [(0, .ref b), (1, .int v1), (2, .int v2), (3, .int v3)] [] M) (v1 : Int32) (v3 : Int32) (k0 : Int32) (k1 : Int32) (M : Mem) (hp : PX4_airsAt_30 b kP4 v1 v3 k0 k1 M) : AWP (GI mtX4_airsAt 0 M M (mX4_airsAt_30 b kf4 v1 v3 k0 k1 M)) mtX4_airsAt 30 [(0, .ref b), (1, .int v1), (3, .int v3)] [.int k0, .int k1] M := by
  unfold mX4_airsAt_30
  unfold PX4_airsAt_30 at hp
  refine r_ior MF.bs dX4_airsAt_30 ?_
  refine r_istore_n MF.bs (lv' := [(2, .int (k1 ||| k0)), (0, .ref b), (1, .int v1), (3, .int v3)]) dX4_airsAt_31 rfl (by decide) rfl ?_
  refine r_iinc MF.bs (v := (v3 + 1)) (lv' := [(3, .int (v3 + 1)), (2, .int (k1 ||| k0)), (0, .ref b), (1, .int v1)]) dX4_airsAt_32 3 rfl rfl (by decide) rfl ?_
  refine r_goto MF.bs dX4_airsAt_35 (tgt := 4) (by decide) ?_
  refine r_sub [(0, .ref b), (1, .int v1), (2, .int (k1 ||| k0)), (3, .int (v3 + 1))] [2, 3, 1, 0] rfl ?_
  exact hk4 v1 (k1 ||| k0) (v3 + 1) M hp
def mX4_airsAt_4 (b : Nat)  : Nat → Int32 → Int32 → Int32 → Mem → Int32
  | 0, _, _, _, _ => 0
  | n + 1, v1, v2, v3, M => (if (M b 6) ≤ v3 then v2 else (if (M (b + 6) v3.toNatClampNeg) = v1 then (mX4_airsAt_30 b (mX4_airsAt_4 b n) v1 v3 (1 <<< (v3 &&& 31)) v2 M) else (mX4_airsAt_30 b (mX4_airsAt_4 b n) v1 v3 0 v2 M)))
def PX4_airsAt_4 (b : Nat)  : Nat → Int32 → Int32 → Int32 → Mem → Prop
  | 0, _, _, _, _ => False
  | n + 1, v1, v2, v3, M => (¬ (M b 6) ≤ v3 → vp_in v3 8 ∧ ((((M (b + 6) v3.toNatClampNeg) = v1 → PX4_airsAt_30 b (PX4_airsAt_4 b n) v1 v3 (1 <<< (v3 &&& 31)) v2 M) ∧ (¬ (M (b + 6) v3.toNatClampNeg) = v1 → PX4_airsAt_30 b (PX4_airsAt_4 b n) v1 v3 0 v2 M))))
set_option maxRecDepth 100000 in
theorem cX4_airsAt_4 (b : Nat) (hb : TB b)  : ∀ (n : Nat) (v1 : Int32) (v2 : Int32) (v3 : Int32) (M : Mem), PX4_airsAt_4 b n v1 v2 v3 M → AWP (GI mtX4_airsAt 0 M M (mX4_airsAt_4 b n v1 v2 v3 M)) mtX4_airsAt 4 [(0, .ref b), (1, .int v1), (2, .int v2), (3, .int v3)] [] M := by
  intro n
  induction n with
  | zero =>
    intro v1 v2 v3 M hp
    exact hp.elim
  | succ n ih =>
    intro v1 v2 v3 M hp
    rw [mX4_airsAt_4]
    rw [PX4_airsAt_4] at hp
    refine r_iload_n MF.bs dX4_airsAt_4 rfl 3 rfl ?_
    refine r_aload_n MF.bs dX4_airsAt_5 rfl 0 rfl ?_
    refine r_getI MF.bs dX4_airsAt_6 (sh_t hb) rfl 6 (by decide) wd_127 rfl ?_
    refine r_ite (GI mtX4_airsAt 0 M M) (fun h_1 => ?_) (fun h_1 => ?_)
    · refine r_icmp_ge_t MF.bs (tgt := 38) dX4_airsAt_9 (by decide) h_1 ?_
      refine r_iload_n MF.bs dX4_airsAt_38 rfl 2 rfl ?_
      exact r_iret dX4_airsAt_39 rfl
    · have hp := hp h_1
      refine r_icmp_ge_f MF.bs (tgt := 38) dX4_airsAt_9 (by decide) h_1 ?_
      obtain ⟨hq_2, hp⟩ := hp
      refine r_iload_n MF.bs dX4_airsAt_12 rfl 2 rfl ?_
      refine r_aload_n MF.bs dX4_airsAt_13 rfl 0 rfl ?_
      refine r_getR MF.bs dX4_airsAt_14 (sh_t hb) rfl 5 (by decide) wd_125 rfl ?_
      refine r_iload_n MF.bs dX4_airsAt_17 rfl 3 rfl ?_
      refine r_iaload MF.bs dX4_airsAt_18 (sh_t6 hb) hq_2 ?_
      refine r_iload_n MF.bs dX4_airsAt_19 rfl 1 rfl ?_
      refine r_ite (GI mtX4_airsAt 0 M M) (fun h_3 => ?_) (fun h_3 => ?_)
      · have hp := hp.1 h_3
        refine r_icmp_ne_f MF.bs (tgt := 29) dX4_airsAt_20 (by decide) h_3 ?_
        refine r_iconst MF.bs dX4_airsAt_23 (v := 1) (by decide) ?_
        refine r_iload_n MF.bs dX4_airsAt_24 rfl 3 rfl ?_
        refine r_ishl MF.bs dX4_airsAt_25 ?_
        refine r_goto MF.bs dX4_airsAt_26 (tgt := 30) (by decide) ?_
        refine r_sub [(0, .ref b), (1, .int v1), (3, .int v3)] [0, 1, 3] rfl ?_
        exact cX4_airsAt_30 b hb (mX4_airsAt_4 b n) (PX4_airsAt_4 b n) ih v1 v3 (1 <<< (v3 &&& 31)) v2 M hp
      · have hp := hp.2 h_3
        refine r_icmp_ne_t MF.bs (tgt := 29) dX4_airsAt_20 (by decide) h_3 ?_
        refine r_iconst MF.bs dX4_airsAt_29 (v := 0) (by decide) ?_
        refine r_sub [(0, .ref b), (1, .int v1), (3, .int v3)] [0, 1, 3] rfl ?_
        exact cX4_airsAt_30 b hb (mX4_airsAt_4 b n) (PX4_airsAt_4 b n) ih v1 v3 0 v2 M hp
def mX4_airsAt (b : Nat) (a1 : Int32) (M : Mem) : Int32 := (mX4_airsAt_4 b 400 a1 0 0 M)
def PX4_airsAt (b : Nat) (a1 : Int32) (M : Mem) : Prop := PX4_airsAt_4 b 400 a1 0 0 M
set_option maxRecDepth 100000 in
theorem ctX4_airsAt (b : Nat) (hb : TB b) (a1 : Int32) (M : Mem) (hp : PX4_airsAt b a1 M) : CT mtX4_airsAt 0 [.ref b, .int a1] M (some (.int (mX4_airsAt b a1 M)), M) := by
  refine CT.of (by decide) rfl (Nat.le_of_ble_eq_true rfl) ?_
  show AWP (GI mtX4_airsAt 0 M M (mX4_airsAt b a1 M)) mtX4_airsAt 0 [(0, .ref b), (1, .int a1)] [] M
  unfold mX4_airsAt
  unfold PX4_airsAt at hp
  refine r_iconst MF.bs dX4_airsAt_0 (v := 0) (by decide) ?_
  refine r_istore_n MF.bs (lv' := [(2, .int 0), (0, .ref b), (1, .int a1)]) dX4_airsAt_1 rfl (by decide) rfl ?_
  refine r_iconst MF.bs dX4_airsAt_2 (v := 0) (by decide) ?_
  refine r_istore_n MF.bs (lv' := [(3, .int 0), (2, .int 0), (0, .ref b), (1, .int a1)]) dX4_airsAt_3 rfl (by decide) rfl ?_
  refine r_sub [(0, .ref b), (1, .int a1), (2, .int 0), (3, .int 0)] [2, 3, 1, 0] rfl ?_
  exact cX4_airsAt_4 b hb 400 a1 0 0 M hp
abbrev mtX4_airsAtErrands : MT := (RX4, yX4_airsAtErrands, cX4_airsAtErrands, 3, (some .int))
theorem miX4_airsAtErrands : MV mtX4_airsAtErrands 0 := ⟨wd_577, ⟨wd_575, wd_576⟩, wd_80, ⟨by decide, by decide, by decide +kernel⟩, by decide⟩
def mX4_airsAtErrands_35 (b : Nat)  (kf4 : Int32 → Int32 → Mem → Int32) (v2 : Int32) (k0 : Int32) (k1 : Int32) (M : Mem) : Int32 := (kf4 (k1 ||| k0) (v2 + 1) M)
def PX4_airsAtErrands_35 (b : Nat)  (kP4 : Int32 → Int32 → Mem → Prop) (v2 : Int32) (k0 : Int32) (k1 : Int32) (M : Mem) : Prop := kP4 (k1 ||| k0) (v2 + 1) M
set_option maxRecDepth 100000 in
theorem cX4_airsAtErrands_35 (b : Nat) (hb : TB b)  (kf4 : Int32 → Int32 → Mem → Int32) (kP4 : Int32 → Int32 → Mem → Prop) (hk4 : ∀ (v1 : Int32) (v2 : Int32) (M : Mem), kP4 v1 v2 M → AWP (GI mtX4_airsAtErrands 0 M M (kf4 v1 v2 M)) mtX4_airsAtErrands 4 [(0, .ref b), (1, .int v1), (2, .int v2)] [] M) (v2 : Int32) (k0 : Int32) (k1 : Int32) (M : Mem) (hp : PX4_airsAtErrands_35 b kP4 v2 k0 k1 M) : AWP (GI mtX4_airsAtErrands 0 M M (mX4_airsAtErrands_35 b kf4 v2 k0 k1 M)) mtX4_airsAtErrands 35 [(0, .ref b), (2, .int v2)] [.int k0, .int k1] M := by
  unfold mX4_airsAtErrands_35
  unfold PX4_airsAtErrands_35 at hp
  refine r_ior MF.bs dX4_airsAtErrands_35 ?_
  refine r_istore_n MF.bs (lv' := [(1, .int (k1 ||| k0)), (0, .ref b), (2, .int v2)]) dX4_airsAtErrands_36 rfl (by decide) rfl ?_
  refine r_iinc MF.bs (v := (v2 + 1)) (lv' := [(2, .int (v2 + 1)), (1, .int (k1 ||| k0)), (0, .ref b)]) dX4_airsAtErrands_37 2 rfl rfl (by decide) rfl ?_
  refine r_goto MF.bs dX4_airsAtErrands_40 (tgt := 4) (by decide) ?_
  refine r_sub [(0, .ref b), (1, .int (k1 ||| k0)), (2, .int (v2 + 1))] [2, 1, 0] rfl ?_
  exact hk4 (k1 ||| k0) (v2 + 1) M hp
def mX4_airsAtErrands_4 (b : Nat)  : Nat → Int32 → Int32 → Mem → Int32
  | 0, _, _, _ => 0
  | n + 1, v1, v2, M => (if (M b 6) ≤ v2 then v1 else (if (M (b + 6) v2.toNatClampNeg) = (M (b + 5) v2.toNatClampNeg) then (mX4_airsAtErrands_35 b (mX4_airsAtErrands_4 b n) v2 (1 <<< (v2 &&& 31)) v1 M) else (mX4_airsAtErrands_35 b (mX4_airsAtErrands_4 b n) v2 0 v1 M)))
def PX4_airsAtErrands_4 (b : Nat)  : Nat → Int32 → Int32 → Mem → Prop
  | 0, _, _, _ => False
  | n + 1, v1, v2, M => (¬ (M b 6) ≤ v2 → vp_in v2 8 ∧ (vp_in v2 8 ∧ ((((M (b + 6) v2.toNatClampNeg) = (M (b + 5) v2.toNatClampNeg) → PX4_airsAtErrands_35 b (PX4_airsAtErrands_4 b n) v2 (1 <<< (v2 &&& 31)) v1 M) ∧ (¬ (M (b + 6) v2.toNatClampNeg) = (M (b + 5) v2.toNatClampNeg) → PX4_airsAtErrands_35 b (PX4_airsAtErrands_4 b n) v2 0 v1 M)))))
set_option maxRecDepth 100000 in
theorem cX4_airsAtErrands_4 (b : Nat) (hb : TB b)  : ∀ (n : Nat) (v1 : Int32) (v2 : Int32) (M : Mem), PX4_airsAtErrands_4 b n v1 v2 M → AWP (GI mtX4_airsAtErrands 0 M M (mX4_airsAtErrands_4 b n v1 v2 M)) mtX4_airsAtErrands 4 [(0, .ref b), (1, .int v1), (2, .int v2)] [] M := by
  intro n
  induction n with
  | zero =>
    intro v1 v2 M hp
    exact hp.elim
  | succ n ih =>
    intro v1 v2 M hp
    rw [mX4_airsAtErrands_4]
    rw [PX4_airsAtErrands_4] at hp
    refine r_iload_n MF.bs dX4_airsAtErrands_4 rfl 2 rfl ?_
    refine r_aload_n MF.bs dX4_airsAtErrands_5 rfl 0 rfl ?_
    refine r_getI MF.bs dX4_airsAtErrands_6 (sh_t hb) rfl 6 (by decide) wd_127 rfl ?_
    refine r_ite (GI mtX4_airsAtErrands 0 M M) (fun h_1 => ?_) (fun h_1 => ?_)
    · refine r_icmp_ge_t MF.bs (tgt := 43) dX4_airsAtErrands_9 (by decide) h_1 ?_
      refine r_iload_n MF.bs dX4_airsAtErrands_43 rfl 1 rfl ?_
      exact r_iret dX4_airsAtErrands_44 rfl
    · have hp := hp h_1
      refine r_icmp_ge_f MF.bs (tgt := 43) dX4_airsAtErrands_9 (by decide) h_1 ?_
      obtain ⟨hq_2, hp⟩ := hp
      obtain ⟨hq_3, hp⟩ := hp
      refine r_iload_n MF.bs dX4_airsAtErrands_12 rfl 1 rfl ?_
      refine r_aload_n MF.bs dX4_airsAtErrands_13 rfl 0 rfl ?_
      refine r_getR MF.bs dX4_airsAtErrands_14 (sh_t hb) rfl 5 (by decide) wd_125 rfl ?_
      refine r_iload_n MF.bs dX4_airsAtErrands_17 rfl 2 rfl ?_
      refine r_iaload MF.bs dX4_airsAtErrands_18 (sh_t6 hb) hq_2 ?_
      refine r_aload_n MF.bs dX4_airsAtErrands_19 rfl 0 rfl ?_
      refine r_getR MF.bs dX4_airsAtErrands_20 (sh_t hb) rfl 4 (by decide) wd_123 rfl ?_
      refine r_iload_n MF.bs dX4_airsAtErrands_23 rfl 2 rfl ?_
      refine r_iaload MF.bs dX4_airsAtErrands_24 (sh_t5 hb) hq_3 ?_
      refine r_ite (GI mtX4_airsAtErrands 0 M M) (fun h_4 => ?_) (fun h_4 => ?_)
      · have hp := hp.1 h_4
        refine r_icmp_ne_f MF.bs (tgt := 34) dX4_airsAtErrands_25 (by decide) h_4 ?_
        refine r_iconst MF.bs dX4_airsAtErrands_28 (v := 1) (by decide) ?_
        refine r_iload_n MF.bs dX4_airsAtErrands_29 rfl 2 rfl ?_
        refine r_ishl MF.bs dX4_airsAtErrands_30 ?_
        refine r_goto MF.bs dX4_airsAtErrands_31 (tgt := 35) (by decide) ?_
        refine r_sub [(0, .ref b), (2, .int v2)] [0, 2] rfl ?_
        exact cX4_airsAtErrands_35 b hb (mX4_airsAtErrands_4 b n) (PX4_airsAtErrands_4 b n) ih v2 (1 <<< (v2 &&& 31)) v1 M hp
      · have hp := hp.2 h_4
        refine r_icmp_ne_t MF.bs (tgt := 34) dX4_airsAtErrands_25 (by decide) h_4 ?_
        refine r_iconst MF.bs dX4_airsAtErrands_34 (v := 0) (by decide) ?_
        refine r_sub [(0, .ref b), (2, .int v2)] [0, 2] rfl ?_
        exact cX4_airsAtErrands_35 b hb (mX4_airsAtErrands_4 b n) (PX4_airsAtErrands_4 b n) ih v2 0 v1 M hp
def mX4_airsAtErrands (b : Nat) (M : Mem) : Int32 := (mX4_airsAtErrands_4 b 400 0 0 M)
def PX4_airsAtErrands (b : Nat) (M : Mem) : Prop := PX4_airsAtErrands_4 b 400 0 0 M
set_option maxRecDepth 100000 in
theorem ctX4_airsAtErrands (b : Nat) (hb : TB b) (M : Mem) (hp : PX4_airsAtErrands b M) : CT mtX4_airsAtErrands 0 [.ref b] M (some (.int (mX4_airsAtErrands b M)), M) := by
  refine CT.of (by decide) rfl (Nat.le_of_ble_eq_true rfl) ?_
  show AWP (GI mtX4_airsAtErrands 0 M M (mX4_airsAtErrands b M)) mtX4_airsAtErrands 0 [(0, .ref b)] [] M
  unfold mX4_airsAtErrands
  unfold PX4_airsAtErrands at hp
  refine r_iconst MF.bs dX4_airsAtErrands_0 (v := 0) (by decide) ?_
  refine r_istore_n MF.bs (lv' := [(1, .int 0), (0, .ref b)]) dX4_airsAtErrands_1 rfl (by decide) rfl ?_
  refine r_iconst MF.bs dX4_airsAtErrands_2 (v := 0) (by decide) ?_
  refine r_istore_n MF.bs (lv' := [(2, .int 0), (1, .int 0), (0, .ref b)]) dX4_airsAtErrands_3 rfl (by decide) rfl ?_
  refine r_sub [(0, .ref b), (1, .int 0), (2, .int 0)] [2, 1, 0] rfl ?_
  exact cX4_airsAtErrands_4 b hb 400 0 0 M hp
abbrev mtX4_housesWithAirs : MT := (RX4, yX4_housesWithAirs, cX4_housesWithAirs, 3, (some .int))
theorem miX4_housesWithAirs : MV mtX4_housesWithAirs 0 := ⟨wd_622, ⟨wd_620, wd_621⟩, wd_80, ⟨by decide, by decide, by decide +kernel⟩, by decide⟩
def mX4_housesWithAirs_4 (b : Nat)  : Nat → Int32 → Int32 → Mem → Int32
  | 0, _, _, _ => 0
  | n + 1, v1, v2, M => (if (M b 6) ≤ v2 then v1 else (mX4_housesWithAirs_4 b n (v1 ||| (1 <<< ((M (b + 6) v2.toNatClampNeg) &&& 31))) (v2 + 1) M))
def PX4_housesWithAirs_4 (b : Nat)  : Nat → Int32 → Int32 → Mem → Prop
  | 0, _, _, _ => False
  | n + 1, v1, v2, M => (¬ (M b 6) ≤ v2 → vp_in v2 8 ∧ (PX4_housesWithAirs_4 b n (v1 ||| (1 <<< ((M (b + 6) v2.toNatClampNeg) &&& 31))) (v2 + 1) M))
set_option maxRecDepth 100000 in
theorem cX4_housesWithAirs_4 (b : Nat) (hb : TB b)  : ∀ (n : Nat) (v1 : Int32) (v2 : Int32) (M : Mem), PX4_housesWithAirs_4 b n v1 v2 M → AWP (GI mtX4_housesWithAirs 0 M M (mX4_housesWithAirs_4 b n v1 v2 M)) mtX4_housesWithAirs 4 [(0, .ref b), (1, .int v1), (2, .int v2)] [] M := by
  intro n
  induction n with
  | zero =>
    intro v1 v2 M hp
    exact hp.elim
  | succ n ih =>
    intro v1 v2 M hp
    rw [mX4_housesWithAirs_4]
    rw [PX4_housesWithAirs_4] at hp
    refine r_iload_n MF.bs dX4_housesWithAirs_4 rfl 2 rfl ?_
    refine r_aload_n MF.bs dX4_housesWithAirs_5 rfl 0 rfl ?_
    refine r_getI MF.bs dX4_housesWithAirs_6 (sh_t hb) rfl 6 (by decide) wd_127 rfl ?_
    refine r_ite (GI mtX4_housesWithAirs 0 M M) (fun h_1 => ?_) (fun h_1 => ?_)
    · refine r_icmp_ge_t MF.bs (tgt := 29) dX4_housesWithAirs_9 (by decide) h_1 ?_
      refine r_iload_n MF.bs dX4_housesWithAirs_29 rfl 1 rfl ?_
      exact r_iret dX4_housesWithAirs_30 rfl
    · have hp := hp h_1
      refine r_icmp_ge_f MF.bs (tgt := 29) dX4_housesWithAirs_9 (by decide) h_1 ?_
      obtain ⟨hq_2, hp⟩ := hp
      refine r_iload_n MF.bs dX4_housesWithAirs_12 rfl 1 rfl ?_
      refine r_iconst MF.bs dX4_housesWithAirs_13 (v := 1) (by decide) ?_
      refine r_aload_n MF.bs dX4_housesWithAirs_14 rfl 0 rfl ?_
      refine r_getR MF.bs dX4_housesWithAirs_15 (sh_t hb) rfl 5 (by decide) wd_125 rfl ?_
      refine r_iload_n MF.bs dX4_housesWithAirs_18 rfl 2 rfl ?_
      refine r_iaload MF.bs dX4_housesWithAirs_19 (sh_t6 hb) hq_2 ?_
      refine r_ishl MF.bs dX4_housesWithAirs_20 ?_
      refine r_ior MF.bs dX4_housesWithAirs_21 ?_
      refine r_istore_n MF.bs (lv' := [(1, .int (v1 ||| (1 <<< ((M (b + 6) v2.toNatClampNeg) &&& 31)))), (0, .ref b), (2, .int v2)]) dX4_housesWithAirs_22 rfl (by decide) rfl ?_
      refine r_iinc MF.bs (v := (v2 + 1)) (lv' := [(2, .int (v2 + 1)), (1, .int (v1 ||| (1 <<< ((M (b + 6) v2.toNatClampNeg) &&& 31)))), (0, .ref b)]) dX4_housesWithAirs_23 2 rfl rfl (by decide) rfl ?_
      refine r_goto MF.bs dX4_housesWithAirs_26 (tgt := 4) (by decide) ?_
      refine r_sub [(0, .ref b), (1, .int (v1 ||| (1 <<< ((M (b + 6) v2.toNatClampNeg) &&& 31)))), (2, .int (v2 + 1))] [2, 1, 0] rfl ?_
      exact ih (v1 ||| (1 <<< ((M (b + 6) v2.toNatClampNeg) &&& 31))) (v2 + 1) M hp
def mX4_housesWithAirs (b : Nat) (M : Mem) : Int32 := (mX4_housesWithAirs_4 b 400 0 0 M)
def PX4_housesWithAirs (b : Nat) (M : Mem) : Prop := PX4_housesWithAirs_4 b 400 0 0 M
set_option maxRecDepth 100000 in
theorem ctX4_housesWithAirs (b : Nat) (hb : TB b) (M : Mem) (hp : PX4_housesWithAirs b M) : CT mtX4_housesWithAirs 0 [.ref b] M (some (.int (mX4_housesWithAirs b M)), M) := by
  refine CT.of (by decide) rfl (Nat.le_of_ble_eq_true rfl) ?_
  show AWP (GI mtX4_housesWithAirs 0 M M (mX4_housesWithAirs b M)) mtX4_housesWithAirs 0 [(0, .ref b)] [] M
  unfold mX4_housesWithAirs
  unfold PX4_housesWithAirs at hp
  refine r_iconst MF.bs dX4_housesWithAirs_0 (v := 0) (by decide) ?_
  refine r_istore_n MF.bs (lv' := [(1, .int 0), (0, .ref b)]) dX4_housesWithAirs_1 rfl (by decide) rfl ?_
  refine r_iconst MF.bs dX4_housesWithAirs_2 (v := 0) (by decide) ?_
  refine r_istore_n MF.bs (lv' := [(2, .int 0), (1, .int 0), (0, .ref b)]) dX4_housesWithAirs_3 rfl (by decide) rfl ?_
  refine r_sub [(0, .ref b), (1, .int 0), (2, .int 0)] [2, 1, 0] rfl ?_
  exact cX4_housesWithAirs_4 b hb 400 0 0 M hp
abbrev mtX4_housesWetBy : MT := (RX4, yX4_housesWetBy, cX4_housesWetBy, 4, (some .int))
theorem miX4_housesWetBy : MV mtX4_housesWetBy 1 := ⟨wd_626, ⟨wd_624, wd_625⟩, wd_80, ⟨by decide, by decide, by decide +kernel⟩, by decide⟩
def mX4_housesWetBy_28 (b : Nat)  (kf4 : Int32 → Int32 → Int32 → Mem → Int32) (v1 : Int32) (v3 : Int32) (k0 : Int32) (k1 : Int32) (M : Mem) : Int32 := (kf4 v1 (k1 ||| k0) (v3 + 1) M)
def PX4_housesWetBy_28 (b : Nat)  (kP4 : Int32 → Int32 → Int32 → Mem → Prop) (v1 : Int32) (v3 : Int32) (k0 : Int32) (k1 : Int32) (M : Mem) : Prop := kP4 v1 (k1 ||| k0) (v3 + 1) M
set_option maxRecDepth 100000 in
theorem cX4_housesWetBy_28 (b : Nat) (hb : TB b)  (kf4 : Int32 → Int32 → Int32 → Mem → Int32) (kP4 : Int32 → Int32 → Int32 → Mem → Prop) (hk4 : ∀ (v1 : Int32) (v2 : Int32) (v3 : Int32) (M : Mem), kP4 v1 v2 v3 M → AWP (GI mtX4_housesWetBy 0 M M (kf4 v1 v2 v3 M)) mtX4_housesWetBy 4 [(0, .ref b), (1, .int v1), (2, .int v2), (3, .int v3)] [] M) (v1 : Int32) (v3 : Int32) (k0 : Int32) (k1 : Int32) (M : Mem) (hp : PX4_housesWetBy_28 b kP4 v1 v3 k0 k1 M) : AWP (GI mtX4_housesWetBy 0 M M (mX4_housesWetBy_28 b kf4 v1 v3 k0 k1 M)) mtX4_housesWetBy 28 [(0, .ref b), (1, .int v1), (3, .int v3)] [.int k0, .int k1] M := by
  unfold mX4_housesWetBy_28
  unfold PX4_housesWetBy_28 at hp
  refine r_ior MF.bs dX4_housesWetBy_28 ?_
  refine r_istore_n MF.bs (lv' := [(2, .int (k1 ||| k0)), (0, .ref b), (1, .int v1), (3, .int v3)]) dX4_housesWetBy_29 rfl (by decide) rfl ?_
  refine r_iinc MF.bs (v := (v3 + 1)) (lv' := [(3, .int (v3 + 1)), (2, .int (k1 ||| k0)), (0, .ref b), (1, .int v1)]) dX4_housesWetBy_30 3 rfl rfl (by decide) rfl ?_
  refine r_goto MF.bs dX4_housesWetBy_33 (tgt := 4) (by decide) ?_
  refine r_sub [(0, .ref b), (1, .int v1), (2, .int (k1 ||| k0)), (3, .int (v3 + 1))] [2, 3, 1, 0] rfl ?_
  exact hk4 v1 (k1 ||| k0) (v3 + 1) M hp
def mX4_housesWetBy_4 (b : Nat)  : Nat → Int32 → Int32 → Int32 → Mem → Int32
  | 0, _, _, _, _ => 0
  | n + 1, v1, v2, v3, M => (if 16 ≤ v3 then v2 else (if (M (b + 2) v3.toNatClampNeg) < v1 then (mX4_housesWetBy_28 b (mX4_housesWetBy_4 b n) v1 v3 0 v2 M) else (mX4_housesWetBy_28 b (mX4_housesWetBy_4 b n) v1 v3 (1 <<< (v3 &&& 31)) v2 M)))
def PX4_housesWetBy_4 (b : Nat)  : Nat → Int32 → Int32 → Int32 → Mem → Prop
  | 0, _, _, _, _ => False
  | n + 1, v1, v2, v3, M => (¬ 16 ≤ v3 → vp_in v3 16 ∧ ((((M (b + 2) v3.toNatClampNeg) < v1 → PX4_housesWetBy_28 b (PX4_housesWetBy_4 b n) v1 v3 0 v2 M) ∧ (¬ (M (b + 2) v3.toNatClampNeg) < v1 → PX4_housesWetBy_28 b (PX4_housesWetBy_4 b n) v1 v3 (1 <<< (v3 &&& 31)) v2 M))))
set_option maxRecDepth 100000 in
theorem cX4_housesWetBy_4 (b : Nat) (hb : TB b)  : ∀ (n : Nat) (v1 : Int32) (v2 : Int32) (v3 : Int32) (M : Mem), PX4_housesWetBy_4 b n v1 v2 v3 M → AWP (GI mtX4_housesWetBy 0 M M (mX4_housesWetBy_4 b n v1 v2 v3 M)) mtX4_housesWetBy 4 [(0, .ref b), (1, .int v1), (2, .int v2), (3, .int v3)] [] M := by
  intro n
  induction n with
  | zero =>
    intro v1 v2 v3 M hp
    exact hp.elim
  | succ n ih =>
    intro v1 v2 v3 M hp
    rw [mX4_housesWetBy_4]
    rw [PX4_housesWetBy_4] at hp
    refine r_iload_n MF.bs dX4_housesWetBy_4 rfl 3 rfl ?_
    refine r_bipush MF.bs dX4_housesWetBy_5 (v := 16) (by decide) ?_
    refine r_ite (GI mtX4_housesWetBy 0 M M) (fun h_1 => ?_) (fun h_1 => ?_)
    · refine r_icmp_ge_t MF.bs (tgt := 36) dX4_housesWetBy_7 (by decide) h_1 ?_
      refine r_iload_n MF.bs dX4_housesWetBy_36 rfl 2 rfl ?_
      exact r_iret dX4_housesWetBy_37 rfl
    · have hp := hp h_1
      refine r_icmp_ge_f MF.bs (tgt := 36) dX4_housesWetBy_7 (by decide) h_1 ?_
      obtain ⟨hq_2, hp⟩ := hp
      refine r_iload_n MF.bs dX4_housesWetBy_10 rfl 2 rfl ?_
      refine r_aload_n MF.bs dX4_housesWetBy_11 rfl 0 rfl ?_
      refine r_getR MF.bs dX4_housesWetBy_12 (sh_t hb) rfl 1 (by decide) wd_116 rfl ?_
      refine r_iload_n MF.bs dX4_housesWetBy_15 rfl 3 rfl ?_
      refine r_iaload MF.bs dX4_housesWetBy_16 (sh_t2 hb) hq_2 ?_
      refine r_iload_n MF.bs dX4_housesWetBy_17 rfl 1 rfl ?_
      refine r_ite (GI mtX4_housesWetBy 0 M M) (fun h_3 => ?_) (fun h_3 => ?_)
      · have hp := hp.1 h_3
        refine r_icmp_lt_t MF.bs (tgt := 27) dX4_housesWetBy_18 (by decide) h_3 ?_
        refine r_iconst MF.bs dX4_housesWetBy_27 (v := 0) (by decide) ?_
        refine r_sub [(0, .ref b), (1, .int v1), (3, .int v3)] [0, 1, 3] rfl ?_
        exact cX4_housesWetBy_28 b hb (mX4_housesWetBy_4 b n) (PX4_housesWetBy_4 b n) ih v1 v3 0 v2 M hp
      · have hp := hp.2 h_3
        refine r_icmp_lt_f MF.bs (tgt := 27) dX4_housesWetBy_18 (by decide) h_3 ?_
        refine r_iconst MF.bs dX4_housesWetBy_21 (v := 1) (by decide) ?_
        refine r_iload_n MF.bs dX4_housesWetBy_22 rfl 3 rfl ?_
        refine r_ishl MF.bs dX4_housesWetBy_23 ?_
        refine r_goto MF.bs dX4_housesWetBy_24 (tgt := 28) (by decide) ?_
        refine r_sub [(0, .ref b), (1, .int v1), (3, .int v3)] [0, 1, 3] rfl ?_
        exact cX4_housesWetBy_28 b hb (mX4_housesWetBy_4 b n) (PX4_housesWetBy_4 b n) ih v1 v3 (1 <<< (v3 &&& 31)) v2 M hp
def mX4_housesWetBy (b : Nat) (a1 : Int32) (M : Mem) : Int32 := (mX4_housesWetBy_4 b 400 a1 0 0 M)
def PX4_housesWetBy (b : Nat) (a1 : Int32) (M : Mem) : Prop := PX4_housesWetBy_4 b 400 a1 0 0 M
set_option maxRecDepth 100000 in
theorem ctX4_housesWetBy (b : Nat) (hb : TB b) (a1 : Int32) (M : Mem) (hp : PX4_housesWetBy b a1 M) : CT mtX4_housesWetBy 0 [.ref b, .int a1] M (some (.int (mX4_housesWetBy b a1 M)), M) := by
  refine CT.of (by decide) rfl (Nat.le_of_ble_eq_true rfl) ?_
  show AWP (GI mtX4_housesWetBy 0 M M (mX4_housesWetBy b a1 M)) mtX4_housesWetBy 0 [(0, .ref b), (1, .int a1)] [] M
  unfold mX4_housesWetBy
  unfold PX4_housesWetBy at hp
  refine r_iconst MF.bs dX4_housesWetBy_0 (v := 0) (by decide) ?_
  refine r_istore_n MF.bs (lv' := [(2, .int 0), (0, .ref b), (1, .int a1)]) dX4_housesWetBy_1 rfl (by decide) rfl ?_
  refine r_iconst MF.bs dX4_housesWetBy_2 (v := 0) (by decide) ?_
  refine r_istore_n MF.bs (lv' := [(3, .int 0), (2, .int 0), (0, .ref b), (1, .int a1)]) dX4_housesWetBy_3 rfl (by decide) rfl ?_
  refine r_sub [(0, .ref b), (1, .int a1), (2, .int 0), (3, .int 0)] [2, 3, 1, 0] rfl ?_
  exact cX4_housesWetBy_4 b hb 400 a1 0 0 M hp
abbrev mtX4_wetTogether : MT := (RX4, yX4_wetTogether, cX4_wetTogether, 3, (some .int))
theorem miX4_wetTogether : MV mtX4_wetTogether 0 := ⟨wd_618, ⟨wd_616, wd_617⟩, wd_80, ⟨by decide, by decide, by decide +kernel⟩, by decide⟩
def mX4_wetTogether_4 (b : Nat)  : Nat → Int32 → Int32 → Mem → Int32
  | 0, _, _, _ => 0
  | n + 1, v1, v2, M => (if 16 ≤ v2 then v1 else (mX4_wetTogether_4 b n (v1 + (M (b + 2) v2.toNatClampNeg)) (v2 + 1) M))
def PX4_wetTogether_4 (b : Nat)  : Nat → Int32 → Int32 → Mem → Prop
  | 0, _, _, _ => False
  | n + 1, v1, v2, M => (¬ 16 ≤ v2 → vp_in v2 16 ∧ (PX4_wetTogether_4 b n (v1 + (M (b + 2) v2.toNatClampNeg)) (v2 + 1) M))
set_option maxRecDepth 100000 in
theorem cX4_wetTogether_4 (b : Nat) (hb : TB b)  : ∀ (n : Nat) (v1 : Int32) (v2 : Int32) (M : Mem), PX4_wetTogether_4 b n v1 v2 M → AWP (GI mtX4_wetTogether 0 M M (mX4_wetTogether_4 b n v1 v2 M)) mtX4_wetTogether 4 [(0, .ref b), (1, .int v1), (2, .int v2)] [] M := by
  intro n
  induction n with
  | zero =>
    intro v1 v2 M hp
    exact hp.elim
  | succ n ih =>
    intro v1 v2 M hp
    rw [mX4_wetTogether_4]
    rw [PX4_wetTogether_4] at hp
    refine r_iload_n MF.bs dX4_wetTogether_4 rfl 2 rfl ?_
    refine r_bipush MF.bs dX4_wetTogether_5 (v := 16) (by decide) ?_
    refine r_ite (GI mtX4_wetTogether 0 M M) (fun h_1 => ?_) (fun h_1 => ?_)
    · refine r_icmp_ge_t MF.bs (tgt := 25) dX4_wetTogether_7 (by decide) h_1 ?_
      refine r_iload_n MF.bs dX4_wetTogether_25 rfl 1 rfl ?_
      exact r_iret dX4_wetTogether_26 rfl
    · have hp := hp h_1
      refine r_icmp_ge_f MF.bs (tgt := 25) dX4_wetTogether_7 (by decide) h_1 ?_
      obtain ⟨hq_2, hp⟩ := hp
      refine r_iload_n MF.bs dX4_wetTogether_10 rfl 1 rfl ?_
      refine r_aload_n MF.bs dX4_wetTogether_11 rfl 0 rfl ?_
      refine r_getR MF.bs dX4_wetTogether_12 (sh_t hb) rfl 1 (by decide) wd_116 rfl ?_
      refine r_iload_n MF.bs dX4_wetTogether_15 rfl 2 rfl ?_
      refine r_iaload MF.bs dX4_wetTogether_16 (sh_t2 hb) hq_2 ?_
      refine r_iadd MF.bs dX4_wetTogether_17 ?_
      refine r_istore_n MF.bs (lv' := [(1, .int (v1 + (M (b + 2) v2.toNatClampNeg))), (0, .ref b), (2, .int v2)]) dX4_wetTogether_18 rfl (by decide) rfl ?_
      refine r_iinc MF.bs (v := (v2 + 1)) (lv' := [(2, .int (v2 + 1)), (1, .int (v1 + (M (b + 2) v2.toNatClampNeg))), (0, .ref b)]) dX4_wetTogether_19 2 rfl rfl (by decide) rfl ?_
      refine r_goto MF.bs dX4_wetTogether_22 (tgt := 4) (by decide) ?_
      refine r_sub [(0, .ref b), (1, .int (v1 + (M (b + 2) v2.toNatClampNeg))), (2, .int (v2 + 1))] [2, 1, 0] rfl ?_
      exact ih (v1 + (M (b + 2) v2.toNatClampNeg)) (v2 + 1) M hp
def mX4_wetTogether (b : Nat) (M : Mem) : Int32 := (mX4_wetTogether_4 b 400 0 0 M)
def PX4_wetTogether (b : Nat) (M : Mem) : Prop := PX4_wetTogether_4 b 400 0 0 M
set_option maxRecDepth 100000 in
theorem ctX4_wetTogether (b : Nat) (hb : TB b) (M : Mem) (hp : PX4_wetTogether b M) : CT mtX4_wetTogether 0 [.ref b] M (some (.int (mX4_wetTogether b M)), M) := by
  refine CT.of (by decide) rfl (Nat.le_of_ble_eq_true rfl) ?_
  show AWP (GI mtX4_wetTogether 0 M M (mX4_wetTogether b M)) mtX4_wetTogether 0 [(0, .ref b)] [] M
  unfold mX4_wetTogether
  unfold PX4_wetTogether at hp
  refine r_iconst MF.bs dX4_wetTogether_0 (v := 0) (by decide) ?_
  refine r_istore_n MF.bs (lv' := [(1, .int 0), (0, .ref b)]) dX4_wetTogether_1 rfl (by decide) rfl ?_
  refine r_iconst MF.bs dX4_wetTogether_2 (v := 0) (by decide) ?_
  refine r_istore_n MF.bs (lv' := [(2, .int 0), (1, .int 0), (0, .ref b)]) dX4_wetTogether_3 rfl (by decide) rfl ?_
  refine r_sub [(0, .ref b), (1, .int 0), (2, .int 0)] [2, 1, 0] rfl ?_
  exact cX4_wetTogether_4 b hb 400 0 0 M hp
