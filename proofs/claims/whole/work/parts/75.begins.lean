/-! the reference's first row -/
def z0 : Nat → Int32 := fun _ => 0
theorem upd_z (k : Nat) : upd (fun _ => (0 : Int32)) k 0 = fun _ => 0 := by
  funext j
  unfold upd
  split <;> rfl
def s0 : Nat → Int32 := upd (upd (upd (upd (fun _ => 0) 4 3) 5 6) 6 2) 7 20
section BEG
variable {x : Cx} {kc ks d : Nat}
abbrev wS (T : Nat → ClassId) (h q1 : Nat) (fs : List Value) (f : Nat → Int32) : va_W := [(h, oI 6 (.ref q1 :: fs)), (q1, fI T 56 f)]
theorem beginsL (hX : bOK mtX6_begins d x) (h q1 : Nat) (fs : List Value) (kk : ∀ v : Int32, BW x mtX6_begins 28 [(2, .int v), (1, .int 0), (0, .ref h)] [] (wS (xtt x) h q1 fs (fun _ => 0)) kc ks) : ∀ (n i : Nat), i ≤ 56 → 56 < i + n → BW x mtX6_begins 9 [(2, .int (nI i)), (1, .int 0), (0, .ref h)] [] (wS (xtt x) h q1 fs (fun _ => 0)) kc ks := by
  intro n
  induction n with
  | zero => intro i h1 h2; omega
  | succ n ih =>
    intro i h1 h2
    refine b_iload_n hX dX6_begins_9 rfl 0 rfl ?_
    refine b_bipush (v := 56) hX dX6_begins_10 (by decide) ?_
    by_cases c : i = 56
    · subst c
      exact b_icmp_ge_t (tgt := 28) hX dX6_begins_12 (by decide) (by decide) (kk _)
    · refine b_icmp_ge_f hX 28 dX6_begins_12 (by decide) ?_ ?_
      · intro e
        have := (nI_le_iff (a := 56) (b := i) (by omega) (by omega)).mp e
        omega
      refine b_aload_n hX dX6_begins_15 rfl 2 rfl ?_
      refine b_get hX 0 dX6_begins_16 rfl (ci := 6) rfl 0 (by decide) wd_875 rfl ?_
      refine b_iload_n hX dX6_begins_19 rfl 0 rfl ?_
      refine b_iconst (v := 0) hX dX6_begins_20 (by decide) ?_
      refine b_iast (n := 56) hX 1 (wS (xtt x) h q1 fs (fun _ => 0)) dX6_begins_21 rfl (vin (by omega) (by omega)) ?_ ?_
      · show [_, _] = _
        rw [upd_z]
      refine b_iinc (v := nI (i + 1)) (lv' := [(2, .int (nI (i + 1))), (1, .int 0), (0, .ref h)]) hX dX6_begins_22 0 rfl (nI_1 i) (by decide) rfl ?_
      refine b_goto (tgt := 9) hX dX6_begins_25 (by decide) ?_
      exact ih (i + 1) (by omega) (by omega)
end BEG
theorem ctX6_beginsB (h q1 : Nat) (fs : List Value) : CB mtX6_begins 0 0 0 h (fun T => [(h, oI 6 (.ref q1 :: fs)), (q1, zI T 56)]) (fun T _ => [(h, oI 6 (.ref q1 :: fs)), (q1, fI T 56 s0)]) := by
  refine CB.of (by decide) rfl (Nat.le_of_ble_eq_true rfl) (fun x hM => ?_)
  obtain ⟨hX, hin, hmc, hms⟩ := hM.ok
  refine b_aload_n hX dX6_begins_0 rfl 0 rfl ?_
  refine b_get hX 0 dX6_begins_1 rfl (ci := 6) rfl 0 (by decide) wd_875 rfl ?_
  refine b_iconst (v := 2) hX dX6_begins_4 (by decide) ?_
  refine b_iald (n := 56) hX 1 dX6_begins_5 rfl (vin_l (by decide) (by decide)) ?_
  refine b_istore_n (lv' := [(1, .int 0), (0, .ref h)]) hX dX6_begins_6 rfl (by decide) rfl ?_
  refine b_iconst (v := 0) hX dX6_begins_7 (by decide) ?_
  refine b_istore_n (lv' := [(2, .int (nI 0)), (1, .int 0), (0, .ref h)]) hX dX6_begins_8 rfl (by decide) rfl ?_
  refine beginsL hX h q1 fs (fun v => ?_) 57 0 (by omega) (by omega)
  refine b_aload_n hX dX6_begins_28 rfl 2 rfl ?_
  refine b_get hX 0 dX6_begins_29 rfl (ci := 6) rfl 0 (by decide) wd_875 rfl ?_
  refine b_iconst (v := 2) hX dX6_begins_32 (by decide) ?_
  refine b_iload_n hX dX6_begins_33 rfl 1 rfl ?_
  refine b_iast (n := 56) hX 1 (wS (xtt x) h q1 fs (fun _ => 0)) dX6_begins_34 rfl (vin_l (by decide) (by decide)) ?_ ?_
  · show [_, _] = _
    rw [upd_z]
  refine b_aload_n hX dX6_begins_35 rfl 2 rfl ?_
  refine b_get hX 0 dX6_begins_36 rfl (ci := 6) rfl 0 (by decide) wd_875 rfl ?_
  refine b_iconst (v := 4) hX dX6_begins_39 (by decide) ?_
  refine b_iconst (v := 3) hX dX6_begins_40 (by decide) ?_
  refine b_iast (n := 56) hX 1 (wS (xtt x) h q1 fs (upd (fun _ => 0) 4 3)) dX6_begins_41 rfl (vin_l (by decide) (by decide)) rfl ?_
  refine b_aload_n hX dX6_begins_42 rfl 2 rfl ?_
  refine b_get hX 0 dX6_begins_43 rfl (ci := 6) rfl 0 (by decide) wd_875 rfl ?_
  refine b_iconst (v := 5) hX dX6_begins_46 (by decide) ?_
  refine b_bipush (v := 6) hX dX6_begins_47 (by decide) ?_
  refine b_iast (n := 56) hX 1 (wS (xtt x) h q1 fs (upd (upd (fun _ => 0) 4 3) 5 6)) dX6_begins_49 rfl (vin_l (by decide) (by decide)) rfl ?_
  refine b_aload_n hX dX6_begins_50 rfl 2 rfl ?_
  refine b_get hX 0 dX6_begins_51 rfl (ci := 6) rfl 0 (by decide) wd_875 rfl ?_
  refine b_bipush (v := 6) hX dX6_begins_54 (by decide) ?_
  refine b_iconst (v := 2) hX dX6_begins_56 (by decide) ?_
  refine b_iast (n := 56) hX 1 (wS (xtt x) h q1 fs (upd (upd (upd (fun _ => 0) 4 3) 5 6) 6 2)) dX6_begins_57 rfl (vin_l (by decide) (by decide)) rfl ?_
  refine b_aload_n hX dX6_begins_58 rfl 2 rfl ?_
  refine b_get hX 0 dX6_begins_59 rfl (ci := 6) rfl 0 (by decide) wd_875 rfl ?_
  refine b_bipush (v := 7) hX dX6_begins_62 (by decide) ?_
  refine b_bipush (v := 20) hX dX6_begins_64 (by decide) ?_
  refine b_iast (n := 56) hX 1 (wS (xtt x) h q1 fs s0) dX6_begins_66 rfl (vin_l (by decide) (by decide)) rfl ?_
  exact b_vret (b := 0) hM (fun _ => 0) dX6_begins_67 rfl (Nat.le_refl _) (Nat.le_refl _) rfl
