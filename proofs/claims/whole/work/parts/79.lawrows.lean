/-! THE LAW: its contexts and rows -/
abbrev tL : MT := (R_law, x, code, 4, ret)
def FL (L : Nat) (xs : Nat → Int32) : Cx → Prop
  | (p, l, e, R, s, m, args, below, meth, c, A, D, tt, ad, mc, ms, Qf) =>
    cxOK tL 200 (p, l, e, R, s, m, args, below, meth, c, A, D, tt, ad, mc, ms, Qf) ∧ meth.sig.returnType = ret ∧ meth.locks = false ∧ R = room_1 ∧ A = (fun q : Nat => s.heap.size ≤ q) ∧ args = #[Value.ref (ad 500)] ∧ va_X (ad 500) L xs s s.heap ∧ ad 500 < s.heap.size ∧ mc = 600000 ∧ ms = 7302250 ∧ Qf = lw_Z below #[Value.ref (ad 500)] s
theorem FL.bs {L : Nat} {xs : Nat → Int32} : Bs (FL L xs) tL 200 := by
  rintro ⟨p, l, e, R, s, m, args, below, meth, c, A, D, tt, ad, mc, ms, Qf⟩ hX
  exact hX.1
def lvL (j : Nat) : List (Nat × Value) := [(3, .int (nI j)), (2, .ref 46), (1, .ref 0), (0, .ref 500)]
/-- an argument of the script -/
def av (xs : Nat → Int32) (j k : Nat) : Int32 := xs (nI (j + k)).toNatClampNeg
section LAWROWS
variable {L : Nat} {xs : Nat → Int32} {pc : Nat} {lv : List (Nat × Value)} {st : List Value} {M : Mem}
theorem l_sld {i : Int32} (hd : decode code pc = .ok (.iaload, 1)) (hin : vp_in i L) (k : AWP (FL L xs) tL (pc + 1) lv (.int (xs i.toNatClampNeg) :: st) M) : AWP (FL L xs) tL pc lv (.int i :: .ref 500 :: st) M := by
  rintro ⟨p, l, e, R, s, m, args, below, meth, c, A, D, tt, ad, mc, ms, Qf⟩ hX H locs ls hP hD hS hl
  have hX0 := hX
  obtain ⟨⟨hx, hb, hml, hown, hts, hK, hA, hE, hroom⟩, hr, hlk, hR, hAe, hargs, hXs, hbl, hmc, hms, hQ⟩ := hX
  have hbA : ¬ A (ad 500) := by rw [hAe]; exact Nat.not_le.mpr hbl
  exact va_sld hx hb hXs hbl hbA hS hin hd (k _ hX0 H locs ls hP hD hS hl)
theorem l_slen (hd : decode code pc = .ok (.arraylength, 1)) (k : AWP (FL L xs) tL (pc + 1) lv (.int (Int32.ofNat L) :: st) M) : AWP (FL L xs) tL pc lv (.ref 500 :: st) M := by
  rintro ⟨p, l, e, R, s, m, args, below, meth, c, A, D, tt, ad, mc, ms, Qf⟩ hX H locs ls hP hD hS hl
  have hX0 := hX
  obtain ⟨⟨hx, hb, hml, hown, hts, hK, hA, hE, hroom⟩, hr, hlk, hR, hAe, hargs, hXs, hbl, hmc, hms, hQ⟩ := hX
  have hbA : ¬ A (ad 500) := by rw [hAe]; exact Nat.not_le.mpr hbl
  exact va_slen hx hb hXs hbl hbA hS hd (k _ hX0 H locs ls hP hD hS hl)
theorem l_arg {j : Nat} {n : Int} (hj : j + 5 ≤ L) (hL : L ≤ 2560) (v : Nat) (hv : v < 5) (d0 : decode code pc = .ok (.aload_n 0, 1)) (d1 : decode code (pc + 1) = .ok (.iload_n 3, 1)) (d2 : decode code (pc + 1 + 1) = .ok (.iconst n, 1)) (d3 : decode code (pc + 1 + 1 + 1) = .ok (.iadd, 1)) (d4 : decode code (pc + 1 + 1 + 1 + 1) = .ok (.iaload, 1)) (hn : Int32.ofInt n = nI v) (k : AWP (FL L xs) tL (pc + 5) (lvL j) (.int (av xs j v) :: st) M) : AWP (FL L xs) tL pc (lvL j) st M := by
  refine r_aload_n FL.bs d0 rfl 3 rfl ?_
  refine r_iload_n FL.bs d1 rfl 0 rfl ?_
  refine r_iconst FL.bs (v := nI v) d2 hn ?_
  refine r_iadd FL.bs d3 ?_
  rw [nI_add]
  exact l_sld d4 (vin (by omega) (by omega)) k
theorem cmp_eq {a b : Int64} (h : a = b) : lg_cmp a b = 0 := by
  subst h
  simp [lg_cmp]
/-- the law's end, with true -/
theorem l_ret (hd : decode code pc = .ok (.ireturn, 1)) : AWP (FL L xs) tL pc lv [.int 1] M := by
  rintro ⟨p, l, e, R, s, m, args, below, meth, c, A, D, tt, ad, mc, ms, Qf⟩ hX H locs ls hP hD hS hl
  obtain ⟨⟨hx, hb, hml, hown, hts, hK, hA, hE, hroom⟩, hr, hlk, rfl, rfl, rfl, hXs, hbl, rfl, rfl, rfl⟩ := hX
  refine va_forget (fun q hq => hS.2.2 q hq) ?_
  exact lw_ret hx hb hr hlk hd
theorem l_gt {j : Nat} (hj : j ≤ L) (hL : L ≤ 2560) : (nI L - 5 < nI j) ↔ L < j + 5 := by
  have e5 : (5 : Int32).toInt = 5 := by decide
  have hsub : (nI L - 5).toInt = (L : Int) - 5 := by
    rw [Int32.toInt_sub, e5, nI_toInt (by omega)]
    have : ((2 : Nat) ^ 32) = 4294967296 := by decide
    unfold Int.bmod
    simp only [this]
    split <;> omega
  rw [Int32.lt_iff_toInt_lt, hsub, nI_toInt (by omega)]
  omega
end LAWROWS
