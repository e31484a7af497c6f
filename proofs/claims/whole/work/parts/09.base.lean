theorem nat_copy : Cond.native arraycopyName ∈ GW := gw 112 (by decide +kernel) (by decide +kernel)
theorem stat_copy : Cond.static arraycopyName ∈ GW := gw 111 (by decide +kernel) (by decide +kernel)
theorem ini_copy : Cond.initialized "java/lang/System" ∈ GW := gw 81 (by decide +kernel) (by decide +kernel)
/-! helpers of the decompiled methods -/
def TB (b : Nat) : Prop := b = 1 ∨ b = 8 ∨ b = 15
def QB (q : Nat) : Prop := q = 34 ∨ q = 36 ∨ q = 38 ∨ q = 40
def VB (v : Nat) : Prop := v = 42 ∨ v = 43 ∨ v = 44 ∨ v = 45
theorem sh_t {b : Nat} (h : TB b) : SH[b]? = some (.inl (4, [rr (b + 1), rr (b + 2), rr (b + 3), rr (b + 4), rr (b + 5), rr (b + 6), ii, ii, ii, ii])) := by rcases h with rfl | rfl | rfl <;> rfl
theorem sh_t1 {b : Nat} (h : TB b) : SH[b + 1]? = some (.inr (.inl 4)) := by rcases h with rfl | rfl | rfl <;> rfl
theorem sh_t2 {b : Nat} (h : TB b) : SH[b + 2]? = some (.inr (.inl 16)) := by rcases h with rfl | rfl | rfl <;> rfl
theorem sh_t3 {b : Nat} (h : TB b) : SH[b + 3]? = some (.inr (.inl 8)) := by rcases h with rfl | rfl | rfl <;> rfl
theorem sh_t4 {b : Nat} (h : TB b) : SH[b + 4]? = some (.inr (.inl 8)) := by rcases h with rfl | rfl | rfl <;> rfl
theorem sh_t5 {b : Nat} (h : TB b) : SH[b + 5]? = some (.inr (.inl 8)) := by rcases h with rfl | rfl | rfl <;> rfl
theorem sh_t6 {b : Nat} (h : TB b) : SH[b + 6]? = some (.inr (.inl 8)) := by rcases h with rfl | rfl | rfl <;> rfl
theorem sh_q {b : Nat} (h : QB b) : SH[b]? = some (.inl (1, [rr (b + 1), ii, ii])) := by rcases h with rfl | rfl | rfl | rfl <;> rfl
theorem sh_q1 {b : Nat} (h : QB b) : SH[b + 1]? = some (.inr (.inl 40)) := by rcases h with rfl | rfl | rfl | rfl <;> rfl
theorem sh_v {b : Nat} (h : VB b) : SH[b]? = some (.inl (2, [ii, ii, ii, ii])) := by rcases h with rfl | rfl | rfl | rfl <;> rfl
theorem clamp_nn {i : Int32} (h : 0 ≤ i) : i.toInt = (i.toNatClampNeg : Int) := by
  have h0 : (0 : Int) ≤ i.toInt := by
    have := Int32.le_iff_toInt_le.mp h
    simpa using this
  rw [Int32.toNatClampNeg]
  omega
theorem i3_cases {i : Int32} (h : 0 ≤ i ∧ i ≤ 3) : i = 0 ∨ i = 1 ∨ i = 2 ∨ i = 3 := by
  have h1 := Int32.le_iff_toInt_le.mp h.1
  have h2 := Int32.le_iff_toInt_le.mp h.2
  have e0 : (0 : Int32).toInt = 0 := by decide
  have e3 : (3 : Int32).toInt = 3 := by decide
  rw [e0] at h1
  rw [e3] at h2
  have h4 : i.toInt = 0 ∨ i.toInt = 1 ∨ i.toInt = 2 ∨ i.toInt = 3 := by omega
  rcases h4 with h | h | h | h
  · exact Or.inl (Int32.toInt_inj.mp (by rw [h]; decide))
  · exact Or.inr (Or.inl (Int32.toInt_inj.mp (by rw [h]; decide)))
  · exact Or.inr (Or.inr (Or.inl (Int32.toInt_inj.mp (by rw [h]; decide))))
  · exact Or.inr (Or.inr (Or.inr (Int32.toInt_inj.mp (by rw [h]; decide))))
def qpl (i : Int32) : Nat := 34 + 2 * i.toNatClampNeg
def vpl (i : Int32) : Nat := 42 + i.toNatClampNeg
theorem qpl_ok {i : Int32} (h : 0 ≤ i ∧ i ≤ 3) : QB (qpl i) := by
  rcases i3_cases h with rfl | rfl | rfl | rfl <;> (unfold QB qpl; decide)
theorem vpl_ok {i : Int32} (h : 0 ≤ i ∧ i ≤ 3) : VB (vpl i) := by
  rcases i3_cases h with rfl | rfl | rfl | rfl <;> (unfold VB vpl; decide)
theorem vin_l {i : Int32} {n : Nat} (h : ¬ i < 0) (h2 : i.toNatClampNeg < n) : vp_in i n := fun q => q.elim (fun q => h q) (fun q => Nat.not_le.mpr h2 q)
theorem z_nar {x : Int32} (h : x = 0 ∨ x = 1) : narrow .boolean (.int x) = .int x := by rcases h with rfl | rfl <;> rfl
theorem z_fit {x : Int32} (h : x = 0 ∨ x = 1) : fits .boolean (.int x) = true := by rcases h with rfl | rfl <;> rfl
theorem b2i_fit (b : Bool) : fits .boolean (.int (b2i b)) = true := by cases b <;> rfl
def st_0 (i : Int32) : Int32 := ([3, 6, 2, 20] : List Int32).getD i.toNatClampNeg 0
def st_1 (i : Int32) : Int32 := ([1, 0, 0, 0] : List Int32).getD i.toNatClampNeg 0
def st_2 (i : Int32) : Int32 := ([9, 99, 9, 99] : List Int32).getD i.toNatClampNeg 0
def st_3 (i : Int32) : Int32 := ([10, 11, 12, 13, 10, 20, 12, 13, 30, 11, 12, 31, 51, 20, 50, 13, 40, 41, 12, 31, 10, 11, 61, 60] : List Int32).getD i.toNatClampNeg 0
def stT_0 : List Int32 := [3, 6, 2, 20]
section BASE
variable {F : Cx → Prop} {t : MT} {d pc : Nat} {lv : List (Nat × Value)} {st : List Value} {M M0 M1 : Mem}
theorem r_zret0 (hd : decode t.2.2.1 pc = .ok (.ireturn, 1)) (hr0 : t.2.2.2.2 = some .boolean) : AWP (GB t d M0 M false) t pc lv [.int 0] M := r_zret (v := 0) hd hr0 rfl
theorem r_zret1 (hd : decode t.2.2.1 pc = .ok (.ireturn, 1)) (hr0 : t.2.2.2.2 = some .boolean) : AWP (GB t d M0 M true) t pc lv [.int 1] M := r_zret (v := 1) hd hr0 rfl
theorem r_ialoadL (hF : Bs F t d) {p9 n k9 : Nat} {i : Int32} (hd : decode t.2.2.1 pc = .ok (.iaload, 1)) (hsh : SH[p9]? = some (.inr (.inl n))) (hin : vp_in i n) (hk : i.toNatClampNeg = k9) (k : AWP F t (pc + 1) lv (.int (M p9 k9) :: st) M) : AWP F t pc lv (.int i :: .ref p9 :: st) M := by
  subst hk
  exact r_iaload hF hd hsh hin k
theorem r_iastoreL (hF : Bs F t d) {p9 n k9 : Nat} {i x : Int32} (hd : decode t.2.2.1 pc = .ok (.iastore, 1)) (hsh : SH[p9]? = some (.inr (.inl n))) (hin : vp_in i n) (hk : i.toNatClampNeg = k9) (k : AWP F t (pc + 1) lv st (upm M p9 k9 x)) : AWP F t pc lv (.int x :: .int i :: .ref p9 :: st) M := by
  subst hk
  exact r_iastore hF hd hsh hin k
theorem r_callS_v (hF : Bs F t d) {t2 : MT} {d2 n idx : Nat} {as stk : List Value} {v : Value} (hd : decode t.2.2.1 pc = .ok (.invokestatic idx, 3)) (hc : CT t2 d2 as M (some v, M1)) (hs : MS t2 n) (hw : Cond.methodLink t.1 idx t2.2.1 ∈ GW) (hlen : as.length = n) (hdd : d2 + 1 ≤ d) (hst : stk = as.reverse ++ st) (hcat : (st.map fun v => v.category).sum ≤ 8) (k : AWP F t (pc + 3) lv (v :: st) M1) : AWP F t pc lv stk M := r_callS hF hd hc hs hw hlen hdd hst hcat k
theorem r_callS_n (hF : Bs F t d) {t2 : MT} {d2 n idx : Nat} {as stk : List Value} (hd : decode t.2.2.1 pc = .ok (.invokestatic idx, 3)) (hc : CT t2 d2 as M (none, M1)) (hs : MS t2 n) (hw : Cond.methodLink t.1 idx t2.2.1 ∈ GW) (hlen : as.length = n) (hdd : d2 + 1 ≤ d) (hst : stk = as.reverse ++ st) (hcat : (st.map fun v => v.category).sum ≤ 8) (k : AWP F t (pc + 3) lv st M1) : AWP F t pc lv stk M := r_callS hF hd hc hs hw hlen hdd hst hcat k
theorem r_callSN_v (hF : Bs F t d) {t2 : MT} {d2 n idx : Nat} {as stk : List Value} {v : Value} {host : String} (hd : decode t.2.2.1 pc = .ok (.invokestatic idx, 3)) (hc : CT t2 d2 as M (some v, M1)) (hs : MS t2 n) (hw : Cond.methodLinkNest t.1 idx t2.2.1 host ∈ nestW) (hlen : as.length = n) (hdd : d2 + 1 ≤ d) (hst : stk = as.reverse ++ st) (hcat : (st.map fun v => v.category).sum ≤ 8) (k : AWP F t (pc + 3) lv (v :: st) M1) : AWP F t pc lv stk M := r_callSN hF hd hc hs hw hlen hdd hst hcat k
theorem r_callSN_n (hF : Bs F t d) {t2 : MT} {d2 n idx : Nat} {as stk : List Value} {host : String} (hd : decode t.2.2.1 pc = .ok (.invokestatic idx, 3)) (hc : CT t2 d2 as M (none, M1)) (hs : MS t2 n) (hw : Cond.methodLinkNest t.1 idx t2.2.1 host ∈ nestW) (hlen : as.length = n) (hdd : d2 + 1 ≤ d) (hst : stk = as.reverse ++ st) (hcat : (st.map fun v => v.category).sum ≤ 8) (k : AWP F t (pc + 3) lv st M1) : AWP F t pc lv stk M := r_callSN hF hd hc hs hw hlen hdd hst hcat k
theorem r_callV_v (hF : Bs F t d) {t2 : MT} {d2 n idx : Nat} {as stk : List Value} {v : Value} {b ci N : Nat} {C : String} {T : u_T} {fs : List (Option (Option Nat))} (hd : decode t.2.2.1 pc = .ok (.invokevirtual idx, 3)) (hc : CT t2 d2 (.ref b :: as) M (some v, M1)) (hs : MV t2 n) (hw : Cond.methodLink t.1 idx t2.2.1 ∈ GW) (hlen : as.length = n) (hdd : d2 + 1 ≤ d) (hst : stk = as.reverse ++ .ref b :: st) (hcat : (st.map fun v => v.category).sum ≤ 8) (hsh : SH[b]? = some (.inl (ci, fs))) (hcl : classes[ci]? = some (C, T, N)) (hC : t2.2.1.cls = C) (k : AWP F t (pc + 3) lv (v :: st) M1) : AWP F t pc lv stk M := r_callV hF hd hc hs hw hlen hdd hst hcat hsh hcl hC k
theorem r_callV_n (hF : Bs F t d) {t2 : MT} {d2 n idx : Nat} {as stk : List Value} {b ci N : Nat} {C : String} {T : u_T} {fs : List (Option (Option Nat))} (hd : decode t.2.2.1 pc = .ok (.invokevirtual idx, 3)) (hc : CT t2 d2 (.ref b :: as) M (none, M1)) (hs : MV t2 n) (hw : Cond.methodLink t.1 idx t2.2.1 ∈ GW) (hlen : as.length = n) (hdd : d2 + 1 ≤ d) (hst : stk = as.reverse ++ .ref b :: st) (hcat : (st.map fun v => v.category).sum ≤ 8) (hsh : SH[b]? = some (.inl (ci, fs))) (hcl : classes[ci]? = some (C, T, N)) (hC : t2.2.1.cls = C) (k : AWP F t (pc + 3) lv st M1) : AWP F t pc lv stk M := r_callV hF hd hc hs hw hlen hdd hst hcat hsh hcl hC k
theorem r_copy (hF : Bs F t d) {idx n0 n1 q0 q1 n : Nat} {x : Int32} (hd : decode t.2.2.1 pc = .ok (.invokestatic idx, 3)) (hw : Cond.methodLink t.1 idx arraycopyName ∈ GW) (hs0 : SH[q0]? = some (.inr (.inl n0))) (hs1 : SH[q1]? = some (.inr (.inl n1))) (hx0 : ¬ x < 0 ∧ x.toNatClampNeg = n) (h4 : n ≤ n0) (h5 : n ≤ n1) (hcat : (st.map fun v => v.category).sum ≤ 8) (hd0 : 1 ≤ d) (k : AWP F t (pc + 3) lv st (upr M q1 (va_cpy (M q0) (M q1) 0 0 n))) : AWP F t pc lv (.int x :: .int 0 :: .ref q1 :: .int 0 :: .ref q0 :: st) M := by
  rintro ⟨p, l, e, R, s, m, args, below, meth, c, A, D, tt, ad, mc, ms, Qf⟩ hX H locs ls hP hD hS hl
  obtain ⟨hx, hb, hml, hown, hts, hK, hA, hE, hroom⟩ := hF _ hX
  obtain ⟨hxn, rfl⟩ := hx0
  have e0 : (0 : Int32).toNatClampNeg = 0 := by decide
  refine va_copyi hx hb (hml.trans hl.1.symm) hown (hts _ hw) (hts _ nat_copy) (hts _ stat_copy) (hts _ ini_copy) hK hP hD hS q0 q1 0 0 (cW_at hs0) (cW_at hs1) rfl rfl rfl (by decide) (by decide) hxn (by rw [e0]; omega) (by rw [e0]; omega) (fun i _ => rfl) (by have := hroom.1; omega) ?_ hd (fun H1 locs1 hP1 hD1 hS1 => k _ hX H1 locs1 ls ?_ ?_ hS1 hl)
  · rw [r_catsum]
    have e1 : nativeFrameWords "java/lang/System" "arraycopy" 5 + 11 ≤ 56 := by decide
    have := hroom.2.1
    omega
  · rw [← cW_upr hs1]; exact hP1
  · rw [← cW_upr hs1]; exact hD1
def imax (x y : Int32) : Int32 := if x < y then y else x
def imin (x y : Int32) : Int32 := if y < x then y else x
def iabs (x : Int32) : Int32 := if 0 ≤ x then x else 0 - x
def lmax (x y : Int64) : Int64 := if y < x then x else y
theorem r_mmax (hF : Bs F t d) {idx : Nat} {x y : Int32} (hd : decode t.2.2.1 pc = .ok (.invokestatic idx, 3)) (hw : Cond.methodLink t.1 idx Lib.Math.max.name ∈ GW) (hst : Cond.static Lib.Math.max.name ∈ GW) (hini : Cond.initialized "java/lang/Math" ∈ GW) (hcd : Cond.code Lib.Math.max.name Lib.Math.max.code 2 (some .int) ∈ GW) (hcat : (st.map fun v => v.category).sum ≤ 8) (hd0 : 1 ≤ d) (k : AWP F t (pc + 3) lv (.int (imax x y) :: st) M) : AWP F t pc lv (.int y :: .int x :: st) M := by
  rintro ⟨p, l, e, R, s, m, args, below, meth, c, A, D, tt, ad, mc, ms, Qf⟩ hX H locs ls hP hD hS hl
  obtain ⟨hx, hb, hml, hown, hts, hK, hA, hE, hroom⟩ := hF _ hX
  obtain ⟨hr1, hr2, hr3, hr4⟩ := hroom
  exact va_mmax hx hb (hml.trans hl.1.symm) hown (hts _ hw) (hts _ hst) (hts _ hini) (hts _ hcd) (by omega) (by rw [r_catsum]; omega) hr3 hr4 hd (k _ hX H locs ls hP hD hS hl)
theorem r_mmin (hF : Bs F t d) {idx : Nat} {x y : Int32} (hd : decode t.2.2.1 pc = .ok (.invokestatic idx, 3)) (hw : Cond.methodLink t.1 idx Lib.Math.min.name ∈ GW) (hst : Cond.static Lib.Math.min.name ∈ GW) (hini : Cond.initialized "java/lang/Math" ∈ GW) (hcd : Cond.code Lib.Math.min.name Lib.Math.min.code 2 (some .int) ∈ GW) (hcat : (st.map fun v => v.category).sum ≤ 8) (hd0 : 1 ≤ d) (k : AWP F t (pc + 3) lv (.int (imin x y) :: st) M) : AWP F t pc lv (.int y :: .int x :: st) M := by
  rintro ⟨p, l, e, R, s, m, args, below, meth, c, A, D, tt, ad, mc, ms, Qf⟩ hX H locs ls hP hD hS hl
  obtain ⟨hx, hb, hml, hown, hts, hK, hA, hE, hroom⟩ := hF _ hX
  obtain ⟨hr1, hr2, hr3, hr4⟩ := hroom
  exact va_mmin hx hb (hml.trans hl.1.symm) hown (hts _ hw) (hts _ hst) (hts _ hini) (hts _ hcd) (by omega) (by rw [r_catsum]; omega) hr3 hr4 hd (k _ hX H locs ls hP hD hS hl)
theorem r_mabs (hF : Bs F t d) {idx : Nat} {x : Int32} (hd : decode t.2.2.1 pc = .ok (.invokestatic idx, 3)) (hw : Cond.methodLink t.1 idx Lib.Math.abs.name ∈ GW) (hst : Cond.static Lib.Math.abs.name ∈ GW) (hini : Cond.initialized "java/lang/Math" ∈ GW) (hcd : Cond.code Lib.Math.abs.name Lib.Math.abs.code 1 (some .int) ∈ GW) (hcat : (st.map fun v => v.category).sum ≤ 8) (hd0 : 1 ≤ d) (k : AWP F t (pc + 3) lv (.int (iabs x) :: st) M) : AWP F t pc lv (.int x :: st) M := by
  rintro ⟨p, l, e, R, s, m, args, below, meth, c, A, D, tt, ad, mc, ms, Qf⟩ hX H locs ls hP hD hS hl
  obtain ⟨hx, hb, hml, hown, hts, hK, hA, hE, hroom⟩ := hF _ hX
  obtain ⟨hr1, hr2, hr3, hr4⟩ := hroom
  exact va_mabs hx hb (hml.trans hl.1.symm) hown (hts _ hw) (hts _ hst) (hts _ hini) (hts _ hcd) (by omega) (by rw [r_catsum]; omega) hr3 hr4 hd (k _ hX H locs ls hP hD hS hl)
theorem r_mmaxL (hF : Bs F t d) {idx : Nat} {x y : Int64} (hd : decode t.2.2.1 pc = .ok (.invokestatic idx, 3)) (hw : Cond.methodLink t.1 idx Lib.MathLoose.max_long.x ∈ GW) (hst : Cond.static Lib.MathLoose.max_long.x ∈ GW) (hini : Cond.initialized "java/lang/Math" ∈ GW) (hcd : Cond.code Lib.MathLoose.max_long.x Lib.MathLoose.max_long.code 4 (some .long) ∈ GW) (hcat : (st.map fun v => v.category).sum ≤ 8) (hd0 : 1 ≤ d) (k : AWP F t (pc + 3) lv (.long (lmax x y) :: st) M) : AWP F t pc lv (.long y :: .long x :: st) M := by
  rintro ⟨p, l, e, R, s, m, args, below, meth, c, A, D, tt, ad, mc, ms, Qf⟩ hX H locs ls hP hD hS hl
  obtain ⟨hx, hb, hml, hown, hts, hK, hA, hE, hroom⟩ := hF _ hX
  obtain ⟨hr1, hr2, hr3, hr4⟩ := hroom
  exact va_mmax_long hx hb (hml.trans hl.1.symm) hown (hts _ hw) (hts _ hst) (hts _ hini) (hts _ hcd) (by omega) (by rw [r_catsum]; omega) hr3 hr4 hd (k _ hX H locs ls hP hD hS hl)
theorem r_astore_nN (hF : Bs F t d) {q : Fin 4} {i : Nat} {lv' : List (Nat × Value)} (hd : decode t.2.2.1 pc = .ok (.astore_n q, 1)) (hi : (q : Nat) = i) (hn : i < t.2.2.2.1) (hl0 : (i, Value.null) :: lv.filter (fun q => !(q.1 == i) && !(q.1 + 1 == i && q.2.category == 2)) = lv') (k : AWP F t (pc + 1) lv' st M) : AWP F t pc lv (.null :: st) M := by
  rintro ⟨p, l, e, R, s, m, args, below, meth, c, A, D, tt, ad, mc, ms, Qf⟩ hX H locs ls hP hD hS hl
  obtain ⟨hx, hb, hml, hown, hts, hK, hA, hE, hroom⟩ := hF _ hX
  exact lv_astore_nN hx hb hd hi hl hn (cL_st hl0) (fun ls hl => k _ hX H locs ls hP hD hS hl)
theorem r_astoreN (hF : Bs F t d) {i : Nat} {lv' : List (Nat × Value)} (hd : decode t.2.2.1 pc = .ok (.astore i, 2)) (hn : i < t.2.2.2.1) (hl0 : (i, Value.null) :: lv.filter (fun q => !(q.1 == i) && !(q.1 + 1 == i && q.2.category == 2)) = lv') (k : AWP F t (pc + 2) lv' st M) : AWP F t pc lv (.null :: st) M := by
  rintro ⟨p, l, e, R, s, m, args, below, meth, c, A, D, tt, ad, mc, ms, Qf⟩ hX H locs ls hP hD hS hl
  obtain ⟨hx, hb, hml, hown, hts, hK, hA, hE, hroom⟩ := hF _ hX
  exact lv_astoreN hx hb hd hl hn (cL_st hl0) (fun ls hl => k _ hX H locs ls hP hD hS hl)
theorem r_ldcS (hF : Bs F t d) {i : Nat} {q : Nat × String} (hd : decode t.2.2.1 pc = .ok (.ldc q.1, 2)) (hq : strL[i]? = some q) (ho : t.1 = RX3) (k : AWP F t (pc + 2) lv (.ref (200 + i) :: st) M) : AWP F t pc lv st M := by
  rintro ⟨p, l, e, R, s, m, args, below, meth, c, A, D, tt, ad, mc, ms, Qf⟩ hX H locs ls hP hD hS hl
  obtain ⟨hx, hb, hml, hown, hts, hK, hA, hE, hroom⟩ := hF _ hX
  rw [ho] at hown
  exact va_ldcS hx hb hown (hE.2.2.2.2.2 i q hq) hd (k _ hX H locs ls hP hD hS hl)
theorem r_getCS (hF : Bs F t d) {idx : Nat} (hd : decode t.2.2.1 pc = .ok (.getstatic idx, 3)) (hw : Cond.fieldLink t.1 idx "java/lang/String" "COMPACT_STRINGS" "Z" ∈ GW) (k : AWP F t (pc + 3) lv (.int 1 :: st) M) : AWP F t pc lv st M := by
  rintro ⟨p, l, e, R, s, m, args, below, meth, c, A, D, tt, ad, mc, ms, Qf⟩ hX H locs ls hP hD hS hl
  obtain ⟨hx, hb, hml, hown, hts, hK, hA, hE, hroom⟩ := hF _ hX
  exact va_gets hx hb hE.2.2.1 hS hown (hts _ hw) (fun _ h9 => h9) hd (k _ hX H locs ls hP hD hS hl)
theorem r_getFM (hF : Bs F t d) {idx : Nat} (hd : decode t.2.2.1 pc = .ok (.getstatic idx, 3)) (hw : Cond.fieldLink t.1 idx "jdk/internal/util/Preconditions" "SIOOBE_FORMATTER" "Ljava/util/function/BiFunction;" ∈ GW) (k1 : AWP F t (pc + 3) lv (.null :: st) M) (k2 : AWP F t (pc + 3) lv (.ref 400 :: st) M) : AWP F t pc lv st M := by
  rintro ⟨p, l, e, R, s, m, args, below, meth, c, A, D, tt, ad, mc, ms, Qf⟩ hX H locs ls hP hD hS hl
  obtain ⟨hx, hb, hml, hown, hts, hK, hA, hE, hroom⟩ := hF _ hX
  rcases hE.2.2.2.1 with h4 | h4
  · exact va_gets hx hb h4 hS hown (hts _ hw) (fun _ h9 => h9) hd (k1 _ hX H locs ls hP hD hS hl)
  · exact va_gets hx hb h4 hS hown (hts _ hw) (fun _ h9 => h9) hd (k2 _ hX H locs ls hP hD hS hl)
theorem r_getSv (hF : Bs F t d) {i idx : Nat} (hd : decode t.2.2.1 pc = .ok (.getfield idx, 3)) (hw : Cond.fieldLink t.1 idx "java/lang/String" "value" "[B" ∈ GW) (hi : i < 16) (k : AWP F t (pc + 3) lv (.ref (300 + i) :: st) M) : AWP F t pc lv (.ref (200 + i) :: st) M := by
  rintro ⟨p, l, e, R, s, m, args, below, meth, c, A, D, tt, ad, mc, ms, Qf⟩ hX H locs ls hP hD hS hl
  obtain ⟨hx, hb, hml, hown, hts, hK, hA, hE, hroom⟩ := hF _ hX
  exact vk_getf hx hb (hE.2.2.2.2.1.1 i hi).2.2.1 hS hown (hts _ hw) (fun _ h9 => h9) hd (k _ hX H locs ls hP hD hS hl)
theorem r_getSc (hF : Bs F t d) {i idx : Nat} (hd : decode t.2.2.1 pc = .ok (.getfield idx, 3)) (hw : Cond.fieldLink t.1 idx "java/lang/String" "coder" "B" ∈ GW) (hi : i < 16) (k : AWP F t (pc + 3) lv (.int 0 :: st) M) : AWP F t pc lv (.ref (200 + i) :: st) M := by
  rintro ⟨p, l, e, R, s, m, args, below, meth, c, A, D, tt, ad, mc, ms, Qf⟩ hX H locs ls hP hD hS hl
  obtain ⟨hx, hb, hml, hown, hts, hK, hA, hE, hroom⟩ := hF _ hX
  exact vk_getf hx hb (hE.2.2.2.2.1.1 i hi).2.1 hS hown (hts _ hw) (fun _ h9 => h9) hd (k _ hX H locs ls hP hD hS hl)
theorem r_tbald (hF : Bs F t d) {i : Nat} {x : Int32} (hd : decode t.2.2.1 pc = .ok (.baload, 1)) (hi : i < 16) (hin : vp_in x (strLen.getD i 0)) (k : AWP F t (pc + 1) lv (.int ((strByt.getD i []).getD x.toNatClampNeg 0) :: st) M) : AWP F t pc lv (.int x :: .ref (300 + i) :: st) M := by
  rintro ⟨p, l, e, R, s, m, args, below, meth, c, A, D, tt, ad, mc, ms, Qf⟩ hX H locs ls hP hD hS hl
  obtain ⟨hx, hb, hml, hown, hts, hK, hA, hE, hroom⟩ := hF _ hX
  exact va_tb hx hb (hE.2.2.2.2.1.1 i hi).2.2.2 hS hin rfl hd (k _ hX H locs ls hP hD hS hl)
theorem r_tblen (hF : Bs F t d) {i : Nat} (hd : decode t.2.2.1 pc = .ok (.arraylength, 1)) (hi : i < 16) (k : AWP F t (pc + 1) lv (.int (Int32.ofNat (strLen.getD i 0)) :: st) M) : AWP F t pc lv (.ref (300 + i) :: st) M := by
  rintro ⟨p, l, e, R, s, m, args, below, meth, c, A, D, tt, ad, mc, ms, Qf⟩ hX H locs ls hP hD hS hl
  obtain ⟨hx, hb, hml, hown, hts, hK, hA, hE, hroom⟩ := hF _ hX
  exact va_tlen hx hb (hE.2.2.2.2.1.1 i hi).2.2.2 hS rfl hd (k _ hX H locs ls hP hD hS hl)
theorem r_callT (hF : Bs F t d) {t2 : MT} {d2 n idx i : Nat} {as stk : List Value} {res : Option Value × Mem} (hd : decode t.2.2.1 pc = .ok (.invokevirtual idx, 3)) (hc : CT t2 d2 (.ref (200 + i) :: as) M res) (hs : MV t2 n) (hw : Cond.methodLink t.1 idx t2.2.1 ∈ GW) (hlen : as.length = n) (hdd : d2 + 1 ≤ d) (hst : stk = as.reverse ++ .ref (200 + i) :: st) (hcat : (st.map fun v => v.category).sum ≤ 8) (hi : i < 16) (hC : t2.2.1.cls = "java/lang/String") (k : AWP F t (pc + 3) lv (res.1.toList ++ st) res.2) : AWP F t pc lv stk M := by
  rintro ⟨p, l, e, R, s, m, args, below, meth, c, A, D, tt, ad, mc, ms, Qf⟩ hX H locs ls hP hD hS hl
  obtain ⟨hx, hb, hml, hown, hts, hK, hA, hE, hroom⟩ := hF _ hX
  subst hst
  obtain ⟨hs1, hs2, hs3, hs4, hs5⟩ := hs
  obtain ⟨hr1, hr2, hr3, hr4⟩ := hroom
  have hR : (rmD d2).frames + 1 ≤ R.frames ∧ 8 + (t2.2.2.2.1 + 11) + (rmD d2).locals ≤ R.locals := by
    show d2 + 1 ≤ R.frames ∧ 8 + (t2.2.2.2.1 + 11) + 64 * d2 ≤ R.locals
    omega
  have hAB : ∀ q, va_A (cW ad tt M) H.size q → A q := by
    intro q h
    rcases h with ⟨k2, e2, h⟩ | h
    · exact hD.2 k2 _ h
    · exact hA q (Nat.le_trans hS.1 h)
  have hpre : ∀ U : State, U.heap = H → s.WarmedH U.vm → va_Pc ((Value.ref (200 + i) :: as).map (cv ad)) (PreB D tt ad H.size M) ((Value.ref (200 + i) :: as).map (cv ad)).toArray U := fun U hU hW => ⟨rfl, by rw [hU], by rw [hU]; exact hP, va_K.moved hW.alike hK, hD.weaken (fun _ _ _ _ => trivial), EV.pass hE hS hU hW hAB⟩
  refine r_after (a := ((Value.ref (200 + i) :: as).map (cv ad)).toArray) hD hS hA hl (va_runV (As := as.map (cv ad)) (rest := st.map (cv ad)) (b := ad (200 + i)) (C := "java/lang/String") ⟨hx, hb, hml, hown, hts⟩ (hc l D tt ad H.size) ⟨callB_of n hts (goodB (t := t) hs1) rfl rfl rfl (hts _ hs3) (hts _ hw) hs4 hR, hts _ hs2.1, by have := hts _ hs2.2; rw [hC] at this; exact this⟩ ⟨blindB, vk_recv (adK := fun i => ad (200 + i)) (adV := fun i => ad (300 + i)) (i := i) hE.2.2.2.2.1 hi hS, hpre⟩ rfl (by rw [List.length_map]; exact hlen) hl.1 (by show ((as.reverse ++ Value.ref (200 + i) :: st).map (cv ad)) = _; rw [List.map_append, List.map_reverse]; rfl) (lv_room (by rw [r_catsum]; exact hcat)) hd ⟨by omega, by omega⟩) (k _ hX)
theorem r_callT_v (hF : Bs F t d) {t2 : MT} {d2 n idx i : Nat} {as stk : List Value} {v : Value} (hd : decode t.2.2.1 pc = .ok (.invokevirtual idx, 3)) (hc : CT t2 d2 (.ref (200 + i) :: as) M (some v, M1)) (hs : MV t2 n) (hw : Cond.methodLink t.1 idx t2.2.1 ∈ GW) (hlen : as.length = n) (hdd : d2 + 1 ≤ d) (hst : stk = as.reverse ++ .ref (200 + i) :: st) (hcat : (st.map fun v => v.category).sum ≤ 8) (hi : i < 16) (k : AWP F t (pc + 3) lv (v :: st) M1) (hC : t2.2.1.cls = "java/lang/String" := by rfl) : AWP F t pc lv stk M := r_callT hF hd hc hs hw hlen hdd hst hcat hi hC k
/-- a given row of ints, outside the world, copied into a row of it -/
theorem r_copyt (hF : Bs F t d) {idx n1 q1 n j : Nat} {x : Int32} {q : String × String × List Int32} (hd : decode t.2.2.1 pc = .ok (.invokestatic idx, 3)) (hw : Cond.methodLink t.1 idx arraycopyName ∈ GW) (hq : stL[j]? = some q) (hs1 : SH[q1]? = some (.inr (.inl n1))) (hx0 : ¬ x < 0 ∧ x.toNatClampNeg = n) (hx1 : x.toInt = (n : Int)) (h4 : n ≤ q.2.2.length) (h5 : n ≤ n1) (hcat : (st.map fun v => v.category).sum ≤ 8) (hd0 : 1 ≤ d) (k : AWP F t (pc + 3) lv st (upr M q1 (va_cpy (fun i => q.2.2.getD i 0) (M q1) 0 0 n))) : AWP F t pc lv (.int x :: .int 0 :: .ref q1 :: .int 0 :: .ref (100 + j) :: st) M := by
  rintro ⟨p, l, e, R, s, m, args, below, meth, c, A, D, tt, ad, mc, ms, Qf⟩ hX H locs ls hP hD hS hl
  obtain ⟨hx, hb, hml, hown, hts, hK, hA, hE, hroom⟩ := hF _ hX
  obtain ⟨hxn, rfl⟩ := hx0
  obtain ⟨cs, g1, g2, g3, g4, -, g5, g6⟩ := (hE.2.1 j q hq).2
  have hsrc : H[ad (100 + j)]? = some cs := (hS.2.1 _ (Array.getElem?_eq_some_iff.mp g1).1 g6).trans g1
  have hdst : H[ad q1]? = some (vp_cell (tt 0) (n1, .inl (M q1))) := hP q1 _ (cW_at hs1)
  obtain ⟨sArr, sk, hsk, scm, skk⟩ := g2
  obtain ⟨-, dk, hdk, dcm, dkk⟩ := (hK.2 0 _ rfl).1 n1 (fun i => .int (M q1 i))
  have z0 : (0 : Int32).toInt = 0 := by decide
  intro T hT X
  obtain ⟨vm1, X1, go⟩ := X.arraycopy hx hown (hts _ hw) (hts _ nat_copy) (hts _ stat_copy) (hts _ ini_copy) (src := ad (100 + j)) (dst := ad q1) (cs := cs) (cd := vp_cell (tt 0) (n1, .inl (M q1))) (srcPos := 0) (destPos := 0) (n := x) (by rw [hT]; exact hsrc) (by rw [hT]; exact hdst)
    sArr (fun _ h => by cases h) g3 (fun h => by cases h) hsk hdk skk dkk (by simp [refKind]) (by decide) (by decide) hxn
    (by rw [z0, hx1]; omega)
    (by rw [z0, hx1]; show ¬ _ > ((arrV (tt 0) n1 (fun i => .int (M q1 i))).slots.size : Int); rw [arrV_size]; omega)
    (fun _ _ i hi => ⟨by rw [show cs.slots.getD ((0 : Int32).toNatClampNeg + i) .null = .int (q.2.2.getD i 0) by rw [show (0 : Int32).toNatClampNeg + i = i by rw [show (0 : Int32).toNatClampNeg = 0 by decide]; omega, Array.getD_eq_getD_getElem?, g5 _ (by omega)]; rfl]; rfl, by rw [show cs.slots.getD ((0 : Int32).toNatClampNeg + i) .null = .int (q.2.2.getD i 0) by rw [show (0 : Int32).toNatClampNeg + i = i by rw [show (0 : Int32).toNatClampNeg = 0 by decide]; omega, Array.getD_eq_getD_getElem?, g5 _ (by omega)]; rfl]; exact trivial⟩)
    (g := F0 m pc ls (((.int x :: .int 0 :: .ref q1 :: .int 0 :: .ref (100 + j) :: st) : List Value).map (cv ad))) rfl (hl.1.trans hml.symm) (rest := st.map (cv ad)) rfl (by rw [hb]; exact hd) (by have := hroom.1; omega) (by
      have e1 : nativeFrameWords "java/lang/System" "arraycopy" 5 + 11 ≤ 56 := by decide
      have := hroom.2.1
      have e2 := r_catsum (ad := ad) st
      show 2 * 0 + ((st.map (cv ad)).map fun v => v.category).sum + _ ≤ _
      rw [e2]
      omega)
  have hcell : copied cs (vp_cell (tt 0) (n1, .inl (M q1))) 0 0 x = vp_cell (tt 0) (n1, .inl (va_cpy (fun i => q.2.2.getD i 0) (M q1) 0 0 x.toNatClampNeg)) := va_copiedX (fun z => .int z) cs (tt 0) (fun i => q.2.2.getD i 0) (M q1) g5 (by rw [show (0 : Int32).toNatClampNeg = 0 by decide]; omega)
  rw [hcell] at X1 go
  have hlt : ad q1 < H.size := (Array.getElem?_eq_some_iff.mp hdst).1
  have off : ∀ z : Nat, z ≠ ad q1 → (H.setIfInBounds (ad q1) (vp_cell (tt 0) (n1, .inl (va_cpy (fun i => q.2.2.getD i 0) (M q1) 0 0 x.toNatClampNeg))))[z]? = H[z]? := fun z hz => by simp [Array.getElem?_setIfInBounds, Ne.symm hz]
  obtain ⟨t2, a1, b1⟩ := k _ hX _ _ ls (by rw [← cW_upr hs1]; exact hP.set hD (cW_at hs1) (show (H.setIfInBounds (ad q1) _)[ad q1]? = some _ by simp [Array.getElem?_setIfInBounds, hlt]) off) (by rw [← cW_upr hs1]; exact hD.set (cW_at hs1)) ⟨by simp; exact hS.1, fun z e1 e2 => by
      rw [off z (fun e => e2 (by rw [e]; exact hD.2 q1 _ (cW_at hs1)))]
      exact hS.2.1 z e1 e2, fun z hz => by
      rcases List.mem_append.mp hz with h | h
      · exact hS.2.2 z h
      · obtain ⟨y, -, hy⟩ := List.mem_map.mp h
        rw [← hy]
        exact hD.2 q1 _ (cW_at hs1)⟩ hl _ (by rw [← hT]; rfl) X1
  exact ⟨t2, go t2 a1, b1⟩
end BASE
