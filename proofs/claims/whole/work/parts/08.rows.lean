/-! ROWS of the abstract machine -/
theorem cL_at {ad : Nat → Nat} {lv : List (Nat × Value)} {k i : Nat} {v : Value} (h : lv[k]? = some (i, v)) : (cL ad lv)[k]? = some (i, cv ad v) := by
  simp [cL, h]
theorem cL_st {ad : Nat → Nat} {lv lv' : List (Nat × Value)} {i : Nat} {v : Value} (h : (i, v) :: lv.filter (fun q => !(q.1 == i) && !(q.1 + 1 == i && q.2.category == 2)) = lv') : (i, cv ad v) :: (cL ad lv).filter (fun q => !(q.1 == i) && !(q.1 + 1 == i && q.2.category == 2)) = cL ad lv' := by
  rw [← h]
  simp only [cL, List.map_cons, List.filter_map]
  congr 2
  apply List.filter_congr
  intro q _
  simp [Function.comp, cv_cat]
theorem cL_st2 {ad : Nat → Nat} {lv lv' : List (Nat × Value)} {i : Nat} {v : Value} (h : (i, v) :: lv.filter (fun q => !(q.1 == i) && (!(q.1 == i + 1) && !(q.1 + 1 == i && q.2.category == 2))) = lv') : (i, cv ad v) :: (cL ad lv).filter (fun q => !(q.1 == i) && (!(q.1 == i + 1) && !(q.1 + 1 == i && q.2.category == 2))) = cL ad lv' := by
  rw [← h]
  simp only [cL, List.map_cons, List.filter_map]
  congr 2
  apply List.filter_congr
  intro q _
  simp [Function.comp, cv_cat]
def irem (x y : Int32) : Int32 := x - x / y * y
def lrem (x y : Int64) : Int64 := x - x / y * y
def b2i (b : Bool) : Int32 := if b = true then 1 else 0
theorem b2i_0 {b : Bool} (h : ¬ b = true) : b2i b = 0 := by simp [b2i, h]
theorem b2i_1 {b : Bool} (h : b = true) : ¬ b2i b = 0 := by simp [b2i, h]
theorem b2i_nar (b : Bool) : narrow .boolean (.int (b2i b)) = .int (b2i b) := by cases b <;> rfl
section ROWS
variable {F : Cx → Prop} {t : MT} {d pc : Nat} {lv : List (Nat × Value)} {st : List Value} {M : Mem}
theorem r_sub (lv' : List (Nat × Value)) (ks : List Nat) (h : lv_pick lv ks = lv') (k : AWP F t pc lv' st M) : AWP F t pc lv st M := by
  rintro ⟨p, l, e, R, s, m, args, below, meth, c, A, D, tt, ad, mc, ms, Qf⟩ hX H locs ls hP hD hS hl
  refine k _ hX H locs ls hP hD hS (lv_sub hl ks ?_)
  rw [← h]
  clear h
  simp only [lv_pick, cL]
  induction ks with
  | nil => rfl
  | cons a ks ih =>
    simp only [List.filterMap_cons]
    cases hk : lv[a]? with
    | none => simpa [hk] using ih
    | some q => simpa [hk] using ih
theorem r_iconst (hF : Bs F t d) {n : Int} {v : Int32} (hd : decode t.2.2.1 pc = .ok (.iconst n, 1)) (hv : Int32.ofInt n = v) (k : AWP F t (pc + 1) lv (.int v :: st) M) : AWP F t pc lv st M := by
  rintro ⟨p, l, e, R, s, m, args, below, meth, c, A, D, tt, ad, mc, ms, Qf⟩ hX H locs ls hP hD hS hl
  obtain ⟨hx, hb, hml, hown, hts, hK, hA, hE, hroom⟩ := hF _ hX
  exact lv_iconst hx hb hd hv (k _ hX H locs ls hP hD hS hl)
theorem r_bipush (hF : Bs F t d) {n : Int} {v : Int32} (hd : decode t.2.2.1 pc = .ok (.bipush n, 2)) (hv : (Int8.ofInt n).toInt32 = v) (k : AWP F t (pc + 2) lv (.int v :: st) M) : AWP F t pc lv st M := by
  rintro ⟨p, l, e, R, s, m, args, below, meth, c, A, D, tt, ad, mc, ms, Qf⟩ hX H locs ls hP hD hS hl
  obtain ⟨hx, hb, hml, hown, hts, hK, hA, hE, hroom⟩ := hF _ hX
  exact lv_bipush hx hb hd hv (k _ hX H locs ls hP hD hS hl)
theorem r_sipush (hF : Bs F t d) {n : Int} {v : Int32} (hd : decode t.2.2.1 pc = .ok (.sipush n, 3)) (hv : (Int16.ofInt n).toInt32 = v) (k : AWP F t (pc + 3) lv (.int v :: st) M) : AWP F t pc lv st M := by
  rintro ⟨p, l, e, R, s, m, args, below, meth, c, A, D, tt, ad, mc, ms, Qf⟩ hX H locs ls hP hD hS hl
  obtain ⟨hx, hb, hml, hown, hts, hK, hA, hE, hroom⟩ := hF _ hX
  exact lv_sipush hx hb hd hv (k _ hX H locs ls hP hD hS hl)
theorem r_lconst (hF : Bs F t d) {n : Fin 2} {v : Int64} (hd : decode t.2.2.1 pc = .ok (.lconst n, 1)) (hv : Int64.ofNat (n : Nat) = v) (k : AWP F t (pc + 1) lv (.long v :: st) M) : AWP F t pc lv st M := by
  rintro ⟨p, l, e, R, s, m, args, below, meth, c, A, D, tt, ad, mc, ms, Qf⟩ hX H locs ls hP hD hS hl
  obtain ⟨hx, hb, hml, hown, hts, hK, hA, hE, hroom⟩ := hF _ hX
  exact lv_lconst hx hb hd hv (k _ hX H locs ls hP hD hS hl)
theorem r_ldc (hF : Bs F t d) {i : Nat} {v : Int32} (hd : decode t.2.2.1 pc = .ok (.ldc i, 2)) (hw : Jvm.Cond.constant t.1 i v ∈ GW) (k : AWP F t (pc + 2) lv (.int v :: st) M) : AWP F t pc lv st M := by
  rintro ⟨p, l, e, R, s, m, args, below, meth, c, A, D, tt, ad, mc, ms, Qf⟩ hX H locs ls hP hD hS hl
  obtain ⟨hx, hb, hml, hown, hts, hK, hA, hE, hroom⟩ := hF _ hX
  exact lv_ldc hx hb hown (hts _ hw) hd (k _ hX H locs ls hP hD hS hl)
theorem r_ldcw (hF : Bs F t d) {i : Nat} {v : Int32} (hd : decode t.2.2.1 pc = .ok (.ldc_w i, 3)) (hw : Jvm.Cond.constant t.1 i v ∈ GW) (k : AWP F t (pc + 3) lv (.int v :: st) M) : AWP F t pc lv st M := by
  rintro ⟨p, l, e, R, s, m, args, below, meth, c, A, D, tt, ad, mc, ms, Qf⟩ hX H locs ls hP hD hS hl
  obtain ⟨hx, hb, hml, hown, hts, hK, hA, hE, hroom⟩ := hF _ hX
  exact lv_ldcw hx hb hown (hts _ hw) hd (k _ hX H locs ls hP hD hS hl)
theorem r_ldc2 (hF : Bs F t d) {i : Nat} {v : Int64} (hd : decode t.2.2.1 pc = .ok (.ldc2_w i, 3)) (hw : Jvm.Cond.constantLong t.1 i v ∈ GW) (k : AWP F t (pc + 3) lv (.long v :: st) M) : AWP F t pc lv st M := by
  rintro ⟨p, l, e, R, s, m, args, below, meth, c, A, D, tt, ad, mc, ms, Qf⟩ hX H locs ls hP hD hS hl
  obtain ⟨hx, hb, hml, hown, hts, hK, hA, hE, hroom⟩ := hF _ hX
  exact lv_ldc2 hx hb hown (hts _ hw) hd (k _ hX H locs ls hP hD hS hl)
theorem r_iload_n (hF : Bs F t d) {q : Fin 4} {i : Nat} {x : Int32} (hd : decode t.2.2.1 pc = .ok (.iload_n q, 1)) (hi : (q : Nat) = i) (j : Nat) (hl0 : lv[j]? = some (i, .int x)) (k : AWP F t (pc + 1) lv (.int x :: st) M) : AWP F t pc lv st M := by
  rintro ⟨p, l, e, R, s, m, args, below, meth, c, A, D, tt, ad, mc, ms, Qf⟩ hX H locs ls hP hD hS hl
  obtain ⟨hx, hb, hml, hown, hts, hK, hA, hE, hroom⟩ := hF _ hX
  exact lv_iload_n hx hb hd hi (lv_at hl j (cL_at hl0)) (k _ hX H locs ls hP hD hS hl)
theorem r_iload (hF : Bs F t d) {i : Nat} {x : Int32} (hd : decode t.2.2.1 pc = .ok (.iload i, 2)) (j : Nat) (hl0 : lv[j]? = some (i, .int x)) (k : AWP F t (pc + 2) lv (.int x :: st) M) : AWP F t pc lv st M := by
  rintro ⟨p, l, e, R, s, m, args, below, meth, c, A, D, tt, ad, mc, ms, Qf⟩ hX H locs ls hP hD hS hl
  obtain ⟨hx, hb, hml, hown, hts, hK, hA, hE, hroom⟩ := hF _ hX
  exact lv_iload hx hb hd (lv_at hl j (cL_at hl0)) (k _ hX H locs ls hP hD hS hl)
theorem r_lload_n (hF : Bs F t d) {q : Fin 4} {i : Nat} {x : Int64} (hd : decode t.2.2.1 pc = .ok (.lload_n q, 1)) (hi : (q : Nat) = i) (j : Nat) (hl0 : lv[j]? = some (i, .long x)) (k : AWP F t (pc + 1) lv (.long x :: st) M) : AWP F t pc lv st M := by
  rintro ⟨p, l, e, R, s, m, args, below, meth, c, A, D, tt, ad, mc, ms, Qf⟩ hX H locs ls hP hD hS hl
  obtain ⟨hx, hb, hml, hown, hts, hK, hA, hE, hroom⟩ := hF _ hX
  exact lv_lload_n hx hb hd hi (lv_at hl j (cL_at hl0)) (k _ hX H locs ls hP hD hS hl)
theorem r_lload (hF : Bs F t d) {i : Nat} {x : Int64} (hd : decode t.2.2.1 pc = .ok (.lload i, 2)) (j : Nat) (hl0 : lv[j]? = some (i, .long x)) (k : AWP F t (pc + 2) lv (.long x :: st) M) : AWP F t pc lv st M := by
  rintro ⟨p, l, e, R, s, m, args, below, meth, c, A, D, tt, ad, mc, ms, Qf⟩ hX H locs ls hP hD hS hl
  obtain ⟨hx, hb, hml, hown, hts, hK, hA, hE, hroom⟩ := hF _ hX
  exact lv_lload hx hb hd (lv_at hl j (cL_at hl0)) (k _ hX H locs ls hP hD hS hl)
theorem r_aload_n (hF : Bs F t d) {q : Fin 4} {i x : Nat} (hd : decode t.2.2.1 pc = .ok (.aload_n q, 1)) (hi : (q : Nat) = i) (j : Nat) (hl0 : lv[j]? = some (i, .ref x)) (k : AWP F t (pc + 1) lv (.ref x :: st) M) : AWP F t pc lv st M := by
  rintro ⟨p, l, e, R, s, m, args, below, meth, c, A, D, tt, ad, mc, ms, Qf⟩ hX H locs ls hP hD hS hl
  obtain ⟨hx, hb, hml, hown, hts, hK, hA, hE, hroom⟩ := hF _ hX
  exact lv_aload_n hx hb hd hi (lv_at hl j (cL_at hl0)) (k _ hX H locs ls hP hD hS hl)
theorem r_aload (hF : Bs F t d) {i x : Nat} (hd : decode t.2.2.1 pc = .ok (.aload i, 2)) (j : Nat) (hl0 : lv[j]? = some (i, .ref x)) (k : AWP F t (pc + 2) lv (.ref x :: st) M) : AWP F t pc lv st M := by
  rintro ⟨p, l, e, R, s, m, args, below, meth, c, A, D, tt, ad, mc, ms, Qf⟩ hX H locs ls hP hD hS hl
  obtain ⟨hx, hb, hml, hown, hts, hK, hA, hE, hroom⟩ := hF _ hX
  exact lv_aload hx hb hd (lv_at hl j (cL_at hl0)) (k _ hX H locs ls hP hD hS hl)
theorem r_aload_nN (hF : Bs F t d) {q : Fin 4} {i : Nat} (hd : decode t.2.2.1 pc = .ok (.aload_n q, 1)) (hi : (q : Nat) = i) (j : Nat) (hl0 : lv[j]? = some (i, .null)) (k : AWP F t (pc + 1) lv (.null :: st) M) : AWP F t pc lv st M := by
  rintro ⟨p, l, e, R, s, m, args, below, meth, c, A, D, tt, ad, mc, ms, Qf⟩ hX H locs ls hP hD hS hl
  obtain ⟨hx, hb, hml, hown, hts, hK, hA, hE, hroom⟩ := hF _ hX
  exact lv_aload_nN hx hb hd hi (lv_at hl j (cL_at hl0)) (k _ hX H locs ls hP hD hS hl)
theorem r_aloadN (hF : Bs F t d) {i : Nat} (hd : decode t.2.2.1 pc = .ok (.aload i, 2)) (j : Nat) (hl0 : lv[j]? = some (i, .null)) (k : AWP F t (pc + 2) lv (.null :: st) M) : AWP F t pc lv st M := by
  rintro ⟨p, l, e, R, s, m, args, below, meth, c, A, D, tt, ad, mc, ms, Qf⟩ hX H locs ls hP hD hS hl
  obtain ⟨hx, hb, hml, hown, hts, hK, hA, hE, hroom⟩ := hF _ hX
  exact lv_aloadN hx hb hd (lv_at hl j (cL_at hl0)) (k _ hX H locs ls hP hD hS hl)
theorem r_istore_n (hF : Bs F t d) {q : Fin 4} {i : Nat} {x : Int32} {lv' : List (Nat × Value)} (hd : decode t.2.2.1 pc = .ok (.istore_n q, 1)) (hi : (q : Nat) = i) (hn : i < t.2.2.2.1) (hl0 : (i, Value.int x) :: lv.filter (fun q => !(q.1 == i) && !(q.1 + 1 == i && q.2.category == 2)) = lv') (k : AWP F t (pc + 1) lv' st M) : AWP F t pc lv (.int x :: st) M := by
  rintro ⟨p, l, e, R, s, m, args, below, meth, c, A, D, tt, ad, mc, ms, Qf⟩ hX H locs ls hP hD hS hl
  obtain ⟨hx, hb, hml, hown, hts, hK, hA, hE, hroom⟩ := hF _ hX
  exact lv_istore_n hx hb hd hi hl hn (cL_st hl0) (fun ls hl => k _ hX H locs ls hP hD hS hl)
theorem r_istore (hF : Bs F t d) {i : Nat} {x : Int32} {lv' : List (Nat × Value)} (hd : decode t.2.2.1 pc = .ok (.istore i, 2)) (hn : i < t.2.2.2.1) (hl0 : (i, Value.int x) :: lv.filter (fun q => !(q.1 == i) && !(q.1 + 1 == i && q.2.category == 2)) = lv') (k : AWP F t (pc + 2) lv' st M) : AWP F t pc lv (.int x :: st) M := by
  rintro ⟨p, l, e, R, s, m, args, below, meth, c, A, D, tt, ad, mc, ms, Qf⟩ hX H locs ls hP hD hS hl
  obtain ⟨hx, hb, hml, hown, hts, hK, hA, hE, hroom⟩ := hF _ hX
  exact lv_istore hx hb hd hl hn (cL_st hl0) (fun ls hl => k _ hX H locs ls hP hD hS hl)
theorem r_lstore_n (hF : Bs F t d) {q : Fin 4} {i : Nat} {x : Int64} {lv' : List (Nat × Value)} (hd : decode t.2.2.1 pc = .ok (.lstore_n q, 1)) (hi : (q : Nat) = i) (hn : i + 1 < t.2.2.2.1) (hl0 : (i, Value.long x) :: lv.filter (fun q => !(q.1 == i) && (!(q.1 == i + 1) && !(q.1 + 1 == i && q.2.category == 2))) = lv') (k : AWP F t (pc + 1) lv' st M) : AWP F t pc lv (.long x :: st) M := by
  rintro ⟨p, l, e, R, s, m, args, below, meth, c, A, D, tt, ad, mc, ms, Qf⟩ hX H locs ls hP hD hS hl
  obtain ⟨hx, hb, hml, hown, hts, hK, hA, hE, hroom⟩ := hF _ hX
  exact lv_lstore_n hx hb hd hi hl hn (cL_st2 hl0) (fun ls hl => k _ hX H locs ls hP hD hS hl)
theorem r_lstore (hF : Bs F t d) {i : Nat} {x : Int64} {lv' : List (Nat × Value)} (hd : decode t.2.2.1 pc = .ok (.lstore i, 2)) (hn : i + 1 < t.2.2.2.1) (hl0 : (i, Value.long x) :: lv.filter (fun q => !(q.1 == i) && (!(q.1 == i + 1) && !(q.1 + 1 == i && q.2.category == 2))) = lv') (k : AWP F t (pc + 2) lv' st M) : AWP F t pc lv (.long x :: st) M := by
  rintro ⟨p, l, e, R, s, m, args, below, meth, c, A, D, tt, ad, mc, ms, Qf⟩ hX H locs ls hP hD hS hl
  obtain ⟨hx, hb, hml, hown, hts, hK, hA, hE, hroom⟩ := hF _ hX
  exact lv_lstore hx hb hd hl hn (cL_st2 hl0) (fun ls hl => k _ hX H locs ls hP hD hS hl)
theorem r_astore_n (hF : Bs F t d) {q : Fin 4} {i : Nat} {x : Nat} {lv' : List (Nat × Value)} (hd : decode t.2.2.1 pc = .ok (.astore_n q, 1)) (hi : (q : Nat) = i) (hn : i < t.2.2.2.1) (hl0 : (i, Value.ref x) :: lv.filter (fun q => !(q.1 == i) && !(q.1 + 1 == i && q.2.category == 2)) = lv') (k : AWP F t (pc + 1) lv' st M) : AWP F t pc lv (.ref x :: st) M := by
  rintro ⟨p, l, e, R, s, m, args, below, meth, c, A, D, tt, ad, mc, ms, Qf⟩ hX H locs ls hP hD hS hl
  obtain ⟨hx, hb, hml, hown, hts, hK, hA, hE, hroom⟩ := hF _ hX
  exact lv_astore_n hx hb hd hi hl hn (cL_st hl0) (fun ls hl => k _ hX H locs ls hP hD hS hl)
theorem r_astore (hF : Bs F t d) {i : Nat} {x : Nat} {lv' : List (Nat × Value)} (hd : decode t.2.2.1 pc = .ok (.astore i, 2)) (hn : i < t.2.2.2.1) (hl0 : (i, Value.ref x) :: lv.filter (fun q => !(q.1 == i) && !(q.1 + 1 == i && q.2.category == 2)) = lv') (k : AWP F t (pc + 2) lv' st M) : AWP F t pc lv (.ref x :: st) M := by
  rintro ⟨p, l, e, R, s, m, args, below, meth, c, A, D, tt, ad, mc, ms, Qf⟩ hX H locs ls hP hD hS hl
  obtain ⟨hx, hb, hml, hown, hts, hK, hA, hE, hroom⟩ := hF _ hX
  exact lv_astore hx hb hd hl hn (cL_st hl0) (fun ls hl => k _ hX H locs ls hP hD hS hl)
theorem r_iinc (hF : Bs F t d) {i : Nat} {n : Int} {x v : Int32} {lv' : List (Nat × Value)} (hd : decode t.2.2.1 pc = .ok (.iinc i n, 3)) (j : Nat) (hk : lv[j]? = some (i, .int x)) (hv : x + Int32.ofInt n = v) (hn : i < t.2.2.2.1) (hl0 : (i, Value.int v) :: lv.filter (fun q => !(q.1 == i) && !(q.1 + 1 == i && q.2.category == 2)) = lv') (k : AWP F t (pc + 3) lv' st M) : AWP F t pc lv st M := by
  rintro ⟨p, l, e, R, s, m, args, below, meth, c, A, D, tt, ad, mc, ms, Qf⟩ hX H locs ls hP hD hS hl
  obtain ⟨hx, hb, hml, hown, hts, hK, hA, hE, hroom⟩ := hF _ hX
  exact lv_iinc hx hb hd hl (k := j) (cL_at hk) hv hn (cL_st hl0) (fun ls hl => k _ hX H locs ls hP hD hS hl)
theorem r_iadd (hF : Bs F t d) {x y : Int32} (hd : decode t.2.2.1 pc = .ok (.iadd, 1)) (k : AWP F t (pc + 1) lv (.int (x + y) :: st) M) : AWP F t pc lv (.int y :: .int x :: st) M := by
  rintro ⟨p, l, e, R, s, m, args, below, meth, c, A, D, tt, ad, mc, ms, Qf⟩ hX H locs ls hP hD hS hl
  obtain ⟨hx, hb, hml, hown, hts, hK, hA, hE, hroom⟩ := hF _ hX
  exact lv_iadd hx hb hd (k _ hX H locs ls hP hD hS hl)
theorem r_isub (hF : Bs F t d) {x y : Int32} (hd : decode t.2.2.1 pc = .ok (.isub, 1)) (k : AWP F t (pc + 1) lv (.int (x - y) :: st) M) : AWP F t pc lv (.int y :: .int x :: st) M := by
  rintro ⟨p, l, e, R, s, m, args, below, meth, c, A, D, tt, ad, mc, ms, Qf⟩ hX H locs ls hP hD hS hl
  obtain ⟨hx, hb, hml, hown, hts, hK, hA, hE, hroom⟩ := hF _ hX
  exact lv_isub hx hb hd (k _ hX H locs ls hP hD hS hl)
theorem r_imul (hF : Bs F t d) {x y : Int32} (hd : decode t.2.2.1 pc = .ok (.imul, 1)) (k : AWP F t (pc + 1) lv (.int (x * y) :: st) M) : AWP F t pc lv (.int y :: .int x :: st) M := by
  rintro ⟨p, l, e, R, s, m, args, below, meth, c, A, D, tt, ad, mc, ms, Qf⟩ hX H locs ls hP hD hS hl
  obtain ⟨hx, hb, hml, hown, hts, hK, hA, hE, hroom⟩ := hF _ hX
  exact lv_imul hx hb hd (k _ hX H locs ls hP hD hS hl)
theorem r_iand (hF : Bs F t d) {x y : Int32} (hd : decode t.2.2.1 pc = .ok (.iand, 1)) (k : AWP F t (pc + 1) lv (.int (x &&& y) :: st) M) : AWP F t pc lv (.int y :: .int x :: st) M := by
  rintro ⟨p, l, e, R, s, m, args, below, meth, c, A, D, tt, ad, mc, ms, Qf⟩ hX H locs ls hP hD hS hl
  obtain ⟨hx, hb, hml, hown, hts, hK, hA, hE, hroom⟩ := hF _ hX
  exact lv_iand hx hb hd (k _ hX H locs ls hP hD hS hl)
theorem r_ior (hF : Bs F t d) {x y : Int32} (hd : decode t.2.2.1 pc = .ok (.ior, 1)) (k : AWP F t (pc + 1) lv (.int (x ||| y) :: st) M) : AWP F t pc lv (.int y :: .int x :: st) M := by
  rintro ⟨p, l, e, R, s, m, args, below, meth, c, A, D, tt, ad, mc, ms, Qf⟩ hX H locs ls hP hD hS hl
  obtain ⟨hx, hb, hml, hown, hts, hK, hA, hE, hroom⟩ := hF _ hX
  exact lv_ior hx hb hd (k _ hX H locs ls hP hD hS hl)
theorem r_ixor (hF : Bs F t d) {x y : Int32} (hd : decode t.2.2.1 pc = .ok (.ixor, 1)) (k : AWP F t (pc + 1) lv (.int (x ^^^ y) :: st) M) : AWP F t pc lv (.int y :: .int x :: st) M := by
  rintro ⟨p, l, e, R, s, m, args, below, meth, c, A, D, tt, ad, mc, ms, Qf⟩ hX H locs ls hP hD hS hl
  obtain ⟨hx, hb, hml, hown, hts, hK, hA, hE, hroom⟩ := hF _ hX
  exact lv_ixor hx hb hd (k _ hX H locs ls hP hD hS hl)
theorem r_ishl (hF : Bs F t d) {x y : Int32} (hd : decode t.2.2.1 pc = .ok (.ishl, 1)) (k : AWP F t (pc + 1) lv (.int (x <<< (y &&& 31)) :: st) M) : AWP F t pc lv (.int y :: .int x :: st) M := by
  rintro ⟨p, l, e, R, s, m, args, below, meth, c, A, D, tt, ad, mc, ms, Qf⟩ hX H locs ls hP hD hS hl
  obtain ⟨hx, hb, hml, hown, hts, hK, hA, hE, hroom⟩ := hF _ hX
  exact lv_ishl hx hb hd (k _ hX H locs ls hP hD hS hl)
theorem r_ishr (hF : Bs F t d) {x y : Int32} (hd : decode t.2.2.1 pc = .ok (.ishr, 1)) (k : AWP F t (pc + 1) lv (.int (x >>> (y &&& 31)) :: st) M) : AWP F t pc lv (.int y :: .int x :: st) M := by
  rintro ⟨p, l, e, R, s, m, args, below, meth, c, A, D, tt, ad, mc, ms, Qf⟩ hX H locs ls hP hD hS hl
  obtain ⟨hx, hb, hml, hown, hts, hK, hA, hE, hroom⟩ := hF _ hX
  exact lv_ishr hx hb hd (k _ hX H locs ls hP hD hS hl)
theorem r_idiv (hF : Bs F t d) {x y : Int32} (hd : decode t.2.2.1 pc = .ok (.idiv, 1)) (hne : ¬ y = 0) (k : AWP F t (pc + 1) lv (.int (x / y) :: st) M) : AWP F t pc lv (.int y :: .int x :: st) M := by
  rintro ⟨p, l, e, R, s, m, args, below, meth, c, A, D, tt, ad, mc, ms, Qf⟩ hX H locs ls hP hD hS hl
  obtain ⟨hx, hb, hml, hown, hts, hK, hA, hE, hroom⟩ := hF _ hX
  exact lv_idiv hx hb hd hne (k _ hX H locs ls hP hD hS hl)
theorem r_irem (hF : Bs F t d) {x y : Int32} (hd : decode t.2.2.1 pc = .ok (.irem, 1)) (hne : ¬ y = 0) (k : AWP F t (pc + 1) lv (.int (irem x y) :: st) M) : AWP F t pc lv (.int y :: .int x :: st) M := by
  rintro ⟨p, l, e, R, s, m, args, below, meth, c, A, D, tt, ad, mc, ms, Qf⟩ hX H locs ls hP hD hS hl
  obtain ⟨hx, hb, hml, hown, hts, hK, hA, hE, hroom⟩ := hF _ hX
  exact lv_irem hx hb hd hne (k _ hX H locs ls hP hD hS hl)
theorem r_ladd (hF : Bs F t d) {x y : Int64} (hd : decode t.2.2.1 pc = .ok (.ladd, 1)) (k : AWP F t (pc + 1) lv (.long (x + y) :: st) M) : AWP F t pc lv (.long y :: .long x :: st) M := by
  rintro ⟨p, l, e, R, s, m, args, below, meth, c, A, D, tt, ad, mc, ms, Qf⟩ hX H locs ls hP hD hS hl
  obtain ⟨hx, hb, hml, hown, hts, hK, hA, hE, hroom⟩ := hF _ hX
  exact lv_ladd hx hb hd (k _ hX H locs ls hP hD hS hl)
theorem r_lmul (hF : Bs F t d) {x y : Int64} (hd : decode t.2.2.1 pc = .ok (.lmul, 1)) (k : AWP F t (pc + 1) lv (.long (x * y) :: st) M) : AWP F t pc lv (.long y :: .long x :: st) M := by
  rintro ⟨p, l, e, R, s, m, args, below, meth, c, A, D, tt, ad, mc, ms, Qf⟩ hX H locs ls hP hD hS hl
  obtain ⟨hx, hb, hml, hown, hts, hK, hA, hE, hroom⟩ := hF _ hX
  exact lv_lmul hx hb hd (k _ hX H locs ls hP hD hS hl)
theorem r_land (hF : Bs F t d) {x y : Int64} (hd : decode t.2.2.1 pc = .ok (.land, 1)) (k : AWP F t (pc + 1) lv (.long (x &&& y) :: st) M) : AWP F t pc lv (.long y :: .long x :: st) M := by
  rintro ⟨p, l, e, R, s, m, args, below, meth, c, A, D, tt, ad, mc, ms, Qf⟩ hX H locs ls hP hD hS hl
  obtain ⟨hx, hb, hml, hown, hts, hK, hA, hE, hroom⟩ := hF _ hX
  exact lv_land hx hb hd (k _ hX H locs ls hP hD hS hl)
theorem r_lor (hF : Bs F t d) {x y : Int64} (hd : decode t.2.2.1 pc = .ok (.lor, 1)) (k : AWP F t (pc + 1) lv (.long (x ||| y) :: st) M) : AWP F t pc lv (.long y :: .long x :: st) M := by
  rintro ⟨p, l, e, R, s, m, args, below, meth, c, A, D, tt, ad, mc, ms, Qf⟩ hX H locs ls hP hD hS hl
  obtain ⟨hx, hb, hml, hown, hts, hK, hA, hE, hroom⟩ := hF _ hX
  exact lv_lor hx hb hd (k _ hX H locs ls hP hD hS hl)
theorem r_ldiv (hF : Bs F t d) {x y : Int64} (hd : decode t.2.2.1 pc = .ok (.ldiv, 1)) (hne : ¬ y = 0) (k : AWP F t (pc + 1) lv (.long (x / y) :: st) M) : AWP F t pc lv (.long y :: .long x :: st) M := by
  rintro ⟨p, l, e, R, s, m, args, below, meth, c, A, D, tt, ad, mc, ms, Qf⟩ hX H locs ls hP hD hS hl
  obtain ⟨hx, hb, hml, hown, hts, hK, hA, hE, hroom⟩ := hF _ hX
  exact lv_ldiv hx hb hd hne (k _ hX H locs ls hP hD hS hl)
theorem r_lrem (hF : Bs F t d) {x y : Int64} (hd : decode t.2.2.1 pc = .ok (.lrem, 1)) (hne : ¬ y = 0) (k : AWP F t (pc + 1) lv (.long (lrem x y) :: st) M) : AWP F t pc lv (.long y :: .long x :: st) M := by
  rintro ⟨p, l, e, R, s, m, args, below, meth, c, A, D, tt, ad, mc, ms, Qf⟩ hX H locs ls hP hD hS hl
  obtain ⟨hx, hb, hml, hown, hts, hK, hA, hE, hroom⟩ := hF _ hX
  exact lv_lrem hx hb hd hne (k _ hX H locs ls hP hD hS hl)
theorem r_ineg (hF : Bs F t d) {x : Int32} (hd : decode t.2.2.1 pc = .ok (.ineg, 1)) (k : AWP F t (pc + 1) lv (.int (-x) :: st) M) : AWP F t pc lv (.int x :: st) M := by
  rintro ⟨p, l, e, R, s, m, args, below, meth, c, A, D, tt, ad, mc, ms, Qf⟩ hX H locs ls hP hD hS hl
  obtain ⟨hx, hb, hml, hown, hts, hK, hA, hE, hroom⟩ := hF _ hX
  exact lv_ineg hx hb hd (k _ hX H locs ls hP hD hS hl)
theorem r_iushr (hF : Bs F t d) {x y : Int32} (hd : decode t.2.2.1 pc = .ok (.iushr, 1)) (k : AWP F t (pc + 1) lv (.int ((x.toUInt32 >>> (y.toUInt32 &&& Int32.toUInt32 31)).toInt32) :: st) M) : AWP F t pc lv (.int y :: .int x :: st) M := by
  rintro ⟨p, l, e, R, s, m, args, below, meth, c, A, D, tt, ad, mc, ms, Qf⟩ hX H locs ls hP hD hS hl
  obtain ⟨hx, hb, hml, hown, hts, hK, hA, hE, hroom⟩ := hF _ hX
  exact lv_iushr hx hb hd rfl (k _ hX H locs ls hP hD hS hl)
theorem r_lushr (hF : Bs F t d) {x : Int64} {y : Int32} (hd : decode t.2.2.1 pc = .ok (.lushr, 1)) (k : AWP F t (pc + 1) lv (.long ((x.toUInt64 >>> (y.toInt64.toUInt64 &&& Int64.toUInt64 63)).toInt64) :: st) M) : AWP F t pc lv (.int y :: .long x :: st) M := by
  rintro ⟨p, l, e, R, s, m, args, below, meth, c, A, D, tt, ad, mc, ms, Qf⟩ hX H locs ls hP hD hS hl
  obtain ⟨hx, hb, hml, hown, hts, hK, hA, hE, hroom⟩ := hF _ hX
  exact lv_lushr hx hb hd rfl (k _ hX H locs ls hP hD hS hl)
theorem r_lshl (hF : Bs F t d) {x : Int64} {y : Int32} (hd : decode t.2.2.1 pc = .ok (.lshl, 1)) (k : AWP F t (pc + 1) lv (.long (x <<< (y.toInt64 &&& 63)) :: st) M) : AWP F t pc lv (.int y :: .long x :: st) M := by
  rintro ⟨p, l, e, R, s, m, args, below, meth, c, A, D, tt, ad, mc, ms, Qf⟩ hX H locs ls hP hD hS hl
  obtain ⟨hx, hb, hml, hown, hts, hK, hA, hE, hroom⟩ := hF _ hX
  exact lv_lshl hx hb hd rfl (k _ hX H locs ls hP hD hS hl)
theorem r_lshr (hF : Bs F t d) {x : Int64} {y : Int32} (hd : decode t.2.2.1 pc = .ok (.lshr, 1)) (k : AWP F t (pc + 1) lv (.long (x >>> (y.toInt64 &&& 63)) :: st) M) : AWP F t pc lv (.int y :: .long x :: st) M := by
  rintro ⟨p, l, e, R, s, m, args, below, meth, c, A, D, tt, ad, mc, ms, Qf⟩ hX H locs ls hP hD hS hl
  obtain ⟨hx, hb, hml, hown, hts, hK, hA, hE, hroom⟩ := hF _ hX
  exact lv_lshr hx hb hd rfl (k _ hX H locs ls hP hD hS hl)
theorem r_i2l (hF : Bs F t d) {x : Int32} (hd : decode t.2.2.1 pc = .ok (.i2l, 1)) (k : AWP F t (pc + 1) lv (.long x.toInt64 :: st) M) : AWP F t pc lv (.int x :: st) M := by
  rintro ⟨p, l, e, R, s, m, args, below, meth, c, A, D, tt, ad, mc, ms, Qf⟩ hX H locs ls hP hD hS hl
  obtain ⟨hx, hb, hml, hown, hts, hK, hA, hE, hroom⟩ := hF _ hX
  exact lv_i2l hx hb hd rfl (k _ hX H locs ls hP hD hS hl)
theorem r_l2i (hF : Bs F t d) {x : Int64} (hd : decode t.2.2.1 pc = .ok (.l2i, 1)) (k : AWP F t (pc + 1) lv (.int x.toInt32 :: st) M) : AWP F t pc lv (.long x :: st) M := by
  rintro ⟨p, l, e, R, s, m, args, below, meth, c, A, D, tt, ad, mc, ms, Qf⟩ hX H locs ls hP hD hS hl
  obtain ⟨hx, hb, hml, hown, hts, hK, hA, hE, hroom⟩ := hF _ hX
  exact lv_l2i hx hb hd rfl (k _ hX H locs ls hP hD hS hl)
theorem r_i2b (hF : Bs F t d) {x : Int32} (hd : decode t.2.2.1 pc = .ok (.i2b, 1)) (k : AWP F t (pc + 1) lv (.int x.toInt8.toInt32 :: st) M) : AWP F t pc lv (.int x :: st) M := by
  rintro ⟨p, l, e, R, s, m, args, below, meth, c, A, D, tt, ad, mc, ms, Qf⟩ hX H locs ls hP hD hS hl
  obtain ⟨hx, hb, hml, hown, hts, hK, hA, hE, hroom⟩ := hF _ hX
  exact lv_i2b hx hb hd rfl (k _ hX H locs ls hP hD hS hl)
theorem r_i2s (hF : Bs F t d) {x : Int32} (hd : decode t.2.2.1 pc = .ok (.i2s, 1)) (k : AWP F t (pc + 1) lv (.int x.toInt16.toInt32 :: st) M) : AWP F t pc lv (.int x :: st) M := by
  rintro ⟨p, l, e, R, s, m, args, below, meth, c, A, D, tt, ad, mc, ms, Qf⟩ hX H locs ls hP hD hS hl
  obtain ⟨hx, hb, hml, hown, hts, hK, hA, hE, hroom⟩ := hF _ hX
  exact lv_i2s hx hb hd rfl (k _ hX H locs ls hP hD hS hl)
theorem r_i2c (hF : Bs F t d) {x : Int32} (hd : decode t.2.2.1 pc = .ok (.i2c, 1)) (k : AWP F t (pc + 1) lv (.int ((x.toUInt32 % 65536).toInt32) :: st) M) : AWP F t pc lv (.int x :: st) M := by
  rintro ⟨p, l, e, R, s, m, args, below, meth, c, A, D, tt, ad, mc, ms, Qf⟩ hX H locs ls hP hD hS hl
  obtain ⟨hx, hb, hml, hown, hts, hK, hA, hE, hroom⟩ := hF _ hX
  exact lv_i2c hx hb hd rfl (k _ hX H locs ls hP hD hS hl)
theorem r_dup (hF : Bs F t d) {v : Value} (hd : decode t.2.2.1 pc = .ok (.dup, 1)) (hv : v.category = 1) (k : AWP F t (pc + 1) lv (v :: v :: st) M) : AWP F t pc lv (v :: st) M := by
  rintro ⟨p, l, e, R, s, m, args, below, meth, c, A, D, tt, ad, mc, ms, Qf⟩ hX H locs ls hP hD hS hl
  obtain ⟨hx, hb, hml, hown, hts, hK, hA, hE, hroom⟩ := hF _ hX
  exact lv_dup hx hb hd (by rw [cv_cat]; exact hv) (k _ hX H locs ls hP hD hS hl)
theorem r_pop (hF : Bs F t d) {v : Value} (hd : decode t.2.2.1 pc = .ok (.pop, 1)) (hv : v.category = 1) (k : AWP F t (pc + 1) lv st M) : AWP F t pc lv (v :: st) M := by
  rintro ⟨p, l, e, R, s, m, args, below, meth, c, A, D, tt, ad, mc, ms, Qf⟩ hX H locs ls hP hD hS hl
  obtain ⟨hx, hb, hml, hown, hts, hK, hA, hE, hroom⟩ := hF _ hX
  exact lv_pop hx hb hd (by rw [cv_cat]; exact hv) (k _ hX H locs ls hP hD hS hl)
theorem r_dup2 (hF : Bs F t d) {v w : Value} (hd : decode t.2.2.1 pc = .ok (.dup2, 1)) (hv : v.category = 1) (hw : w.category = 1) (k : AWP F t (pc + 1) lv (v :: w :: v :: w :: st) M) : AWP F t pc lv (v :: w :: st) M := by
  rintro ⟨p, l, e, R, s, m, args, below, meth, c, A, D, tt, ad, mc, ms, Qf⟩ hX H locs ls hP hD hS hl
  obtain ⟨hx, hb, hml, hown, hts, hK, hA, hE, hroom⟩ := hF _ hX
  exact lv_dup2_11 hx hb hd (by rw [cv_cat]; exact hv) (by rw [cv_cat]; exact hw) (k _ hX H locs ls hP hD hS hl)
theorem r_lcmp (hF : Bs F t d) {x y : Int64} (hd : decode t.2.2.1 pc = .ok (.lcmp, 1)) (k : AWP F t (pc + 1) lv (.int (lg_cmp x y) :: st) M) : AWP F t pc lv (.long y :: .long x :: st) M := by
  rintro ⟨p, l, e, R, s, m, args, below, meth, c, A, D, tt, ad, mc, ms, Qf⟩ hX H locs ls hP hD hS hl
  obtain ⟨hx, hb, hml, hown, hts, hK, hA, hE, hroom⟩ := hF _ hX
  exact W.lcmp hx hb hd (k _ hX H locs ls hP hD hS hl)
theorem r_goto (hF : Bs F t d) {off : Int} {tgt : Nat} (hd : decode t.2.2.1 pc = .ok (.goto off, 3)) (ht : (pc : Int) + off = (tgt : Int)) (k : AWP F t tgt lv st M) : AWP F t pc lv st M := by
  rintro ⟨p, l, e, R, s, m, args, below, meth, c, A, D, tt, ad, mc, ms, Qf⟩ hX H locs ls hP hD hS hl
  obtain ⟨hx, hb, hml, hown, hts, hK, hA, hE, hroom⟩ := hF _ hX
  exact lv_goto hx hb hd ht (k _ hX H locs ls hP hD hS hl)
theorem r_null (hF : Bs F t d) (hd : decode t.2.2.1 pc = .ok (.aconst_null, 1)) (k : AWP F t (pc + 1) lv (.null :: st) M) : AWP F t pc lv st M := by
  rintro ⟨p, l, e, R, s, m, args, below, meth, c, A, D, tt, ad, mc, ms, Qf⟩ hX H locs ls hP hD hS hl
  obtain ⟨hx, hb, hml, hown, hts, hK, hA, hE, hroom⟩ := hF _ hX
  exact lv_null hx hb hd (k _ hX H locs ls hP hD hS hl)
theorem r_ifnull (hF : Bs F t d) {off : Int} {x : Nat} (hd : decode t.2.2.1 pc = .ok (.ifnull off, 3)) (k : AWP F t (pc + 3) lv st M) : AWP F t pc lv (.ref x :: st) M := by
  rintro ⟨p, l, e, R, s, m, args, below, meth, c, A, D, tt, ad, mc, ms, Qf⟩ hX H locs ls hP hD hS hl
  obtain ⟨hx, hb, hml, hown, hts, hK, hA, hE, hroom⟩ := hF _ hX
  exact lv_ifnull hx hb hd (k _ hX H locs ls hP hD hS hl)
theorem r_ifnullN (hF : Bs F t d) {off : Int} {tgt : Nat} (hd : decode t.2.2.1 pc = .ok (.ifnull off, 3)) (ht : (pc : Int) + off = (tgt : Int)) (k : AWP F t tgt lv st M) : AWP F t pc lv (.null :: st) M := by
  rintro ⟨p, l, e, R, s, m, args, below, meth, c, A, D, tt, ad, mc, ms, Qf⟩ hX H locs ls hP hD hS hl
  obtain ⟨hx, hb, hml, hown, hts, hK, hA, hE, hroom⟩ := hF _ hX
  exact lv_ifnullN hx hb hd ht (k _ hX H locs ls hP hD hS hl)
theorem r_ifnonnull (hF : Bs F t d) {off : Int} {tgt x : Nat} (hd : decode t.2.2.1 pc = .ok (.ifnonnull off, 3)) (ht : (pc : Int) + off = (tgt : Int)) (k : AWP F t tgt lv st M) : AWP F t pc lv (.ref x :: st) M := by
  rintro ⟨p, l, e, R, s, m, args, below, meth, c, A, D, tt, ad, mc, ms, Qf⟩ hX H locs ls hP hD hS hl
  obtain ⟨hx, hb, hml, hown, hts, hK, hA, hE, hroom⟩ := hF _ hX
  exact lv_ifnonnull hx hb hd ht (k _ hX H locs ls hP hD hS hl)
theorem r_ifnonnullN (hF : Bs F t d) {off : Int} (hd : decode t.2.2.1 pc = .ok (.ifnonnull off, 3)) (k : AWP F t (pc + 3) lv st M) : AWP F t pc lv (.null :: st) M := by
  rintro ⟨p, l, e, R, s, m, args, below, meth, c, A, D, tt, ad, mc, ms, Qf⟩ hX H locs ls hP hD hS hl
  obtain ⟨hx, hb, hml, hown, hts, hK, hA, hE, hroom⟩ := hF _ hX
  exact lv_ifnonnullN hx hb hd (k _ hX H locs ls hP hD hS hl)
theorem r_if_eq_t (hF : Bs F t d) {x : Int32} {off : Int} {tgt : Nat} (hd : decode t.2.2.1 pc = .ok (.ifCond .eq off, 3)) (ht : (pc : Int) + off = (tgt : Int)) (h : x = 0) (k : AWP F t tgt lv st M) : AWP F t pc lv (.int x :: st) M := by
  rintro ⟨p, l, e, R, s, m, args, below, meth, c, A, D, tt, ad, mc, ms, Qf⟩ hX H locs ls hP hD hS hl
  obtain ⟨hx, hb, hml, hown, hts, hK, hA, hE, hroom⟩ := hF _ hX
  exact lv_if_eq hx hb hd ht (fun _ => k _ hX H locs ls hP hD hS hl) (fun h9 => absurd h h9)
theorem r_if_eq_f (hF : Bs F t d) {x : Int32} {off : Int} (tgt : Nat) (hd : decode t.2.2.1 pc = .ok (.ifCond .eq off, 3)) (ht : (pc : Int) + off = (tgt : Int)) (h : ¬ x = 0) (k : AWP F t (pc + 3) lv st M) : AWP F t pc lv (.int x :: st) M := by
  rintro ⟨p, l, e, R, s, m, args, below, meth, c, A, D, tt, ad, mc, ms, Qf⟩ hX H locs ls hP hD hS hl
  obtain ⟨hx, hb, hml, hown, hts, hK, hA, hE, hroom⟩ := hF _ hX
  exact lv_if_eq hx hb hd ht (fun h9 => absurd h9 h) (fun _ => k _ hX H locs ls hP hD hS hl)
theorem r_icmp_eq_t (hF : Bs F t d) {x y : Int32} {off : Int} {tgt : Nat} (hd : decode t.2.2.1 pc = .ok (.if_icmp .eq off, 3)) (ht : (pc : Int) + off = (tgt : Int)) (h : x = y) (k : AWP F t tgt lv st M) : AWP F t pc lv (.int y :: .int x :: st) M := by
  rintro ⟨p, l, e, R, s, m, args, below, meth, c, A, D, tt, ad, mc, ms, Qf⟩ hX H locs ls hP hD hS hl
  obtain ⟨hx, hb, hml, hown, hts, hK, hA, hE, hroom⟩ := hF _ hX
  exact lv_icmp_eq hx hb hd ht (fun _ => k _ hX H locs ls hP hD hS hl) (fun h9 => absurd h h9)
theorem r_icmp_eq_f (hF : Bs F t d) {x y : Int32} {off : Int} (tgt : Nat) (hd : decode t.2.2.1 pc = .ok (.if_icmp .eq off, 3)) (ht : (pc : Int) + off = (tgt : Int)) (h : ¬ x = y) (k : AWP F t (pc + 3) lv st M) : AWP F t pc lv (.int y :: .int x :: st) M := by
  rintro ⟨p, l, e, R, s, m, args, below, meth, c, A, D, tt, ad, mc, ms, Qf⟩ hX H locs ls hP hD hS hl
  obtain ⟨hx, hb, hml, hown, hts, hK, hA, hE, hroom⟩ := hF _ hX
  exact lv_icmp_eq hx hb hd ht (fun h9 => absurd h9 h) (fun _ => k _ hX H locs ls hP hD hS hl)
theorem r_if_ne_t (hF : Bs F t d) {x : Int32} {off : Int} {tgt : Nat} (hd : decode t.2.2.1 pc = .ok (.ifCond .ne off, 3)) (ht : (pc : Int) + off = (tgt : Int)) (h : ¬ x = 0) (k : AWP F t tgt lv st M) : AWP F t pc lv (.int x :: st) M := by
  rintro ⟨p, l, e, R, s, m, args, below, meth, c, A, D, tt, ad, mc, ms, Qf⟩ hX H locs ls hP hD hS hl
  obtain ⟨hx, hb, hml, hown, hts, hK, hA, hE, hroom⟩ := hF _ hX
  exact lv_if_ne hx hb hd ht (fun _ => k _ hX H locs ls hP hD hS hl) (fun h9 => absurd h9 h)
theorem r_if_ne_f (hF : Bs F t d) {x : Int32} {off : Int} (tgt : Nat) (hd : decode t.2.2.1 pc = .ok (.ifCond .ne off, 3)) (ht : (pc : Int) + off = (tgt : Int)) (h : x = 0) (k : AWP F t (pc + 3) lv st M) : AWP F t pc lv (.int x :: st) M := by
  rintro ⟨p, l, e, R, s, m, args, below, meth, c, A, D, tt, ad, mc, ms, Qf⟩ hX H locs ls hP hD hS hl
  obtain ⟨hx, hb, hml, hown, hts, hK, hA, hE, hroom⟩ := hF _ hX
  exact lv_if_ne hx hb hd ht (fun h9 => absurd h h9) (fun _ => k _ hX H locs ls hP hD hS hl)
theorem r_icmp_ne_t (hF : Bs F t d) {x y : Int32} {off : Int} {tgt : Nat} (hd : decode t.2.2.1 pc = .ok (.if_icmp .ne off, 3)) (ht : (pc : Int) + off = (tgt : Int)) (h : ¬ x = y) (k : AWP F t tgt lv st M) : AWP F t pc lv (.int y :: .int x :: st) M := by
  rintro ⟨p, l, e, R, s, m, args, below, meth, c, A, D, tt, ad, mc, ms, Qf⟩ hX H locs ls hP hD hS hl
  obtain ⟨hx, hb, hml, hown, hts, hK, hA, hE, hroom⟩ := hF _ hX
  exact lv_icmp_ne hx hb hd ht (fun _ => k _ hX H locs ls hP hD hS hl) (fun h9 => absurd h9 h)
theorem r_icmp_ne_f (hF : Bs F t d) {x y : Int32} {off : Int} (tgt : Nat) (hd : decode t.2.2.1 pc = .ok (.if_icmp .ne off, 3)) (ht : (pc : Int) + off = (tgt : Int)) (h : x = y) (k : AWP F t (pc + 3) lv st M) : AWP F t pc lv (.int y :: .int x :: st) M := by
  rintro ⟨p, l, e, R, s, m, args, below, meth, c, A, D, tt, ad, mc, ms, Qf⟩ hX H locs ls hP hD hS hl
  obtain ⟨hx, hb, hml, hown, hts, hK, hA, hE, hroom⟩ := hF _ hX
  exact lv_icmp_ne hx hb hd ht (fun h9 => absurd h h9) (fun _ => k _ hX H locs ls hP hD hS hl)
theorem r_if_lt_t (hF : Bs F t d) {x : Int32} {off : Int} {tgt : Nat} (hd : decode t.2.2.1 pc = .ok (.ifCond .lt off, 3)) (ht : (pc : Int) + off = (tgt : Int)) (h : x < 0) (k : AWP F t tgt lv st M) : AWP F t pc lv (.int x :: st) M := by
  rintro ⟨p, l, e, R, s, m, args, below, meth, c, A, D, tt, ad, mc, ms, Qf⟩ hX H locs ls hP hD hS hl
  obtain ⟨hx, hb, hml, hown, hts, hK, hA, hE, hroom⟩ := hF _ hX
  exact lv_if_lt hx hb hd ht (fun _ => k _ hX H locs ls hP hD hS hl) (fun h9 => absurd h h9)
theorem r_if_lt_f (hF : Bs F t d) {x : Int32} {off : Int} (tgt : Nat) (hd : decode t.2.2.1 pc = .ok (.ifCond .lt off, 3)) (ht : (pc : Int) + off = (tgt : Int)) (h : ¬ x < 0) (k : AWP F t (pc + 3) lv st M) : AWP F t pc lv (.int x :: st) M := by
  rintro ⟨p, l, e, R, s, m, args, below, meth, c, A, D, tt, ad, mc, ms, Qf⟩ hX H locs ls hP hD hS hl
  obtain ⟨hx, hb, hml, hown, hts, hK, hA, hE, hroom⟩ := hF _ hX
  exact lv_if_lt hx hb hd ht (fun h9 => absurd h9 h) (fun _ => k _ hX H locs ls hP hD hS hl)
theorem r_icmp_lt_t (hF : Bs F t d) {x y : Int32} {off : Int} {tgt : Nat} (hd : decode t.2.2.1 pc = .ok (.if_icmp .lt off, 3)) (ht : (pc : Int) + off = (tgt : Int)) (h : x < y) (k : AWP F t tgt lv st M) : AWP F t pc lv (.int y :: .int x :: st) M := by
  rintro ⟨p, l, e, R, s, m, args, below, meth, c, A, D, tt, ad, mc, ms, Qf⟩ hX H locs ls hP hD hS hl
  obtain ⟨hx, hb, hml, hown, hts, hK, hA, hE, hroom⟩ := hF _ hX
  exact lv_icmp_lt hx hb hd ht (fun _ => k _ hX H locs ls hP hD hS hl) (fun h9 => absurd h h9)
theorem r_icmp_lt_f (hF : Bs F t d) {x y : Int32} {off : Int} (tgt : Nat) (hd : decode t.2.2.1 pc = .ok (.if_icmp .lt off, 3)) (ht : (pc : Int) + off = (tgt : Int)) (h : ¬ x < y) (k : AWP F t (pc + 3) lv st M) : AWP F t pc lv (.int y :: .int x :: st) M := by
  rintro ⟨p, l, e, R, s, m, args, below, meth, c, A, D, tt, ad, mc, ms, Qf⟩ hX H locs ls hP hD hS hl
  obtain ⟨hx, hb, hml, hown, hts, hK, hA, hE, hroom⟩ := hF _ hX
  exact lv_icmp_lt hx hb hd ht (fun h9 => absurd h9 h) (fun _ => k _ hX H locs ls hP hD hS hl)
theorem r_if_ge_t (hF : Bs F t d) {x : Int32} {off : Int} {tgt : Nat} (hd : decode t.2.2.1 pc = .ok (.ifCond .ge off, 3)) (ht : (pc : Int) + off = (tgt : Int)) (h : 0 ≤ x) (k : AWP F t tgt lv st M) : AWP F t pc lv (.int x :: st) M := by
  rintro ⟨p, l, e, R, s, m, args, below, meth, c, A, D, tt, ad, mc, ms, Qf⟩ hX H locs ls hP hD hS hl
  obtain ⟨hx, hb, hml, hown, hts, hK, hA, hE, hroom⟩ := hF _ hX
  exact lv_if_ge hx hb hd ht (fun _ => k _ hX H locs ls hP hD hS hl) (fun h9 => absurd h h9)
theorem r_if_ge_f (hF : Bs F t d) {x : Int32} {off : Int} (tgt : Nat) (hd : decode t.2.2.1 pc = .ok (.ifCond .ge off, 3)) (ht : (pc : Int) + off = (tgt : Int)) (h : ¬ 0 ≤ x) (k : AWP F t (pc + 3) lv st M) : AWP F t pc lv (.int x :: st) M := by
  rintro ⟨p, l, e, R, s, m, args, below, meth, c, A, D, tt, ad, mc, ms, Qf⟩ hX H locs ls hP hD hS hl
  obtain ⟨hx, hb, hml, hown, hts, hK, hA, hE, hroom⟩ := hF _ hX
  exact lv_if_ge hx hb hd ht (fun h9 => absurd h9 h) (fun _ => k _ hX H locs ls hP hD hS hl)
theorem r_icmp_ge_t (hF : Bs F t d) {x y : Int32} {off : Int} {tgt : Nat} (hd : decode t.2.2.1 pc = .ok (.if_icmp .ge off, 3)) (ht : (pc : Int) + off = (tgt : Int)) (h : y ≤ x) (k : AWP F t tgt lv st M) : AWP F t pc lv (.int y :: .int x :: st) M := by
  rintro ⟨p, l, e, R, s, m, args, below, meth, c, A, D, tt, ad, mc, ms, Qf⟩ hX H locs ls hP hD hS hl
  obtain ⟨hx, hb, hml, hown, hts, hK, hA, hE, hroom⟩ := hF _ hX
  exact lv_icmp_ge hx hb hd ht (fun _ => k _ hX H locs ls hP hD hS hl) (fun h9 => absurd h h9)
theorem r_icmp_ge_f (hF : Bs F t d) {x y : Int32} {off : Int} (tgt : Nat) (hd : decode t.2.2.1 pc = .ok (.if_icmp .ge off, 3)) (ht : (pc : Int) + off = (tgt : Int)) (h : ¬ y ≤ x) (k : AWP F t (pc + 3) lv st M) : AWP F t pc lv (.int y :: .int x :: st) M := by
  rintro ⟨p, l, e, R, s, m, args, below, meth, c, A, D, tt, ad, mc, ms, Qf⟩ hX H locs ls hP hD hS hl
  obtain ⟨hx, hb, hml, hown, hts, hK, hA, hE, hroom⟩ := hF _ hX
  exact lv_icmp_ge hx hb hd ht (fun h9 => absurd h9 h) (fun _ => k _ hX H locs ls hP hD hS hl)
theorem r_if_gt_t (hF : Bs F t d) {x : Int32} {off : Int} {tgt : Nat} (hd : decode t.2.2.1 pc = .ok (.ifCond .gt off, 3)) (ht : (pc : Int) + off = (tgt : Int)) (h : 0 < x) (k : AWP F t tgt lv st M) : AWP F t pc lv (.int x :: st) M := by
  rintro ⟨p, l, e, R, s, m, args, below, meth, c, A, D, tt, ad, mc, ms, Qf⟩ hX H locs ls hP hD hS hl
  obtain ⟨hx, hb, hml, hown, hts, hK, hA, hE, hroom⟩ := hF _ hX
  exact lv_if_gt hx hb hd ht (fun _ => k _ hX H locs ls hP hD hS hl) (fun h9 => absurd h h9)
theorem r_if_gt_f (hF : Bs F t d) {x : Int32} {off : Int} (tgt : Nat) (hd : decode t.2.2.1 pc = .ok (.ifCond .gt off, 3)) (ht : (pc : Int) + off = (tgt : Int)) (h : ¬ 0 < x) (k : AWP F t (pc + 3) lv st M) : AWP F t pc lv (.int x :: st) M := by
  rintro ⟨p, l, e, R, s, m, args, below, meth, c, A, D, tt, ad, mc, ms, Qf⟩ hX H locs ls hP hD hS hl
  obtain ⟨hx, hb, hml, hown, hts, hK, hA, hE, hroom⟩ := hF _ hX
  exact lv_if_gt hx hb hd ht (fun h9 => absurd h9 h) (fun _ => k _ hX H locs ls hP hD hS hl)
theorem r_icmp_gt_t (hF : Bs F t d) {x y : Int32} {off : Int} {tgt : Nat} (hd : decode t.2.2.1 pc = .ok (.if_icmp .gt off, 3)) (ht : (pc : Int) + off = (tgt : Int)) (h : y < x) (k : AWP F t tgt lv st M) : AWP F t pc lv (.int y :: .int x :: st) M := by
  rintro ⟨p, l, e, R, s, m, args, below, meth, c, A, D, tt, ad, mc, ms, Qf⟩ hX H locs ls hP hD hS hl
  obtain ⟨hx, hb, hml, hown, hts, hK, hA, hE, hroom⟩ := hF _ hX
  exact lv_icmp_gt hx hb hd ht (fun _ => k _ hX H locs ls hP hD hS hl) (fun h9 => absurd h h9)
theorem r_icmp_gt_f (hF : Bs F t d) {x y : Int32} {off : Int} (tgt : Nat) (hd : decode t.2.2.1 pc = .ok (.if_icmp .gt off, 3)) (ht : (pc : Int) + off = (tgt : Int)) (h : ¬ y < x) (k : AWP F t (pc + 3) lv st M) : AWP F t pc lv (.int y :: .int x :: st) M := by
  rintro ⟨p, l, e, R, s, m, args, below, meth, c, A, D, tt, ad, mc, ms, Qf⟩ hX H locs ls hP hD hS hl
  obtain ⟨hx, hb, hml, hown, hts, hK, hA, hE, hroom⟩ := hF _ hX
  exact lv_icmp_gt hx hb hd ht (fun h9 => absurd h9 h) (fun _ => k _ hX H locs ls hP hD hS hl)
theorem r_if_le_t (hF : Bs F t d) {x : Int32} {off : Int} {tgt : Nat} (hd : decode t.2.2.1 pc = .ok (.ifCond .le off, 3)) (ht : (pc : Int) + off = (tgt : Int)) (h : x ≤ 0) (k : AWP F t tgt lv st M) : AWP F t pc lv (.int x :: st) M := by
  rintro ⟨p, l, e, R, s, m, args, below, meth, c, A, D, tt, ad, mc, ms, Qf⟩ hX H locs ls hP hD hS hl
  obtain ⟨hx, hb, hml, hown, hts, hK, hA, hE, hroom⟩ := hF _ hX
  exact lv_if_le hx hb hd ht (fun _ => k _ hX H locs ls hP hD hS hl) (fun h9 => absurd h h9)
theorem r_if_le_f (hF : Bs F t d) {x : Int32} {off : Int} (tgt : Nat) (hd : decode t.2.2.1 pc = .ok (.ifCond .le off, 3)) (ht : (pc : Int) + off = (tgt : Int)) (h : ¬ x ≤ 0) (k : AWP F t (pc + 3) lv st M) : AWP F t pc lv (.int x :: st) M := by
  rintro ⟨p, l, e, R, s, m, args, below, meth, c, A, D, tt, ad, mc, ms, Qf⟩ hX H locs ls hP hD hS hl
  obtain ⟨hx, hb, hml, hown, hts, hK, hA, hE, hroom⟩ := hF _ hX
  exact lv_if_le hx hb hd ht (fun h9 => absurd h9 h) (fun _ => k _ hX H locs ls hP hD hS hl)
theorem r_icmp_le_t (hF : Bs F t d) {x y : Int32} {off : Int} {tgt : Nat} (hd : decode t.2.2.1 pc = .ok (.if_icmp .le off, 3)) (ht : (pc : Int) + off = (tgt : Int)) (h : x ≤ y) (k : AWP F t tgt lv st M) : AWP F t pc lv (.int y :: .int x :: st) M := by
  rintro ⟨p, l, e, R, s, m, args, below, meth, c, A, D, tt, ad, mc, ms, Qf⟩ hX H locs ls hP hD hS hl
  obtain ⟨hx, hb, hml, hown, hts, hK, hA, hE, hroom⟩ := hF _ hX
  exact lv_icmp_le hx hb hd ht (fun _ => k _ hX H locs ls hP hD hS hl) (fun h9 => absurd h h9)
theorem r_icmp_le_f (hF : Bs F t d) {x y : Int32} {off : Int} (tgt : Nat) (hd : decode t.2.2.1 pc = .ok (.if_icmp .le off, 3)) (ht : (pc : Int) + off = (tgt : Int)) (h : ¬ x ≤ y) (k : AWP F t (pc + 3) lv st M) : AWP F t pc lv (.int y :: .int x :: st) M := by
  rintro ⟨p, l, e, R, s, m, args, below, meth, c, A, D, tt, ad, mc, ms, Qf⟩ hX H locs ls hP hD hS hl
  obtain ⟨hx, hb, hml, hown, hts, hK, hA, hE, hroom⟩ := hF _ hX
  exact lv_icmp_le hx hb hd ht (fun h9 => absurd h9 h) (fun _ => k _ hX H locs ls hP hD hS hl)
theorem r_tsw_in (hF : Bs F t d) {dflt lo hi : Int} {offs : Array Int} {len : Nat} {x v : Int32} {off : Int} {tgt : Nat} (hd : decode t.2.2.1 pc = .ok (.tableswitch dflt lo hi offs, len)) (h : x = v) (h1 : ¬ v.toInt < lo) (h2 : ¬ hi < v.toInt) (ho : offs[(v.toInt - lo).toNat]? = some off) (ht : (pc : Int) + off = (tgt : Int)) (k : AWP F t tgt lv st M) : AWP F t pc lv (.int x :: st) M := by
  rintro ⟨p, l, e, R, s, m, args, below, meth, c, A, D, tt, ad, mc, ms, Qf⟩ hX H locs ls hP hD hS hl
  obtain ⟨hx, hb, hml, hown, hts, hK, hA, hE, hroom⟩ := hF _ hX
  subst h
  exact lv_tableIn hx hb hd h1 h2 ho ht (k _ hX H locs ls hP hD hS hl)
theorem r_tsw_out (hF : Bs F t d) {dflt lo hi : Int} {offs : Array Int} {len : Nat} {x : Int32} {tgt : Nat} (hd : decode t.2.2.1 pc = .ok (.tableswitch dflt lo hi offs, len)) (h : x.toInt < lo ∨ hi < x.toInt) (ht : (pc : Int) + dflt = (tgt : Int)) (k : AWP F t tgt lv st M) : AWP F t pc lv (.int x :: st) M := by
  rintro ⟨p, l, e, R, s, m, args, below, meth, c, A, D, tt, ad, mc, ms, Qf⟩ hX H locs ls hP hD hS hl
  obtain ⟨hx, hb, hml, hown, hts, hK, hA, hE, hroom⟩ := hF _ hX
  exact lv_tableOut hx hb hd h ht (k _ hX H locs ls hP hD hS hl)
theorem r_lsw (hF : Bs F t d) {dflt : Int} {ps : Array (Int × Int)} {len : Nat} {x : Int32} {off : Int} {tgt : Nat} (hd : decode t.2.2.1 pc = .ok (.lookupswitch dflt ps, len)) (hp : (ps.toList.zip (ps.toList.drop 1)).all (fun (a, next) => a.1 < next.1) = true) (ho : Op.lookupswitch.offset ps.toList dflt x.toInt = off) (ht : (pc : Int) + off = (tgt : Int)) (k : AWP F t tgt lv st M) : AWP F t pc lv (.int x :: st) M := by
  rintro ⟨p, l, e, R, s, m, args, below, meth, c, A, D, tt, ad, mc, ms, Qf⟩ hX H locs ls hP hD hS hl
  obtain ⟨hx, hb, hml, hown, hts, hK, hA, hE, hroom⟩ := hF _ hX
  exact lv_lookup hx hb hd hp ho ht (k _ hX H locs ls hP hD hS hl)
theorem r_iaload (hF : Bs F t d) {p9 n : Nat} {i : Int32} (hd : decode t.2.2.1 pc = .ok (.iaload, 1)) (hsh : SH[p9]? = some (.inr (.inl n))) (hin : vp_in i n) (k : AWP F t (pc + 1) lv (.int (M p9 i.toNatClampNeg) :: st) M) : AWP F t pc lv (.int i :: .ref p9 :: st) M := by
  rintro ⟨p, l, e, R, s, m, args, below, meth, c, A, D, tt, ad, mc, ms, Qf⟩ hX H locs ls hP hD hS hl
  obtain ⟨hx, hb, hml, hown, hts, hK, hA, hE, hroom⟩ := hF _ hX
  exact va_iald hx hb hK hP p9 0 (cW_at hsh) rfl hin hd (k _ hX H locs ls hP hD hS hl)
theorem r_iastore (hF : Bs F t d) {p9 n : Nat} {i x : Int32} (hd : decode t.2.2.1 pc = .ok (.iastore, 1)) (hsh : SH[p9]? = some (.inr (.inl n))) (hin : vp_in i n) (k : AWP F t (pc + 1) lv st (upm M p9 i.toNatClampNeg x)) : AWP F t pc lv (.int x :: .int i :: .ref p9 :: st) M := by
  rintro ⟨p, l, e, R, s, m, args, below, meth, c, A, D, tt, ad, mc, ms, Qf⟩ hX H locs ls hP hD hS hl
  obtain ⟨hx, hb, hml, hown, hts, hK, hA, hE, hroom⟩ := hF _ hX
  exact va_iast hx hb hK hP hD hS p9 0 (cW_at hsh) rfl hin hd (fun H1 locs1 hP1 hD1 hS1 => k _ hX H1 locs1 ls (by rw [← upr_upm, ← cW_upr hsh]; exact hP1) (by rw [← upr_upm, ← cW_upr hsh]; exact hD1) hS1 hl)
theorem r_alen (hF : Bs F t d) {p9 n : Nat} {v : Int32} (hd : decode t.2.2.1 pc = .ok (.arraylength, 1)) (hsh : SH[p9]? = some (.inr (.inl n))) (hv : Int32.ofNat n = v) (k : AWP F t (pc + 1) lv (.int v :: st) M) : AWP F t pc lv (.ref p9 :: st) M := by
  rintro ⟨p, l, e, R, s, m, args, below, meth, c, A, D, tt, ad, mc, ms, Qf⟩ hX H locs ls hP hD hS hl
  obtain ⟨hx, hb, hml, hown, hts, hK, hA, hE, hroom⟩ := hF _ hX
  exact va_alen hx hb hK hP p9 0 (cW_at hsh) (ty := .int) rfl hv hd (k _ hX H locs ls hP hD hS hl)
theorem r_aaload (hF : Bs F t d) {p9 q : Nat} {es : List (Option Nat)} {i : Int32} {C : String} (j : Nat) (hd : decode t.2.2.1 pc = .ok (.aaload, 1)) (hsh : SH[p9]? = some (.inr (.inr (j, es)))) (hj : ∀ tt : Nat → ClassId, (tysT tt)[j]? = some (tt j, .object C)) (hin : vp_in i es.length) (he : es[i.toNatClampNeg]? = some (some q)) (k : AWP F t (pc + 1) lv (.ref q :: st) M) : AWP F t pc lv (.int i :: .ref p9 :: st) M := by
  rintro ⟨p, l, e, R, s, m, args, below, meth, c, A, D, tt, ad, mc, ms, Qf⟩ hX H locs ls hP hD hS hl
  obtain ⟨hx, hb, hml, hown, hts, hK, hA, hE, hroom⟩ := hF _ hX
  refine va_aldq hx hb hK hP p9 j (cW_at hsh) (hj tt) hin hd ?_
  show W p l e R s m args below meth c H locs mc ms Qf (F0 m (pc + 1) ls (va_rf ((es[i.toNatClampNeg]?.join).map ad) :: st.map (cv ad)))
  rw [he]
  exact k _ hX H locs ls hP hD hS hl
end ROWS
theorem uwX0 : ∀ w ∈ u_ws RX0 TX0 6, w ∈ GW := by
  have h : u_ws RX0 TX0 6 = ([198, 200, 202, 204, 206, 208] : List Nat).filterMap (fun i => lw_tbl[i]?) := by decide +kernel
  have hg : (u_ws RX0 TX0 6).all goodWord = true := by decide +kernel
  intro w hw
  have h2 := List.all_eq_true.mp hg w hw
  rw [h] at hw
  obtain ⟨i, -, hi⟩ := List.mem_filterMap.mp hw
  exact gw i hi h2
theorem uwX1 : ∀ w ∈ u_ws RX1 TX1 3, w ∈ GW := by
  have h : u_ws RX1 TX1 3 = ([224, 226, 228] : List Nat).filterMap (fun i => lw_tbl[i]?) := by decide +kernel
  have hg : (u_ws RX1 TX1 3).all goodWord = true := by decide +kernel
  intro w hw
  have h2 := List.all_eq_true.mp hg w hw
  rw [h] at hw
  obtain ⟨i, -, hi⟩ := List.mem_filterMap.mp hw
  exact gw i hi h2
theorem uwX2 : ∀ w ∈ u_ws RX2 TX2 4, w ∈ GW := by
  have h : u_ws RX2 TX2 4 = ([244, 246, 248, 250] : List Nat).filterMap (fun i => lw_tbl[i]?) := by decide +kernel
  have hg : (u_ws RX2 TX2 4).all goodWord = true := by decide +kernel
  intro w hw
  have h2 := List.all_eq_true.mp hg w hw
  rw [h] at hw
  obtain ⟨i, -, hi⟩ := List.mem_filterMap.mp hw
  exact gw i hi h2
theorem uwX3 : ∀ w ∈ u_ws RX3 TX3 4, w ∈ GW := by
  have h : u_ws RX3 TX3 4 = ([170, 172, 174, 176] : List Nat).filterMap (fun i => lw_tbl[i]?) := by decide +kernel
  have hg : (u_ws RX3 TX3 4).all goodWord = true := by decide +kernel
  intro w hw
  have h2 := List.all_eq_true.mp hg w hw
  rw [h] at hw
  obtain ⟨i, -, hi⟩ := List.mem_filterMap.mp hw
  exact gw i hi h2
theorem uwX4 : ∀ w ∈ u_ws RX4 TX4 10, w ∈ GW := by
  have h : u_ws RX4 TX4 10 = ([137, 139, 141, 143, 145, 147, 149, 151, 153, 155] : List Nat).filterMap (fun i => lw_tbl[i]?) := by decide +kernel
  have hg : (u_ws RX4 TX4 10).all goodWord = true := by decide +kernel
  intro w hw
  have h2 := List.all_eq_true.mp hg w hw
  rw [h] at hw
  obtain ⟨i, -, hi⟩ := List.mem_filterMap.mp hw
  exact gw i hi h2
theorem uwX5 : ∀ w ∈ u_ws RX5 TX5 15, w ∈ GW := by
  have h : u_ws RX5 TX5 15 = ([268, 270, 272, 274, 276, 278, 280, 282, 284, 286, 288, 290, 292, 294, 296] : List Nat).filterMap (fun i => lw_tbl[i]?) := by decide +kernel
  have hg : (u_ws RX5 TX5 15).all goodWord = true := by decide +kernel
  intro w hw
  have h2 := List.all_eq_true.mp hg w hw
  rw [h] at hw
  obtain ⟨i, -, hi⟩ := List.mem_filterMap.mp hw
  exact gw i hi h2
theorem uwX6 : ∀ w ∈ u_ws RX6 TX6 30, w ∈ GW := by
  have h : u_ws RX6 TX6 30 = ([905, 907, 909, 911, 913, 915, 917, 919, 921, 923, 925, 927, 929, 931, 933, 935, 937, 939, 941, 943, 945, 947, 949, 951, 953, 955, 957, 959, 961, 963] : List Nat).filterMap (fun i => lw_tbl[i]?) := by decide +kernel
  have hg : (u_ws RX6 TX6 30).all goodWord = true := by decide +kernel
  intro w hw
  have h2 := List.all_eq_true.mp hg w hw
  rw [h] at hw
  obtain ⟨i, -, hi⟩ := List.mem_filterMap.mp hw
  exact gw i hi h2
theorem cls_info {ci N : Nat} {C : String} {T : u_T} (h : classes[ci]? = some (C, T, N)) : (∀ w ∈ u_ws C T N, w ∈ GW) ∧ (∃ ty0 : Nat → FieldType, ∀ k, k < N → parseFieldDescriptor (T k).2.2.1 = some (ty0 k)) ∧ (∀ a, a < N → ∀ b, b < N → a ≠ b → (T a).2.1 ≠ (T b).2.1) := by
  match ci, h with
  | 0, h => cases h; exact ⟨uwX0, ⟨tyX0, tyX0_ok⟩, nmX0⟩
  | 1, h => cases h; exact ⟨uwX1, ⟨tyX1, tyX1_ok⟩, nmX1⟩
  | 2, h => cases h; exact ⟨uwX2, ⟨tyX2, tyX2_ok⟩, nmX2⟩
  | 3, h => cases h; exact ⟨uwX3, ⟨tyX3, tyX3_ok⟩, nmX3⟩
  | 4, h => cases h; exact ⟨uwX4, ⟨tyX4, tyX4_ok⟩, nmX4⟩
  | 5, h => cases h; exact ⟨uwX5, ⟨tyX5, tyX5_ok⟩, nmX5⟩
  | 6, h => cases h; exact ⟨uwX6, ⟨tyX6, tyX6_ok⟩, nmX6⟩
  | n + 7, h => simp [classes] at h
section ROWS2
variable {F : Cx → Prop} {t : MT} {d pc : Nat} {lv : List (Nat × Value)} {st : List Value} {M : Mem}
theorem r_getI (hF : Bs F t d) {p9 ci N idx : Nat} {C : String} {T : u_T} {fs : List (Option (Option Nat))} (hd : decode t.2.2.1 pc = .ok (.getfield idx, 3)) (hsh : SH[p9]? = some (.inl (ci, fs))) (hc : classes[ci]? = some (C, T, N)) (k9 : Nat) (hk : k9 < N) (hw : Cond.fieldLink t.1 idx (T k9).1 (T k9).2.1 (T k9).2.2.1 ∈ GW) (hf : fs[k9]? = some none) (k : AWP F t (pc + 3) lv (.int (M p9 k9) :: st) M) : AWP F t pc lv (.ref p9 :: st) M := by
  rintro ⟨p, l, e, R, s, m, args, below, meth, c, A, D, tt, ad, mc, ms, Qf⟩ hX H locs ls hP hD hS hl
  obtain ⟨hx, hb, hml, hown, hts, hK, hA, hE, hroom⟩ := hF _ hX
  exact va_get (D := D) (v := .int (M p9 k9)) hx hb hts (cls_info hc).1 hown hK hP p9 (cW_at hsh) hc k9 hk (hts _ hw) (fun _ h9 => h9) (by rw [List.getElem?_mapIdx, hf]; rfl) hd (k _ hX H locs ls hP hD hS hl)
theorem r_getR (hF : Bs F t d) {p9 ci N idx : Nat} {C : String} {T : u_T} {fs : List (Option (Option Nat))} {q : Nat} (hd : decode t.2.2.1 pc = .ok (.getfield idx, 3)) (hsh : SH[p9]? = some (.inl (ci, fs))) (hc : classes[ci]? = some (C, T, N)) (k9 : Nat) (hk : k9 < N) (hw : Cond.fieldLink t.1 idx (T k9).1 (T k9).2.1 (T k9).2.2.1 ∈ GW) (hf : fs[k9]? = some (some (some q))) (k : AWP F t (pc + 3) lv (.ref q :: st) M) : AWP F t pc lv (.ref p9 :: st) M := by
  rintro ⟨p, l, e, R, s, m, args, below, meth, c, A, D, tt, ad, mc, ms, Qf⟩ hX H locs ls hP hD hS hl
  obtain ⟨hx, hb, hml, hown, hts, hK, hA, hE, hroom⟩ := hF _ hX
  exact va_get (D := D) (v := .ref (ad q)) hx hb hts (cls_info hc).1 hown hK hP p9 (cW_at hsh) hc k9 hk (hts _ hw) (fun _ h9 => h9) (by rw [List.getElem?_mapIdx, hf]; rfl) hd (k _ hX H locs ls hP hD hS hl)
theorem r_putI (hF : Bs F t d) {p9 ci N idx : Nat} {C : String} {T : u_T} {fs : List (Option (Option Nat))} {x : Int32} {ty : FieldType} (hd : decode t.2.2.1 pc = .ok (.putfield idx, 3)) (hsh : SH[p9]? = some (.inl (ci, fs))) (hc : classes[ci]? = some (C, T, N)) (k9 : Nat) (hk : k9 < N) (hw : Cond.fieldLink t.1 idx (T k9).1 (T k9).2.1 (T k9).2.2.1 ∈ GW) (hf : fs[k9]? = some none) (hfin : (T k9).2.2.2 = false) (hty : parseFieldDescriptor (T k9).2.2.1 = some ty) (hn : narrow ty (.int x) = .int x) (hfit : fits ty (.int x) = true) (k : AWP F t (pc + 3) lv st (upm M p9 k9 x)) : AWP F t pc lv (.int x :: .ref p9 :: st) M := by
  rintro ⟨p, l, e, R, s, m, args, below, meth, c, A, D, tt, ad, mc, ms, Qf⟩ hX H locs ls hP hD hS hl
  obtain ⟨hx, hb, hml, hown, hts, hK, hA, hE, hroom⟩ := hF _ hX
  obtain ⟨hin, ⟨ty0, hty0⟩, hnm⟩ := cls_info hc
  exact va_put (D := D) (v := .int x) hx hb hts hin ty0 hty0 hnm hown hK hP hD hS p9 (cW_at hsh) hc k9 hk (hts _ hw) (fun _ h9 => h9) hfin hty hn hfit (by rw [List.length_mapIdx]; exact (List.getElem?_eq_some_iff.mp hf).1) hd (fun H1 locs1 hP1 hD1 hS1 => k _ hX H1 locs1 ls (by rw [← cW_upf hsh hf]; exact hP1) (by rw [← cW_upf hsh hf]; exact hD1) hS1 hl)
theorem r_gets (hF : Bs F t d) {i idx : Nat} {q : String × String × List Int32} (hd : decode t.2.2.1 pc = .ok (.getstatic idx, 3)) (hq : stL[i]? = some q) (hw : Cond.fieldLink t.1 idx q.1 q.2.1 "[I" ∈ GW) (k : AWP F t (pc + 3) lv (.ref (100 + i) :: st) M) : AWP F t pc lv st M := by
  rintro ⟨p, l, e, R, s, m, args, below, meth, c, A, D, tt, ad, mc, ms, Qf⟩ hX H locs ls hP hD hS hl
  obtain ⟨hx, hb, hml, hown, hts, hK, hA, hE, hroom⟩ := hF _ hX
  exact va_gets hx hb (hE.2.1 i q hq).1 hS hown (hts _ hw) (fun _ h9 => h9) hd (k _ hX H locs ls hP hD hS hl)
theorem r_getsN (hF : Bs F t d) {i idx : Nat} {q : String × String × List Int32} {host : String} (hd : decode t.2.2.1 pc = .ok (.getstatic idx, 3)) (hq : stL[i]? = some q) (hw : Cond.fieldLinkNest t.1 idx q.1 q.2.1 "[I" host ∈ nestW) (k : AWP F t (pc + 3) lv (.ref (100 + i) :: st) M) : AWP F t pc lv st M := by
  rintro ⟨p, l, e, R, s, m, args, below, meth, c, A, D, tt, ad, mc, ms, Qf⟩ hX H locs ls hP hD hS hl
  obtain ⟨hx, hb, hml, hown, hts, hK, hA, hE, hroom⟩ := hF _ hX
  exact va_getsN hx hb (hE.2.1 i q hq).1 hS hown (va_Nw.use rfl (hE.1 _ hw)) (fun _ h9 => h9) hd (k _ hX H locs ls hP hD hS hl)
theorem r_tiald (hF : Bs F t d) {j : Nat} {i : Int32} {q : String × String × List Int32} (hd : decode t.2.2.1 pc = .ok (.iaload, 1)) (hq : stL[j]? = some q) (hin : vp_in i q.2.2.length) (k : AWP F t (pc + 1) lv (.int (q.2.2.getD i.toNatClampNeg 0) :: st) M) : AWP F t pc lv (.int i :: .ref (100 + j) :: st) M := by
  rintro ⟨p, l, e, R, s, m, args, below, meth, c, A, D, tt, ad, mc, ms, Qf⟩ hX H locs ls hP hD hS hl
  obtain ⟨hx, hb, hml, hown, hts, hK, hA, hE, hroom⟩ := hF _ hX
  exact va_ti hx hb (hE.2.1 j q hq).2 hS hin rfl hd (k _ hX H locs ls hP hD hS hl)
theorem r_tlen (hF : Bs F t d) {j : Nat} {v : Int32} {q : String × String × List Int32} (hd : decode t.2.2.1 pc = .ok (.arraylength, 1)) (hq : stL[j]? = some q) (hv : Int32.ofNat q.2.2.length = v) (k : AWP F t (pc + 1) lv (.int v :: st) M) : AWP F t pc lv (.ref (100 + j) :: st) M := by
  rintro ⟨p, l, e, R, s, m, args, below, meth, c, A, D, tt, ad, mc, ms, Qf⟩ hX H locs ls hP hD hS hl
  obtain ⟨hx, hb, hml, hown, hts, hK, hA, hE, hroom⟩ := hF _ hX
  exact va_tlen hx hb (hE.2.1 j q hq).2 hS hv hd (k _ hX H locs ls hP hD hS hl)
/-! what a static, what an instance method's words are -/
def MS (t2 : MT) (n : Nat) : Prop := Cond.code t2.2.1 t2.2.2.1 t2.2.2.2.1 t2.2.2.2.2 ∈ GW ∧ Cond.static t2.2.1 ∈ GW ∧ Cond.initialized t2.2.1.cls ∈ GW ∧ (t2.2.1.cls ≠ "java/lang/invoke/MethodHandle" ∧ t2.2.1.cls ≠ "java/lang/invoke/VarHandle" ∧ (parseMethodDescriptor t2.2.1.desc).map (fun d => d.parameters.length) = some n) ∧ t2.2.2.2.1 ≤ 40
def MV (t2 : MT) (n : Nat) : Prop := Cond.code t2.2.1 t2.2.2.1 t2.2.2.2.1 t2.2.2.2.2 ∈ GW ∧ (Cond.instanceMethod t2.2.1 ∈ GW ∧ Cond.selects t2.2.1.cls t2.2.1 t2.2.1 ∈ GW) ∧ Cond.initialized t2.2.1.cls ∈ GW ∧ (t2.2.1.cls ≠ "java/lang/invoke/MethodHandle" ∧ t2.2.1.cls ≠ "java/lang/invoke/VarHandle" ∧ (parseMethodDescriptor t2.2.1.desc).map (fun d => d.parameters.length) = some n) ∧ t2.2.2.2.1 ≤ 40
theorem blindB {as : List Value} {D : va_G} {tt : Nat → ClassId} {ad : Nat → Nat} {sz : Nat} {M : Mem} : FrameBlind (va_Pc as (PreB D tt ad sz M)) := by
  intro a U g mk h
  obtain ⟨h0, h1, h2, h3, h4, h5⟩ := h
  exact ⟨h0, h1, h2, va_K.moved (u := U) (U := U.calling g mk a) (Vm.Alike.refl U.vm) h3, h4, EV.same (u := U) (U := U.calling g mk a) rfl rfl h5⟩
theorem goodB {t t2 : MT} (h : Cond.code t2.2.1 t2.2.2.1 t2.2.2.2.1 t2.2.2.2.2 ∈ GW) : GoodIn GW (wsM t2) := by
  intro w hw
  rcases List.mem_cons.mp hw with rfl | hw
  · exact ⟨h, gw_good h⟩
  · exact ⟨hw, gw_good hw⟩
/-- behind a call -/
theorem r_after {p : Program} {l : Launch} {e : Env} {R : Room} {s : State} {m : MethodId} {args : Array Value} {below : List Frame} {meth : Method} {c : Code} {A : Nat → Prop} {D : va_G} {tt : Nat → ClassId} {ad : Nat → Nat} {mc ms : Nat} {Qf : State → Prop} {nL : Nat} {H : Heap} {locs : List Loc} {ls : Array Slot} {st0 : List Value} {a : Array Value} {res : Option Value × Mem}
    (hD : va_D A (cW ad tt M)) (hS : va_S A s.heap H locs) (hA : ∀ q, s.heap.size ≤ q → A q) (hl : lv_has ls nL (cL ad lv))
    (run : va_Run p l e R s m args below meth c H locs mc ms 0 0 (F0 m pc ls st0) (st.map (cv ad)) (PostB D tt ad H.size M res a) (va_A (cW ad tt M) H.size))
    (k : AW (p, l, e, R, s, m, args, below, meth, c, A, D, tt, ad, mc, ms, Qf) nL (pc + 3) lv (res.1.toList ++ st) res.2) :
    W p l e R s m args below meth c H locs mc ms Qf (F0 m pc ls st0) := by
  have hAB : ∀ q, va_A (cW ad tt M) H.size q → A q := by
    intro q h
    rcases h with ⟨k2, e2, h⟩ | h
    · exact hD.2 k2 _ h
    · exact hA q (Nat.le_trans hS.1 h)
  intro T hT X
  obtain ⟨v, st₀, t', T', L, h0, X', hL, e1, e2, ⟨⟨hv, hP1, hK1, hD1⟩, hz, hk⟩, stp⟩ := run T hT X
  have hv' : v = res.1.map (cv ad) := by cases hv; rfl
  subst hv'
  rw [h0] at hz hk
  obtain ⟨t2, a1, b1⟩ := k T'.heap (locs ++ L) ls (by rw [e1]; exact hP1) (hD1.weaken (fun _ q _ h => hAB q.1 h))
    ⟨Nat.le_trans hS.1 (by rw [e1]; exact hz), fun q h1 h2 => by rw [e1, hk q (Nat.lt_of_lt_of_le h1 hS.1) (fun z => h2 (hAB q z))]; exact hS.2.1 q h1 h2, fun q hq => by
      rcases List.mem_append.mp hq with h | h
      · exact hS.2.2 q h
      · exact hAB _ (hL q h)⟩ hl T' rfl X'
  refine ⟨t2, stp t2 ?_, b1⟩
  have e3 : (res.1.map (cv ad)).toList ++ st.map (cv ad) = (res.1.toList ++ st).map (cv ad) := by
    cases res.1 <;> rfl
  rw [e3]
  exact a1
theorem r_catsum {ad : Nat → Nat} (st : List Value) : ((st.map (cv ad)).map fun v => v.category) = st.map fun v => v.category := by
  rw [List.map_map]
  apply List.map_congr_left
  intro v _
  exact cv_cat ad v
theorem r_callS (hF : Bs F t d) {t2 : MT} {d2 n idx : Nat} {as stk : List Value} {res : Option Value × Mem} (hd : decode t.2.2.1 pc = .ok (.invokestatic idx, 3)) (hc : CT t2 d2 as M res) (hs : MS t2 n) (hw : Cond.methodLink t.1 idx t2.2.1 ∈ GW) (hlen : as.length = n) (hdd : d2 + 1 ≤ d) (hst : stk = as.reverse ++ st) (hcat : (st.map fun v => v.category).sum ≤ 8) (k : AWP F t (pc + 3) lv (res.1.toList ++ st) res.2) : AWP F t pc lv stk M := by
  rintro ⟨p, l, e, R, s, m, args, below, meth, c, A, D, tt, ad, mc, ms, Qf⟩ hX H locs ls hP hD hS hl
  obtain ⟨hx, hb, hml, hown, hts, hK, hA, hE, hroom⟩ := hF _ hX
  subst hst
  obtain ⟨hs1, hs2, hs3, hs4, hs5⟩ := hs
  obtain ⟨hr1, hr2, hr3, hr4⟩ := hroom
  have hR : (rmD d2).frames + 1 ≤ R.frames ∧ 8 + (t2.2.2.2.1 + 11) + (rmD d2).locals ≤ R.locals := by
    show d2 + 1 ≤ R.frames ∧ 8 + (t2.2.2.2.1 + 11) + 64 * d2 ≤ R.locals
    omega
  have hAB : ∀ q, va_A (cW ad tt M) H.size q → A q := by
    intro q h
    rcases h with ⟨k2, e2, h⟩ | h
    · exact hD.2 k2 _ h
    · exact hA q (Nat.le_trans hS.1 h)
  have hpre : ∀ U : State, U.heap = H → s.WarmedH U.vm → va_Pc (as.map (cv ad)) (PreB D tt ad H.size M) (as.map (cv ad)).toArray U := fun U hU hW => ⟨rfl, by rw [hU], by rw [hU]; exact hP, va_K.moved hW.alike hK, hD.weaken (fun _ _ _ _ => trivial), EV.pass hE hS hU hW hAB⟩
  refine r_after (a := (as.map (cv ad)).toArray) hD hS hA hl (va_runS (As := as.map (cv ad)) (rest := st.map (cv ad)) ⟨hx, hb, hml, hown, hts⟩ (hc l D tt ad H.size) ⟨callB_of n hts (goodB (t := t) hs1) rfl rfl rfl (hts _ hs3) (hts _ hw) hs4 hR, hts _ hs2⟩ ⟨blindB, hpre⟩ rfl (by rw [List.length_map]; exact hlen) hl.1 (by show ((as.reverse ++ st).map (cv ad)) = _; rw [List.map_append, List.map_reverse]) (lv_room (by rw [r_catsum]; exact hcat)) hd ⟨by omega, by omega⟩) (k _ hX)
theorem r_callSN (hF : Bs F t d) {t2 : MT} {d2 n idx : Nat} {as stk : List Value} {res : Option Value × Mem} {host : String} (hd : decode t.2.2.1 pc = .ok (.invokestatic idx, 3)) (hc : CT t2 d2 as M res) (hs : MS t2 n) (hw : Cond.methodLinkNest t.1 idx t2.2.1 host ∈ nestW) (hlen : as.length = n) (hdd : d2 + 1 ≤ d) (hst : stk = as.reverse ++ st) (hcat : (st.map fun v => v.category).sum ≤ 8) (k : AWP F t (pc + 3) lv (res.1.toList ++ st) res.2) : AWP F t pc lv stk M := by
  rintro ⟨p, l, e, R, s, m, args, below, meth, c, A, D, tt, ad, mc, ms, Qf⟩ hX H locs ls hP hD hS hl
  obtain ⟨hx, hb, hml, hown, hts, hK, hA, hE, hroom⟩ := hF _ hX
  subst hst
  obtain ⟨hs1, hs2, hs3, hs4, hs5⟩ := hs
  obtain ⟨hr1, hr2, hr3, hr4⟩ := hroom
  have hR : (rmD d2).frames + 1 ≤ R.frames ∧ 8 + (t2.2.2.2.1 + 11) + (rmD d2).locals ≤ R.locals := by
    show d2 + 1 ≤ R.frames ∧ 8 + (t2.2.2.2.1 + 11) + 64 * d2 ≤ R.locals
    omega
  have hAB : ∀ q, va_A (cW ad tt M) H.size q → A q := by
    intro q h
    rcases h with ⟨k2, e2, h⟩ | h
    · exact hD.2 k2 _ h
    · exact hA q (Nat.le_trans hS.1 h)
  have hpre : ∀ U : State, U.heap = H → s.WarmedH U.vm → va_Pc (as.map (cv ad)) (PreB D tt ad H.size M) (as.map (cv ad)).toArray U := fun U hU hW => ⟨rfl, by rw [hU], by rw [hU]; exact hP, va_K.moved hW.alike hK, hD.weaken (fun _ _ _ _ => trivial), EV.pass hE hS hU hW hAB⟩
  refine r_after (a := (as.map (cv ad)).toArray) hD hS hA hl (va_runSN (As := as.map (cv ad)) (rest := st.map (cv ad)) ⟨hx, hb, hml, hown, hts⟩ (hc l D tt ad H.size) ⟨va_cnB n hts (goodB (t := t) hs1) rfl rfl rfl (hE.1 _ hw) (hts _ hs3) hs4 hR, hts _ hs2, trivial⟩ ⟨blindB, hpre⟩ rfl (by rw [List.length_map]; exact hlen) hl.1 (by show ((as.reverse ++ st).map (cv ad)) = _; rw [List.map_append, List.map_reverse]) (lv_room (by rw [r_catsum]; exact hcat)) hd ⟨by omega, by omega⟩) (k _ hX)
theorem r_callV (hF : Bs F t d) {t2 : MT} {d2 n idx : Nat} {as stk : List Value} {res : Option Value × Mem} {b ci N : Nat} {C : String} {T : u_T} {fs : List (Option (Option Nat))} (hd : decode t.2.2.1 pc = .ok (.invokevirtual idx, 3)) (hc : CT t2 d2 (.ref b :: as) M res) (hs : MV t2 n) (hw : Cond.methodLink t.1 idx t2.2.1 ∈ GW) (hlen : as.length = n) (hdd : d2 + 1 ≤ d) (hst : stk = as.reverse ++ .ref b :: st) (hcat : (st.map fun v => v.category).sum ≤ 8) (hsh : SH[b]? = some (.inl (ci, fs))) (hcl : classes[ci]? = some (C, T, N)) (hC : t2.2.1.cls = C) (k : AWP F t (pc + 3) lv (res.1.toList ++ st) res.2) : AWP F t pc lv stk M := by
  rintro ⟨p, l, e, R, s, m, args, below, meth, c, A, D, tt, ad, mc, ms, Qf⟩ hX H locs ls hP hD hS hl
  obtain ⟨hx, hb, hml, hown, hts, hK, hA, hE, hroom⟩ := hF _ hX
  subst hst
  obtain ⟨hs1, hs2, hs3, hs4, hs5⟩ := hs
  obtain ⟨hr1, hr2, hr3, hr4⟩ := hroom
  have hR : (rmD d2).frames + 1 ≤ R.frames ∧ 8 + (t2.2.2.2.1 + 11) + (rmD d2).locals ≤ R.locals := by
    show d2 + 1 ≤ R.frames ∧ 8 + (t2.2.2.2.1 + 11) + 64 * d2 ≤ R.locals
    omega
  have hAB : ∀ q, va_A (cW ad tt M) H.size q → A q := by
    intro q h
    rcases h with ⟨k2, e2, h⟩ | h
    · exact hD.2 k2 _ h
    · exact hA q (Nat.le_trans hS.1 h)
  have hpre : ∀ U : State, U.heap = H → s.WarmedH U.vm → va_Pc ((Value.ref b :: as).map (cv ad)) (PreB D tt ad H.size M) ((Value.ref b :: as).map (cv ad)).toArray U := fun U hU hW => ⟨rfl, by rw [hU], by rw [hU]; exact hP, va_K.moved hW.alike hK, hD.weaken (fun _ _ _ _ => trivial), EV.pass hE hS hU hW hAB⟩
  subst hC
  refine r_after (a := ((Value.ref b :: as).map (cv ad)).toArray) hD hS hA hl (va_runV (As := as.map (cv ad)) (rest := st.map (cv ad)) (b := ad b) ⟨hx, hb, hml, hown, hts⟩ (hc l D tt ad H.size) ⟨callB_of n hts (goodB (t := t) hs1) rfl rfl rfl (hts _ hs3) (hts _ hw) hs4 hR, hts _ hs2.1, hts _ hs2.2⟩ ⟨blindB, va_recv hK hP hcl (cW_at hsh), hpre⟩ rfl (by rw [List.length_map]; exact hlen) hl.1 (by show ((as.reverse ++ Value.ref b :: st).map (cv ad)) = _; rw [List.map_append, List.map_reverse]; rfl) (lv_room (by rw [r_catsum]; exact hcat)) hd ⟨by omega, by omega⟩) (k _ hX)
end ROWS2
section ENDS
variable {t : MT} {d pc : Nat} {lv : List (Nat × Value)} {M M0 : Mem}
theorem r_iret {v : Int32} (hd : decode t.2.2.1 pc = .ok (.ireturn, 1)) (hr0 : t.2.2.2.2 = some .int) : AWP (MF t d M0 (some (.int v), M)) t pc lv [.int v] M := by
  rintro ⟨p, l, e, R, s, m, args, below, meth, c, A, D, tt, ad, mc, ms, Qf⟩ hX H locs ls hP hD hS hl
  obtain ⟨⟨hx, hb, hml, hown, hts, hK, hA, hE, hroom⟩, hr, hlk, rfl, rfl, rfl, rfl⟩ := hX
  exact W.iret hx hb (hr.trans hr0) (fun t ht hW => ⟨⟨rfl, by rw [ht]; exact hP, va_K.moved hW.alike hK, hD⟩, hS.F ht⟩) hS.2.2 hd hlk
theorem r_zret {v : Int32} {ty : FieldType} (hd : decode t.2.2.1 pc = .ok (.ireturn, 1)) (hr0 : t.2.2.2.2 = some ty) (hn : narrow ty (.int v) = .int v) : AWP (MF t d M0 (some (.int v), M)) t pc lv [.int v] M := by
  rintro ⟨p, l, e, R, s, m, args, below, meth, c, A, D, tt, ad, mc, ms, Qf⟩ hX H locs ls hP hD hS hl
  obtain ⟨⟨hx, hb, hml, hown, hts, hK, hA, hE, hroom⟩, hr, hlk, rfl, rfl, rfl, rfl⟩ := hX
  exact W.zret hx hb (hr.trans hr0) hn (fun t ht hW => ⟨⟨rfl, by rw [ht]; exact hP, va_K.moved hW.alike hK, hD⟩, hS.F ht⟩) hS.2.2 hd hlk
theorem r_lret {v : Int64} (hd : decode t.2.2.1 pc = .ok (.lreturn, 1)) (hr0 : t.2.2.2.2 = some .long) : AWP (MF t d M0 (some (.long v), M)) t pc lv [.long v] M := by
  rintro ⟨p, l, e, R, s, m, args, below, meth, c, A, D, tt, ad, mc, ms, Qf⟩ hX H locs ls hP hD hS hl
  obtain ⟨⟨hx, hb, hml, hown, hts, hK, hA, hE, hroom⟩, hr, hlk, rfl, rfl, rfl, rfl⟩ := hX
  exact W.lret hx hb (hr.trans hr0) (fun t ht hW => ⟨⟨rfl, by rw [ht]; exact hP, va_K.moved hW.alike hK, hD⟩, hS.F ht⟩) hS.2.2 hd hlk
theorem r_vret (hd : decode t.2.2.1 pc = .ok (.return_, 1)) (hr0 : t.2.2.2.2 = none) : AWP (MF t d M0 (none, M)) t pc lv [] M := by
  rintro ⟨p, l, e, R, s, m, args, below, meth, c, A, D, tt, ad, mc, ms, Qf⟩ hX H locs ls hP hD hS hl
  obtain ⟨⟨hx, hb, hml, hown, hts, hK, hA, hE, hroom⟩, hr, hlk, rfl, rfl, rfl, rfl⟩ := hX
  exact W.vret hx hb (hr.trans hr0) (fun t ht hW => ⟨⟨rfl, by rw [ht]; exact hP, va_K.moved hW.alike hK, hD⟩, hS.F ht⟩) hS.2.2 hd hlk
theorem r_aret {v : Value} {C : String} (hd : decode t.2.2.1 pc = .ok (.areturn, 1)) (hr0 : t.2.2.2.2 = some (.object C)) (hv : v = .null ∨ ∃ a, v = .ref a) : AWP (MF t d M0 (some v, M)) t pc lv [v] M := by
  rintro ⟨p, l, e, R, s, m, args, below, meth, c, A, D, tt, ad, mc, ms, Qf⟩ hX H locs ls hP hD hS hl
  obtain ⟨⟨hx, hb, hml, hown, hts, hK, hA, hE, hroom⟩, hr, hlk, rfl, rfl, rfl, rfl⟩ := hX
  exact W.aret hx hb (hr.trans hr0) (Or.inl ⟨_, rfl⟩) (by rcases hv with rfl | ⟨a, rfl⟩; exact Or.inl rfl; exact Or.inr ⟨_, rfl⟩) (fun t ht hW => ⟨⟨rfl, by rw [ht]; exact hP, va_K.moved hW.alike hK, hD⟩, hS.F ht⟩) hS.2.2 hd hlk
theorem r_ite {α : Type} (G : α → Cx → Prop) {c : Prop} [Decidable c] {T1 T2 : α} {st : List Value} (k1 : c → AWP (G T1) t pc lv st M) (k2 : ¬ c → AWP (G T2) t pc lv st M) : AWP (G (if c then T1 else T2)) t pc lv st M := by
  by_cases h : c
  · rw [if_pos h]; exact k1 h
  · rw [if_neg h]; exact k2 h
end ENDS
abbrev GI (t : MT) (d : Nat) (M0 M : Mem) (z : Int32) : Cx → Prop := MF t d M0 (some (.int z), M)
abbrev GB (t : MT) (d : Nat) (M0 M : Mem) (z : Bool) : Cx → Prop := MF t d M0 (some (.int (b2i z)), M)
abbrev GL (t : MT) (d : Nat) (M0 M : Mem) (z : Int64) : Cx → Prop := MF t d M0 (some (.long z), M)
abbrev GIM (t : MT) (d : Nat) (M0 : Mem) (z : Int32 × Mem) : Cx → Prop := MF t d M0 (some (.int z.1), z.2)
abbrev GBM (t : MT) (d : Nat) (M0 : Mem) (z : Bool × Mem) : Cx → Prop := MF t d M0 (some (.int (b2i z.1)), z.2)
abbrev GV (t : MT) (d : Nat) (M0 : Mem) (z : Mem) : Cx → Prop := MF t d M0 (none, z)
theorem MF.bs' {t : MT} {d : Nat} {M0 : Mem} {res : Option Value × Mem} : Bs (MF t d M0 res) t d := MF.bs
