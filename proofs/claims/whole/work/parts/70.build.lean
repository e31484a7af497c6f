/-! CONSTRUCTORS: worlds that grow -/
def xtt : Cx → Nat → ClassId
  | (p, l, e, R, s, m, args, below, meth, c, A, D, tt, ad, mc, ms, Qf) => tt
def xad : Cx → Nat → Nat
  | (p, l, e, R, s, m, args, below, meth, c, A, D, tt, ad, mc, ms, Qf) => ad
def xmc : Cx → Nat
  | (p, l, e, R, s, m, args, below, meth, c, A, D, tt, ad, mc, ms, Qf) => mc
def xms : Cx → Nat
  | (p, l, e, R, s, m, args, below, meth, c, A, D, tt, ad, mc, ms, Qf) => ms
def xNm : Cx → String
  | (p, l, e, R, s, m, args, below, meth, c, A, D, tt, ad, mc, ms, Qf) => meth.name
def xAO : Cx → Prop
  | (p, l, e, R, s, m, args, below, meth, c, A, D, tt, ad, mc, ms, Qf) => va_AO RX1 s ∧ va_AO RX2 s
def BW (x : Cx) (t : MT) (pc : Nat) (lv : List (Nat × Value)) (st : List Value) (w : va_W) (kc ks : Nat) : Prop := match x with
  | (p, l, e, R, s, m, args, below, meth, c, A, D, tt, ad, mc, ms, Qf) =>
    ∀ (H : Heap) (locs : List Loc) (ls : Array Slot), va_P D classes w H → va_D A w → va_S A s.heap H locs → lv_has ls t.2.2.2.1 lv → W p l e R s m args below meth c H locs kc ks Qf (F0 m pc ls st)
def bOK (t : MT) (d : Nat) (x : Cx) : Prop := cxOK t d x ∧ xAO x
abbrev zI (tt : Nat → ClassId) (n : Nat) : va_E := .inl (tt 0, n, .inl (fun _ => 0))
abbrev fI (tt : Nat → ClassId) (n : Nat) (f : Nat → Int32) : va_E := .inl (tt 0, n, .inl f)
abbrev rI (tt : Nat → ClassId) (j : Nat) (n : Nat) (f : Nat → Option Nat) : va_E := .inl (tt j, n, .inr (.inr (.inr (.inr f))))
abbrev oI (ci : Nat) (fs : List Value) : va_E := .inr (ci, fs)
def rmB (d C S : Nat) : Room := { frames := d, cells := C, slots := S, locals := 64 * d }
def PreW (D : va_G) (tt : Nat → ClassId) (ad : Nat → Nat) (sz : Nat) (w : va_W) : State → Prop := fun U => U.heap.size = sz ∧ va_P D classes w U.heap ∧ va_K D classes (tysT tt) U ∧ va_D (fun _ => True) w ∧ EV ad (va_A w sz) U U.heap ∧ va_AO RX1 U ∧ va_AO RX2 U
def CB (t : MT) (d C S : Nat) (b : Nat) (wc : (Nat → ClassId) → va_W) (post : (Nat → ClassId) → (Nat → Nat) → va_W) : Prop :=
  ∀ (l : Launch) (D : va_G) (tt : Nat → ClassId) (ad : Nat → Nat) (sz : Nat), Met l t.2.1 (wsM t) (rmB d C S) (va_Pc [.ref b] (PreW D tt ad sz (wc tt))) (va_Qv (fun _ : Nat → Nat => True) (fun q U => va_P D classes (post tt q) U.heap ∧ va_K D classes (tysT tt) U ∧ va_D (va_A (wc tt) sz) (post tt q)) (va_A (wc tt) sz)) C S (va_A (wc tt) sz)
def MB (t : MT) (d C S : Nat) (wc : (Nat → ClassId) → va_W) (post : (Nat → ClassId) → (Nat → Nat) → va_W) : Cx → Prop
  | (p, l, e, R, s, m, args, below, meth, c, A, D, tt, ad, mc, ms, Qf) =>
    bOK t d (p, l, e, R, s, m, args, below, meth, c, A, D, tt, ad, mc, ms, Qf) ∧ meth.sig.returnType = t.2.2.2.2 ∧ meth.locks = false ∧ meth.name = t.2.1.name ∧ A = va_A (wc tt) s.heap.size ∧ mc = C ∧ ms = S ∧ Qf = MQ below (va_Qv (fun _ : Nat → Nat => True) (fun q U => va_P D classes (post tt q) U.heap ∧ va_K D classes (tysT tt) U ∧ va_D (va_A (wc tt) s.heap.size) (post tt q)) (va_A (wc tt) s.heap.size)) args s C S A
theorem MB.ok {t : MT} {d C S : Nat} {wc : (Nat → ClassId) → va_W} {post : (Nat → ClassId) → (Nat → Nat) → va_W} {x : Cx} (h : MB t d C S wc post x) : bOK t d x ∧ xNm x = t.2.1.name ∧ xmc x = C ∧ xms x = S := by
  obtain ⟨p, l, e, R, s, m, args, below, meth, c, A, D, tt, ad, mc, ms, Qf⟩ := x
  exact ⟨h.1, h.2.2.2.1, h.2.2.2.2.2.1, h.2.2.2.2.2.2.1⟩
theorem CB.of {t : MT} {d C S b : Nat} {wc : (Nat → ClassId) → va_W} {post : (Nat → ClassId) → (Nat → Nat) → va_W} (hy : plainName t.2.1.cls = true) (hcl : t.2.1.cls = t.1) (hsl : (lg_sl [Value.ref b]).length ≤ t.2.2.2.1) (h : ∀ x, MB t d C S wc post x → BW x t 0 [(0, .ref b)] [] (wc (xtt x)) 0 0) : CB t d C S b wc post := by
  intro l D tt ad sz
  refine Met.ofW (cc := t.2.2.1) (maxL := t.2.2.2.1) (ret := t.2.2.2.2) (ws' := GW) hy rfl ?_
  intro p e s m args below meth c s₁ B hml hv
  obtain ⟨rfl, hsz, hP, hK, hD0, hE, hA1, hA2⟩ := hv
  subst hsz
  have hts : ∀ w ∈ wsM t, w.before ([Value.ref b] : List Value).toArray s = true := atoms_spec (ws := wsM t) B.pre
  have hl := lv_entry ([Value.ref b]) (n := t.2.2.2.1) hsl
  rw [lg_entry_eq]
  generalize (lg_sl ([Value.ref b]) ++ List.replicate (t.2.2.2.1 - (lg_sl ([Value.ref b])).length) Slot.unset).toArray = ls at hl ⊢
  have hown : s.vm.findClass t.1 = some m.cls := by rw [← hcl]; exact findClass_of_methodNamed B.named
  have hn : meth.name = t.2.1.name := (name_of_methodNamed B.named B.method).1
  exact h (p, l, e, (headSpec (wsM t) (rmB d C S)).room, s, m, ([Value.ref b] : List Value).toArray, below, meth, c, va_A (wc tt) s.heap.size, D, tt, ad, C, S, _) ⟨⟨⟨B.exec, B.bytes, hml, hown, fun w hw => hts w (List.mem_cons_of_mem _ hw), hK, fun q hq => Or.inr hq, hE, Nat.le_refl _, Nat.le_refl _, Nat.le_refl _, Nat.le_refl _⟩, hA1, hA2⟩, B.returns, B.notSynchronized, hn, rfl, rfl, rfl, rfl⟩ s.heap [] ls hP hD0.self va_S.rf hl
section BUILD
variable {x : Cx} {t : MT} {d pc kc ks : Nat} {lv : List (Nat × Value)} {st : List Value} {w : va_W}
theorem b_eq (w2 : va_W) (h : w = w2) (k : BW x t pc lv st w2 kc ks) : BW x t pc lv st w kc ks := by rw [h]; exact k
theorem b_perm (w2 : va_W) (is : List Nat) (hn : va_nd is = true) (h : is.filterMap (fun i => w[i]?) = w2) (h2 : is.map (fun i => w[i]?) = w2.map some) (k : BW x t pc lv st w2 kc ks) : BW x t pc lv st w kc ks := by
  obtain ⟨p, l, e, R, s, m, args, below, meth, c, A, D, tt, ad, mc, ms, Qf⟩ := x
  intro H locs ls hP hD hS hl
  exact k H locs ls (hP.sub is h) (hD.sub is hn h2) hS hl
theorem b_iconst (hX : bOK t d x) {n : Int} {v : Int32} (hd : decode t.2.2.1 pc = .ok (.iconst n, 1)) (hv : Int32.ofInt n = v) (k : BW x t (pc + 1) lv (.int v :: st) w kc ks) : BW x t pc lv st w kc ks := by
  obtain ⟨p, l, e, R, s, m, args, below, meth, c, A, D, tt, ad, mc, ms, Qf⟩ := x
  intro H locs ls hP hD hS hl
  obtain ⟨⟨hx, hb, hml, hown, hts, hK, hA, hE, hroom⟩, hao⟩ := hX
  exact lv_iconst hx hb hd hv (k H locs ls hP hD hS hl)
theorem b_bipush (hX : bOK t d x) {n : Int} {v : Int32} (hd : decode t.2.2.1 pc = .ok (.bipush n, 2)) (hv : (Int8.ofInt n).toInt32 = v) (k : BW x t (pc + 2) lv (.int v :: st) w kc ks) : BW x t pc lv st w kc ks := by
  obtain ⟨p, l, e, R, s, m, args, below, meth, c, A, D, tt, ad, mc, ms, Qf⟩ := x
  intro H locs ls hP hD hS hl
  obtain ⟨⟨hx, hb, hml, hown, hts, hK, hA, hE, hroom⟩, hao⟩ := hX
  exact lv_bipush hx hb hd hv (k H locs ls hP hD hS hl)
theorem b_sipush (hX : bOK t d x) {n : Int} {v : Int32} (hd : decode t.2.2.1 pc = .ok (.sipush n, 3)) (hv : (Int16.ofInt n).toInt32 = v) (k : BW x t (pc + 3) lv (.int v :: st) w kc ks) : BW x t pc lv st w kc ks := by
  obtain ⟨p, l, e, R, s, m, args, below, meth, c, A, D, tt, ad, mc, ms, Qf⟩ := x
  intro H locs ls hP hD hS hl
  obtain ⟨⟨hx, hb, hml, hown, hts, hK, hA, hE, hroom⟩, hao⟩ := hX
  exact lv_sipush hx hb hd hv (k H locs ls hP hD hS hl)
theorem b_aload_n (hX : bOK t d x) {q : Fin 4} {i a : Nat} (hd : decode t.2.2.1 pc = .ok (.aload_n q, 1)) (hi : (q : Nat) = i) (j : Nat) (hl0 : lv[j]? = some (i, .ref a)) (k : BW x t (pc + 1) lv (.ref a :: st) w kc ks) : BW x t pc lv st w kc ks := by
  obtain ⟨p, l, e, R, s, m, args, below, meth, c, A, D, tt, ad, mc, ms, Qf⟩ := x
  intro H locs ls hP hD hS hl
  obtain ⟨⟨hx, hb, hml, hown, hts, hK, hA, hE, hroom⟩, hao⟩ := hX
  exact lv_aload_n hx hb hd hi (lv_at hl j hl0) (k H locs ls hP hD hS hl)
theorem b_iload_n (hX : bOK t d x) {q : Fin 4} {i : Nat} {a : Int32} (hd : decode t.2.2.1 pc = .ok (.iload_n q, 1)) (hi : (q : Nat) = i) (j : Nat) (hl0 : lv[j]? = some (i, .int a)) (k : BW x t (pc + 1) lv (.int a :: st) w kc ks) : BW x t pc lv st w kc ks := by
  obtain ⟨p, l, e, R, s, m, args, below, meth, c, A, D, tt, ad, mc, ms, Qf⟩ := x
  intro H locs ls hP hD hS hl
  obtain ⟨⟨hx, hb, hml, hown, hts, hK, hA, hE, hroom⟩, hao⟩ := hX
  exact lv_iload_n hx hb hd hi (lv_at hl j hl0) (k H locs ls hP hD hS hl)
theorem b_istore_n (hX : bOK t d x) {q : Fin 4} {i : Nat} {a : Int32} {lv' : List (Nat × Value)} (hd : decode t.2.2.1 pc = .ok (.istore_n q, 1)) (hi : (q : Nat) = i) (hn : i < t.2.2.2.1) (hl0 : (i, Value.int a) :: lv.filter (fun q => !(q.1 == i) && !(q.1 + 1 == i && q.2.category == 2)) = lv') (k : BW x t (pc + 1) lv' st w kc ks) : BW x t pc lv (.int a :: st) w kc ks := by
  obtain ⟨p, l, e, R, s, m, args, below, meth, c, A, D, tt, ad, mc, ms, Qf⟩ := x
  intro H locs ls hP hD hS hl
  obtain ⟨⟨hx, hb, hml, hown, hts, hK, hA, hE, hroom⟩, hao⟩ := hX
  exact lv_istore_n hx hb hd hi hl hn hl0 (fun ls hl => k H locs ls hP hD hS hl)
theorem b_astore_n (hX : bOK t d x) {q : Fin 4} {i a : Nat} {lv' : List (Nat × Value)} (hd : decode t.2.2.1 pc = .ok (.astore_n q, 1)) (hi : (q : Nat) = i) (hn : i < t.2.2.2.1) (hl0 : (i, Value.ref a) :: lv.filter (fun q => !(q.1 == i) && !(q.1 + 1 == i && q.2.category == 2)) = lv') (k : BW x t (pc + 1) lv' st w kc ks) : BW x t pc lv (.ref a :: st) w kc ks := by
  obtain ⟨p, l, e, R, s, m, args, below, meth, c, A, D, tt, ad, mc, ms, Qf⟩ := x
  intro H locs ls hP hD hS hl
  obtain ⟨⟨hx, hb, hml, hown, hts, hK, hA, hE, hroom⟩, hao⟩ := hX
  exact lv_astore_n hx hb hd hi hl hn hl0 (fun ls hl => k H locs ls hP hD hS hl)
theorem b_iinc (hX : bOK t d x) {i : Nat} {n : Int} {a v : Int32} {lv' : List (Nat × Value)} (hd : decode t.2.2.1 pc = .ok (.iinc i n, 3)) (j : Nat) (hk : lv[j]? = some (i, .int a)) (hv : a + Int32.ofInt n = v) (hn : i < t.2.2.2.1) (hl0 : (i, Value.int v) :: lv.filter (fun q => !(q.1 == i) && !(q.1 + 1 == i && q.2.category == 2)) = lv') (k : BW x t (pc + 3) lv' st w kc ks) : BW x t pc lv st w kc ks := by
  obtain ⟨p, l, e, R, s, m, args, below, meth, c, A, D, tt, ad, mc, ms, Qf⟩ := x
  intro H locs ls hP hD hS hl
  obtain ⟨⟨hx, hb, hml, hown, hts, hK, hA, hE, hroom⟩, hao⟩ := hX
  exact lv_iinc hx hb hd hl (k := j) hk hv hn hl0 (fun ls hl => k H locs ls hP hD hS hl)
theorem b_icmp_ge_t (hX : bOK t d x) {a b : Int32} {off : Int} {tgt : Nat} (hd : decode t.2.2.1 pc = .ok (.if_icmp .ge off, 3)) (ht : (pc : Int) + off = (tgt : Int)) (h : b ≤ a) (k : BW x t tgt lv st w kc ks) : BW x t pc lv (.int b :: .int a :: st) w kc ks := by
  obtain ⟨p, l, e, R, s, m, args, below, meth, c, A, D, tt, ad, mc, ms, Qf⟩ := x
  intro H locs ls hP hD hS hl
  obtain ⟨⟨hx, hb, hml, hown, hts, hK, hA, hE, hroom⟩, hao⟩ := hX
  exact lv_icmp_ge hx hb hd ht (fun _ => k H locs ls hP hD hS hl) (fun h9 => absurd h h9)
theorem b_icmp_ge_f (hX : bOK t d x) {a b : Int32} {off : Int} (tgt : Nat) (hd : decode t.2.2.1 pc = .ok (.if_icmp .ge off, 3)) (ht : (pc : Int) + off = (tgt : Int)) (h : ¬ b ≤ a) (k : BW x t (pc + 3) lv st w kc ks) : BW x t pc lv (.int b :: .int a :: st) w kc ks := by
  obtain ⟨p, l, e, R, s, m, args, below, meth, c, A, D, tt, ad, mc, ms, Qf⟩ := x
  intro H locs ls hP hD hS hl
  obtain ⟨⟨hx, hb, hml, hown, hts, hK, hA, hE, hroom⟩, hao⟩ := hX
  exact lv_icmp_ge hx hb hd ht (fun h9 => absurd h9 h) (fun _ => k H locs ls hP hD hS hl)
theorem b_goto (hX : bOK t d x) {off : Int} {tgt : Nat} (hd : decode t.2.2.1 pc = .ok (.goto off, 3)) (ht : (pc : Int) + off = (tgt : Int)) (k : BW x t tgt lv st w kc ks) : BW x t pc lv st w kc ks := by
  obtain ⟨p, l, e, R, s, m, args, below, meth, c, A, D, tt, ad, mc, ms, Qf⟩ := x
  intro H locs ls hP hD hS hl
  obtain ⟨⟨hx, hb, hml, hown, hts, hK, hA, hE, hroom⟩, hao⟩ := hX
  exact lv_goto hx hb hd ht (k H locs ls hP hD hS hl)
theorem b_dup (hX : bOK t d x) {v : Value} (hd : decode t.2.2.1 pc = .ok (.dup, 1)) (hv : v.category = 1) (k : BW x t (pc + 1) lv (v :: v :: st) w kc ks) : BW x t pc lv (v :: st) w kc ks := by
  obtain ⟨p, l, e, R, s, m, args, below, meth, c, A, D, tt, ad, mc, ms, Qf⟩ := x
  intro H locs ls hP hD hS hl
  obtain ⟨⟨hx, hb, hml, hown, hts, hK, hA, hE, hroom⟩, hao⟩ := hX
  exact lv_dup hx hb hd hv (k H locs ls hP hD hS hl)
theorem b_objInit (hX : bOK t d x) {idx a : Nat} (hd : decode t.2.2.1 pc = .ok (.invokespecial idx, 3)) (hw : Cond.methodLink t.1 idx Lib.objectInit ∈ GW) (hi : Cond.instanceMethod Lib.objectInit ∈ GW) (hc : Cond.code Lib.objectInit ⟨#[177]⟩ 1 none ∈ GW) (hd0 : 1 ≤ d) (hcat : (st.map fun v => v.category).sum ≤ 8) (k : BW x t (pc + 3) lv st w kc ks) : BW x t pc lv (.ref a :: st) w kc ks := by
  obtain ⟨p, l, e, R, s, m, args, below, meth, c, A, D, tt, ad, mc, ms, Qf⟩ := x
  intro H locs ls hP hD hS hl
  obtain ⟨⟨hx, hb, hml, hown, hts, hK, hA, hE, hroom⟩, hao⟩ := hX
  refine W.objInit hx hb hown (hts _ hw) (hts _ hi) (hts _ hc) rfl (hl.1.trans hml.symm) rfl hd (by have := hroom.1; omega) ?_ ?_
  · have := hroom.2.1
    show 2 * 0 + (st.map fun v => v.category).sum + 12 ≤ R.locals
    omega
  · exact k H locs ls hP hD hS hl
theorem b_newa (hX : bOK t d x) {n : Int32} {N : Nat} (hd : decode t.2.2.1 pc = .ok (.newarray .int, 2)) (hw : Cond.arrayClass .int ∈ GW) (hn : ¬ n < 0) (hN : n.toNatClampNeg = N) (hNb : N ≤ 10000) (hc : kc + 1 ≤ xmc x) (hs : ks + N ≤ xms x) (k : ∀ q : Nat, BW x t (pc + 2) lv (.ref q :: st) (w ++ [(q, zI (xtt x) N)]) (kc + 1) (ks + N)) : BW x t pc lv (.int n :: st) w kc ks := by
  obtain ⟨p, l, e, R, s, m, args, below, meth, c, A, D, tt, ad, mc, ms, Qf⟩ := x
  intro H locs ls hP hD hS hl
  obtain ⟨⟨hx, hb, hml, hown, hts, hK, hA, hE, hroom⟩, hao⟩ := hX
  have hc : kc + 1 ≤ mc := hc
  have hs : ks + N ≤ ms := hs
  have hr3 := hroom.2.2.1
  have hr4 := hroom.2.2.2
  have hbt : N * componentBytes (newarray.typeOf .int) ≤ 536870912 := by
    show N * 4 ≤ 536870912
    omega
  refine va_newaK (atype := .int) hx hb (hts _ hw) rfl hd rfl hn hN hbt (by omega) (by omega) rfl fun H1 cA e1 z1 o1 hAr hNm => ?_
  have hcA : cA = tt 0 := by
    have h1 := va_nm_int (hK.2 0 _ rfl).2
    have h2 : s.vm.findClass "[I" = some cA := hNm
    rw [h1] at h2
    exact (Option.some.inj h2).symm
  subst hcA
  have hk : ∀ (k : Nat) (y : Nat × va_E), w[k]? = some y → H1[y.1]? = H[y.1]? := fun k y hy => o1 y.1 ((hP k y hy).lt)
  refine k H.size H1 locs ls ((hP.kept hk).app (fun k y hy => ?_)) (hD.push hP rfl (hA _ hS.1)) ⟨Nat.le_trans hS.1 (by omega), fun y h1 h2 => (o1 y (Nat.lt_of_lt_of_le h1 hS.1)).trans (hS.2.1 y h1 h2), hS.2.2⟩ hl
  have hz : k < 1 := (List.getElem?_eq_some_iff.mp hy).1
  rw [show k = 0 by omega] at hy
  cases hy
  exact e1
theorem b_newq (hX : bOK t d x) {n : Int32} {N idx : Nat} {C : String} (j : Nat) (hd : decode t.2.2.1 pc = .ok (.anewarray idx, 3)) (hw : Cond.classLink t.1 idx C ∈ GW) (hC : (j = 1 ∧ C = RX1) ∨ (j = 2 ∧ C = RX2)) (hn : ¬ n < 0) (hN : n.toNatClampNeg = N) (hNb : N ≤ 10000) (hc : kc + 1 ≤ xmc x) (hs : ks + N ≤ xms x) (k : ∀ q : Nat, BW x t (pc + 3) lv (.ref q :: st) (w ++ [(q, rI (xtt x) j N (fun _ => none))]) (kc + 1) (ks + N)) : BW x t pc lv (.int n :: st) w kc ks := by
  obtain ⟨p, l, e, R, s, m, args, below, meth, c, A, D, tt, ad, mc, ms, Qf⟩ := x
  intro H locs ls hP hD hS hl
  obtain ⟨⟨hx, hb, hml, hown, hts, hK, hA, hE, hroom⟩, hao⟩ := hX
  have hc : kc + 1 ≤ mc := hc
  have hs : ks + N ≤ ms := hs
  have hr3 := hroom.2.2.1
  have hr4 := hroom.2.2.2
  have hover : va_AO C s := by
    rcases hC with ⟨-, rfl⟩ | ⟨-, rfl⟩
    · exact hao.1
    · exact hao.2
  have htt : (tysT tt)[j]? = some (tt j, .object C) := by
    rcases hC with ⟨rfl, rfl⟩ | ⟨rfl, rfl⟩ <;> rfl
  refine va_newq hx hb hown (hts _ hw) hover hK hP hD hS hA hn hN (by omega) (by omega) (by omega) hd fun q cA H1 hK1 hP1 hD1 hS1 => ?_
  have hcA : cA = tt j := by
    obtain ⟨-, kA, comp, -, -, -, h1⟩ := hK.2 j _ htt
    obtain ⟨-, kA2, comp2, -, -, -, h2⟩ := hK1.2 3 (cA, .object C) rfl
    rw [h1] at h2
    exact (Option.some.inj h2).symm
  subst hcA
  exact k q H1 locs ls hP1 hD1 hS1 hl
theorem b_new (hX : bOK t d x) {idx ci N : Nat} {C : String} {T : u_T} (ty : Nat → FieldType) (fs : List Value) (hd : decode t.2.2.1 pc = .ok (.new idx, 3)) (hcl : classes[ci]? = some (C, T, N)) (hty : ∀ k, k < N → parseFieldDescriptor (T k).2.2.1 = some (ty k)) (hw : Cond.classLink t.1 idx C ∈ GW) (hw2 : Cond.instantiable C N ∈ GW) (hw3 : Cond.initialized C ∈ GW) (hfs : ∀ j, j < N → defaultValue (ty j) = vp_V fs j) (hc : kc + 1 ≤ xmc x) (hs : ks + N ≤ xms x) (k : ∀ q : Nat, BW x t (pc + 3) lv (.ref q :: st) (w ++ [(q, oI ci fs)]) (kc + 1) (ks + N)) : BW x t pc lv st w kc ks := by
  obtain ⟨p, l, e, R, s, m, args, below, meth, c, A, D, tt, ad, mc, ms, Qf⟩ := x
  intro H locs ls hP hD hS hl
  obtain ⟨⟨hx, hb, hml, hown, hts, hK, hA, hE, hroom⟩, hao⟩ := hX
  have hc : kc + 1 ≤ mc := hc
  have hs : ks + N ≤ ms := hs
  have hr3 := hroom.2.2.1
  have hr4 := hroom.2.2.2
  exact va_new (D := D) hx hb hts (cls_info hcl).1 ty hty hown (hts _ hw) (hts _ hw2) (hts _ hw3) hK hP hD hS hA hcl hfs (by omega) (by omega) hd fun q H1 hP1 hD1 hS1 => k q H1 locs ls hP1 hD1 hS1 hl
theorem b_get (hX : bOK t d x) {idx ci N a : Nat} {C : String} {T : u_T} {fs : List Value} {v : Value} (q0 : Nat) (hd : decode t.2.2.1 pc = .ok (.getfield idx, 3)) (he : w[q0]? = some (a, oI ci fs)) (hcl : classes[ci]? = some (C, T, N)) (k9 : Nat) (hk : k9 < N) (hw : Cond.fieldLink t.1 idx (T k9).1 (T k9).2.1 (T k9).2.2.1 ∈ GW) (hf : fs[k9]? = some v) (k : BW x t (pc + 3) lv (v :: st) w kc ks) : BW x t pc lv (.ref a :: st) w kc ks := by
  obtain ⟨p, l, e, R, s, m, args, below, meth, c, A, D, tt, ad, mc, ms, Qf⟩ := x
  intro H locs ls hP hD hS hl
  obtain ⟨⟨hx, hb, hml, hown, hts, hK, hA, hE, hroom⟩, hao⟩ := hX
  exact va_get (D := D) hx hb hts (cls_info hcl).1 hown hK hP q0 he hcl k9 hk (hts _ hw) (fun _ h9 => h9) hf hd (k H locs ls hP hD hS hl)
theorem b_put (hX : bOK t d x) {idx ci N a : Nat} {C : String} {T : u_T} {fs : List Value} {v : Value} {ty : FieldType} (q0 : Nat) (w2 : va_W) (hd : decode t.2.2.1 pc = .ok (.putfield idx, 3)) (he : w[q0]? = some (a, oI ci fs)) (hcl : classes[ci]? = some (C, T, N)) (k9 : Nat) (hk : k9 < N) (hw : Cond.fieldLink t.1 idx (T k9).1 (T k9).2.1 (T k9).2.2.1 ∈ GW) (hfin : (T k9).2.2.2 = false) (hty : parseFieldDescriptor (T k9).2.2.1 = some ty) (hn : narrow ty v = v) (hfit : fits ty v = true) (hl9 : k9 < fs.length) (h2 : w.set q0 (a, oI ci (fs.set k9 v)) = w2) (k : BW x t (pc + 3) lv st w2 kc ks) : BW x t pc lv (v :: .ref a :: st) w kc ks := by
  subst h2
  obtain ⟨p, l, e, R, s, m, args, below, meth, c, A, D, tt, ad, mc, ms, Qf⟩ := x
  intro H locs ls hP hD hS hl
  obtain ⟨⟨hx, hb, hml, hown, hts, hK, hA, hE, hroom⟩, hao⟩ := hX
  obtain ⟨hin, ⟨ty0, hty0⟩, hnm⟩ := cls_info hcl
  exact va_put (D := D) hx hb hts hin ty0 hty0 hnm hown hK hP hD hS q0 he hcl k9 hk (hts _ hw) (fun _ h9 => h9) hfin hty hn hfit hl9 hd (fun H1 locs1 hP1 hD1 hS1 => k H1 locs1 ls hP1 hD1 hS1 hl)
theorem b_putF (hX : bOK t d x) {idx ci N a : Nat} {C : String} {T : u_T} {fs : List Value} {v : Value} {ty : FieldType} (q0 : Nat) (w2 : va_W) (hd : decode t.2.2.1 pc = .ok (.putfield idx, 3)) (he : w[q0]? = some (a, oI ci fs)) (hcl : classes[ci]? = some (C, T, N)) (k9 : Nat) (hk : k9 < N) (hw : Cond.fieldLink t.1 idx (T k9).1 (T k9).2.1 (T k9).2.2.1 ∈ GW) (hfin : (T k9).2.2.2 = true) (hin2 : xNm x = "<init>") (hdecl : (T k9).1 = t.1) (hty : parseFieldDescriptor (T k9).2.2.1 = some ty) (hn : narrow ty v = v) (hfit : fits ty v = true) (hl9 : k9 < fs.length) (h2 : w.set q0 (a, oI ci (fs.set k9 v)) = w2) (k : BW x t (pc + 3) lv st w2 kc ks) : BW x t pc lv (v :: .ref a :: st) w kc ks := by
  subst h2
  obtain ⟨p, l, e, R, s, m, args, below, meth, c, A, D, tt, ad, mc, ms, Qf⟩ := x
  intro H locs ls hP hD hS hl
  obtain ⟨⟨hx, hb, hml, hown, hts, hK, hA, hE, hroom⟩, hao⟩ := hX
  obtain ⟨hin, ⟨ty0, hty0⟩, hnm⟩ := cls_info hcl
  exact va_putF (D := D) hx hb hts hin ty0 hty0 hnm hown hK hP hD hS q0 he hcl k9 hk (hts _ hw) (fun _ h9 => h9) hfin hin2 hdecl hty hn hfit hl9 hd (fun H1 locs1 hP1 hD1 hS1 => k H1 locs1 ls hP1 hD1 hS1 hl)
theorem b_iast (hX : bOK t d x) {a n : Nat} {f : Nat → Int32} {i v : Int32} (q0 : Nat) (w2 : va_W) (hd : decode t.2.2.1 pc = .ok (.iastore, 1)) (he : w[q0]? = some (a, fI (xtt x) n f)) (hin : vp_in i n) (h2 : w.set q0 (a, fI (xtt x) n (upd f i.toNatClampNeg v)) = w2) (k : BW x t (pc + 1) lv st w2 kc ks) : BW x t pc lv (.int v :: .int i :: .ref a :: st) w kc ks := by
  subst h2
  obtain ⟨p, l, e, R, s, m, args, below, meth, c, A, D, tt, ad, mc, ms, Qf⟩ := x
  intro H locs ls hP hD hS hl
  obtain ⟨⟨hx, hb, hml, hown, hts, hK, hA, hE, hroom⟩, hao⟩ := hX
  exact va_iast hx hb hK hP hD hS q0 0 he rfl hin hd (fun H1 locs1 hP1 hD1 hS1 => k H1 locs1 ls hP1 hD1 hS1 hl)
theorem b_iald (hX : bOK t d x) {a n : Nat} {f : Nat → Int32} {i : Int32} (q0 : Nat) (hd : decode t.2.2.1 pc = .ok (.iaload, 1)) (he : w[q0]? = some (a, fI (xtt x) n f)) (hin : vp_in i n) (k : BW x t (pc + 1) lv (.int (f i.toNatClampNeg) :: st) w kc ks) : BW x t pc lv (.int i :: .ref a :: st) w kc ks := by
  obtain ⟨p, l, e, R, s, m, args, below, meth, c, A, D, tt, ad, mc, ms, Qf⟩ := x
  intro H locs ls hP hD hS hl
  obtain ⟨⟨hx, hb, hml, hown, hts, hK, hA, hE, hroom⟩, hao⟩ := hX
  exact va_iald hx hb hK hP q0 0 he rfl hin hd (k H locs ls hP hD hS hl)
theorem b_aast (hX : bOK t d x) {a n ci v j : Nat} {r : vw_C} {vs : List Value} {f : Nat → Option Nat} {i : Int32} (q0 qk : Nat) (w2 : va_W) (hd : decode t.2.2.1 pc = .ok (.aastore, 1)) (he : w[q0]? = some (a, rI (xtt x) j n f)) (hj : ∀ tt : Nat → ClassId, (tysT tt)[j]? = some (tt j, .object r.1)) (hv : w[qk]? = some (v, oI ci vs)) (hcl : classes[ci]? = some r) (hin : vp_in i n) (h2 : w.set q0 (a, rI (xtt x) j n (va_up f i.toNatClampNeg (some v))) = w2) (k : BW x t (pc + 1) lv st w2 kc ks) : BW x t pc lv (.ref v :: .int i :: .ref a :: st) w kc ks := by
  subst h2
  obtain ⟨p, l, e, R, s, m, args, below, meth, c, A, D, tt, ad, mc, ms, Qf⟩ := x
  intro H locs ls hP hD hS hl
  obtain ⟨⟨hx, hb, hml, hown, hts, hK, hA, hE, hroom⟩, hao⟩ := hX
  exact va_astq hx hb hK hP hD hS q0 j qk ci he (hj tt) hv hcl hin hd (fun H1 locs1 hP1 hD1 hS1 => k H1 locs1 ls hP1 hD1 hS1 hl)
theorem b_getsN (hX : bOK t d x) {i idx : Nat} {q : String × String × List Int32} {host : String} (hd : decode t.2.2.1 pc = .ok (.getstatic idx, 3)) (hq : stL[i]? = some q) (hw : Cond.fieldLinkNest t.1 idx q.1 q.2.1 "[I" host ∈ nestW) (k : BW x t (pc + 3) lv (.ref (xad x (100 + i)) :: st) w kc ks) : BW x t pc lv st w kc ks := by
  obtain ⟨p, l, e, R, s, m, args, below, meth, c, A, D, tt, ad, mc, ms, Qf⟩ := x
  intro H locs ls hP hD hS hl
  obtain ⟨⟨hx, hb, hml, hown, hts, hK, hA, hE, hroom⟩, hao⟩ := hX
  exact va_getsN hx hb (hE.2.1 i q hq).1 hS hown (va_Nw.use rfl (hE.1 _ hw)) (fun _ h9 => h9) hd (k H locs ls hP hD hS hl)
theorem b_vret {C S b : Nat} {wc : (Nat → ClassId) → va_W} {post : (Nat → ClassId) → (Nat → Nat) → va_W} (hM : MB t d C S wc post x) (q : Nat → Nat) (hd : decode t.2.2.1 pc = .ok (.return_, 1)) (hr0 : t.2.2.2.2 = none) (hk : kc ≤ C) (hn : ks ≤ S) (hw : w = post (xtt x) q) : BW x t pc lv [] w kc ks := by
  subst hw
  obtain ⟨p, l, e, R, s, m, args, below, meth, c, A, D, tt, ad, mc, ms, Qf⟩ := x
  intro H locs ls hP hD hS hl
  obtain ⟨⟨⟨hx, hb, hml, hown, hts, hK, hA, hE, hroom⟩, hao⟩, hr, hlk, hnm, rfl, rfl, rfl, rfl⟩ := hM
  refine W.widen hk hn ?_
  exact W.vret hx hb (hr.trans hr0) (fun t ht hW => ⟨⟨q, rfl, trivial, by rw [ht]; exact hP, va_K.moved hW.alike hK, hD⟩, hS.F ht⟩) hS.2.2 hd hlk
end BUILD
