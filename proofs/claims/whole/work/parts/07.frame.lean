/-! THE ABSTRACT MACHINE: places for addresses, one memory of ints, contracts over it -/
def GW : List Cond := lw_tbl.filter goodWord
theorem gw {w : Cond} (i : Nat) (h : lw_tbl[i]? = some w) (hg : goodWord w = true) : w ∈ GW := List.mem_filter.mpr ⟨List.mem_of_getElem? h, hg⟩
theorem gw_good {w : Cond} (h : w ∈ GW) : (w.onTables && w.keeps) = true ∨ ∃ ty, w = .arrayClass ty := good_of_word (List.mem_filter.mp h).2
/-- a method: its class, name, bytes, locals, return type -/
abbrev MT : Type := String × MethodName × ByteArray × Nat × Option FieldType
def wsM (t : MT) : List Cond := Cond.code t.2.1 t.2.2.1 t.2.2.2.1 t.2.2.2.2 :: GW
abbrev Mem : Type := Nat → Nat → Int32
/-- what a place is: an object (class, fields: a number, or a reference to a place), an int array, an array of references -/
abbrev SC : Type := (Nat × List (Option (Option Nat))) ⊕ (Nat ⊕ (Nat × List (Option Nat)))
abbrev ii : Option (Option Nat) := none
abbrev rr (q : Nat) : Option (Option Nat) := some (some q)
def shTown (b : Nat) : SC := .inl (4, [rr (b + 1), rr (b + 2), rr (b + 3), rr (b + 4), rr (b + 5), rr (b + 6), ii, ii, ii, ii])
def shSheet (b : Nat) : SC := .inl (1, [rr (b + 1), ii, ii])
def shShelf : SC := .inl (2, [ii, ii, ii, ii])
def shArr (n : Nat) : SC := .inr (.inl n)
def SH : List SC := [.inl (5, [rr 1, rr 8, rr 15, rr 22, rr 24, rr 25, rr 26, rr 28, rr 29, rr 30, rr 31, rr 32, rr 33, ii, ii]), shTown 1, shArr 4, shArr 16, shArr 8, shArr 8, shArr 8, shArr 8, shTown 8, shArr 4, shArr 16, shArr 8, shArr 8, shArr 8, shArr 8, shTown 15, shArr 4, shArr 16, shArr 8, shArr 8, shArr 8, shArr 8, .inl (3, [rr 23, ii, ii, ii]), shArr 200, .inr (.inr (1, [some 34, some 36, some 38, some 40])), .inr (.inr (2, [some 42, some 43, some 44, some 45])), .inl (0, [rr 27, ii, ii, ii, ii, ii]), shArr 30, shArr 30, shArr 61, shArr 61, shArr 8, shArr 16, shArr 256, shSheet 34, shArr 40, shSheet 36, shArr 40, shSheet 38, shArr 40, shSheet 40, shArr 40, shShelf, shShelf, shShelf, shShelf, .inl (6, [rr 47, rr 48, rr 49, rr 50, ii, rr 51, ii, ii, ii, ii, ii, ii, rr 52, rr 53, rr 54, rr 55, rr 56, ii, rr 57, rr 58, rr 59, rr 60, rr 61, rr 62, rr 63, ii, ii, ii, ii, ii]), shArr 56, shArr 56, shArr 56, shArr 56, shArr 200, shArr 8, shArr 61, shArr 16, shArr 256, shArr 30, shArr 4, shArr 4, shArr 160, shArr 4, shArr 4, shArr 4, shArr 30]
abbrev classes : List vw_C := [(RX0, TX0, 6), (RX1, TX1, 3), (RX2, TX2, 4), (RX3, TX3, 4), (RX4, TX4, 10), (RX5, TX5, 15), (RX6, TX6, 30)]
abbrev tysT (tt : Nat → ClassId) : List (ClassId × FieldType) := [(tt 0, .int), (tt 1, .object RX1), (tt 2, .object RX2)]
/-- a value of the abstract machine, in the real one -/
def cv (ad : Nat → Nat) : Value → Value
  | .ref k => .ref (ad k)
  | v => v
theorem cv_cat (ad : Nat → Nat) (v : Value) : (cv ad v).category = v.category := by cases v <;> rfl
def cL (ad : Nat → Nat) (l : List (Nat × Value)) : List (Nat × Value) := l.map (fun q => (q.1, cv ad q.2))
def cF (ad : Nat → Nat) (M : Mem) (p : Nat) (k : Nat) (f : Option (Option Nat)) : Value := match f with
  | none => .int (M p k)
  | some r => va_rf (r.map ad)
def cE (ad : Nat → Nat) (tt : Nat → ClassId) (M : Mem) (p : Nat) (c : SC) : va_E := match c with
  | .inl (ci, fs) => .inr (ci, fs.mapIdx (cF ad M p))
  | .inr (.inl n) => .inl (tt 0, n, .inl (M p))
  | .inr (.inr (j, es)) => .inl (tt j, es.length, .inr (.inr (.inr (.inr (fun k => (es[k]?.join).map ad)))))
def cW (ad : Nat → Nat) (tt : Nat → ClassId) (M : Mem) : va_W := SH.mapIdx (fun p c => (ad p, cE ad tt M p c))
theorem cW_at {ad : Nat → Nat} {tt : Nat → ClassId} {M : Mem} {p : Nat} {c : SC} (h : SH[p]? = some c) : (cW ad tt M)[p]? = some (ad p, cE ad tt M p c) := by
  simp [cW, List.getElem?_mapIdx, h]
/-- one number changes -/
def upm (M : Mem) (p k : Nat) (x : Int32) : Mem := fun q => if q = p then upd (M p) k x else M q
/-- a whole row changes -/
def upr (M : Mem) (p : Nat) (f : Nat → Int32) : Mem := fun q => if q = p then f else M q
theorem cE_off {ad : Nat → Nat} {tt : Nat → ClassId} {M M1 : Mem} {p : Nat} {c : SC} (h : M1 p = M p) : cE ad tt M1 p c = cE ad tt M p c := by
  unfold cE cF
  rcases c with ⟨ci, fs⟩ | n | ⟨j, es⟩
  · simp only [h]
  · simp only [h]
  · rfl
theorem cW_upr {ad : Nat → Nat} {tt : Nat → ClassId} {M : Mem} {p n : Nat} {f : Nat → Int32} (h : SH[p]? = some (.inr (.inl n))) : (cW ad tt M).set p (ad p, .inl (tt 0, n, .inl f)) = cW ad tt (upr M p f) := by
  apply List.ext_getElem?
  intro q
  by_cases hq : q = p
  · subst hq
    have hl : q < (cW ad tt M).length := (List.getElem?_eq_some_iff.mp (cW_at (ad := ad) (tt := tt) (M := M) h)).1
    rw [List.getElem?_set_self hl, cW_at h]
    simp [cE, upr]
  · rw [List.getElem?_set_ne (Ne.symm hq)]
    simp only [cW, List.getElem?_mapIdx]
    cases SH[q]? with
    | none => rfl
    | some c =>
      show some (ad q, cE ad tt M q c) = some (ad q, cE ad tt (upr M p f) q c)
      rw [cE_off (M := M) (M1 := upr M p f) (by simp [upr, hq])]
theorem upr_upm {M : Mem} {p k : Nat} {x : Int32} : upr M p (upd (M p) k x) = upm M p k x := rfl
theorem cW_upf {ad : Nat → Nat} {tt : Nat → ClassId} {M : Mem} {p k ci : Nat} {fs : List (Option (Option Nat))} {x : Int32} (h : SH[p]? = some (.inl (ci, fs))) (hk : fs[k]? = some none) : (cW ad tt M).set p (ad p, .inr (ci, (fs.mapIdx (cF ad M p)).set k (.int x))) = cW ad tt (upm M p k x) := by
  apply List.ext_getElem?
  intro q
  by_cases hq : q = p
  · subst hq
    have hl : q < (cW ad tt M).length := (List.getElem?_eq_some_iff.mp (cW_at (ad := ad) (tt := tt) (M := M) h)).1
    rw [List.getElem?_set_self hl, cW_at h]
    have e : (fs.mapIdx (cF ad M q)).set k (.int x) = fs.mapIdx (cF ad (upm M q k x) q) := by
      apply List.ext_getElem?
      intro j
      by_cases hj : j = k
      · subst hj
        have hl2 : j < (fs.mapIdx (cF ad M q)).length := by
          rw [List.length_mapIdx]
          exact (List.getElem?_eq_some_iff.mp hk).1
        rw [List.getElem?_set_self hl2, List.getElem?_mapIdx, hk]
        simp [cF, upm, upd]
      · rw [List.getElem?_set_ne (Ne.symm hj), List.getElem?_mapIdx, List.getElem?_mapIdx]
        cases fs[j]? with
        | none => rfl
        | some f => cases f <;> simp [cF, upm, upd, hj]
    rw [e]
    rfl
  · rw [List.getElem?_set_ne (Ne.symm hq)]
    simp only [cW, List.getElem?_mapIdx]
    cases SH[q]? with
    | none => rfl
    | some c =>
      show some (ad q, cE ad tt M q c) = some (ad q, cE ad tt (upm M p k x) q c)
      rw [cE_off (M := M) (M1 := upm M p k x) (by simp [upm, hq])]
/-! what is given and stays: words of the nest, static rows, texts -/
def nestW : List Cond := [(Jvm.Cond.fieldLinkNest "WeatherDisguise$Town" (34 : Nat) "WeatherDisguise" "LAW_AT_FIRST" "[I" "WeatherDisguise"), (Jvm.Cond.methodLinkNest "WeatherDisguise" (24 : Nat) ({ cls := "WeatherDisguise$Tape", name := "<init>", desc := "()V" } : Jvm.MethodName) "WeatherDisguise"), (Jvm.Cond.methodLinkNest "WeatherDisguise" (43 : Nat) ({ cls := "WeatherDisguise$Acts", name := "<init>", desc := "()V" } : Jvm.MethodName) "WeatherDisguise"), (Jvm.Cond.methodLinkNest "WeatherDisguise" (75 : Nat) ({ cls := "WeatherDisguise$Sheet", name := "<init>", desc := "()V" } : Jvm.MethodName) "WeatherDisguise"), (Jvm.Cond.methodLinkNest "WeatherDisguise" (76 : Nat) ({ cls := "WeatherDisguise$Shelf", name := "<init>", desc := "()V" } : Jvm.MethodName) "WeatherDisguise"), (Jvm.Cond.methodLinkNest "WeatherDisguise$Tape" (127 : Nat) ({ cls := "WeatherDisguise", name := "isWithin", desc := "(III)Z" } : Jvm.MethodName) "WeatherDisguise"), (Jvm.Cond.fieldLinkNest "WeatherDisguise$Tape" (118 : Nat) "WeatherDisguise" "LAW_LEAST" "[I" "WeatherDisguise"), (Jvm.Cond.fieldLinkNest "WeatherDisguise$Tape" (121 : Nat) "WeatherDisguise" "LAW_MOST" "[I" "WeatherDisguise"), (Jvm.Cond.methodLinkNest "WeatherDisguise$Town" (58 : Nat) ({ cls := "WeatherDisguise", name := "isWithin", desc := "(III)Z" } : Jvm.MethodName) "WeatherDisguise"), (Jvm.Cond.methodLinkNest "WeatherDisguise$Town" (74 : Nat) ({ cls := "WeatherDisguise", name := "wayTowards", desc := "(II)I" } : Jvm.MethodName) "WeatherDisguise"), (Jvm.Cond.methodLinkNest "WeatherDisguise$Town" (66 : Nat) ({ cls := "WeatherDisguise", name := "nextHouse", desc := "(II)I" } : Jvm.MethodName) "WeatherDisguise"), (Jvm.Cond.methodLinkNest "WeatherDisguise$Town" (86 : Nat) ({ cls := "WeatherDisguise", name := "held", desc := "(II)I" } : Jvm.MethodName) "WeatherDisguise"), (Jvm.Cond.methodLinkNest "WeatherDisguise$Town" (96 : Nat) ({ cls := "WeatherDisguise", name := "apart", desc := "(II)I" } : Jvm.MethodName) "WeatherDisguise"), (Jvm.Cond.methodLinkNest "WeatherDisguise$Sheet" (22 : Nat) ({ cls := "WeatherDisguise", name := "isWithin", desc := "(III)Z" } : Jvm.MethodName) "WeatherDisguise"), (Jvm.Cond.methodLinkNest "WeatherDisguise$Acts" (40 : Nat) ({ cls := "WeatherDisguise", name := "isWithin", desc := "(III)Z" } : Jvm.MethodName) "WeatherDisguise")]
def stL : List (String × String × List Int32) := [(RX5, "LAW_AT_FIRST", [3, 6, 2, 20]), (RX5, "LAW_LEAST", [1, 0, 0, 0]), (RX5, "LAW_MOST", [9, 99, 9, 99]), (RX0, "BODY_OF", [10, 11, 12, 13, 10, 20, 12, 13, 30, 11, 12, 31, 51, 20, 50, 13, 40, 41, 12, 31, 10, 11, 61, 60])]
def strL : List (Nat × String) := [(40, "wet"), (49, "wind"), (59, "turn"), (64, "damp"), (66, "shy"), (68, "gust"), (76, "air"), (81, "rain"), (83, "fog"), (85, "drizzle"), (87, "mist"), (89, "heat"), (97, "at"), (103, "force"), (105, "errand"), (111, "is")]
def strLen : List Nat := [3, 4, 4, 4, 3, 4, 3, 4, 3, 7, 4, 4, 2, 5, 6, 2]
def strByt : List (List Int32) := [[119, 101, 116], [119, 105, 110, 100], [116, 117, 114, 110], [100, 97, 109, 112], [115, 104, 121], [103, 117, 115, 116], [97, 105, 114], [114, 97, 105, 110], [102, 111, 103], [100, 114, 105, 122, 122, 108, 101], [109, 105, 115, 116], [104, 101, 97, 116], [97, 116], [102, 111, 114, 99, 101], [101, 114, 114, 97, 110, 100], [105, 115]]
theorem nestW_form : ∀ w ∈ nestW, (∃ a i x h, w = .methodLinkNest a i x h) ∨ (∃ a i b n d h, w = .fieldLinkNest a i b n d h) := by
  intro w hw
  simp only [nestW, List.mem_cons, List.not_mem_nil, or_false] at hw
  rcases hw with rfl | rfl | rfl | rfl | rfl | rfl | rfl | rfl | rfl | rfl | rfl | rfl | rfl | rfl | rfl <;> first | exact Or.inl ⟨_, _, _, _, rfl⟩ | exact Or.inr ⟨_, _, _, _, _, _, rfl⟩
def zF (ad : Nat → Nat) (A : Nat → Prop) (U : State) (H : Heap) : Prop := va_Z "jdk/internal/util/Preconditions" "SIOOBE_FORMATTER" "Ljava/util/function/BiFunction;" .null A U H ∨ va_Z "jdk/internal/util/Preconditions" "SIOOBE_FORMATTER" "Ljava/util/function/BiFunction;" (.ref (ad 400)) A U H
def EV (ad : Nat → Nat) (A : Nat → Prop) (U : State) (H : Heap) : Prop :=
  (∀ w ∈ nestW, va_Nw w U) ∧
  (∀ (i : Nat) (q : String × String × List Int32), stL[i]? = some q → va_Z q.1 q.2.1 "[I" (.ref (ad (100 + i))) A U H ∧ va_T .int (ad (100 + i)) q.2.2.length (fun j => .int (q.2.2.getD j 0)) A U H) ∧
  va_Z "java/lang/String" "COMPACT_STRINGS" "Z" (.int 1) A U H ∧
  zF ad A U H ∧
  vk_S 16 strLen strByt (fun i => ad (200 + i)) (fun i => ad (300 + i)) A U H ∧
  (∀ (i : Nat) (q : Nat × String), strL[i]? = some q → vk_R RX3 q.1 q.2 (ad (200 + i)) U)
theorem EV.pass {ad : Nat → Nat} {A A' : Nat → Prop} {s U : State} {H : Heap} {locs : List Loc} (h : EV ad A s s.heap) (hS : va_S A s.heap H locs) (hU : U.heap = H) (hW : s.WarmedH U.vm) (hAB : ∀ q, A' q → A q) : EV ad A' U U.heap := by
  obtain ⟨h1, h2, h3, h4, h5, h6⟩ := h
  rw [hU]
  refine ⟨fun w hw => ?_, fun i q hq => ?_, ?_, ?_, ?_, fun i q hq => ?_⟩
  · rcases nestW_form w hw with ⟨a, i, x, hh, rfl⟩ | ⟨a, i, b, n, d, hh, rfl⟩
    · exact va_Nw.warmM hW (h1 _ hw)
    · exact va_Nw.warmF hW (h1 _ hw)
  · obtain ⟨g1, g2⟩ := h2 i q hq
    exact ⟨va_Z.narrow (va_Z.moved hW.alike (va_Z.kept g1 hS.2.1)) hAB, va_T.narrow (va_T.moved hW.alike (va_T.kept g2 hS.2.1)) hAB⟩
  · exact va_Z.narrow (va_Z.moved hW.alike (va_Z.kept h3 hS.2.1)) hAB
  · rcases h4 with h4 | h4
    · exact Or.inl (va_Z.narrow (va_Z.moved hW.alike (va_Z.kept h4 hS.2.1)) hAB)
    · exact Or.inr (va_Z.narrow (va_Z.moved hW.alike (va_Z.kept h4 hS.2.1)) hAB)
  · exact vk_S.narrow (vk_S.moved hW.alike (vk_S.kept h5 hS.2.1)) hAB
  · exact vk_R.warm hW (h6 i q hq)
theorem EV.same {ad : Nat → Nat} {A : Nat → Prop} {u U : State} (hv : u.vm = U.vm) (hh : U.heap = u.heap) (h : EV ad A u u.heap) : EV ad A U U.heap := by
  obtain ⟨h1, h2, h3, h4, h5, h6⟩ := h
  have al : u.vm.Alike U.vm := by rw [hv]; exact Vm.Alike.refl _
  rw [hh]
  refine ⟨fun w hw => ?_, fun i q hq => ?_, ?_, ?_, ?_, fun i q hq => ?_⟩
  · rcases nestW_form w hw with ⟨a, i, x, hh, rfl⟩ | ⟨a, i, b, n, d, hh, rfl⟩
    · exact va_Nw.same rfl hv (h1 _ hw)
    · exact va_Nw.same rfl hv (h1 _ hw)
  · exact ⟨va_Z.moved al (h2 i q hq).1, va_T.moved al (h2 i q hq).2⟩
  · exact va_Z.moved al h3
  · rcases h4 with h4 | h4
    · exact Or.inl (va_Z.moved al h4)
    · exact Or.inr (va_Z.moved al h4)
  · exact vk_S.moved al h5
  · exact vk_R.same hv.symm (h6 i q hq)
/-! contexts: where a method runs -/
abbrev Cx : Type := Program × Launch × Env × Room × State × MethodId × Array Value × List Frame × Method × Code × (Nat → Prop) × va_G × (Nat → ClassId) × (Nat → Nat) × Nat × Nat × (State → Prop)
/-- from this abstract state the machine comes to the end that the context names -/
def AW : Cx → Nat → Nat → List (Nat × Value) → List Value → Mem → Prop
  | (p, l, e, R, s, m, args, below, meth, c, A, D, tt, ad, mc, ms, Qf), nL, pc, lv, st, M =>
    ∀ (H : Heap) (locs : List Loc) (ls : Array Slot), va_P D classes (cW ad tt M) H → va_D A (cW ad tt M) → va_S A s.heap H locs → lv_has ls nL (cL ad lv) → W p l e R s m args below meth c H locs mc ms Qf (F0 m pc ls (st.map (cv ad)))
def cxOK (t : MT) (d : Nat) : Cx → Prop
  | (p, l, e, R, s, m, args, below, meth, c, A, D, tt, ad, mc, ms, Qf) =>
    p.tables.exec = Jvm.exec ∧ c.code = t.2.2.1 ∧ c.maxLocals = t.2.2.2.1 ∧ s.vm.findClass t.1 = some m.cls ∧ (∀ w ∈ GW, w.before args s = true) ∧ va_K D classes (tysT tt) s ∧ (∀ q, s.heap.size ≤ q → A q) ∧ EV ad A s s.heap ∧ (d ≤ R.frames ∧ 64 * d ≤ R.locals ∧ mc ≤ R.cells ∧ ms ≤ R.slots)
def Bs (F : Cx → Prop) (t : MT) (d : Nat) : Prop := ∀ x, F x → cxOK t d x
def AWP (F : Cx → Prop) (t : MT) (pc : Nat) (lv : List (Nat × Value)) (st : List Value) (M : Mem) : Prop := ∀ x, F x → AW x t.2.2.2.1 pc lv st M
/-! contracts -/
def PreB (D : va_G) (tt : Nat → ClassId) (ad : Nat → Nat) (sz : Nat) (M : Mem) : State → Prop := fun U => U.heap.size = sz ∧ va_P D classes (cW ad tt M) U.heap ∧ va_K D classes (tysT tt) U ∧ va_D (fun _ => True) (cW ad tt M) ∧ EV ad (va_A (cW ad tt M) sz) U U.heap
def PostB (D : va_G) (tt : Nat → ClassId) (ad : Nat → Nat) (sz : Nat) (M : Mem) (res : Option Value × Mem) : Array Value → State → Outcome → State → Prop := fun _ st oc t =>
  (oc = .returned (res.1.map (cv ad)) ∧ va_P D classes (cW ad tt res.2) t.heap ∧ va_K D classes (tysT tt) t ∧ va_D (va_A (cW ad tt M) sz) (cW ad tt res.2)) ∧ va_F (va_A (cW ad tt M) sz) st t
def rmD (d : Nat) : Room := { frames := d, cells := 0, slots := 0, locals := 64 * d }
/-- the contract: with these arguments, in this memory, the method comes back with this -/
def CT (t : MT) (d : Nat) (as : List Value) (M : Mem) (res : Option Value × Mem) : Prop :=
  ∀ (l : Launch) (D : va_G) (tt : Nat → ClassId) (ad : Nat → Nat) (sz : Nat), Met l t.2.1 (wsM t) (rmD d) (va_Pc (as.map (cv ad)) (PreB D tt ad sz M)) (PostB D tt ad sz M res) 0 0 (va_A (cW ad tt M) sz)
/-- the contexts of a method that is to come back with res -/
def MF (t : MT) (d : Nat) (M0 : Mem) (res : Option Value × Mem) : Cx → Prop
  | (p, l, e, R, s, m, args, below, meth, c, A, D, tt, ad, mc, ms, Qf) =>
    cxOK t d (p, l, e, R, s, m, args, below, meth, c, A, D, tt, ad, mc, ms, Qf) ∧ meth.sig.returnType = t.2.2.2.2 ∧ meth.locks = false ∧ A = va_A (cW ad tt M0) s.heap.size ∧ mc = 0 ∧ ms = 0 ∧ Qf = MQ below (PostB D tt ad s.heap.size M0 res) args s 0 0 A
theorem MF.bs {t : MT} {d : Nat} {M0 : Mem} {res : Option Value × Mem} : Bs (MF t d M0 res) t d := by
  rintro ⟨p, l, e, R, s, m, args, below, meth, c, A, D, tt, ad, mc, ms, Qf⟩ hX
  exact hX.1
theorem lv_args_map (ad : Nat → Nat) : ∀ (as : List Value) (i : Nat), lv_args i (as.map (cv ad)) = cL ad (lv_args i as)
  | [], _ => rfl
  | v :: as, i => by
    show (i, cv ad v) :: lv_args (if (cv ad v).category = 2 then i + 2 else i + 1) (as.map (cv ad)) = _
    rw [cv_cat, lv_args_map ad as]
    rfl
theorem lg_sl_map (ad : Nat → Nat) (as : List Value) : (lg_sl (as.map (cv ad))).length = (lg_sl as).length := by
  induction as with
  | nil => rfl
  | cons v as ih =>
    have e : ∀ (v : Value) (r : List Value), (lg_sl (v :: r)).length = (if v.category = 2 then 2 else 1) + (lg_sl r).length := by
      intro v r
      by_cases hc : v.category = 2 <;> simp [lg_sl, hc] <;> omega
    rw [List.map_cons, e, e, cv_cat, ih]
theorem CT.of {t : MT} {d : Nat} {as : List Value} {M0 : Mem} {res : Option Value × Mem} (hy : plainName t.2.1.cls = true) (hcl : t.2.1.cls = t.1) (hsl : (lg_sl as).length ≤ t.2.2.2.1) (h : AWP (MF t d M0 res) t 0 (lv_args 0 as) [] M0) : CT t d as M0 res := by
  intro l D tt ad sz
  refine Met.ofW (cc := t.2.2.1) (maxL := t.2.2.2.1) (ret := t.2.2.2.2) (ws' := GW) hy rfl ?_
  intro p e s m args below meth c s₁ B hml hv
  obtain ⟨rfl, hsz, hP, hK, hD0, hE⟩ := hv
  subst hsz
  have hts : ∀ w ∈ wsM t, w.before (as.map (cv ad)).toArray s = true := atoms_spec (ws := wsM t) B.pre
  have hl := lv_entry (as.map (cv ad)) (n := t.2.2.2.1) (by rw [lg_sl_map]; exact hsl)
  rw [lg_entry_eq]
  generalize (lg_sl (as.map (cv ad)) ++ List.replicate (t.2.2.2.1 - (lg_sl (as.map (cv ad))).length) Slot.unset).toArray = ls at hl ⊢
  rw [lv_args_map] at hl
  have hown : s.vm.findClass t.1 = some m.cls := by rw [← hcl]; exact findClass_of_methodNamed B.named
  exact h (p, l, e, (headSpec (wsM t) (rmD d)).room, s, m, (as.map (cv ad)).toArray, below, meth, c, va_A (cW ad tt M0) s.heap.size, D, tt, ad, 0, 0, _) ⟨⟨B.exec, B.bytes, hml, hown, fun w hw => hts w (List.mem_cons_of_mem _ hw), hK, fun q hq => Or.inr hq, hE, Nat.le_refl _, Nat.le_refl _, Nat.zero_le _, Nat.zero_le _⟩, B.returns, B.notSynchronized, rfl, rfl, rfl, rfl⟩ s.heap [] ls hP hD0.self va_S.rf hl
