/-! CONSTRUCTORS: copies and calls -/
section BUILD2
variable {x : Cx} {t : MT} {d pc kc ks : Nat} {lv : List (Nat × Value)} {st : List Value} {w : va_W}
theorem b_copyt (hX : bOK t d x) {idx n1 a n j : Nat} {z : Int32} {q : String × String × List Int32} {g : Nat → Int32} (q0 : Nat) (w2 : va_W) (hd : decode t.2.2.1 pc = .ok (.invokestatic idx, 3)) (hw : Cond.methodLink t.1 idx arraycopyName ∈ GW) (hq : stL[j]? = some q) (he : w[q0]? = some (a, fI (xtt x) n1 g)) (hx0 : ¬ z < 0 ∧ z.toNatClampNeg = n) (hx1 : z.toInt = (n : Int)) (h4 : n ≤ q.2.2.length) (h5 : n ≤ n1) (hcat : (st.map fun v => v.category).sum ≤ 8) (hd0 : 1 ≤ d) (h2 : w.set q0 (a, fI (xtt x) n1 (va_cpy (fun i => q.2.2.getD i 0) g 0 0 n)) = w2) (k : BW x t (pc + 3) lv st w2 kc ks) : BW x t pc lv (.int z :: .int 0 :: .ref a :: .int 0 :: .ref (xad x (100 + j)) :: st) w kc ks := by
  subst h2
  obtain ⟨p, l, e, R, s, m, args, below, meth, c, A, D, tt, ad, mc, ms, Qf⟩ := x
  intro H locs ls hP hD hS hl
  obtain ⟨⟨hx, hb, hml, hown, hts, hK, hA, hE, hroom⟩, hao⟩ := hX
  obtain ⟨hxn, rfl⟩ := hx0
  have he : w[q0]? = some (a, .inl (tt 0, n1, .inl g)) := he
  obtain ⟨cs, g1, g2, g3, g4, -, g5, g6⟩ := (hE.2.1 j q hq).2
  have hsrc : H[ad (100 + j)]? = some cs := (hS.2.1 _ (Array.getElem?_eq_some_iff.mp g1).1 g6).trans g1
  have hdst : H[a]? = some (vp_cell (tt 0) (n1, .inl g)) := hP q0 _ he
  obtain ⟨sArr, sk, hsk, scm, skk⟩ := g2
  obtain ⟨-, dk, hdk, dcm, dkk⟩ := (hK.2 0 _ rfl).1 n1 (fun i => .int (g i))
  have z0 : (0 : Int32).toInt = 0 := by decide
  intro T hT X
  obtain ⟨vm1, X1, go⟩ := X.arraycopy hx hown (hts _ hw) (hts _ nat_copy) (hts _ stat_copy) (hts _ ini_copy) (src := ad (100 + j)) (dst := a) (cs := cs) (cd := vp_cell (tt 0) (n1, .inl g)) (srcPos := 0) (destPos := 0) (n := z) (by rw [hT]; exact hsrc) (by rw [hT]; exact hdst)
    sArr (fun _ h => by cases h) g3 (fun h => by cases h) hsk hdk skk dkk (by simp [refKind]) (by decide) (by decide) hxn
    (by rw [z0, hx1]; omega)
    (by rw [z0, hx1]; show ¬ _ > ((arrV (tt 0) n1 (fun i => .int (g i))).slots.size : Int); rw [arrV_size]; omega)
    (fun _ _ i hi => ⟨by rw [show cs.slots.getD ((0 : Int32).toNatClampNeg + i) .null = .int (q.2.2.getD i 0) by rw [show (0 : Int32).toNatClampNeg + i = i by rw [show (0 : Int32).toNatClampNeg = 0 by decide]; omega, Array.getD_eq_getD_getElem?, g5 _ (by omega)]; rfl]; rfl, by rw [show cs.slots.getD ((0 : Int32).toNatClampNeg + i) .null = .int (q.2.2.getD i 0) by rw [show (0 : Int32).toNatClampNeg + i = i by rw [show (0 : Int32).toNatClampNeg = 0 by decide]; omega, Array.getD_eq_getD_getElem?, g5 _ (by omega)]; rfl]; exact trivial⟩)
    (g := F0 m pc ls (((.int z :: .int 0 :: .ref a :: .int 0 :: .ref (ad (100 + j)) :: st) : List Value))) rfl (hl.1.trans hml.symm) (rest := st) rfl (by rw [hb]; exact hd) (by have := hroom.1; omega) (by
      have e1 : nativeFrameWords "java/lang/System" "arraycopy" 5 + 11 ≤ 56 := by decide
      have := hroom.2.1
      show 2 * 0 + (st.map fun v => v.category).sum + _ ≤ _
      omega)
  have hcell : copied cs (vp_cell (tt 0) (n1, .inl g)) 0 0 z = vp_cell (tt 0) (n1, .inl (va_cpy (fun i => q.2.2.getD i 0) g 0 0 z.toNatClampNeg)) := va_copiedX (fun z => .int z) cs (tt 0) (fun i => q.2.2.getD i 0) g g5 (by rw [show (0 : Int32).toNatClampNeg = 0 by decide]; omega)
  rw [hcell] at X1 go
  have hlt : a < H.size := (Array.getElem?_eq_some_iff.mp hdst).1
  have off : ∀ y : Nat, y ≠ a → (H.setIfInBounds a (vp_cell (tt 0) (n1, .inl (va_cpy (fun i => q.2.2.getD i 0) g 0 0 z.toNatClampNeg))))[y]? = H[y]? := fun y hy => by simp [Array.getElem?_setIfInBounds, Ne.symm hy]
  obtain ⟨t2, a1, b1⟩ := k _ _ ls (hP.set hD he (show (H.setIfInBounds a _)[a]? = some _ by simp [Array.getElem?_setIfInBounds, hlt]; rfl) off) (hD.set he) ⟨by simp; exact hS.1, fun y e1 e2 => by
      rw [off y (fun e => e2 (by rw [e]; exact hD.2 q0 _ he))]
      exact hS.2.1 y e1 e2, fun y hy => by
      rcases List.mem_append.mp hy with h | h
      · exact hS.2.2 y h
      · obtain ⟨y2, -, hy2⟩ := List.mem_map.mp h
        rw [← hy2]
        exact hD.2 q0 _ he⟩ hl _ (by rw [← hT]; rfl) X1
  exact ⟨t2, go t2 a1, b1⟩
theorem b_after {p : Program} {l : Launch} {e : Env} {R : Room} {s : State} {m : MethodId} {args : Array Value} {below : List Frame} {meth : Method} {c : Code} {A : Nat → Prop} {D : va_G} {tt : Nat → ClassId} {ad : Nat → Nat} {mc ms : Nat} {Qf : State → Prop} {H : Heap} {locs : List Loc} {ls : Array Slot} {st0 : List Value} {a : Array Value} {wc : va_W} {post : (Nat → Nat) → va_W} {C S : Nat}
    (hP : va_P D classes (w ++ wc) H) (hD : va_D A (w ++ wc)) (hS : va_S A s.heap H locs) (hA : ∀ q, s.heap.size ≤ q → A q) (hl : lv_has ls t.2.2.2.1 lv)
    (run : va_Run p l e R s m args below meth c H locs kc ks C S (F0 m pc ls st0) st (va_Qv (fun _ : Nat → Nat => True) (fun q U => va_P D classes (post q) U.heap ∧ va_K D classes (tysT tt) U ∧ va_D (va_A wc H.size) (post q)) (va_A wc H.size) a) (va_A wc H.size))
    (k : ∀ q, BW (p, l, e, R, s, m, args, below, meth, c, A, D, tt, ad, mc, ms, Qf) t (pc + 3) lv st (w ++ post q) (kc + C) (ks + S)) :
    W p l e R s m args below meth c H locs kc ks Qf (F0 m pc ls st0) := by
  have hF : ∀ q, va_A wc H.size q → A q := by
    intro q h
    rcases h with ⟨k2, e2, h⟩ | h
    · refine hD.2 (w.length + k2) (q, e2) ?_
      rw [List.getElem?_append_right (by omega), show w.length + k2 - w.length = k2 by omega]
      exact h
    · exact hA q (Nat.le_trans hS.1 h)
  have hin : ∀ (k : Nat) (y : Nat × va_E), w[k]? = some y → (w ++ wc)[k]? = some y := fun k y hy => by
    rw [List.getElem?_append_left (List.getElem?_eq_some_iff.mp hy).1]; exact hy
  have hlt : ∀ (k : Nat) (y : Nat × va_E), w[k]? = some y → y.1 < H.size := fun k y hy => (hP k y (hin k y hy)).lt
  have hno : ∀ (k : Nat) (y : Nat × va_E), w[k]? = some y → ¬ va_A wc H.size y.1 := by
    intro k y hy h
    rcases h with ⟨k2, e2, h⟩ | h
    · have h3 : (w ++ wc)[w.length + k2]? = some (y.1, e2) := by
        rw [List.getElem?_append_right (by omega), show w.length + k2 - w.length = k2 by omega]
        exact h
      have := hD.1 k (w.length + k2) y (y.1, e2) (hin k y hy) h3 rfl
      have := (List.getElem?_eq_some_iff.mp hy).1
      omega
    · exact absurd (hlt k y hy) (Nat.not_lt.mpr h)
  refine va_callv run hS (fun q _ h => hF q h) hF (fun u t1 H1 locs1 ht hvm _ hB hz1 hk1 hS1 => ?_)
  obtain ⟨hP1, hK1, hD1⟩ := hB
  rw [ht] at hP1
  refine k u H1 locs1 ls (va_P.app (fun k y hy => (hP k y (hin k y hy)).kept (hk1 y.1 (hlt k y hy) (hno k y hy))) hP1) (va_D.app ⟨fun i j y z hi hj h => hD.1 i j y z (hin i y hi) (hin j z hj) h, fun k y hy => hD.2 k y (hin k y hy)⟩ (hD1.weaken (fun _ q _ h => hF q.1 h)) ?_) hS1 hl
  intro i j y z hi hj h
  exact hno i y hi (by rw [h]; exact hD1.2 j z hj)
theorem blindW {as : List Value} {D : va_G} {tt : Nat → ClassId} {ad : Nat → Nat} {sz : Nat} {w : va_W} : FrameBlind (va_Pc as (PreW D tt ad sz w)) := by
  intro a U g mk h
  obtain ⟨h0, h1, h2, h3, h4, h5, h6, h7⟩ := h
  exact ⟨h0, h1, h2, va_K.moved (u := U) (U := U.calling g mk a) (Vm.Alike.refl U.vm) h3, h4, EV.same (u := U) (U := U.calling g mk a) rfl rfl h5, va_AO.moved (u := U) (U := U.calling g mk a) (Vm.Alike.refl U.vm) h6, va_AO.moved (u := U) (U := U.calling g mk a) (Vm.Alike.refl U.vm) h7⟩
theorem b_pre {s : State} {A : Nat → Prop} {D : va_G} {tt : Nat → ClassId} {ad : Nat → Nat} {H : Heap} {locs : List Loc} {wc : va_W} {b : Nat} (hP : va_P D classes (w ++ wc) H) (hD : va_D A (w ++ wc)) (hS : va_S A s.heap H locs) (hA : ∀ q, s.heap.size ≤ q → A q) (hK : va_K D classes (tysT tt) s) (hE : EV ad A s s.heap) (hao : va_AO RX1 s ∧ va_AO RX2 s) :
    ∀ U : State, U.heap = H → s.WarmedH U.vm → va_Pc [.ref b] (PreW D tt ad H.size wc) ([Value.ref b] : List Value).toArray U := by
  have hF : ∀ q, va_A wc H.size q → A q := by
    intro q h
    rcases h with ⟨k2, e2, h⟩ | h
    · refine hD.2 (w.length + k2) (q, e2) ?_
      rw [List.getElem?_append_right (by omega), show w.length + k2 - w.length = k2 by omega]
      exact h
    · exact hA q (Nat.le_trans hS.1 h)
  have hin : ∀ (k : Nat) (y : Nat × va_E), wc[k]? = some y → (w ++ wc)[w.length + k]? = some y := fun k y hy => by
    rw [List.getElem?_append_right (by omega), show w.length + k - w.length = k by omega]; exact hy
  intro U hU hW
  refine ⟨rfl, by rw [hU], by rw [hU]; exact fun k y hy => hP _ y (hin k y hy), va_K.moved hW.alike hK, ⟨fun i j y z hi hj h => ?_, fun _ _ _ => trivial⟩, EV.pass hE hS hU hW hF, va_AO.moved hW.alike hao.1, va_AO.moved hW.alike hao.2⟩
  have := hD.1 _ _ y z (hin i y hi) (hin j z hj) h
  omega
/-- what a constructor is to a caller -/
def MI (t2 : MT) : Prop := Cond.code t2.2.1 t2.2.2.1 t2.2.2.2.1 none ∈ GW ∧ t2.2.2.2.2 = none ∧ Cond.instanceMethod t2.2.1 ∈ GW ∧ Cond.initialized t2.2.1.cls ∈ GW ∧ (t2.2.1.cls ≠ "java/lang/invoke/MethodHandle" ∧ t2.2.1.cls ≠ "java/lang/invoke/VarHandle" ∧ (parseMethodDescriptor t2.2.1.desc).map (fun d => d.parameters.length) = some 0) ∧ t2.2.2.2.1 ≤ 40 ∧ t2.2.1.name = "<init>"
theorem b_callI (hX : bOK t d x) {t2 : MT} {d2 C S b idx : Nat} {wc : (Nat → ClassId) → va_W} {post : (Nat → ClassId) → (Nat → Nat) → va_W} (hc : CB t2 d2 C S b wc post) (hi : MI t2) (hd : decode t.2.2.1 pc = .ok (.invokespecial idx, 3)) (hw : Cond.methodLink t.1 idx t2.2.1 ∈ GW) (hdd : d2 + 1 ≤ d) (hcat : (st.map fun v => v.category).sum ≤ 8) (hcc : kc + C ≤ xmc x) (hss : ks + S ≤ xms x) (hwe : wc (xtt x) = wc (xtt x)) (k : ∀ q, BW x t (pc + 3) lv st (w ++ post (xtt x) q) (kc + C) (ks + S)) : BW x t pc lv (.ref b :: st) (w ++ wc (xtt x)) kc ks := by
  obtain ⟨p, l, e, R, s, m, args, below, meth, c, A, D, tt, ad, mc, ms, Qf⟩ := x
  intro H locs ls hP hD hS hl
  obtain ⟨⟨hx, hb, hml, hown, hts, hK, hA, hE, hroom⟩, hao⟩ := hX
  obtain ⟨hr1, hr2, hr3, hr4⟩ := hroom
  have hcc : kc + C ≤ mc := hcc
  have hss : ks + S ≤ ms := hss
  obtain ⟨hi1, hi0, hi2, hi3, hi4, hi5, hi6⟩ := hi
  obtain ⟨t21, t22, t23, t24, t25⟩ := t2
  have hi0 : t25 = none := hi0
  subst hi0
  have hi5 : t24 ≤ 40 := hi5
  have hR : (rmB d2 C S).frames + 1 ≤ R.frames ∧ 8 + (t24 + 11) + (rmB d2 C S).locals ≤ R.locals := by
    show d2 + 1 ≤ R.frames ∧ 8 + (t24 + 11) + 64 * d2 ≤ R.locals
    omega
  exact b_after hP hD hS hA hl (va_runI (As := []) (rest := st) (b := b) ⟨hx, hb, hml, hown, hts⟩ (hc l D tt ad H.size) ⟨callB_of 0 hts (goodB (t := t) hi1) rfl rfl rfl (hts _ hi3) (hts _ hw) hi4 hR, hi6, hts _ hi2⟩ ⟨blindW, b_pre hP hD hS hA hK hE hao⟩ rfl rfl hl.1 rfl (lv_room hcat) hd ⟨by omega, by omega⟩) k
theorem b_callIN (hX : bOK t d x) {t2 : MT} {d2 C S b idx : Nat} {host : String} {wc : (Nat → ClassId) → va_W} {post : (Nat → ClassId) → (Nat → Nat) → va_W} (hc : CB t2 d2 C S b wc post) (hi : MI t2) (hd : decode t.2.2.1 pc = .ok (.invokespecial idx, 3)) (hw : Cond.methodLinkNest t.1 idx t2.2.1 host ∈ nestW) (hdd : d2 + 1 ≤ d) (hcat : (st.map fun v => v.category).sum ≤ 8) (hcc : kc + C ≤ xmc x) (hss : ks + S ≤ xms x) (hwe : wc (xtt x) = wc (xtt x)) (k : ∀ q, BW x t (pc + 3) lv st (w ++ post (xtt x) q) (kc + C) (ks + S)) : BW x t pc lv (.ref b :: st) (w ++ wc (xtt x)) kc ks := by
  obtain ⟨p, l, e, R, s, m, args, below, meth, c, A, D, tt, ad, mc, ms, Qf⟩ := x
  intro H locs ls hP hD hS hl
  obtain ⟨⟨hx, hb, hml, hown, hts, hK, hA, hE, hroom⟩, hao⟩ := hX
  obtain ⟨hr1, hr2, hr3, hr4⟩ := hroom
  have hcc : kc + C ≤ mc := hcc
  have hss : ks + S ≤ ms := hss
  obtain ⟨hi1, hi0, hi2, hi3, hi4, hi5, hi6⟩ := hi
  obtain ⟨t21, t22, t23, t24, t25⟩ := t2
  have hi0 : t25 = none := hi0
  subst hi0
  have hi5 : t24 ≤ 40 := hi5
  have hR : (rmB d2 C S).frames + 1 ≤ R.frames ∧ 8 + (t24 + 11) + (rmB d2 C S).locals ≤ R.locals := by
    show d2 + 1 ≤ R.frames ∧ 8 + (t24 + 11) + 64 * d2 ≤ R.locals
    omega
  exact b_after hP hD hS hA hl (va_runIN (As := []) (rest := st) (b := b) ⟨hx, hb, hml, hown, hts⟩ (hc l D tt ad H.size) ⟨va_cnB 0 hts (goodB (t := t) hi1) rfl rfl rfl (hE.1 _ hw) (hts _ hi3) hi4 hR, hi6, hts _ hi2⟩ ⟨blindW, b_pre hP hD hS hA hK hE hao⟩ rfl rfl hl.1 rfl (lv_room hcat) hd ⟨by omega, by omega⟩) k
theorem b_callV (hX : bOK t d x) {t2 : MT} {d2 C S b idx ci N : Nat} {Cn : String} {T : u_T} {fs : List Value} {wc : (Nat → ClassId) → va_W} {post : (Nat → ClassId) → (Nat → Nat) → va_W} (hc : CB t2 d2 C S b wc post) (hs : MV t2 0) (hn0 : t2.2.2.2.2 = none) (hd : decode t.2.2.1 pc = .ok (.invokevirtual idx, 3)) (hw : Cond.methodLink t.1 idx t2.2.1 ∈ GW) (hdd : d2 + 1 ≤ d) (hcat : (st.map fun v => v.category).sum ≤ 8) (hcc : kc + C ≤ xmc x) (hss : ks + S ≤ xms x) (q0 : Nat) (he : (w ++ wc (xtt x))[q0]? = some (b, oI ci fs)) (hcl : classes[ci]? = some (Cn, T, N)) (hC : t2.2.1.cls = Cn) (k : ∀ q, BW x t (pc + 3) lv st (w ++ post (xtt x) q) (kc + C) (ks + S)) : BW x t pc lv (.ref b :: st) (w ++ wc (xtt x)) kc ks := by
  obtain ⟨p, l, e, R, s, m, args, below, meth, c, A, D, tt, ad, mc, ms, Qf⟩ := x
  intro H locs ls hP hD hS hl
  obtain ⟨⟨hx, hb, hml, hown, hts, hK, hA, hE, hroom⟩, hao⟩ := hX
  obtain ⟨hr1, hr2, hr3, hr4⟩ := hroom
  have hcc : kc + C ≤ mc := hcc
  have hss : ks + S ≤ ms := hss
  obtain ⟨hs1, hs2, hs3, hs4, hs5⟩ := hs
  obtain ⟨t21, t22, t23, t24, t25⟩ := t2
  have hn0 : t25 = none := hn0
  subst hn0
  have hs5 : t24 ≤ 40 := hs5
  have hR : (rmB d2 C S).frames + 1 ≤ R.frames ∧ 8 + (t24 + 11) + (rmB d2 C S).locals ≤ R.locals := by
    show d2 + 1 ≤ R.frames ∧ 8 + (t24 + 11) + 64 * d2 ≤ R.locals
    omega
  subst hC
  exact b_after hP hD hS hA hl (va_runV (As := []) (rest := st) (b := b) ⟨hx, hb, hml, hown, hts⟩ (hc l D tt ad H.size) ⟨callB_of 0 hts (goodB (t := t) hs1) rfl rfl rfl (hts _ hs3) (hts _ hw) hs4 hR, hts _ hs2.1, hts _ hs2.2⟩ ⟨blindW, va_recv hK hP hcl he, b_pre hP hD hS hA hK hE hao⟩ rfl rfl hl.1 rfl (lv_room hcat) hd ⟨by omega, by omega⟩) k
end BUILD2
