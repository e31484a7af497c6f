/-! the world behind both constructors -/
def mapG {α β : Type} (f : Nat → α → β) : Nat → List α → List β
  | _, [] => []
  | n, a :: l => f n a :: mapG f (n + 1) l
theorem mapG_eq {α β : Type} (f : Nat → α → β) : ∀ (l : List α) (n : Nat), mapG f n l = l.mapIdx (fun i => f (n + i)) := by
  intro l
  induction l with
  | nil => intro n; rfl
  | cons a l ih =>
    intro n
    rw [List.mapIdx_cons]
    show f n a :: mapG f (n + 1) l = _
    rw [ih (n + 1)]
    have e : (fun i => f (n + 1 + i)) = fun i => f (n + (i + 1)) := by
      funext i
      rw [show n + 1 + i = n + (i + 1) by omega]
    rw [e]
    rfl
def cEG (ad : Nat → Nat) (tt : Nat → ClassId) (M : Mem) (p : Nat) (c : SC) : va_E := match c with
  | .inl (ci, fs) => .inr (ci, mapG (cF ad M p) 0 fs)
  | .inr (.inl n) => .inl (tt 0, n, .inl (M p))
  | .inr (.inr (j, es)) => .inl (tt j, es.length, .inr (.inr (.inr (.inr (fun k => (es[k]?.join).map ad)))))
theorem cEG_eq {ad : Nat → Nat} {tt : Nat → ClassId} {M : Mem} {p : Nat} {c : SC} : cEG ad tt M p c = cE ad tt M p c := by
  unfold cEG cE
  rcases c with ⟨ci, fs⟩ | n | ⟨j, es⟩
  · simp only [mapG_eq, Nat.zero_add]
  · rfl
  · rfl
theorem cW_eq {ad : Nat → Nat} {tt : Nat → ClassId} {M : Mem} {w : va_W} (hlen : w.length = 64) (h : ∀ p, p < 64 → ∃ c, SH[p]? = some c ∧ w[p]? = some (ad p, cEG ad tt M p c)) : w = cW ad tt M := by
  apply List.ext_getElem?
  intro p
  by_cases hp : p < 64
  · obtain ⟨c, h1, h2⟩ := h p hp
    rw [h2, cW_at h1, cEG_eq]
  · rw [List.getElem?_eq_none (by omega), List.getElem?_eq_none]
    have : (cW ad tt M).length = 64 := by
      rw [cW, List.length_mapIdx]
      rfl
    omega
def wA (tt : Nat → ClassId) (h : Nat) (q : Nat → Nat) : va_W := [(h, oI 5 [.ref (q 0), .ref (q 7), .ref (q 14), .ref (q 21), .ref (q 23), .ref (q 24), .ref (q 25), .ref (q 27), .ref (q 28), .ref (q 29), .ref (q 30), .ref (q 31), .ref (q 32), .int 0, .int 0]), ((q 0), oI 4 [.ref ((q 1)), .ref ((q 2)), .ref ((q 3)), .ref ((q 4)), .ref ((q 5)), .ref ((q 6)), .int 0, .int 0, .int 0, .int 1]), ((q 1), fI tt 4 (va_cpy (fun i => (stT_0).getD i 0) (fun _ => 0) 0 0 4)), ((q 2), zI tt 16), ((q 3), zI tt 8), ((q 4), zI tt 8), ((q 5), zI tt 8), ((q 6), zI tt 8), ((q 7), oI 4 [.ref ((q 8)), .ref ((q 9)), .ref ((q 10)), .ref ((q 11)), .ref ((q 12)), .ref ((q 13)), .int 0, .int 0, .int 0, .int 1]), ((q 8), fI tt 4 (va_cpy (fun i => (stT_0).getD i 0) (fun _ => 0) 0 0 4)), ((q 9), zI tt 16), ((q 10), zI tt 8), ((q 11), zI tt 8), ((q 12), zI tt 8), ((q 13), zI tt 8), ((q 14), oI 4 [.ref ((q 15)), .ref ((q 16)), .ref ((q 17)), .ref ((q 18)), .ref ((q 19)), .ref ((q 20)), .int 0, .int 0, .int 0, .int 1]), ((q 15), fI tt 4 (va_cpy (fun i => (stT_0).getD i 0) (fun _ => 0) 0 0 4)), ((q 16), zI tt 16), ((q 17), zI tt 8), ((q 18), zI tt 8), ((q 19), zI tt 8), ((q 20), zI tt 8), ((q 21), oI 3 [.ref ((q 22)), .int 0, .int 0, .int 0]), ((q 22), zI tt 200), ((q 23), rI tt 1 4 (va_up (va_up (va_up (va_up (fun _ => none) 0 (some (q 33))) 1 (some (q 35))) 2 (some (q 37))) 3 (some (q 39)))), ((q 24), rI tt 2 4 (va_up (va_up (va_up (va_up (fun _ => none) 0 (some (q 41))) 1 (some (q 42))) 2 (some (q 43))) 3 (some (q 44)))), ((q 25), oI 0 [.ref ((q 26)), .int 0, .int 0, .int 0, .int 0, .int 0]), ((q 26), zI tt 30), ((q 27), zI tt 30), ((q 28), zI tt 61), ((q 29), zI tt 61), ((q 30), zI tt 8), ((q 31), zI tt 16), ((q 32), zI tt 256), ((q 33), oI 1 [.ref ((q 34)), .int (-1), .int 0]), ((q 34), zI tt 40), ((q 35), oI 1 [.ref ((q 36)), .int (-1), .int 0]), ((q 36), zI tt 40), ((q 37), oI 1 [.ref ((q 38)), .int (-1), .int 0]), ((q 38), zI tt 40), ((q 39), oI 1 [.ref ((q 40)), .int (-1), .int 0]), ((q 40), zI tt 40), ((q 41), oI 2 [.int 2, .int 0, .int 0, .int 0]), ((q 42), oI 2 [.int 2, .int 0, .int 0, .int 0]), ((q 43), oI 2 [.int 2, .int 0, .int 0, .int 0]), ((q 44), oI 2 [.int 2, .int 0, .int 0, .int 0])]
def wB (tt : Nat → ClassId) (g : Nat) (r : Nat → Nat) : va_W := [(g, oI 6 [.ref (r 0), .ref (r 1), .ref (r 2), .ref (r 3), .int 0, .ref (r 4), .int 0, .int 0, .int 0, .int 0, .int 0, .int 0, .ref (r 5), .ref (r 6), .ref (r 7), .ref (r 8), .ref (r 9), .int 0, .ref (r 10), .ref (r 11), .ref (r 12), .ref (r 13), .ref (r 14), .ref (r 15), .ref (r 16), .int 0, .int 0, .int 0, .int 0, .int 0]), ((r 0), fI tt 56 (upd (s0) 2 1)), ((r 1), zI tt 56), ((r 2), zI tt 56), ((r 3), zI tt 56), ((r 4), zI tt 200), ((r 5), zI tt 8), ((r 6), zI tt 61), ((r 7), zI tt 16), ((r 8), zI tt 256), ((r 9), zI tt 30), ((r 10), fI tt 4 (upd (upd (upd (upd (fun _ => 0) 0 (-1)) 1 (-1)) 2 (-1)) 3 (-1))), ((r 11), zI tt 4), ((r 12), zI tt 160), ((r 13), zI tt 4), ((r 14), zI tt 4), ((r 15), zI tt 4), ((r 16), zI tt 30)]
theorem row_s (h g : Nat) (q r ad0 : Nat → Nat) : (va_up (va_up (va_up (va_up (fun _ => none) 0 (some (q 33))) 1 (some (q 35))) 2 (some (q 37))) 3 (some (q 39)) : Nat → Option Nat) = fun k => (([some 34, some 36, some 38, some 40] : List (Option Nat))[k]?.join).map (adF h q g r ad0) := by
  funext k
  match k with
  | 0 => rfl
  | 1 => rfl
  | 2 => rfl
  | 3 => rfl
  | n + 4 => simp [va_up]
theorem row_v (h g : Nat) (q r ad0 : Nat → Nat) : (va_up (va_up (va_up (va_up (fun _ => none) 0 (some (q 41))) 1 (some (q 42))) 2 (some (q 43))) 3 (some (q 44)) : Nat → Option Nat) = fun k => (([some 42, some 43, some 44, some 45] : List (Option Nat))[k]?.join).map (adF h q g r ad0) := by
  funext k
  match k with
  | 0 => rfl
  | 1 => rfl
  | 2 => rfl
  | 3 => rfl
  | n + 4 => simp [va_up]
set_option maxRecDepth 100000 in
set_option maxHeartbeats 4000000 in
theorem first_world (tt : Nat → ClassId) (h g : Nat) (q r ad0 : Nat → Nat) : wA tt h q ++ wB tt g r = cW (adF h q g r ad0) tt M0 := by
  refine cW_eq rfl (fun p hp => ?_)
  match p, hp with
  | 0, _ => exact ⟨_, rfl, rfl⟩
  | 1, _ => exact ⟨_, rfl, rfl⟩
  | 2, _ => exact ⟨_, rfl, rfl⟩
  | 3, _ => exact ⟨_, rfl, rfl⟩
  | 4, _ => exact ⟨_, rfl, rfl⟩
  | 5, _ => exact ⟨_, rfl, rfl⟩
  | 6, _ => exact ⟨_, rfl, rfl⟩
  | 7, _ => exact ⟨_, rfl, rfl⟩
  | 8, _ => exact ⟨_, rfl, rfl⟩
  | 9, _ => exact ⟨_, rfl, rfl⟩
  | 10, _ => exact ⟨_, rfl, rfl⟩
  | 11, _ => exact ⟨_, rfl, rfl⟩
  | 12, _ => exact ⟨_, rfl, rfl⟩
  | 13, _ => exact ⟨_, rfl, rfl⟩
  | 14, _ => exact ⟨_, rfl, rfl⟩
  | 15, _ => exact ⟨_, rfl, rfl⟩
  | 16, _ => exact ⟨_, rfl, rfl⟩
  | 17, _ => exact ⟨_, rfl, rfl⟩
  | 18, _ => exact ⟨_, rfl, rfl⟩
  | 19, _ => exact ⟨_, rfl, rfl⟩
  | 20, _ => exact ⟨_, rfl, rfl⟩
  | 21, _ => exact ⟨_, rfl, rfl⟩
  | 22, _ => exact ⟨_, rfl, rfl⟩
  | 23, _ => exact ⟨_, rfl, rfl⟩
  | 24, _ => exact ⟨_, rfl, congrArg (fun f => some (adF h q g r ad0 24, rI tt 1 4 f)) (row_s h g q r ad0)⟩
  | 25, _ => exact ⟨_, rfl, congrArg (fun f => some (adF h q g r ad0 25, rI tt 2 4 f)) (row_v h g q r ad0)⟩
  | 26, _ => exact ⟨_, rfl, rfl⟩
  | 27, _ => exact ⟨_, rfl, rfl⟩
  | 28, _ => exact ⟨_, rfl, rfl⟩
  | 29, _ => exact ⟨_, rfl, rfl⟩
  | 30, _ => exact ⟨_, rfl, rfl⟩
  | 31, _ => exact ⟨_, rfl, rfl⟩
  | 32, _ => exact ⟨_, rfl, rfl⟩
  | 33, _ => exact ⟨_, rfl, rfl⟩
  | 34, _ => exact ⟨_, rfl, rfl⟩
  | 35, _ => exact ⟨_, rfl, rfl⟩
  | 36, _ => exact ⟨_, rfl, rfl⟩
  | 37, _ => exact ⟨_, rfl, rfl⟩
  | 38, _ => exact ⟨_, rfl, rfl⟩
  | 39, _ => exact ⟨_, rfl, rfl⟩
  | 40, _ => exact ⟨_, rfl, rfl⟩
  | 41, _ => exact ⟨_, rfl, rfl⟩
  | 42, _ => exact ⟨_, rfl, rfl⟩
  | 43, _ => exact ⟨_, rfl, rfl⟩
  | 44, _ => exact ⟨_, rfl, rfl⟩
  | 45, _ => exact ⟨_, rfl, rfl⟩
  | 46, _ => exact ⟨_, rfl, rfl⟩
  | 47, _ => exact ⟨_, rfl, rfl⟩
  | 48, _ => exact ⟨_, rfl, rfl⟩
  | 49, _ => exact ⟨_, rfl, rfl⟩
  | 50, _ => exact ⟨_, rfl, rfl⟩
  | 51, _ => exact ⟨_, rfl, rfl⟩
  | 52, _ => exact ⟨_, rfl, rfl⟩
  | 53, _ => exact ⟨_, rfl, rfl⟩
  | 54, _ => exact ⟨_, rfl, rfl⟩
  | 55, _ => exact ⟨_, rfl, rfl⟩
  | 56, _ => exact ⟨_, rfl, rfl⟩
  | 57, _ => exact ⟨_, rfl, rfl⟩
  | 58, _ => exact ⟨_, rfl, rfl⟩
  | 59, _ => exact ⟨_, rfl, rfl⟩
  | 60, _ => exact ⟨_, rfl, rfl⟩
  | 61, _ => exact ⟨_, rfl, rfl⟩
  | 62, _ => exact ⟨_, rfl, rfl⟩
  | 63, _ => exact ⟨_, rfl, rfl⟩
  | n + 64, hp => exact absurd hp (by omega)
