/-! THE FIRST MEMORY, behind both constructors -/
def lawR0 : Nat → Int32 := va_cpy (fun i => (stT_0).getD i 0) (fun _ => 0) 0 0 4
def town0 : Nat → Int32 := fun k => if k = 9 then 1 else 0
def sheet0 : Nat → Int32 := fun k => if k = 1 then -1 else 0
def shelf0 : Nat → Int32 := fun k => if k = 0 then 2 else 0
def sort0 : Nat → Int32 := upd (upd (upd (upd (fun _ => 0) 0 (-1)) 1 (-1)) 2 (-1)) 3 (-1)
def M0L : List (Nat → Int32) := [fun _ => 0,
  town0, lawR0, fun _ => 0, fun _ => 0, fun _ => 0, fun _ => 0, fun _ => 0,
  town0, lawR0, fun _ => 0, fun _ => 0, fun _ => 0, fun _ => 0, fun _ => 0,
  town0, lawR0, fun _ => 0, fun _ => 0, fun _ => 0, fun _ => 0, fun _ => 0,
  fun _ => 0, fun _ => 0, fun _ => 0, fun _ => 0, fun _ => 0, fun _ => 0,
  fun _ => 0, fun _ => 0, fun _ => 0, fun _ => 0, fun _ => 0, fun _ => 0,
  sheet0, fun _ => 0, sheet0, fun _ => 0, sheet0, fun _ => 0, sheet0, fun _ => 0,
  shelf0, shelf0, shelf0, shelf0,
  fun _ => 0, upd s0 2 1, fun _ => 0, fun _ => 0, fun _ => 0, fun _ => 0, fun _ => 0, fun _ => 0, fun _ => 0, fun _ => 0, fun _ => 0,
  sort0, fun _ => 0, fun _ => 0, fun _ => 0, fun _ => 0, fun _ => 0, fun _ => 0]
def M0 : Mem := fun p => M0L.getD p (fun _ => 0)
theorem lawR0_eq : ∀ k, k < 4 → lawR0 k = upd s0 2 1 (4 + k) := by decide +kernel
theorem Inv0 : Inv M0 := by
  refine ⟨⟨0, ?_⟩, ⟨rfl, Or.inl rfl⟩, ⟨0, by omega, rfl, rfl, fun i hi => absurd hi (by omega)⟩, ⟨0, by omega, rfl, rfl, fun i hi => absurd hi (by omega)⟩, ?_, ?_, ⟨0, by omega, rfl, rfl, fun i hi => absurd hi (by omega)⟩⟩
  · refine ⟨by omega, ⟨rfl, rfl⟩, rfl, by decide +kernel, ?_, fun i hi => absurd hi (by omega)⟩
    unfold RC
    refine ⟨rfl, ⟨rfl, ?_⟩, lawR0_eq, ⟨3, by omega, by omega, rfl⟩, ⟨20, by omega, rfl⟩⟩
    exact ⟨0, by omega, rfl⟩
  · intro t ht
    have : t = 0 ∨ t = 1 ∨ t = 2 ∨ t = 3 := by omega
    rcases this with rfl | rfl | rfl | rfl <;> exact ⟨rfl, Or.inl rfl⟩
  · intro v hv
    have : v = 0 ∨ v = 1 ∨ v = 2 ∨ v = 3 := by omega
    rcases this with rfl | rfl | rfl | rfl <;> exact Or.inr (Or.inr ⟨rfl, rfl⟩)
/-- the places' addresses -/
def adF (h : Nat) (q : Nat → Nat) (g : Nat) (r : Nat → Nat) (ad0 : Nat → Nat) : Nat → Nat := fun k => if k = 0 then h else if k < 46 then q (k - 1) else if k = 46 then g else if k < 64 then r (k - 47) else ad0 k
theorem adF_off {h : Nat} {q : Nat → Nat} {g : Nat} {r ad0 : Nat → Nat} {k : Nat} (hk : 64 ≤ k) : adF h q g r ad0 k = ad0 k := by
  unfold adF
  rw [if_neg (by omega), if_neg (by omega), if_neg (by omega), if_neg (by omega)]
theorem EV_ad {ad0 ad : Nat → Nat} {A : Nat → Prop} {U : State} {H : Heap} (ha : ∀ k, 64 ≤ k → ad k = ad0 k) (h : EV ad0 A U H) : EV ad A U H := by
  obtain ⟨h1, h2, h3, h4, h5, h6⟩ := h
  have e2 : (fun i => ad (200 + i)) = fun i => ad0 (200 + i) := funext fun i => ha _ (by omega)
  have e3 : (fun i => ad (300 + i)) = fun i => ad0 (300 + i) := funext fun i => ha _ (by omega)
  refine ⟨h1, fun i q hq => ?_, h3, ?_, ?_, fun i q hq => ?_⟩
  · rw [ha _ (by omega)]; exact h2 i q hq
  · unfold zF at h4 ⊢
    rw [ha _ (by omega)]
    exact h4
  · rw [e2, e3]; exact h5
  · rw [ha _ (by omega)]; exact h6 i q hq
