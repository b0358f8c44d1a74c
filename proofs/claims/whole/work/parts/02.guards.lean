-- guards of the pure functions
def gr {α : Type} (f : Nat → Int32) (n : Nat) (i : Int32) (k : Int32 → Option α) : Option α := if i < 0 ∨ n ≤ i.toNatClampNeg then none else k (f i.toNatClampNeg)
def ga {α : Type} (n : Nat) (i : Int32) (k : Option α) : Option α := if i < 0 ∨ n ≤ i.toNatClampNeg then none else k
def gz {α : Type} (v : Int32) (k : Option α) : Option α := if v = 0 ∨ v = 1 then k else none
def bd {α β : Type} (x : Option α) (k : α → Option β) : Option β := match x with
  | none => none
  | some a => k a
theorem gr_some {α : Type} {f : Nat → Int32} {n : Nat} {i : Int32} {k : Int32 → Option α} {r : α} (h : gr f n i k = some r) : vp_in i n ∧ k (f i.toNatClampNeg) = some r := by
  unfold gr at h
  by_cases hc : i < 0 ∨ n ≤ i.toNatClampNeg
  · rw [if_pos hc] at h; cases h
  · rw [if_neg hc] at h; exact ⟨hc, h⟩
theorem ga_some {α : Type} {n : Nat} {i : Int32} {k : Option α} {r : α} (h : ga n i k = some r) : vp_in i n ∧ k = some r := by
  unfold ga at h
  by_cases hc : i < 0 ∨ n ≤ i.toNatClampNeg
  · rw [if_pos hc] at h; cases h
  · rw [if_neg hc] at h; exact ⟨hc, h⟩
theorem gz_some {α : Type} {v : Int32} {k : Option α} {r : α} (h : gz v k = some r) : (v = 0 ∨ v = 1) ∧ k = some r := by
  unfold gz at h
  by_cases hc : v = 0 ∨ v = 1
  · rw [if_pos hc] at h; exact ⟨hc, h⟩
  · rw [if_neg hc] at h; cases h
theorem bd_some {α β : Type} {x : Option α} {k : α → Option β} {r : β} (h : bd x k = some r) : ∃ a, x = some a ∧ k a = some r := by
  cases x with
  | none => cases h
  | some a => exact ⟨a, rfl, h⟩
theorem gr_e {α : Type} {f : Nat → Int32} {n : Nat} {x : Int32} {k : Int32 → Option α} (j : Nat) (he : x = nI j) (h : j < n) (hn : n < 2 ^ 31) : gr f n x k = k (f j) := by
  subst he
  unfold gr
  rw [if_neg (nI_in h hn), nI_clamp (by omega)]
theorem ga_e {α : Type} {n : Nat} {x : Int32} {k : Option α} (j : Nat) (he : x = nI j) (h : j < n) (hn : n < 2 ^ 31) : ga n x k = k := by
  subst he
  unfold ga
  rw [if_neg (nI_in h hn)]
theorem gz_e {α : Type} {v : Int32} {k : Option α} (h : v = 0 ∨ v = 1) : gz v k = k := if_pos h
theorem bd_e {α β : Type} {x : Option α} {k : α → Option β} {a : α} (h : x = some a) : bd x k = k a := by rw [h]; rfl
theorem nz_b {v : Int32} (h : v = 0 ∨ v = 1) : narrow .boolean (.int v) = .int v := by
  rcases h with rfl | rfl <;> rfl
theorem fz_b {v : Int32} (h : v = 0 ∨ v = 1) : fits .boolean (.int v) = true := by
  rcases h with rfl | rfl <;> rfl
