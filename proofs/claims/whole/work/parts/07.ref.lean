-- the reference's arrays of 1080 cells, out of maps, tables and words
def sz (b : Nat) : Nat := if b % 12 = 0 then 16 else if b % 12 = 1 then 30 else 8
theorem sz_0 {b : Nat} (h : b % 12 = 0) : sz b = 16 := if_pos h
theorem sz_1 {b : Nat} (h : b % 12 = 1) : sz b = 30 := by unfold sz; rw [if_neg (by omega), if_pos h]
theorem sz_2 {b : Nat} (h : 2 ≤ b % 12) : sz b = 8 := by unfold sz; rw [if_neg (by omega), if_neg (by omega)]
def rM (A B C : Nat → Nat) : Nat → Nat := fun n =>
  if n < 1080 ∧ n % 30 < sz (n / 30) then (if n / 30 % 12 = 0 then A (n / 30 / 12 * 16 + n % 30) else if n / 30 % 12 = 1 then B (n / 30 / 12 * 30 + n % 30) else C (8 * (n / 30) + n % 30)) else 0
theorem rM_0 {A B C : Nat → Nat} {n : Nat} (h : n / 30 % 12 = 0) (h2 : n < 1080) (h3 : n % 30 < 16) : rM A B C n = A (n / 30 / 12 * 16 + n % 30) := by
  unfold rM; rw [if_pos ⟨h2, by rw [sz_0 h]; exact h3⟩, if_pos h]
theorem rM_1 {A B C : Nat → Nat} {n : Nat} (h : n / 30 % 12 = 1) (h2 : n < 1080) : rM A B C n = B (n / 30 / 12 * 30 + n % 30) := by
  unfold rM; rw [if_pos ⟨h2, by rw [sz_1 h]; omega⟩, if_neg (by omega), if_pos h]
theorem rM_2 {A B C : Nat → Nat} {n : Nat} (h : 2 ≤ n / 30 % 12) (h2 : n < 1080) (h3 : n % 30 < 8) : rM A B C n = C (8 * (n / 30) + n % 30) := by
  unfold rM; rw [if_pos ⟨h2, by rw [sz_2 h]; exact h3⟩, if_neg (by omega), if_neg (by omega)]
theorem rM_z {A B C : Nat → Nat} {n : Nat} (h : ¬ (n < 1080 ∧ n % 30 < sz (n / 30))) : rM A B C n = 0 := by
  unfold rM; rw [if_neg h]
theorem rM_t {A B C : Nat → Nat} {i f : Nat} (hi : i < 18) (hf : f < 5) : rM A B C ((i / 6 * 12 + 1) * 30 + i % 6 * 5 + f) = B (5 * i + f) := by
  rw [rM_1 (by omega) (by omega)]; congr 1; omega
theorem rM_im {A B C : Nat → Nat} {i : Nat} (hi : i < 18) : rM A B C (i / 6 * 12 * 30 + i % 6) = im A i := by
  rw [rM_0 (by omega) (by omega) (by omega)]; show A _ = A _; congr 1; omega
theorem rM_bm {A B C : Nat → Nat} {b : Nat} (hb : isD b) : rM A B C (b / 12 * 12 * 30 + 4 + b % 12) = bm A b := by
  obtain ⟨h1, h2⟩ := hb
  rw [rM_0 (by omega) (by omega) (by omega)]; show A _ = A _; congr 1; omega
theorem rM_w {A B C : Nat → Nat} {b c : Nat} (hb : isD b) (hc : c < 8) : rM A B C (30 * b + c) = C (8 * b + c) := by
  obtain ⟨h1, h2⟩ := hb
  rw [rM_2 (by omega) (by omega) (by omega)]; congr 1; omega
theorem up_0 {A B C : Nat → Nat} {n0 v : Nat} (h : n0 / 30 % 12 = 0) (h2 : n0 < 1080) (h3 : n0 % 30 < 16) : up (rM A B C) n0 v = rM (up A (n0 / 30 / 12 * 16 + n0 % 30) v) B C := by
  funext n
  by_cases e : n = n0
  · subst e; rw [up_s, rM_0 h h2 h3, up_s]
  · rw [up_n e]
    unfold rM
    by_cases hc : n < 1080 ∧ n % 30 < sz (n / 30)
    · rw [if_pos hc, if_pos hc]
      by_cases h0 : n / 30 % 12 = 0
      · have := sz_0 h0
        rw [if_pos h0, if_pos h0, up_n (by omega)]
      · rw [if_neg h0, if_neg h0]
    · rw [if_neg hc, if_neg hc]
theorem up_1 {A B C : Nat → Nat} {n0 v : Nat} (h : n0 / 30 % 12 = 1) (h2 : n0 < 1080) : up (rM A B C) n0 v = rM A (up B (n0 / 30 / 12 * 30 + n0 % 30) v) C := by
  funext n
  by_cases e : n = n0
  · subst e; rw [up_s, rM_1 h h2, up_s]
  · rw [up_n e]
    unfold rM
    by_cases hc : n < 1080 ∧ n % 30 < sz (n / 30)
    · rw [if_pos hc, if_pos hc]
      by_cases h0 : n / 30 % 12 = 0
      · rw [if_pos h0, if_pos h0]
      · rw [if_neg h0, if_neg h0]
        by_cases h1 : n / 30 % 12 = 1
        · rw [if_pos h1, if_pos h1, up_n (by omega)]
        · rw [if_neg h1, if_neg h1]
    · rw [if_neg hc, if_neg hc]
theorem up_2 {A B C : Nat → Nat} {n0 v : Nat} (h : 2 ≤ n0 / 30 % 12) (h2 : n0 < 1080) (h3 : n0 % 30 < 8) : up (rM A B C) n0 v = rM A B (up C (8 * (n0 / 30) + n0 % 30) v) := by
  funext n
  by_cases e : n = n0
  · subst e; rw [up_s, rM_2 h h2 h3, up_s]
  · rw [up_n e]
    unfold rM
    by_cases hc : n < 1080 ∧ n % 30 < sz (n / 30)
    · rw [if_pos hc, if_pos hc]
      by_cases h0 : n / 30 % 12 = 0
      · rw [if_pos h0, if_pos h0]
      · rw [if_neg h0, if_neg h0]
        by_cases h1 : n / 30 % 12 = 1
        · rw [if_pos h1, if_pos h1]
        · have := sz_2 (b := n / 30) (by omega)
          rw [if_neg h1, if_neg h1, up_n (by omega)]
    · rw [if_neg hc, if_neg hc]
theorem up_t {A B C : Nat → Nat} {i f v : Nat} (hi : i < 18) (hf : f < 5) : up (rM A B C) ((i / 6 * 12 + 1) * 30 + i % 6 * 5 + f) v = rM A (up B (5 * i + f) v) C := by
  rw [up_1 (by omega) (by omega), show (((i / 6 * 12 + 1) * 30 + i % 6 * 5 + f) / 30 / 12 * 30 + ((i / 6 * 12 + 1) * 30 + i % 6 * 5 + f) % 30) = 5 * i + f by omega]
theorem up_im {A B C : Nat → Nat} {i v : Nat} (hi : i < 18) : up (rM A B C) (i / 6 * 12 * 30 + i % 6) v = rM (up A (i / 6 * 16 + i % 6) v) B C := by
  rw [up_0 (by omega) (by omega) (by omega), show ((i / 6 * 12 * 30 + i % 6) / 30 / 12 * 16 + (i / 6 * 12 * 30 + i % 6) % 30) = i / 6 * 16 + i % 6 by omega]
theorem up_bm {A B C : Nat → Nat} {b v : Nat} (hb : isD b) : up (rM A B C) (b / 12 * 12 * 30 + 4 + b % 12) v = rM (up A (b / 12 * 16 + 4 + b % 12) v) B C := by
  obtain ⟨h1, h2⟩ := hb
  rw [up_0 (by omega) (by omega) (by omega), show ((b / 12 * 12 * 30 + 4 + b % 12) / 30 / 12 * 16 + (b / 12 * 12 * 30 + 4 + b % 12) % 30) = b / 12 * 16 + 4 + b % 12 by omega]
theorem up_w {A B C : Nat → Nat} {b c v : Nat} (hb : isD b) (hc : c < 8) : up (rM A B C) (30 * b + c) v = rM A B (up C (8 * b + c) v) := by
  obtain ⟨h1, h2⟩ := hb
  rw [up_2 (by omega) (by omega) (by omega), show (8 * ((30 * b + c) / 30) + (30 * b + c) % 30) = 8 * b + c by omega]
