-- the state as numbers: 0 maps, 1 tables, 2 words of memory; 3, 4, 5 those of the disk; 6 fresh; 7 young; 8 dropped; 9 leaving; 10 renamed
abbrev St : Type := Nat → Nat → Nat
abbrev kd (T : Nat → Nat) (i : Nat) : Nat := T (5 * i)
abbrev lk (T : Nat → Nat) (i : Nat) : Nat := T (5 * i + 1)
abbrev pt (T : Nat → Nat) (i k : Nat) : Nat := T (5 * i + 2 + k)
abbrev im (M : Nat → Nat) (i : Nat) : Nat := M (i / 6 * 16 + i % 6)
abbrev bm (M : Nat → Nat) (b : Nat) : Nat := M (b / 12 * 16 + 4 + b % 12)
noncomputable def pif {α : Type} (P : Prop) (a b : α) : α := @ite α P (Classical.propDecidable P) a b
theorem pif_t {α : Type} {P : Prop} {a b : α} (h : P) : pif P a b = a := if_pos h
theorem pif_f {α : Type} {P : Prop} {a b : α} (h : ¬ P) : pif P a b = b := if_neg h
theorem pif_congr {α : Type} {P Q : Prop} {a b : α} (h : P ↔ Q) : pif P a b = pif Q a b := by
  by_cases p : P
  · rw [pif_t p, pif_t (h.mp p)]
  · rw [pif_f p, pif_f (fun q => p (h.mpr q))]
def isD (b : Nat) : Prop := b < 36 ∧ 2 ≤ b % 12
def sn (σ : St) (q : Nat) : Nat := if σ 6 (q / 8) = 0 then σ 5 q else 0
def dn (σ : St) (b : Nat) : Prop := ∃ i k, i < 18 ∧ k < 3 ∧ pt (σ 4) i k = b
def DB (σ : St) (b : Nat) : Prop := b ≠ 0 ∧ (σ 8 b = 2 ∨ ∃ i, i < 18 ∧ kd (σ 1) i = 2 ∧ pt (σ 1) i 0 = b)
def nmM (σ : St) (i q : Nat) : Prop := σ 2 q ≠ 0 ∧ σ 2 q % 32 = i
def nmD (σ : St) (i q : Nat) : Prop := sn σ q ≠ 0 ∧ sn σ q % 32 = i
noncomputable def Un (σ : St) (i : Nat) : Nat := cn (fun q => DB σ (q / 8) ∧ (nmM σ i q ∨ nmD σ i q)) 288
-- the falls of LINKS that come of freeing the blocks F
noncomputable def UF (σ : St) (F : Nat → Prop) (i : Nat) : Nat := cn (fun q => F (q / 8) ∧ DB σ (q / 8) ∧ nmD σ i q) 288
theorem UF_mono {σ : St} {F F' : Nat → Prop} {i : Nat} (h : ∀ b, F b → F' b) : UF σ F i ≤ UF σ F' i := cn_mono (fun _ _ q => ⟨h _ q.1, q.2⟩)
theorem UF_le {σ : St} {F : Nat → Prop} {i : Nat} : UF σ F i ≤ Un σ i := cn_mono (fun _ _ q => ⟨q.2.1, Or.inr q.2.2⟩)
-- closed: inodes J that are released, blocks F that are freed
def Cl (σ : St) (J F : Nat → Prop) : Prop :=
  (∀ i, 0 < i → i < 18 → kd (σ 1) i ≠ 0 → lk (σ 1) i ≤ UF σ F i → J i) ∧
  (∀ b, 0 < b → b < 36 → ¬ dn σ b → (σ 8 b ≠ 0 ∨ ∃ i k, i < 18 ∧ k < 3 ∧ J i ∧ pt (σ 1) i k = b) → F b)
def Js (σ : St) (i : Nat) : Prop := ∀ J F, Cl σ J F → J i
def Fs (σ : St) (b : Nat) : Prop := ∀ J F, Cl σ J F → F b
theorem Cl_s (σ : St) : Cl σ (Js σ) (Fs σ) := by
  refine ⟨fun i h0 h1 hk hl J F hc => hc.1 i h0 h1 hk (Nat.le_trans hl (UF_mono (fun b hb => hb J F hc))), fun b h0 h1 hn hd J F hc => hc.2 b h0 h1 hn ?_⟩
  rcases hd with hd | ⟨i, k, hi, hk, hj, he⟩
  · exact Or.inl hd
  · exact Or.inr ⟨i, k, hi, hk, hj J F hc, he⟩
-- the state with J released, F freed, N unmarked
noncomputable def app (σ : St) (J F N : Nat → Prop) : St := fun c n => match c with
  | 0 => pif ((n % 16 < 6 ∧ N (n / 16 * 6 + n % 16)) ∨ (¬ n % 16 < 6 ∧ F (n / 16 * 12 + (n % 16 - 4)))) 0 (σ 0 n)
  | 1 => if n % 5 = 1 then σ 1 n - UF σ F (n / 5) else pif (J (n / 5)) 0 (σ 1 n)
  | 8 => pif (F n) 0 (pif (n ≠ 0 ∧ ∃ i k, i < 18 ∧ k < 3 ∧ J i ∧ kd (σ 1) i = 2 ∧ pt (σ 1) i k = n) 2 (pif (n ≠ 0 ∧ ∃ i k, i < 18 ∧ k < 3 ∧ J i ∧ pt (σ 1) i k = n) 1 (σ 8 n)))
  | 9 => pif (N n) 0 (pif (J n) 2 (pif (0 < n ∧ n < 18 ∧ kd (σ 1) n ≠ 0 ∧ lk (σ 1) n ≤ UF σ F n) 1 (σ 9 n)))
  | c + 10 => σ (c + 10) n
  | 2 => σ 2 n
  | 3 => σ 3 n
  | 4 => σ 4 n
  | 5 => σ 5 n
  | 6 => σ 6 n
  | 7 => σ 7 n
-- the state behind giving back
noncomputable def GB (σ : St) : St := app σ (Js σ) (Fs σ) (fun i => i < 18 ∧ kd (σ 4) i = 0 ∧ (Js σ i ∨ σ 9 i = 2))
