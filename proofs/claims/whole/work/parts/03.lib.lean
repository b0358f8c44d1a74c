-- counting and searching below a bound, by propositions
noncomputable def cn (P : Nat → Prop) : Nat → Nat
  | 0 => 0
  | n + 1 => cn P n + @ite Nat (P n) (Classical.propDecidable _) 1 0
theorem cn_t {P : Nat → Prop} {n : Nat} (h : P n) : cn P (n + 1) = cn P n + 1 := by
  show cn P n + @ite Nat (P n) (Classical.propDecidable _) 1 0 = _
  rw [if_pos h]
theorem cn_f {P : Nat → Prop} {n : Nat} (h : ¬ P n) : cn P (n + 1) = cn P n := by
  show cn P n + @ite Nat (P n) (Classical.propDecidable _) 1 0 = _
  rw [if_neg h]; rfl
theorem cn_0 {P : Nat → Prop} : cn P 0 = 0 := rfl
theorem cn_congr {P Q : Nat → Prop} {n : Nat} (h : ∀ k, k < n → (P k ↔ Q k)) : cn P n = cn Q n := by
  induction n with
  | zero => rfl
  | succ n ih =>
    have e := ih (fun k hk => h k (by omega))
    by_cases hp : P n
    · rw [cn_t hp, cn_t ((h n (by omega)).mp hp), e]
    · rw [cn_f hp, cn_f (fun q => hp ((h n (by omega)).mpr q)), e]
theorem cn_mono {P Q : Nat → Prop} {n : Nat} (h : ∀ k, k < n → P k → Q k) : cn P n ≤ cn Q n := by
  induction n with
  | zero => exact Nat.le_refl _
  | succ n ih =>
    have e := ih (fun k hk => h k (by omega))
    by_cases hp : P n
    · rw [cn_t hp, cn_t (h n (by omega) hp)]; omega
    · rw [cn_f hp]
      by_cases hq : Q n
      · rw [cn_t hq]; omega
      · rw [cn_f hq]; omega
theorem cn_le {P : Nat → Prop} {n : Nat} : cn P n ≤ n := by
  induction n with
  | zero => exact Nat.le_refl _
  | succ n ih =>
    by_cases hp : P n
    · rw [cn_t hp]; omega
    · rw [cn_f hp]; omega
theorem cn_up {P : Nat → Prop} {n m : Nat} (h : n ≤ m) : cn P n ≤ cn P m := by
  induction m with
  | zero => have : n = 0 := by omega
            subst this; exact Nat.le_refl _
  | succ m ih =>
    by_cases hn : n = m + 1
    · subst hn; exact Nat.le_refl _
    · have := ih (by omega)
      by_cases hp : P m
      · rw [cn_t hp]; omega
      · rw [cn_f hp]; omega
theorem cn_zero {P : Nat → Prop} {n : Nat} : cn P n = 0 ↔ ∀ k, k < n → ¬ P k := by
  induction n with
  | zero => exact ⟨fun _ k hk => by omega, fun _ => rfl⟩
  | succ n ih =>
    constructor
    · intro h k hk hp
      by_cases hn : P n
      · rw [cn_t hn] at h; omega
      · rw [cn_f hn] at h
        by_cases he : k = n
        · subst he; exact hn hp
        · exact ih.mp h k (by omega) hp
    · intro h
      rw [cn_f (h n (by omega))]
      exact ih.mpr (fun k hk => h k (by omega))
theorem cn_pos {P : Nat → Prop} {n : Nat} : 0 < cn P n ↔ ∃ k, k < n ∧ P k := by
  constructor
  · intro h
    by_cases hc : ∃ k, k < n ∧ P k
    · exact hc
    · exact absurd (cn_zero.mpr (fun k hk hp => hc ⟨k, hk, hp⟩)) (by omega)
  · rintro ⟨k, hk, hp⟩
    by_cases h0 : cn P n = 0
    · exact absurd hp (cn_zero.mp h0 k hk)
    · omega
theorem cn_one {P Q : Nat → Prop} {n k : Nat} (hk : k < n) (hp : P k) (hq : ¬ Q k) (h : ∀ j, j < n → j ≠ k → (P j ↔ Q j)) : cn P n = cn Q n + 1 := by
  induction n with
  | zero => omega
  | succ n ih =>
    by_cases he : k = n
    · subst he
      rw [cn_t hp, cn_f hq, cn_congr (fun j hj => h j (by omega) (by omega))]
    · have e := ih (by omega) (fun j hj hne => h j (by omega) hne)
      by_cases hn : P n
      · rw [cn_t hn, cn_t ((h n (by omega) (by omega)).mp hn)]; omega
      · rw [cn_f hn, cn_f (fun q => hn ((h n (by omega) (by omega)).mpr q))]; omega
theorem cn_split {P R : Nat → Prop} {n : Nat} : cn P n = cn (fun k => P k ∧ R k) n + cn (fun k => P k ∧ ¬ R k) n := by
  induction n with
  | zero => rfl
  | succ n ih =>
    by_cases hp : P n
    · by_cases hr : R n
      · rw [cn_t hp, cn_t (P := fun k => P k ∧ R k) ⟨hp, hr⟩, cn_f (P := fun k => P k ∧ ¬ R k) (fun q => q.2 hr)]; omega
      · rw [cn_t hp, cn_f (P := fun k => P k ∧ R k) (fun q => hr q.2), cn_t (P := fun k => P k ∧ ¬ R k) ⟨hp, hr⟩]; omega
    · rw [cn_f hp, cn_f (P := fun k => P k ∧ R k) (fun q => hp q.1), cn_f (P := fun k => P k ∧ ¬ R k) (fun q => hp q.1)]; omega
theorem cn_lt {P Q : Nat → Prop} {n : Nat} (h : ∀ k, k < n → P k → Q k) (hx : ∃ k, k < n ∧ Q k ∧ ¬ P k) : cn P n < cn Q n := by
  have e := cn_split (P := Q) (R := P) (n := n)
  have e1 : cn (fun k => Q k ∧ P k) n = cn P n := cn_congr (fun k hk => ⟨fun q => q.2, fun q => ⟨h k hk q, q⟩⟩)
  have e2 : 0 < cn (fun k => Q k ∧ ¬ P k) n := cn_pos.mpr hx
  omega
theorem cn_full {P : Nat → Prop} {n : Nat} (h : cn P n = n) : ∀ k, k < n → P k := by
  intro k hk
  refine Classical.byContradiction fun hp => ?_
  have := cn_lt (P := P) (Q := fun _ => True) (n := n) (fun _ _ _ => trivial) ⟨k, hk, trivial, hp⟩
  have := cn_le (P := fun _ => True) (n := n)
  omega
noncomputable def sr (P : Nat → Prop) : Nat → Nat
  | 0 => 0
  | n + 1 => if sr P n < n then sr P n else @ite Nat (P n) (Classical.propDecidable _) n (n + 1)
theorem sr_spec (P : Nat → Prop) (n : Nat) : sr P n ≤ n ∧ (sr P n < n → P (sr P n)) ∧ ∀ k, k < sr P n → ¬ P k := by
  induction n with
  | zero => exact ⟨Nat.le_refl _, fun h => absurd h (Nat.lt_irrefl _), fun k hk => absurd hk (Nat.not_lt_zero _)⟩
  | succ n ih =>
    obtain ⟨h1, h2, h3⟩ := ih
    by_cases hc : sr P n < n
    · have e : sr P (n + 1) = sr P n := if_pos hc
      rw [e]; exact ⟨by omega, fun _ => h2 hc, h3⟩
    · have en : sr P n = n := by omega
      rw [en] at h3
      by_cases hp : P n
      · have e : sr P (n + 1) = n := (if_neg hc).trans (if_pos hp)
        rw [e]; exact ⟨by omega, fun _ => hp, h3⟩
      · have e : sr P (n + 1) = n + 1 := (if_neg hc).trans (if_neg hp)
        rw [e]
        refine ⟨Nat.le_refl _, fun h => absurd h (Nat.lt_irrefl _), fun k hk => ?_⟩
        by_cases hk2 : k = n
        · subst hk2; exact hp
        · exact h3 k (by omega)
theorem sr_eq {P : Nat → Prop} {n k : Nat} (hk : k ≤ n) (hp : k < n → P k) (hn : ∀ j, j < k → ¬ P j) : sr P n = k := by
  obtain ⟨h1, h2, h3⟩ := sr_spec P n
  by_cases h : sr P n < k
  · exact absurd (h2 (by omega)) (hn _ h)
  · by_cases h' : k < sr P n
    · exact absurd (hp (by omega)) (h3 _ h')
    · omega
theorem sr_congr {P Q : Nat → Prop} {n : Nat} (h : ∀ k, k < n → (P k ↔ Q k)) : sr P n = sr Q n := by
  obtain ⟨h1, h2, h3⟩ := sr_spec Q n
  exact sr_eq h1 (fun hk => (h _ hk).mpr (h2 hk)) (fun j hj hp => h3 j hj ((h j (by omega)).mp hp))
theorem sr_none {P : Nat → Prop} {n : Nat} : sr P n = n ↔ ∀ k, k < n → ¬ P k := by
  obtain ⟨h1, h2, h3⟩ := sr_spec P n
  exact ⟨fun e k hk => h3 k (by omega), fun h => sr_eq (Nat.le_refl _) (fun hk => absurd hk (Nat.lt_irrefl _)) h⟩
theorem sr_lt {P : Nat → Prop} {n : Nat} : sr P n < n ↔ ∃ k, k < n ∧ P k := by
  obtain ⟨h1, h2, h3⟩ := sr_spec P n
  constructor
  · intro h; exact ⟨_, h, h2 h⟩
  · rintro ⟨k, hk, hp⟩
    by_cases h : sr P n < n
    · exact h
    · exact absurd hp (h3 k (by omega))
-- what is reached from r by the steps E
def Tr (E : Nat → Nat → Prop) (r i : Nat) : Prop := ∀ S : Nat → Prop, S r → (∀ a b, S a → E a b → S b) → S i
theorem Tr_r {E : Nat → Nat → Prop} {r : Nat} : Tr E r r := fun _ h _ => h
theorem Tr_s {E : Nat → Nat → Prop} {r a b : Nat} (h : Tr E r a) (e : E a b) : Tr E r b := fun S h0 hs => hs a b (h S h0 hs) e
theorem Tr_ind {E : Nat → Nat → Prop} {r i : Nat} (h : Tr E r i) {S : Nat → Prop} (h0 : S r) (hs : ∀ a b, Tr E r a → S a → E a b → S b) : S i :=
  (h (fun x => Tr E r x ∧ S x) ⟨Tr_r, h0⟩ (fun a b q e => ⟨Tr_s q.1 e, hs a b q.1 q.2 e⟩)).2
theorem Tr_mono {E E' : Nat → Nat → Prop} {r i : Nat} (h : ∀ a b, Tr E r a → E a b → E' a b) (t : Tr E r i) : Tr E' r i :=
  Tr_ind t Tr_r (fun a b ta s e => Tr_s s (h a b ta e))
theorem Tr_congr {E E' : Nat → Nat → Prop} {r i : Nat} (h : ∀ a b, Tr E r a → (E a b ↔ E' a b)) : Tr E r i ↔ Tr E' r i := by
  refine ⟨Tr_mono (fun a b t e => (h a b t).mp e), fun t => Tr_ind t Tr_r (fun a b _ s e => Tr_s s ((h a b s).mpr e))⟩
theorem Tr_last {E : Nat → Nat → Prop} {r i : Nat} (h : Tr E r i) : i = r ∨ ∃ a, Tr E r a ∧ E a i :=
  Tr_ind h (S := fun i => i = r ∨ ∃ a, Tr E r a ∧ E a i) (Or.inl rfl) (fun a b ta _ e => Or.inr ⟨a, ta, e⟩)
-- a closed set that holds r and nothing else but what is reached
theorem Tr_of {E : Nat → Nat → Prop} {r : Nat} {S : Nat → Prop} (h0 : S r) (hs : ∀ a b, S a → E a b → S b) (ht : ∀ a, S a → Tr E r a) (i : Nat) : S i ↔ Tr E r i :=
  ⟨ht i, fun t => t S h0 hs⟩
-- arrays of numbers
def up (T : Nat → Nat) (k v : Nat) : Nat → Nat := fun j => if j = k then v else T j
theorem up_s {T : Nat → Nat} {k v : Nat} : up T k v k = v := if_pos rfl
theorem up_n {T : Nat → Nat} {k v j : Nat} (h : j ≠ k) : up T k v j = T j := if_neg h
abbrev zz (T : Nat → Nat) : Nat → Int32 := fun n => nI (T n)
theorem zz_up {T : Nat → Nat} {k v : Nat} : upd (zz T) k (nI v) = zz (up T k v) := by
  funext j
  by_cases h : j = k
  · subst h; rw [pk_us]; show _ = nI (up T j v j); rw [up_s]
  · rw [pk_un h]; show _ = nI (up T k v j); rw [up_n h]
-- eighteen rounds of spreading reach all that is reached
def Rd (E : Nat → Nat → Prop) (r k : Nat) (A : Nat → Prop) : Prop := A r ∧ (∀ i, A i → Tr E r i) ∧ ((∀ i, Tr E r i → A i) ∨ k + 1 ≤ cn A 18)
theorem Rd_0 {E : Nat → Nat → Prop} {r : Nat} {A : Nat → Prop} (hr : r < 18) (h : ∀ i, A i ↔ i = r) : Rd E r 0 A :=
  ⟨(h r).mpr rfl, fun i hi => by rw [(h i).mp hi]; exact Tr_r, Or.inr (by have := cn_pos.mpr ⟨r, hr, (h r).mpr rfl⟩; omega)⟩
theorem Rd_s {E : Nat → Nat → Prop} {r k : Nat} {A B : Nat → Prop} (hE : ∀ a b, Tr E r a → E a b → b < 18) (h : Rd E r k A) (hm : ∀ i, A i → B i) (hs : ∀ a b, A a → E a b → B b) (ht : ∀ i, B i → Tr E r i) : Rd E r (k + 1) B := by
  obtain ⟨h0, h1, h2⟩ := h
  refine ⟨hm r h0, ht, ?_⟩
  rcases h2 with h2 | h2
  · exact Or.inl (fun i hi => hm i (h2 i hi))
  · by_cases hc : ∀ a b, A a → E a b → A b
    · exact Or.inl (fun i hi => hm i (hi A h0 hc))
    · right
      have hx : ∃ a b, A a ∧ E a b ∧ ¬ A b := by
        refine Classical.byContradiction fun hn => hc fun a b ha he => ?_
        exact Classical.byContradiction fun hb => hn ⟨a, b, ha, he, hb⟩
      obtain ⟨a, b, ha, he, hb⟩ := hx
      have := cn_lt (P := A) (Q := B) (n := 18) (fun j _ q => hm j q) ⟨b, hE a b (h1 a ha) he, hs a b ha he, hb⟩
      omega
theorem Rd_e {E : Nat → Nat → Prop} {r : Nat} {A : Nat → Prop} (h : Rd E r 18 A) (i : Nat) : A i ↔ Tr E r i := by
  obtain ⟨h0, h1, h2⟩ := h
  rcases h2 with h2 | h2
  · exact ⟨h1 i, h2 i⟩
  · have := cn_le (P := A) (n := 18); omega
