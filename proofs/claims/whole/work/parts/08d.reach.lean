-- the tree by a queue
def Ed (T W B : Nat → Nat) (a b : Nat) : Prop := ∃ c, c < 8 ∧ en T W B a c ≠ 0 ∧ en T W B a c % 32 = b
def VE (T W B : Nat → Nat) : Prop := ∀ d c, d < 18 → c < 8 → en T W B d c < 2 ^ 31 ∧ (en T W B d c ≠ 0 → en T W B d c % 32 < 18)
theorem bt_shl1 {i k : Nat} (hi : i < 32) (hk : k < 32) : bt (nI 1 <<< (nI i &&& 31)) k = true ↔ k = i := by
  rw [b_shl i hi (nI 1) hk]
  by_cases h : i ≤ k
  · rw [b_1 (k - i) (by omega), decide_eq_true h, Bool.true_and, decide_eq_true_iff]; omega
  · rw [decide_eq_false h, Bool.false_and]; constructor
    · intro q; cases q
    · intro q; omega
theorem bt_add {x : Int32} {i k : Nat} (hi : i < 32) (hk : k < 32) : bt (x ||| (nI 1 <<< (nI i &&& 31))) k = true ↔ bt x k = true ∨ k = i := by
  rw [b_or, Bool.or_eq_true, bt_shl1 hi hk]
theorem Tr_lt {T W B : Nat → Nat} (hE : VE T W B) {s0 i : Nat} (hs : s0 < 18) (h : Tr (Ed T W B) s0 i) : i < 18 :=
  Tr_ind h (S := fun i => i < 18) hs (fun a b _ ha e => by obtain ⟨c, hc, h1, h2⟩ := e; rw [← h2]; exact (hE a c ha hc).2 h1)
def RI (E : Nat → Nat → Prop) (s0 : Nat) (seen : Int32) (size idx : Nat) (q : Nat → Int32) : Prop :=
  idx ≤ size ∧ size = cn (fun i => bt seen i = true) 18 ∧ (∀ j, j < size → ∃ a, a < 18 ∧ q j = nI a ∧ Tr E s0 a ∧ bt seen a = true) ∧ (∀ i, i < 32 → bt seen i = true → i < 18 ∧ ∃ j, j < size ∧ q j = nI i) ∧ bt seen s0 = true ∧ (∀ j a b, j < idx → a < 18 → q j = nI a → E a b → bt seen b = true)
theorem cf_reach_32 {F : Nat} {T W B : Nat → Nat} {k16 : Int32 → Int32 → Int32 → (Nat → Int32) → Option (Int32 × (Nat → Int32))} {s0 idx a : Nat} (hT : VT T) (hB : ∀ b, b < 36 → B b ≤ 1) (hE : VE T W B) (ha : a < 18) : ∀ (r c n size : Nat) (seen : Int32) (q : Nat → Int32), c + r = 8 → r < n → idx < size → q idx = nI a → RI (Ed T W B) s0 seen size idx q → (∀ c', c' < c → en T W B a c' ≠ 0 → bt seen (en T W B a c' % 32) = true) →
    ∃ (seen' : Int32) (size' : Nat) (q' : Nat → Int32), RI (Ed T W B) s0 seen' size' (idx + 1) q' ∧ s_S_reach_32 F (zz T) (zz W) (zz B) k16 n seen (nI size) (nI idx) (nI c) q = k16 seen' (nI size') (nI (idx + 1)) q' := by
  intro r
  induction r with
  | zero =>
    intro c n size seen q hc hn hi hq hR hd
    obtain ⟨n, rfl⟩ : ∃ q, n = q + 1 := ⟨n - 1, by omega⟩
    refine ⟨seen, size, q, ?_, ?_⟩
    · obtain ⟨h1, h2, h3, h4, h5, h6⟩ := hR
      refine ⟨hi, h2, h3, h4, h5, fun j x b hj hx hjx he => ?_⟩
      by_cases e : j = idx
      · subst e
        have : x = a := (nI_eq (by omega) (by omega)).mp (hjx.symm.trans hq)
        subst this
        obtain ⟨c', hc', e1, e2⟩ := he
        rw [← e2]; exact hd c' (by omega) e1
      · exact h6 j x b (by omega) hx hjx he
    · unfold s_S_reach_32
      rw [if_pos (nI_le (by omega) (by omega)), nI_add]
  | succ r ih =>
    intro c n size seen q hc hn hi hq hR hd
    obtain ⟨n, rfl⟩ : ∃ q, n = q + 1 := ⟨n - 1, by omega⟩
    have hs18 : size ≤ 18 := by rw [hR.2.1]; exact cn_le
    obtain ⟨v1, v2⟩ := hE a c ha (by omega)
    have next : ∀ (size : Nat) (seen : Int32) (q : Nat → Int32), idx < size → q idx = nI a → RI (Ed T W B) s0 seen size idx q → (∀ c', c' < c → en T W B a c' ≠ 0 → bt seen (en T W B a c' % 32) = true) → (en T W B a c ≠ 0 → bt seen (en T W B a c % 32) = true) →
        ∃ (seen' : Int32) (size' : Nat) (q' : Nat → Int32), RI (Ed T W B) s0 seen' size' (idx + 1) q' ∧ s_S_reach_32 F (zz T) (zz W) (zz B) k16 n seen (nI size) (nI idx) (nI c + nI 1) q = k16 seen' (nI size') (nI (idx + 1)) q' := by
      intro size seen q hi hq hR hd hc2
      rw [nI_add]
      refine ih (c + 1) n size seen q (by omega) (by omega) hi hq hR (fun c' hc' => ?_)
      by_cases e : c' = c
      · subst e; exact hc2
      · exact hd c' (by omega)
    unfold s_S_reach_32
    rw [if_neg (nI_ge (by omega) (by omega)), gr_e idx rfl (by omega) (by decide), hq, bd_e (cf_entry hT hB ha (by omega))]
    by_cases h0 : en T W B a c = 0
    · rw [if_pos (by rw [h0]; rfl)]
      exact next size seen q hi hq hR hd (fun z => absurd h0 z)
    · have h18 := v2 h0
      rw [if_neg (fun z => h0 ((nI0 v1).mp z)), pk_rem v1 (by decide) (by decide), if_neg (nI_ge h18 (by omega)), bd_e (cf_has (by omega))]
      by_cases hb : bt seen (en T W B a c % 32) = true
      · rw [if_pos hb, if_neg (show ¬ nI 1 = 0 by decide)]
        exact next size seen q hi hq hR hd (fun _ => hb)
      · rw [if_neg hb, if_pos (show nI 0 = 0 by decide)]
        obtain ⟨h1, h2, h3, h4, h5, h6⟩ := hR
        generalize hx : en T W B a c % 32 = x at *
        have hadd : ∀ k, k < 32 → (bt (seen ||| (nI 1 <<< (nI x &&& 31))) k = true ↔ bt seen k = true ∨ k = x) := fun k hk => bt_add (by omega) hk
        have hcn : cn (fun i => bt (seen ||| (nI 1 <<< (nI x &&& 31))) i = true) 18 = size + 1 := by
          rw [h2]
          exact cn_one (k := x) h18 ((hadd x (by omega)).mpr (Or.inr rfl)) hb (fun j hj hne => ⟨fun z => ((hadd j (by omega)).mp z).resolve_right hne, fun z => (hadd j (by omega)).mpr (Or.inl z)⟩)
        have hlt : size < 18 := by have := cn_le (P := fun i => bt (seen ||| (nI 1 <<< (nI x &&& 31))) i = true) (n := 18); omega
        obtain ⟨a', ha', hqa, hta, -⟩ := h3 idx hi
        have haa : a' = a := (nI_eq (by omega) (by omega)).mp (hqa.symm.trans hq)
        subst haa
        have hTx : Tr (Ed T W B) s0 x := Tr_s hta ⟨c, by omega, h0, hx⟩
        rw [ga_e size rfl hlt (by decide), nI_clamp (by omega), nI_add]
        refine next (size + 1) _ _ (by omega) (by rw [pk_un (by omega)]; exact hq) ⟨by omega, hcn.symm, fun j hj => ?_, fun i hi32 hbi => ?_, (hadd s0 ?_).mpr (Or.inl h5), fun j y b hj hy hjy he => ?_⟩ (fun c' hc' e => ?_) (fun _ => (hadd x (by omega)).mpr (Or.inr rfl))
        · by_cases e : j = size
          · subst e; exact ⟨x, h18, pk_us, hTx, (hadd x (by omega)).mpr (Or.inr rfl)⟩
          · obtain ⟨y, y1, y2, y3, y4⟩ := h3 j (by omega)
            exact ⟨y, y1, by rw [pk_un e]; exact y2, y3, (hadd y (by omega)).mpr (Or.inl y4)⟩
        · rcases (hadd i hi32).mp hbi with z | z
          · obtain ⟨z1, j, z2, z3⟩ := h4 i hi32 z
            exact ⟨z1, j, by omega, by rw [pk_un (by omega)]; exact z3⟩
          · subst z; exact ⟨h18, size, by omega, pk_us⟩
        · exact Nat.lt_of_not_le (fun q => by rw [b_big q] at h5; cases h5)
        · have hbS := h6 j y b hj hy (by rw [pk_un (by omega)] at hjy; exact hjy) he
          exact (hadd b (Nat.lt_of_not_le (fun q => by rw [b_big q] at hbS; cases hbS))).mpr (Or.inl hbS)
        · have hbS := hd c' hc' e
          exact (hadd _ (Nat.lt_of_not_le (fun q => by rw [b_big q] at hbS; cases hbS))).mpr (Or.inl hbS)
theorem cf_reach_16 {F : Nat} {T W B : Nat → Nat} {s0 : Nat} (hF : 8 < F) (hT : VT T) (hB : ∀ b, b < 36 → B b ≤ 1) (hE : VE T W B) (hs : s0 < 18) : ∀ (r n idx size : Nat) (seen : Int32) (q : Nat → Int32), 18 ≤ idx + r → r < n → RI (Ed T W B) s0 seen size idx q →
    ∃ (S : Int32) (q' : Nat → Int32), s_S_reach_16 F (zz T) (zz W) (zz B) n seen (nI size) (nI idx) q = some (S, q') ∧ ∀ i, i < 32 → (bt S i = true ↔ Tr (Ed T W B) s0 i) := by
  have fin : ∀ (idx size : Nat) (seen : Int32) (q : Nat → Int32), size ≤ idx → RI (Ed T W B) s0 seen size idx q → ∀ i, i < 32 → (bt seen i = true ↔ Tr (Ed T W B) s0 i) := by
    intro idx size seen q hi hR
    obtain ⟨h1, h2, h3, h4, h5, h6⟩ := hR
    have key : ∀ i, bt seen i = true ↔ Tr (Ed T W B) s0 i := by
      refine Tr_of (S := fun i => bt seen i = true) h5 (fun a b ha he => ?_) (fun a ha => ?_)
      · have ha32 : a < 32 := Nat.lt_of_not_le (fun q => by rw [b_big q] at ha; cases ha)
        obtain ⟨a18, j, hj, hq⟩ := h4 a ha32 ha
        exact h6 j a b (by omega) a18 hq he
      · have ha32 : a < 32 := Nat.lt_of_not_le (fun q => by rw [b_big q] at ha; cases ha)
        obtain ⟨a18, j, hj, hq⟩ := h4 a ha32 ha
        obtain ⟨y, y1, y2, y3, -⟩ := h3 j hj
        have : y = a := (nI_eq (by omega) (by omega)).mp (y2.symm.trans hq)
        subst this; exact y3
    exact fun i _ => key i
  intro r
  induction r with
  | zero =>
    intro n idx size seen q hi hn hR
    obtain ⟨n, rfl⟩ : ∃ q, n = q + 1 := ⟨n - 1, by omega⟩
    have hs18 : size ≤ 18 := by rw [hR.2.1]; exact cn_le
    have := hR.1
    refine ⟨seen, q, ?_, fin idx size seen q (by omega) hR⟩
    unfold s_S_reach_16
    rw [if_pos (nI_le (by omega) (by omega))]
  | succ r ih =>
    intro n idx size seen q hi hn hR
    obtain ⟨n, rfl⟩ : ∃ q, n = q + 1 := ⟨n - 1, by omega⟩
    have hs18 : size ≤ 18 := by rw [hR.2.1]; exact cn_le
    have := hR.1
    unfold s_S_reach_16
    by_cases h : size ≤ idx
    · rw [if_pos (nI_le h (by omega))]
      exact ⟨seen, q, rfl, fin idx size seen q h hR⟩
    · rw [if_neg (nI_ge (by omega) (by omega)), if_neg (nI_ge (by omega) (by omega))]
      obtain ⟨a, ha, hq, -, -⟩ := hR.2.2.1 idx (by omega)
      obtain ⟨seen', size', q', hR', e⟩ := cf_reach_32 (F := F) (k16 := s_S_reach_16 F (zz T) (zz W) (zz B) n) hT hB hE ha 8 0 F size seen q rfl hF (by omega) hq hR (fun c' hc' => absurd hc' (Nat.not_lt_zero _))
      obtain ⟨S, q'', e2, hS⟩ := ih n (idx + 1) size' seen' q' (by omega) (by omega) hR'
      exact ⟨S, q'', by rw [← e2]; exact e, hS⟩
theorem cf_reach {F : Nat} {T W B : Nat → Nat} {s0 : Nat} (q : Nat → Int32) (hF : 18 < F) (hT : VT T) (hB : ∀ b, b < 36 → B b ≤ 1) (hE : VE T W B) (hs : s0 < 18) : ∃ (S : Int32) (q' : Nat → Int32), s_S_reach F (zz T) (zz W) (zz B) (nI s0) q = some (S, q') ∧ ∀ i, i < 32 → (bt S i = true ↔ Tr (Ed T W B) s0 i) := by
  have hb : ∀ k, k < 32 → (bt (nI 1 <<< (nI s0 &&& 31)) k = true ↔ k = s0) := fun k hk => bt_shl1 (by omega) hk
  have hR : RI (Ed T W B) s0 (nI 1 <<< (nI s0 &&& 31)) 1 0 (upd q 0 (nI s0)) := by
    refine ⟨by omega, ?_, fun j hj => ?_, fun i hi hbi => ?_, (hb s0 (by omega)).mpr rfl, fun j a b hj => absurd hj (Nat.not_lt_zero _)⟩
    · have e0 : cn (fun _ => False) 18 = 0 := cn_zero.mpr (fun _ _ q => q)
      rw [cn_one (P := fun i => bt (nI 1 <<< (nI s0 &&& 31)) i = true) (Q := fun _ => False) (k := s0) hs ((hb s0 (by omega)).mpr rfl) (fun q => q) (fun j hj hne => ⟨fun z => hne ((hb j (by omega)).mp z), fun z => z.elim⟩), e0]
    · have : j = 0 := by omega
      subst this
      exact ⟨s0, hs, pk_us, Tr_r, (hb s0 (by omega)).mpr rfl⟩
    · have := (hb i hi).mp hbi
      subst this; exact ⟨hs, 0, by omega, pk_us⟩
  obtain ⟨S, q', e, hS⟩ := cf_reach_16 (F := F) (by omega) hT hB hE hs 18 F 0 1 (nI 1 <<< (nI s0 &&& 31)) (upd q 0 (nI s0)) (by omega) hF hR
  refine ⟨S, q', ?_, hS⟩
  unfold s_S_reach
  rw [ga_e 0 rfl (by omega) (by decide)]
  exact e
