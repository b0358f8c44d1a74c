-- SYNC
def PPw (k : Nat) (σ : St) : Prop := (1 ≤ k → ∀ a, a < 36 → A1 σ a) ∧ (2 ≤ k → ∀ a, a < 36 → A2 σ a) ∧ (3 ≤ k → ∀ a, a < 36 → A3 σ a) ∧ (4 ≤ k → ∀ a, a < 36 → A4 σ a)
def PQw (k b : Nat) (σ : St) : Prop := PPw k σ ∧ (k = 0 → ∀ a, a < b → A1 σ a) ∧ (k = 1 → ∀ a, a < b → A2 σ a) ∧ (k = 2 → ∀ a, a < b → A3 σ a) ∧ (k = 3 → ∀ a, a < b → A4 σ a)
section SY
variable {n F : Nat} {σ σ' : St} {b k : Nat}
theorem PP_0 : PPw 0 σ := ⟨fun z => by omega, fun z => by omega, fun z => by omega, fun z => by omega⟩
theorem PQ_0 (h : PPw k σ) : PQw k 0 σ := ⟨h, fun _ a z => by omega, fun _ a z => by omega, fun _ a z => by omega, fun _ a z => by omega⟩
theorem PQ_36 (hk : k < 4) (h : PQw k 36 σ) : PPw (k + 1) σ := by
  obtain ⟨⟨p1, p2, p3, p4⟩, q1, q2, q3, q4⟩ := h
  refine ⟨fun _ => ?_, fun z => ?_, fun z => ?_, fun z => ?_⟩
  · by_cases e : k = 0
    · exact q1 e
    · exact p1 (by omega)
  · by_cases e : k = 1
    · exact q2 e
    · exact p2 (by omega)
  · by_cases e : k = 2
    · exact q3 e
    · exact p3 (by omega)
  · exact q4 (by omega)
theorem PQ_s (h2 : σ' 2 = σ 2) (hb : b < 36) (hF : Frw σ b σ') (a1 : A1 σ' b) (a2 : (∀ a, a < 36 → A1 σ a) → A2 σ' b) (a3 : (∀ a, a < 36 → A1 σ a) → (∀ a, a < 36 → A2 σ a) → A3 σ' b) (a4 : (∀ a, a < 36 → A2 σ a) → (∀ a, a < 36 → A3 σ a) → A4 σ' b) (h : PQw k b σ) : PQw k (b + 1) σ' := by
  obtain ⟨⟨p1, p2, p3, p4⟩, q1, q2, q3, q4⟩ := h
  refine ⟨⟨fun z a ha => ?_, fun z a ha => ?_, fun z a ha => ?_, fun z a ha => ?_⟩, fun z a ha => ?_, fun z a ha => ?_, fun z a ha => ?_, fun z a ha => ?_⟩
  all_goals by_cases e : a = b
  · rw [e]; exact a1
  · exact Fr_A1 hF h2 e (p1 z a ha)
  · rw [e]; exact a2 (p1 (by omega))
  · exact Fr_A2 hF h2 e (p2 z a ha)
  · rw [e]; exact a3 (p1 (by omega)) (p2 (by omega))
  · exact Fr_A3 hF h2 e (p3 z a ha)
  · rw [e]; exact a4 (p2 (by omega)) (p3 (by omega))
  · exact Fr_A4 hF h2 e (p4 z a ha)
  · rw [e]; exact a1
  · exact Fr_A1 hF h2 e (q1 z a (by omega))
  · rw [e]; exact a2 (p1 (by omega))
  · exact Fr_A2 hF h2 e (q2 z a (by omega))
  · rw [e]; exact a3 (p1 (by omega)) (p2 (by omega))
  · exact Fr_A3 hF h2 e (q3 z a (by omega))
  · rw [e]; exact a4 (p2 (by omega)) (p3 (by omega))
  · exact Fr_A4 hF h2 e (q4 z a (by omega))
theorem PP_AL (hI : Inv n σ) (h : PPw 4 σ) : ALw σ := by
  obtain ⟨p1, p2, p3, p4⟩ := h
  have p1 := p1 (by omega); have p2 := p2 (by omega); have p3 := p3 (by omega); have p4 := p4 (by omega)
  have hX := hI.2.1.1.1
  intro b hb ho
  by_cases h0 : b % 12 = 0
  · obtain ⟨x, y⟩ := (p1 b hb).1 h0
    refine ⟨x, fun c hc => ?_⟩
    rw [sz_0 h0] at hc
    unfold cl; rw [if_pos h0, if_pos h0]; exact (y c hc).symm
  · by_cases h1 : b % 12 = 1
    · refine ⟨(Inw_V5 hI.2.1).2.2.1.2 b hb h1, fun c hc => ?_⟩
      rw [sz_1 h1] at hc
      unfold cl; rw [if_neg h0, if_neg h0, if_pos h1, if_pos h1]
      exact ((p2 b hb h1).1 c hc).symm
    · have b0 : b ≠ 0 := by intro z; rw [z] at h0; exact h0 rfl
      rcases ho with z | ⟨i, l, hi, hl, e⟩
      · omega
      · obtain ⟨x, y⟩ := (p1 b hb).2 i l hi hl e b0
        refine ⟨x, fun c hc => ?_⟩
        rw [sz_2 (by omega)] at hc
        unfold cl; rw [if_neg h0, if_neg h0, if_neg h1, if_neg h1]
        have k0 : kd (σ 1) i ≠ 0 := fun z => b0 (by rw [← e]; exact ((hX i hi).2.2.1 z).2 l hl)
        have kl := (hX i hi).1
        by_cases k1 : kd (σ 1) i = 1
        · exact (y k1 c hc).symm
        · have k2 : kd (σ 1) i = 2 := by omega
          have l0 : l = 0 := by
            refine Classical.byContradiction fun z => b0 ?_
            have : l = 1 ∨ l = 2 := by omega
            rcases this with w | w
            · rw [← e, w]; exact ((hX i hi).2.2.2 k2).1
            · rw [← e, w]; exact ((hX i hi).2.2.2 k2).2
          rw [l0] at e
          have es : sn σ (8 * b + c) = σ 5 (8 * b + c) := by
            unfold sn; rw [show (8 * b + c) / 8 = b by omega, if_pos x]
          rw [← es]
          by_cases w : σ 2 (8 * b + c) = 0
          · rw [w, p4 b hb i hi k2 e b0 c hc w]
          · rw [p3 b hb i hi k2 e b0 c hc w]
theorem AL_Alk (hI : Inv n σ) (h : ALw σ) : Alk σ := by
  intro d c hd k2 hp hc
  have hD : isD (pt (σ 1) d 0) := ((hI.2.1.1.1 d hd).2.1 0 (by omega)).resolve_left hp
  obtain ⟨x, y⟩ := h _ hD.1 (Or.inr ⟨d, 0, hd, by omega, rfl⟩)
  have hD2 := hD.2
  have := y c (by rw [sz_2 hD2]; exact hc)
  unfold cl at this
  rw [if_neg (by omega), if_neg (by omega), if_neg (by omega), if_neg (by omega)] at this
  unfold sn
  rw [show (8 * pt (σ 1) d 0 + c) / 8 = pt (σ 1) d 0 by omega, if_pos x]; exact this
theorem passw (hF : 300 < F) {kV : Int32 → AR → AR → AR → AR → AR → AR → AR → AR → AR → AR → AR → Int32 → Option (Int32 × AR × AR × AR × AR × AR × AR × AR × AR × AR × AR × AR × Int32)} {kR : Int32 → AR → AR → AR → AR → AR → AR → AR → AR → AR → AR → AR → Int32 → Option (Int32 × AR × AR × AR × AR × AR × AR × AR × AR × AR × AR × AR × Int32)} {x1 rn mv : Int32} : ∀ (r b m m' : Nat) (σ : St) (q q2 : AR) (C : Nat → Nat) (S1 S2 S3 : Nat → Prop), b + r = 36 → r < m → r < m' → Inv n σ →
    ∃ (σ' : St) (q' q2' : AR) (C' : Nat → Nat) (S1' S2' S3' : Nat → Prop), Inv n σ' ∧ Kp σ σ' ∧ muw σ' ≤ muw σ ∧ (∀ k, k < 4 → muw σ' = muw σ → PQw k b σ → PPw (k + 1) σ') ∧
    s_V_makeAlike_17 F (zz (σ 2)) (zz z1) kV m x1 (nI b) (zz (σ 0)) (zz (σ 1)) q (zz (σ 3)) (zz (σ 4)) (zz (σ 5)) (zz (σ 6)) q2 (zz (σ 7)) (zz (σ 8)) (zz (σ 9)) rn = kV (x1 + nI 1) (zz (σ' 0)) (zz (σ' 1)) q' (zz (σ' 3)) (zz (σ' 4)) (zz (σ' 5)) (zz (σ' 6)) q2' (zz (σ' 7)) (zz (σ' 8)) (zz (σ' 9)) rn ∧
    s_R_sync_18 F kR m' x1 (nI b) (bz (yb σ)) (zz (σ 8)) (zz (rM (σ 0) (σ 1) (σ 2))) (zz (rM (σ 3) (σ 4) (σ 5))) (zz (σ 6)) (bz (fun i => σ 9 i = 2)) (zz (owd σ)) (zz C) (bz S1) (bz S2) (bz S3) mv = kR (x1 + nI 1) (bz (yb σ')) (zz (σ' 8)) (zz (rM (σ' 0) (σ' 1) (σ' 2))) (zz (rM (σ' 3) (σ' 4) (σ' 5))) (zz (σ' 6)) (bz (fun i => σ' 9 i = 2)) (zz (owd σ')) (zz C') (bz S1') (bz S2') (bz S3') mv := by
  intro r
  induction r with
  | zero =>
    intro b m m' σ q q2 C S1 S2 S3 hb hm hm' hI
    obtain ⟨m, rfl⟩ : ∃ q, m = q + 1 := ⟨m - 1, by omega⟩
    obtain ⟨m', rfl⟩ : ∃ q, m' = q + 1 := ⟨m' - 1, by omega⟩
    have e : b = 36 := by omega
    subst e
    refine ⟨σ, q, q2, C, S1, S2, S3, hI, ⟨rfl, fun i _ => Or.inl ⟨rfl, fun _ _ => rfl⟩⟩, Nat.le_refl _, fun k hk _ z => PQ_36 hk z, ?_, ?_⟩
    · unfold s_V_makeAlike_17
      rw [if_pos (nI_le (Nat.le_refl _) (by omega))]
    · unfold s_R_sync_18
      rw [if_pos (nI_le (Nat.le_refl _) (by omega))]
  | succ r ih =>
    intro b m m' σ q q2 C S1 S2 S3 hb hm hm' hI
    obtain ⟨m, rfl⟩ : ∃ q, m = q + 1 := ⟨m - 1, by omega⟩
    obtain ⟨m', rfl⟩ : ∃ q, m' = q + 1 := ⟨m' - 1, by omega⟩
    have hb36 : b < 36 := by omega
    obtain ⟨r0, ω, C1, T1, T2, T3, p, p2, hJ, hW, eV, eR⟩ := WB_ok (F := F) (C := C) (S1 := S1) (S2 := S2) (S3 := S3) (q := q) (q2 := q2) hF hI hb36
    obtain ⟨s2, s10, sK, sm, sq⟩ := wb_step hI hb36 hW
    obtain ⟨σ', q', q2', C', U1, U2, U3, g1, g2, g3, g4, g5, g6⟩ := ih (b + 1) m m' ω p p2 C1 T1 T2 T3 (by omega) (by omega) (by omega) hJ
    refine ⟨σ', q', q2', C', U1, U2, U3, g1, Kp_tr sK g2, by omega, fun k hk e z => ?_, ?_, ?_⟩
    · obtain ⟨f, a1, a2, a3, a4⟩ := sq (by omega)
      exact g4 k hk (by omega) (PQ_s s2 hb36 f a1 a2 a3 a4 z)
    · unfold s_V_makeAlike_17
      rw [if_neg (nI_ge (by omega) (by omega)), bd_e eV, nI_add]
      rw [s2] at g5
      exact g5
    · unfold s_R_sync_18
      rw [if_neg (nI_ge (by omega) (by omega)), bd_e eR, nI_add]
      exact g6
def SYN2 (F : Nat) : Prop := ∀ (n : Nat) (σ : St) (q q2 : AR) (C : Nat → Nat) (S1 S2 S3 : Nat → Prop), Inv n σ → ∃ (r : Int32) (σ' : St) (q' q2' : AR) (C' : Nat → Nat) (S1' S2' S3' : Nat → Prop), Inv n σ' ∧ Kp σ σ' ∧ ALw σ' ∧ s_V_makeAlike F (zz (σ 2)) (zz z1) (zz (σ 0)) (zz (σ 1)) q (zz (σ 3)) (zz (σ 4)) (zz (σ 5)) (zz (σ 6)) q2 (zz (σ 7)) (zz (σ 8)) (zz (σ 9)) (nI (σ 10 0)) = OutW r σ' q' q2' ∧ s_R_sync F (bz (yb σ)) (zz (σ 8)) (zz (rM (σ 0) (σ 1) (σ 2))) (zz (rM (σ 3) (σ 4) (σ 5))) (zz (σ 6)) (bz (fun i => σ 9 i = 2)) (zz (owd σ)) (zz C) (bz S1) (bz S2) (bz S3) (nI (σ 10 0)) = OutR r σ' C' S1' S2' S3'
theorem syl (hF : 300 < F) {rn mv : Int32} : ∀ (pot p k m m' : Nat) (σ : St) (q q2 : AR) (C : Nat → Nat) (S1 S2 S3 : Nat → Prop), k ≤ 4 → PPw k σ → 4 * muw σ + (4 - k) ≤ pot → p + pot < 1000 → pot < m → pot < m' → Inv n σ →
    ∃ (r : Int32) (σ' : St) (q' q2' : AR) (C' : Nat → Nat) (S1' S2' S3' : Nat → Prop), Inv n σ' ∧ Kp σ σ' ∧ ALw σ' ∧
    s_V_makeAlike_2 F (zz (σ 2)) (zz z1) m (nI p) (zz (σ 0)) (zz (σ 1)) q (zz (σ 3)) (zz (σ 4)) (zz (σ 5)) (zz (σ 6)) q2 (zz (σ 7)) (zz (σ 8)) (zz (σ 9)) rn = OutW r σ' q' q2' ∧
    s_R_sync_2 F m' (nI p) (bz (yb σ)) (zz (σ 8)) (zz (rM (σ 0) (σ 1) (σ 2))) (zz (rM (σ 3) (σ 4) (σ 5))) (zz (σ 6)) (bz (fun i => σ 9 i = 2)) (zz (owd σ)) (zz C) (bz S1) (bz S2) (bz S3) mv = OutR r σ' C' S1' S2' S3' := by
  intro pot
  induction pot with
  | zero =>
    intro p k m m' σ q q2 C S1 S2 S3 hk hP hpot hp hm hm' hI
    obtain ⟨m, rfl⟩ : ∃ q, m = q + 1 := ⟨m - 1, by omega⟩
    obtain ⟨m', rfl⟩ : ∃ q, m' = q + 1 := ⟨m' - 1, by omega⟩
    have e : k = 4 := by omega
    subst e
    have hA := PP_AL hI hP
    refine ⟨nI p, rnS σ 0, q, q2, C, S1, S2, S3, rn_Inv hI (by omega), ⟨rfl, fun i _ => Or.inl ⟨rfl, fun _ _ => rfl⟩⟩, hA, ?_, ?_⟩
    · unfold s_V_makeAlike_2 s_V_makeAlike_41
      rw [if_neg (nI_ge (by omega) (by omega)), bd_e (cf_areAlike (by omega) hI), pif_t hA, if_neg nn1]; rfl
    · unfold s_R_sync_2 s_R_sync_42
      rw [if_neg (nI_ge (by omega) (by omega)), bd_e (cf_allAlike (by omega) hI), pif_t hA, if_neg nn1]; rfl
  | succ pot ih =>
    intro p k m m' σ q q2 C S1 S2 S3 hk hP hpot hp hm hm' hI
    obtain ⟨m, rfl⟩ : ∃ q, m = q + 1 := ⟨m - 1, by omega⟩
    obtain ⟨m', rfl⟩ : ∃ q, m' = q + 1 := ⟨m' - 1, by omega⟩
    unfold s_V_makeAlike_2 s_R_sync_2
    rw [if_neg (nI_ge (by omega) (by omega)), if_neg (nI_ge (by omega) (by omega)), bd_e (cf_areAlike (by omega) hI), bd_e (cf_allAlike (by omega) hI)]
    by_cases hA : ALw σ
    · rw [pif_t hA, if_neg nn1, if_neg nn1]
      exact ⟨nI p, rnS σ 0, q, q2, C, S1, S2, S3, rn_Inv hI (by omega), ⟨rfl, fun i _ => Or.inl ⟨rfl, fun _ _ => rfl⟩⟩, hA, rfl, rfl⟩
    · have k4 : k < 4 := by
        refine Classical.byContradiction fun z => hA (PP_AL hI ?_)
        have : k = 4 := by omega
        rw [← this]; exact hP
      rw [pif_f hA, if_pos nI_0, if_pos nI_0]
      obtain ⟨ω, p1, p2, C1, T1, T2, T3, g1, g2, g3, g4, g5, g6⟩ := passw (F := F) (n := n) (kV := s_V_makeAlike_2 F (zz (σ 2)) (zz z1) m) (kR := s_R_sync_2 F m') (x1 := nI p) (rn := rn) (mv := mv) hF 36 0 F F σ q q2 C S1 S2 S3 rfl (by omega) (by omega) hI
      rw [g5, g6, nI_add]
      have fin : ∃ j, j ≤ 4 ∧ PPw j ω ∧ 4 * muw ω + (4 - j) ≤ pot := by
        by_cases e : muw ω = muw σ
        · exact ⟨k + 1, by omega, g4 k k4 e (PQ_0 hP), by omega⟩
        · exact ⟨0, by omega, PP_0, by omega⟩
      obtain ⟨j, j1, j2, j3⟩ := fin
      obtain ⟨r, σ', q', q2', C', U1, U2, U3, t1, t2, t3, t4, t5⟩ := ih (p + 1) j m m' ω p1 p2 C1 T1 T2 T3 j1 j2 j3 (by omega) (by omega) (by omega) g1
      rw [g2.1] at t4
      exact ⟨r, σ', q', q2', C', U1, U2, U3, t1, Kp_tr g2 t2, t3, t4, t5⟩
theorem syn2 (hF : 1080 < F) : SYN2 F := by
  intro n σ q q2 C S1 S2 S3 hI
  have := mu_192 (σ := σ)
  exact syl (F := F) (rn := nI (σ 10 0)) (mv := nI (σ 10 0)) (by omega) 772 0 0 F F σ q q2 C S1 S2 S3 (by omega) PP_0 (by omega) (by omega) (by omega) (by omega) hI
theorem syn (hF : 1080 < F) : SYN F := by
  intro n σ q q2 C S1 S2 S3 hI
  obtain ⟨r, σ', q', q2', C', U1, U2, U3, t1, t2, t3, t4, t5⟩ := syn2 hF n σ q q2 C S1 S2 S3 hI
  exact ⟨r, σ', q', q2', C', U1, U2, U3, t1, t2, AL_Alk t1 t3, t4, t5⟩
end SY
theorem st_flush (F : Nat) (hF : 300 < F) : St_flush F Rl0 := by
  intro n v0 v1 v2 v3 v4 v5 v6 v7 v8 v9 v10 v11 v12 v13 r0 r1 r2 r3 r4 r5 r6 r7 r8 r9 r10 r11 x1 hn hR
  obtain ⟨σ, hI, h0, h1, h2, h3, h4, h5, h6, h7, h8, h9, h10, h11, h12, h13, h14, h15, h16, h17, h18, ⟨C, h19⟩, ⟨S1, h20⟩, ⟨S2, h21⟩, ⟨S3, h22⟩, h23⟩ := hR
  subst h0 h1 h2 h3 h4 h5 h6 h7 h8 h9 h10 h11 h12 h13 h14 h15 h16 h17 h18 h19 h20 h21 h22 h23
  have hI' := Inv_s hI hn
  have out : x1 < 0 ∨ nI 36 ≤ x1 → s_V_flush F (zz (σ 2)) (zz z1) x1 (zz (σ 0)) (zz (σ 1)) v4 (zz (σ 3)) (zz (σ 4)) (zz (σ 5)) (zz (σ 6)) v9 (zz (σ 7)) (zz (σ 8)) (zz (σ 9)) = OutB (-1) σ v4 v9 ∧ s_R_flush F x1 (bz (yb σ)) (zz (σ 8)) (zz (rM (σ 0) (σ 1) (σ 2))) (zz (rM (σ 3) (σ 4) (σ 5))) (zz (σ 6)) (bz (fun i => σ 9 i = 2)) (zz (owd σ)) (zz C) (bz S1) (bz S2) (bz S3) = OutF (-1) σ C S1 S2 S3 := by
    intro z
    unfold s_V_flush s_R_flush
    by_cases a : x1 < 0
    · rw [if_pos a, if_pos a]; exact ⟨rfl, rfl⟩
    · have b := z.resolve_left a
      have c1 : ¬ x1 < nI 36 := fun q => by
        have h1 := Int32.lt_iff_toInt_lt.mp q
        have h2 := Int32.le_iff_toInt_le.mp b
        omega
      have c2 : ¬ x1 ≤ nI 35 := fun q => by
        have h1 := Int32.le_iff_toInt_le.mp q
        have h2 := Int32.le_iff_toInt_le.mp b
        rw [nI_toInt (by decide)] at h1 h2
        omega
      rw [if_neg a, if_neg a, if_neg c1, if_neg c2]; exact ⟨rfl, rfl⟩
  rcases pk_ix x1 (n := 36) (by decide) with z | z | ⟨b, hb, rfl⟩
  · obtain ⟨e1, e2⟩ := out (Or.inl z)
    exact ⟨_, _, _, _, _, _, _, _, _, _, _, _, _, _, _, _, _, _, _, _, _, _, _, e1, e2, σ, hI', rfl, rfl, rfl, rfl, rfl, rfl, rfl, rfl, rfl, rfl, rfl, rfl, rfl, rfl, rfl, rfl, rfl, rfl, rfl, ⟨C, rfl⟩, ⟨S1, rfl⟩, ⟨S2, rfl⟩, ⟨S3, rfl⟩, rfl⟩
  · obtain ⟨e1, e2⟩ := out (Or.inr z)
    exact ⟨_, _, _, _, _, _, _, _, _, _, _, _, _, _, _, _, _, _, _, _, _, _, _, e1, e2, σ, hI', rfl, rfl, rfl, rfl, rfl, rfl, rfl, rfl, rfl, rfl, rfl, rfl, rfl, rfl, rfl, rfl, rfl, rfl, rfl, ⟨C, rfl⟩, ⟨S1, rfl⟩, ⟨S2, rfl⟩, ⟨S3, rfl⟩, rfl⟩
  · obtain ⟨r0, ω, C1, T1, T2, T3, p, p2, hJ, hW, eV, eR⟩ := WB_ok (F := F) (C := C) (S1 := S1) (S2 := S2) (S3 := S3) (q := v4) (q2 := v9) hF hI hb
    obtain ⟨s2, s10, -⟩ := wb_step hI hb hW
    have eV' : s_V_flush F (zz (σ 2)) (zz z1) (nI b) (zz (σ 0)) (zz (σ 1)) v4 (zz (σ 3)) (zz (σ 4)) (zz (σ 5)) (zz (σ 6)) v9 (zz (σ 7)) (zz (σ 8)) (zz (σ 9)) = OutB r0 ω p p2 := by
      unfold s_V_flush
      rw [if_neg (nI_pos (by omega)), if_pos (nI_lt hb (by decide)), bd_e eV]
    exact ⟨_, _, _, _, _, _, _, _, _, _, _, _, _, _, _, _, _, _, _, _, _, _, _, eV', eR, ω, Inv_s hJ hn, rfl, rfl, by rw [s2], rfl, rfl, rfl, rfl, rfl, rfl, rfl, rfl, by rw [s10], rfl, rfl, rfl, rfl, rfl, rfl, rfl, ⟨C1, rfl⟩, ⟨T1, rfl⟩, ⟨T2, rfl⟩, ⟨T3, rfl⟩, by rw [s10]⟩
theorem st_sync (F : Nat) (hF : 1080 < F) : St_sync F Rl0 := by
  intro n v0 v1 v2 v3 v4 v5 v6 v7 v8 v9 v10 v11 v12 v13 r0 r1 r2 r3 r4 r5 r6 r7 r8 r9 r10 r11 hn hR
  obtain ⟨σ, hI, h0, h1, h2, h3, h4, h5, h6, h7, h8, h9, h10, h11, h12, h13, h14, h15, h16, h17, h18, ⟨C, h19⟩, ⟨S1, h20⟩, ⟨S2, h21⟩, ⟨S3, h22⟩, h23⟩ := hR
  subst h0 h1 h2 h3 h4 h5 h6 h7 h8 h9 h10 h11 h12 h13 h14 h15 h16 h17 h18 h19 h20 h21 h22 h23
  obtain ⟨r, σ', q', q2', C', U1, U2, U3, t1, t2, t3, t4, t5⟩ := syn2 hF n σ v4 v9 C S1 S2 S3 hI
  have eV : s_V_sync F (zz (σ 2)) (zz z1) (zz (σ 0)) (zz (σ 1)) v4 (zz (σ 3)) (zz (σ 4)) (zz (σ 5)) (zz (σ 6)) v9 (zz (σ 7)) (zz (σ 8)) (zz (σ 9)) (nI (σ 10 0)) = OutW r σ' q' q2' := by
    unfold s_V_sync
    rw [bd_e t4]
  exact ⟨_, _, _, _, _, _, _, _, _, _, _, _, _, _, _, _, _, _, _, _, _, _, _, _, _, eV, t5, σ', Inv_s t1 hn, rfl, rfl, by rw [t2.1], rfl, rfl, rfl, rfl, rfl, rfl, rfl, rfl, rfl, rfl, rfl, rfl, rfl, rfl, rfl, rfl, ⟨C', rfl⟩, ⟨U1, rfl⟩, ⟨U2, rfl⟩, ⟨U3, rfl⟩, rfl⟩
