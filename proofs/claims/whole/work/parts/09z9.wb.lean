-- a write-back: class and reference alike
section WB
variable {n F : Nat} {σ : St} {b : Nat}
theorem fe_2 {y dr mem rl od ct i1 i2 i3 : AR} (hb : isD b) (h6 : σ 6 b ≠ 0) (h61 : σ 6 b ≤ 1) : ∀ (r c m : Nat), c + r = 8 → r < m → s_R_flushEntries_2 F y m (nI b) (nI c) dr mem (zz (rM (σ 3) (σ 4) (cp (σ 5) z1 (8 * b) c))) (zz (σ 6)) rl od ct i1 i2 i3 = s_R_flushEntries_35 F y (nI b) dr mem (zz (rM (σ 3) (σ 4) (cp (σ 5) z1 (8 * b) 8))) (zz (σ 6)) rl od ct i1 i2 i3 := by
  have hb36 := hb.1
  intro r
  induction r with
  | zero =>
    intro c m hc hm
    obtain ⟨m, rfl⟩ : ∃ q, m = q + 1 := ⟨m - 1, by omega⟩
    unfold s_R_flushEntries_2
    rw [if_pos (nI_le (by omega) (by omega)), show c = 8 by omega]
  | succ r ih =>
    intro c m hc hm
    obtain ⟨m, rfl⟩ : ∃ q, m = q + 1 := ⟨m - 1, by omega⟩
    have this := ih (c + 1) m (by omega) (by omega)
    unfold s_R_flushEntries_2
    rw [if_neg (nI_ge (by omega) (by omega)), gr_e b rfl hb36 (by decide), ix30, ga_e _ rfl (by omega) (by decide), nI_clamp (by omega), zz_up, up_w hb (by omega), nI_add]
    show (if nI (σ 6 b) = 0 then _ else _) = _
    rw [if_neg (fun z => h6 ((nI0 (by omega)).mp z))]
    have e : up (cp (σ 5) z1 (8 * b) c) (8 * b + c) 0 = cp (σ 5) z1 (8 * b) (c + 1) := cp_s
    rw [e]; exact this
theorem fe_0 {y dr mem rl od ct i1 i2 i3 : AR} (hF : 8 < F) (hb : isD b) (h61 : σ 6 b ≤ 1) : s_R_flushEntries F y (nI b) dr mem (zz (rM (σ 3) (σ 4) (σ 5))) (zz (σ 6)) rl od ct i1 i2 i3 = s_R_flushEntries_46 F y F (nI b) (nI 0) (nI 0) dr mem (zz (rM (σ 3) (σ 4) (fcSw σ b 5))) (zz (fcSw σ b 6)) rl od ct i1 i2 i3 := by
  have hb36 := hb.1
  have e35 : ∀ W, s_R_flushEntries_35 F y (nI b) dr mem (zz (rM (σ 3) (σ 4) W)) (zz (σ 6)) rl od ct i1 i2 i3 = s_R_flushEntries_46 F y F (nI b) (nI 0) (nI 0) dr mem (zz (rM (σ 3) (σ 4) W)) (zz (fcSw σ b 6)) rl od ct i1 i2 i3 := fun W => by
    unfold s_R_flushEntries_35
    rw [ga_e b rfl hb36 (by decide), nI_clamp (by omega), nar0, zz_up]; rfl
  unfold s_R_flushEntries
  by_cases h6 : σ 6 b = 0
  · obtain ⟨f, rfl⟩ : ∃ q, F = q + 1 := ⟨F - 1, by omega⟩
    unfold s_R_flushEntries_2
    rw [if_neg (nI_ge (by omega) (by omega)), gr_e b rfl hb36 (by decide)]
    show (if nI (σ 6 b) = 0 then _ else _) = _
    rw [if_pos (by rw [h6]; rfl), e35]
    have : fcSw σ b 5 = σ 5 := by show (if σ 6 b = 0 then _ else _) = _; rw [if_pos h6]
    rw [this]
  · have g := fe_2 (F := F) (σ := σ) (y := y) (dr := dr) (mem := mem) (rl := rl) (od := od) (ct := ct) (i1 := i1) (i2 := i2) (i3 := i3) hb h6 h61 8 0 F rfl hF
    rw [cp_0] at g
    rw [g, e35]
    have : fcSw σ b 5 = cp (σ 5) z1 (8 * b) 8 := by show (if σ 6 b = 0 then _ else _) = _; rw [if_neg h6]
    rw [this]
theorem lv_L {τ : St} (h : VL (τ 1)) : lv τ = τ 9 := by
  funext i
  unfold lv
  rw [pif_f]; rintro ⟨a, b, c, d⟩; have := h i a b c; omega
theorem wbD {d : Nat} {C : Nat → Nat} {S1 S2 S3 : Nat → Prop} {q q2 : AR} (hF : 300 < F) (hI : Inv n σ) (hb : isD b) (hd : d < 18) (h2 : kd (σ 1) d = 2) (hp : pt (σ 1) d 0 = b) : ∃ (τ : St) (y : Nat) (C' : Nat → Nat) (S1' S2' S3' : Nat → Prop) (q' q2' : AR), LPw (fcSw σ b) b 8 τ ∧ Gdw n τ ∧
    (bd (s_V_writeDirectory F (zz (σ 2)) (zz z1) (zz (σ 3)) (zz (σ 4)) (zz (σ 7)) (nI b) (zz (σ 1)) q (zz (σ 5)) (zz (σ 6)) q2 (zz (σ 9))) (fun ⟨r108, m_tables_108, m_queue_108, d_words_108, d_blank_108, d_queue_108, leaving_108⟩ => s_V_writeBack_112 F (zz (σ 2)) (zz z1) r108 (zz (σ 0)) m_tables_108 m_queue_108 (zz (σ 3)) (zz (σ 4)) d_words_108 d_blank_108 d_queue_108 (zz (σ 7)) (zz (σ 8)) leaving_108) = OutB (nI y) (GB τ) q' q2') ∧
    s_R_flush_42 F (nI b) (nI 2) (bz (yb σ)) (zz (σ 8)) (zz (rM (σ 0) (σ 1) (σ 2))) (zz (rM (σ 3) (σ 4) (σ 5))) (zz (σ 6)) (bz (fun i => σ 9 i = 2)) (zz (owd σ)) (zz C) (bz S1) (bz S2) (bz S3) = OutF (nI y) (GB τ) C' S1' S2' S3' := by
  have hb36 := hb.1
  have h5 := Inw_V5 hI.2.1
  have h61 := (h5.2.1 b hb36).1
  have hn := hI.1
  obtain ⟨hJ, hO⟩ := fc_Inv hI hb36
  have hid := GB_id hJ.2.1 hJ.2.2
  obtain ⟨τ, y, C', S1', S2', S3', q', q2', p1, p2, p3, p4⟩ := dl (F := F) (s := fcSw σ b) hn hF hb (by rw [fc_6, if_pos rfl]) hd h2 hp 8 0 F F (fcSw σ b) 0 C S1 S2 S3 q q2 rfl (by omega) (by omega) LP_0 (Inv_Gd hJ)
  refine ⟨τ, y, C', S1', S2', S3', q', q2', p1, p2, ?_, ?_⟩
  · have eW : s_V_writeDirectory F (zz (σ 2)) (zz z1) (zz (σ 3)) (zz (σ 4)) (zz (σ 7)) (nI b) (zz (σ 1)) q (zz (σ 5)) (zz (σ 6)) q2 (zz (σ 9)) = some (nI y, zz (τ 1), q', zz (τ 5), zz (τ 6), q2', zz (lv τ)) := by
      rw [lv_L hJ.2.2.1] at p3
      unfold s_V_writeDirectory s_V_writeDirectory_28
      rw [bd_e (cf_isBlank hb36 h61)]
      by_cases h6 : σ 6 b = 0
      · rw [if_pos (by rw [h6]; rfl)]
        have f5 : fcSw σ b 5 = σ 5 := by show (if σ 6 b = 0 then _ else _) = _; rw [if_pos h6]
        have f6 : fcSw σ b 6 = σ 6 := by
          show up (σ 6) b 0 = _
          have := up_id (T := σ 6) (k := b)
          rw [h6] at this; exact this
        rw [f5, f6] at p3
        exact p3
      · rw [if_neg (fun z => h6 ((nI0 (by omega)).mp z)), bd_e (cf_clearWords (by omega) hb36), bd_e (cf_setBlank hb36 (by omega))]
        have f5 : fcSw σ b 5 = cp (σ 5) z1 (8 * b) 8 := by show (if σ 6 b = 0 then _ else _) = _; rw [if_neg h6]
        rw [f5] at p3
        exact p3
    rw [bd_e eW]
    have g := wb_112 (F := F) (mw := zz (σ 2)) (mb := zz z1) (x := nI y) (q := q') (q2 := q2') (by omega) (show n ≤ 1000 by omega) p2.1 p2.2.1
    have t0 : τ 0 = σ 0 := p1.1 0 (by decide) (by decide)
    have t3 : τ 3 = σ 3 := p1.1 3 (by decide) (by decide)
    have t4 : τ 4 = σ 4 := p1.1 4 (by decide) (by decide)
    have t7 : τ 7 = σ 7 := p1.1 7 (by decide) (by decide)
    have t8 : τ 8 = σ 8 := p1.1 8 (by decide) (by decide)
    have g' : s_V_writeBack_112 F (zz (σ 2)) (zz z1) (nI y) (zz (τ 0)) (zz (τ 1)) q' (zz (τ 3)) (zz (τ 4)) (zz (τ 5)) (zz (τ 6)) q2' (zz (τ 7)) (zz (τ 8)) (zz (lv τ)) = OutB (nI y) (GB τ) q' q2' := g
    rw [t0, t3, t4, t7, t8] at g'
    exact g'
  · rw [hid, hO] at p4
    unfold s_R_flush_42
    rw [if_pos rfl, fe_0 (by omega) hb h61]
    have p4' : s_R_flushEntries_46 F (bz (yb σ)) F (nI b) (nI 0) (nI 0) (zz (σ 8)) (zz (rM (σ 0) (σ 1) (σ 2))) (zz (rM (σ 3) (σ 4) (fcSw σ b 5))) (zz (fcSw σ b 6)) (bz (fun i => σ 9 i = 2)) (zz (owd σ)) (zz C) (bz S1) (bz S2) (bz S3) = some (nI y, zz (GB τ 8), zz (rM (GB τ 0) (GB τ 1) (τ 2)), zz (rM (τ 3) (τ 4) (τ 5)), zz (τ 6), bz (fun i => GB τ 9 i = 2), zz (owd (GB τ)), zz C', bz S1', bz S2', bz S3') := p4
    rw [bd_e p4']
    have ey : bz (yb σ) = bz (yb (GB τ)) := bz_congr (fun p => by
      show (p < 288 ∧ (σ 7 (p / 8)).testBit (p % 8) = true) ↔ (p < 288 ∧ (τ 7 (p / 8)).testBit (p % 8) = true)
      rw [show τ 7 = σ 7 from p1.1 7 (by decide) (by decide)])
    rw [ey]; rfl
def WBr (n : Nat) (σ : St) (b : Nat) (σ' : St) : Prop := (b % 12 ≠ 1 ∧ ¬ DB σ b ∧ σ' = cbS σ b) ∨ (b % 12 = 1 ∧ σ' = GB (tbS σ (b / 12))) ∨ (∃ d τ, isD b ∧ d < 18 ∧ kd (σ 1) d = 2 ∧ pt (σ 1) d 0 = b ∧ LPw (fcSw σ b) b 8 τ ∧ Gdw n τ ∧ σ' = GB τ) ∨ (isD b ∧ (∀ i k, i < 18 → k < 3 → pt (σ 1) i k ≠ b) ∧ σ' = σ)
theorem WB_ok {C : Nat → Nat} {S1 S2 S3 : Nat → Prop} {q q2 : AR} (hF : 300 < F) (hI : Inv n σ) (hb : b < 36) : ∃ (r : Int32) (σ' : St) (C' : Nat → Nat) (S1' S2' S3' : Nat → Prop) (q' q2' : AR), Inv n σ' ∧ WBr n σ b σ' ∧
    s_V_writeBack F (zz (σ 2)) (zz z1) (nI b) (zz (σ 0)) (zz (σ 1)) q (zz (σ 3)) (zz (σ 4)) (zz (σ 5)) (zz (σ 6)) q2 (zz (σ 7)) (zz (σ 8)) (zz (σ 9)) = OutB r σ' q' q2' ∧
    s_R_flush F (nI b) (bz (yb σ)) (zz (σ 8)) (zz (rM (σ 0) (σ 1) (σ 2))) (zz (rM (σ 3) (σ 4) (σ 5))) (zz (σ 6)) (bz (fun i => σ 9 i = 2)) (zz (owd σ)) (zz C) (bz S1) (bz S2) (bz S3) = OutF r σ' C' S1' S2' S3' := by
  have hn := hI.1
  have hT := Inv_VT1 hI
  have h5 := Inw_V5 hI.2.1
  have h61 := (h5.2.1 b hb).1
  have hX := hI.2.1.1.1
  unfold s_V_writeBack s_R_flush
  rw [if_neg (nI_pos (by omega)), if_pos (nI_le (show b ≤ 35 by omega) (by omega)), bd_e (cf_isData hb), pk_rem (by omega) (by decide) (by decide)]
  by_cases h2 : 2 ≤ b % 12
  · -- a data block
    have hD : isD b := ⟨hb, h2⟩
    have b0 : b ≠ 0 := by intro z; rw [z] at h2; omega
    rw [if_pos h2, if_neg nn1, if_neg (fun z => by have := (nI_eq (by omega) (by decide)).mp z; omega), if_neg (fun z => by have := (nI0 (by omega)).mp z; omega), bd_e (cf_namer (by omega) hT (by omega)), bd_e (cf_owner (by omega) hT (by omega))]
    unfold s_V_writeBack_26
    by_cases N : sr (fun i => ∃ k', k' < 3 ∧ pt (σ 1) i k' = b) 18 < 18
    · obtain ⟨k, hk, hp⟩ := (sr_spec (fun i => ∃ k', k' < 3 ∧ pt (σ 1) i k' = b) 18).2.1 N
      have eo : ow (σ 1) b = kd (σ 1) (sr (fun i => ∃ k', k' < 3 ∧ pt (σ 1) i k' = b) 18) := if_pos N
      rw [ans_t N, if_neg (nI_m1 (by omega)), bd_e (cf_kind N), eo]
      generalize sr (fun i => ∃ k', k' < 3 ∧ pt (σ 1) i k' = b) 18 = i at *
      have k0 : kd (σ 1) i ≠ 0 := fun z => b0 (by rw [← hp]; exact ((hX i N).2.2.1 z).2 k hk)
      have kl := (hX i N).1
      unfold s_V_writeBack_47
      rw [if_neg (fun z => by have := (nI0 (by omega)).mp z; omega)]
      by_cases k1 : kd (σ 1) i = 1
      · have nD : ¬ DB σ b := by
          rintro ⟨-, z | ⟨j, j1, j2, j3⟩⟩
          · have := (Inw_V6 hI.2.1 i k N hk (by rw [hp]; exact b0)).2
            rw [hp] at this; omega
          · have := hI.2.1.2.2.1.1 j i 0 k j1 N (by omega) hk (by rw [j3]; exact b0) (j3.trans hp.symm)
            rw [this.1] at j2; omega
        rw [k1, if_pos rfl]
        exact ⟨nI 0, cbS σ b, C, S1, S2, S3, q, q2, (cb_Inv hI hb nD).1, Or.inl ⟨by omega, nD, rfl⟩, wb_59 (by omega) hI hb (by omega) nD, fl_42 (by omega) hI hb (by omega) nD⟩
      · have k2 : kd (σ 1) i = 2 := by omega
        have kk : k = 0 := by
          have := (hX i N).2.2.2 k2
          refine Classical.byContradiction fun z => b0 ?_
          have : k = 1 ∨ k = 2 := by omega
          rcases this with w | w
          · rw [← hp, w]; exact (hX i N).2.2.2 k2 |>.1
          · rw [← hp, w]; exact (hX i N).2.2.2 k2 |>.2
        subst kk
        rw [k2, if_neg (show ¬ (nI 2 : Int32) = nI 1 by decide), if_neg (fun z => by have := (nI_eq (by omega) (by decide)).mp z; omega), if_pos rfl]
        obtain ⟨τ, y, C', S1', S2', S3', q', q2', p1, p2, p3, p4⟩ := wbD (F := F) (C := C) (S1 := S1) (S2 := S2) (S3 := S3) (q := q) (q2 := q2) hF hI hD N k2 hp
        exact ⟨nI y, GB τ, C', S1', S2', S3', q', q2', Gd_Inv hn p2, Or.inr (Or.inr (Or.inl ⟨i, τ, hD, N, k2, hp, p1, p2, rfl⟩)), p3, p4⟩
    · have eo : ow (σ 1) b = 0 := if_neg N
      have no : ∀ i k, i < 18 → k < 3 → pt (σ 1) i k ≠ b := fun i k hi hk z => N (sr_lt.mpr ⟨i, hi, k, hk, z⟩)
      rw [ans_f N, if_pos rfl, eo]
      refine ⟨nI 0, σ, C, S1, S2, S3, q, q2, hI, Or.inr (Or.inr (Or.inr ⟨hD, no, rfl⟩)), ?_, ?_⟩
      · unfold s_V_writeBack_47
        rw [if_neg (fun z => by have := (nI0 (by omega)).mp z; omega), if_neg (show ¬ (nI 0 : Int32) = nI 1 by decide), if_neg (fun z => by have := (nI_eq (by omega) (by decide)).mp z; omega), if_neg (show ¬ (nI 0 : Int32) = nI 2 by decide)]
        have g := wb_112' (F := F) (mw := zz (σ 2)) (mb := zz z1) (x := nI 0) (q := q) (q2 := q2) (by omega) (show n ≤ 1000 by omega) hI.2.1 hI.2.2.2.2.2 hI.2.2.1
        rw [GB_id hI.2.1 hI.2.2] at g
        exact g
      · unfold s_R_flush_42
        rw [if_neg (show ¬ (nI 0 : Int32) = nI 2 by decide)]
        obtain ⟨f, rfl⟩ : ∃ q, F = q + 1 := ⟨F - 1, by omega⟩
        unfold s_R_flush_56 s_R_flush_97 s_R_flush_120 s_R_flush_121
        rw [bd_e (cf_size hb), sz_2 h2, if_neg (nI_ge (by omega) (by omega)), if_neg (show ¬ (nI 0 : Int32) = nI 1 by decide), gr_e b rfl hb (by decide), ga_e b rfl hb (by decide), ga_e b rfl hb (by decide), if_neg (show ¬ (nI 0 : Int32) = nI 1 by decide), nI_clamp (by omega), nar0, nar1, zz_up, zz_up]
        show (if nI (σ 6 b) = 0 then _ else _) = _
        by_cases h6 : σ 6 b = 0
        · have := up_id (T := σ 6) (k := b)
          rw [h6] at this
          rw [if_pos (by rw [h6]; rfl), this]
        · have h6' : σ 6 b = 1 := by omega
          have := up_id (T := σ 6) (k := b)
          rw [h6'] at this
          rw [if_neg (fun z => h6 ((nI0 (by omega)).mp z)), this]
  · rw [if_neg h2, if_pos nI_0]
    unfold s_V_writeBack_26
    rw [if_pos rfl]
    have nD : ¬ DB σ b := by
      rintro ⟨b0, z | ⟨j, j1, j2, j3⟩⟩
      · have := (Inw_V7 hI.2.1 b hb (by omega)).1.2; omega
      · rcases (hX j j1).2.1 0 (by omega) with w | w
        · rw [j3] at w; exact absurd w b0
        · rw [j3] at w; have := w.2; omega
    by_cases h0 : b % 12 = 0
    · rw [h0, if_neg (show ¬ (nI 0 : Int32) = nI 1 by decide), if_pos nI_0]
      unfold s_V_writeBack_47
      rw [if_pos nI_0]
      exact ⟨nI 0, cbS σ b, C, S1, S2, S3, q, q2, (cb_Inv hI hb nD).1, Or.inl ⟨by omega, nD, rfl⟩, wb_59 (by omega) hI hb (by omega) nD, fl_42 (by omega) hI hb (by omega) nD⟩
    · have h1 : b % 12 = 1 := by omega
      rw [h1, if_pos rfl]
      unfold s_V_writeBack_47
      rw [if_neg nn1, if_neg (show ¬ (nI 0 : Int32) = nI 1 by decide), if_pos rfl, pk_div (by omega) (by decide) (by decide)]
      have hg : b / 12 < 3 := by omega
      obtain ⟨w1, w2, w3, w4⟩ := tb_Inw hI hg
      obtain ⟨C', eR⟩ := cf_flushTable (F := F) (C := C) hI hg hF
      refine ⟨nI (cn (fun t => heldw σ (30 * (b / 12) + t)) 30), GB (tbS σ (b / 12)), C', S1, S2, S3, q, q2, GB_Inv hn w1 w2 w4, Or.inr (Or.inl ⟨h1, rfl⟩), ?_, ?_⟩
      · rw [bd_e (cf_writeTable hI hg (by omega))]
        exact wb_112' (F := F) (τ := tbS σ (b / 12)) (by omega) (show n ≤ 1000 by omega) w1 w2 w3
      · rw [show 12 * (b / 12) + 1 = b by omega] at eR
        rw [bd_e eR]; rfl
end WB
