-- taking an entry away: class and reference
section LV
variable {n F : Nat} {σ : St} {d c : Nat}
theorem rm_same {σ : St} {q : Nat} : rmS σ q 0 1 = σ 1 := by
  funext m
  show up (σ 1) (5 * (σ 2 q % 32) + 1) (lk (σ 1) (σ 2 q % 32) - 0) m = _
  by_cases e : m = 5 * (σ 2 q % 32) + 1
  · rw [e, up_s]; rfl
  · rw [up_n e]
theorem rm_Ins0 {q : Nat} (hI : Ins σ) : Ins (rmS σ q 0) := by
  refine ⟨?_, hI.2.1, hI.2.2.1, hI.2.2.2⟩
  rw [rm_same]; exact hI.1
theorem cf_takeEntryAway (hF : 100 < F) (hn : n ≤ 512) (h : Inw n σ) (hI : Ins σ) (hd : d < 18) (h2 : kd (σ 1) d = 2) (hp : pt (σ 1) d 0 ≠ 0) (hc : c < 8) (h0 : σ 2 (8 * pt (σ 1) d 0 + c) ≠ 0) (hE : kd (σ 1) (σ 2 (8 * pt (σ 1) d 0 + c) % 32) = 2 → (∀ c', c' < 8 → σ 2 (8 * pt (σ 1) (σ 2 (8 * pt (σ 1) d 0 + c) % 32) 0 + c') = 0) ∨ ∃ p, p ≠ 8 * pt (σ 1) d 0 + c ∧ p < 288 ∧ DB σ (p / 8) ∧ nmM σ (σ 2 (8 * pt (σ 1) d 0 + c) % 32) p) :
    let τ := rmS σ (8 * pt (σ 1) d 0 + c) (if sn σ (8 * pt (σ 1) d 0 + c) = 0 then 1 else 0)
    Inv n (GB τ) ∧ s_V_takeEntryAway F (zz z1) (zz (σ 4)) (zz (σ 5)) (zz (σ 6)) (nI d) (nI c) (zz (σ 0)) (zz (σ 1)) (zz (σ 2)) (zz (σ 7)) (zz (σ 8)) (zz (σ 9)) = some (zz (GB τ 0), zz (GB τ 1), zz (τ 2), zz (τ 7), zz (GB τ 8), zz (GB τ 9)) := by
  intro τ
  have hT := Inw_VT1 h (show n ≤ 1000 by omega)
  have hD := isD_p hT hd (k := 0) (by omega) hp
  have hb := hD.1
  have e8 : (8 * pt (σ 1) d 0 + c) / 8 = pt (σ 1) d 0 := by omega
  have e8' : (8 * pt (σ 1) d 0 + c) % 8 = c := by omega
  have hDB : DB σ ((8 * pt (σ 1) d 0 + c) / 8) := by rw [e8]; exact DBm hd h2 hp
  have hq : 8 * pt (σ 1) d 0 + c < 288 := by omega
  obtain ⟨w1, w2, w3, w4, w5⟩ := rm_Inw (δ := if sn σ (8 * pt (σ 1) d 0 + c) = 0 then 1 else 0) h hI hq hDB h0 rfl hE
  obtain ⟨ok1, ekd, eim, -, -⟩ := Inw_V11 h _ hq hDB h0
  have i0 := ok1.2.2.1
  have i18 := ok1.2.2.2
  have o2 := ok1.2.1
  refine ⟨GB_Inv hn w1 w2 w3, ?_⟩
  have e7 : upd (zz (σ 7)) (nI (pt (σ 1) d 0)).toNatClampNeg (nI (σ 7 (pt (σ 1) d 0)) &&& ((nI 1 <<< (nI c &&& 31)) ^^^ (-1))) = zz (τ 7) := by
    rw [(cb_ok _ ((Inw_V5 h).2.1 _ hb).2.1 c hc).1, nI_clamp (by omega), zz_up]
    show zz (up (σ 7) (pt (σ 1) d 0) _) = zz (up (σ 7) ((8 * pt (σ 1) d 0 + c) / 8) (cb (σ 7 ((8 * pt (σ 1) d 0 + c) / 8)) ((8 * pt (σ 1) d 0 + c) % 8)))
    rw [e8, e8']
  have ew : sdw (σ 2) z1 (8 * pt (σ 1) d 0 + c) = σ 2 (8 * pt (σ 1) d 0 + c) := if_pos rfl
  have hsl : sn σ (8 * pt (σ 1) d 0 + c) < 2 ^ 31 := by
    by_cases z : sn σ (8 * pt (σ 1) d 0 + c) = 0
    · omega
    · have := (Inw_V12 h _ hq hDB z).1.2.1; omega
  unfold s_V_takeEntryAway
  rw [bd_e (cf_pointer hd (by omega)), bd_e (cf_word' hb hc (z1_le _ hb)), ew, bd_e (cf_setWord hb hc), gr_e _ rfl hb (by decide), ga_e _ rfl hb (by decide), bd_e (cf_word' hb hc ((Inw_V5 h).2.1 _ hb).1), ← sn_sdw]
  show (if nI (sn σ (8 * pt (σ 1) d 0 + c)) = 0 then _ else _) = _
  rw [show zz (σ 7) (pt (σ 1) d 0) = nI (σ 7 (pt (σ 1) d 0)) from rfl, e7]
  by_cases hs : sn σ (8 * pt (σ 1) d 0 + c) = 0
  · have hτ : τ = rmS σ (8 * pt (σ 1) d 0 + c) 1 := by show rmS _ _ (if _ then _ else _) = _; rw [if_pos hs]
    have hl := hI.1 _ i0 i18 ekd
    have hlb := (hT _ i18).2.1
    rw [if_pos (by rw [hs]; rfl), pk_rem (by omega) (by decide) (by decide), bd_e (cf_lowerLinks i0 i18 hl hlb)]
    have eL : (if lk (σ 1) (σ 2 (8 * pt (σ 1) d 0 + c) % 32) = 1 then up (σ 9) (σ 2 (8 * pt (σ 1) d 0 + c) % 32) 1 else σ 9) = fun j => pif (0 < j ∧ j < 18 ∧ kd (τ 1) j ≠ 0 ∧ lk (τ 1) j = 0) 1 (τ 9 j) := by
      funext j
      rw [hτ, rm_kd, rm_lk]
      show _ = pif _ 1 (σ 9 j)
      by_cases e : j = σ 2 (8 * pt (σ 1) d 0 + c) % 32
      · rw [if_pos e]
        by_cases e1 : lk (σ 1) (σ 2 (8 * pt (σ 1) d 0 + c) % 32) = 1
        · rw [if_pos e1, ← e, up_s, pif_t]
          rw [← e] at e1 i0 i18 ekd
          exact ⟨i0, i18, ekd, by omega⟩
        · rw [if_neg e1, pif_f]
          rintro ⟨_, _, _, z⟩; rw [← e] at e1 hl; omega
      · rw [if_neg e, pif_f]
        · by_cases e1 : lk (σ 1) (σ 2 (8 * pt (σ 1) d 0 + c) % 32) = 1
          · rw [if_pos e1, up_n e]
          · rw [if_neg e1]
        · rintro ⟨a, b, c', z⟩; have := hI.1 j a b c'; omega
    rw [eL]
    have g := cf_giveBack (Fu := F) hF (show n ≤ 1000 by omega) w1 w2
    show bd (s_V_giveBack F (zz (σ 4)) (zz (σ 5)) (zz (σ 6)) (zz (σ 0)) (zz (up (σ 1) (5 * (σ 2 (8 * pt (σ 1) d 0 + c) % 32) + 1) (lk (σ 1) (σ 2 (8 * pt (σ 1) d 0 + c) % 32) - 1))) (zz (σ 8)) _) _ = _
    have e1 : up (σ 1) (5 * (σ 2 (8 * pt (σ 1) d 0 + c) % 32) + 1) (lk (σ 1) (σ 2 (8 * pt (σ 1) d 0 + c) % 32) - 1) = τ 1 := by rw [hτ]; rfl
    rw [e1]
    have g' : s_V_giveBack F (zz (σ 4)) (zz (σ 5)) (zz (σ 6)) (zz (σ 0)) (zz (τ 1)) (zz (σ 8)) (zz (fun j => pif (0 < j ∧ j < 18 ∧ kd (τ 1) j ≠ 0 ∧ lk (τ 1) j = 0) 1 (τ 9 j))) = some (zz (GB τ 0), zz (GB τ 1), zz (GB τ 8), zz (GB τ 9)) := g
    rw [bd_e g']
    rfl
  · have hτ : τ = rmS σ (8 * pt (σ 1) d 0 + c) 0 := by show rmS _ _ (if _ then _ else _) = _; rw [if_neg hs]
    have hid : GB τ = τ := GB_id w1 (by have := rm_Ins0 (q := 8 * pt (σ 1) d 0 + c) hI; rw [← hτ] at this; exact this)
    rw [if_neg (fun z => hs ((nI0 hsl).mp z)), hid]
    have e1 : τ 1 = σ 1 := by rw [hτ]; exact rm_same
    rw [e1]
    rfl
-- the reference
theorem rm_rT {J : Nat → Prop} {lf : Nat → Nat} {q δ : Nat} : rT (rmS σ q δ) J lf = rT σ J lf := by
  funext m
  unfold rT
  by_cases e : m % 5 = 1
  · rw [if_pos e, if_pos e]
  · rw [if_neg e, if_neg e]
    have : rmS σ q δ 1 m = σ 1 m := by show up _ _ _ m = _; rw [up_n (by omega)]
    rw [this]
theorem rm_app8 {J : Nat → Prop} {q δ : Nat} : app (rmS σ q δ) J (fun _ => False) (fun _ => False) 8 = app σ J (fun _ => False) (fun _ => False) 8 := by
  funext b
  show pif False 0 (pif (b ≠ 0 ∧ ∃ i k, i < 18 ∧ k < 3 ∧ J i ∧ kd (rmS σ q δ 1) i = 2 ∧ pt (rmS σ q δ 1) i k = b) 2 (pif (b ≠ 0 ∧ ∃ i k, i < 18 ∧ k < 3 ∧ J i ∧ pt (rmS σ q δ 1) i k = b) 1 (σ 8 b))) = pif False 0 (pif (b ≠ 0 ∧ ∃ i k, i < 18 ∧ k < 3 ∧ J i ∧ kd (σ 1) i = 2 ∧ pt (σ 1) i k = b) 2 (pif (b ≠ 0 ∧ ∃ i k, i < 18 ∧ k < 3 ∧ J i ∧ pt (σ 1) i k = b) 1 (σ 8 b)))
  rw [pif_f (fun z => z), pif_f (fun z => z), pif_congr (P := b ≠ 0 ∧ ∃ i k, i < 18 ∧ k < 3 ∧ J i ∧ kd (rmS σ q δ 1) i = 2 ∧ pt (rmS σ q δ 1) i k = b) (Q := b ≠ 0 ∧ ∃ i k, i < 18 ∧ k < 3 ∧ J i ∧ kd (σ 1) i = 2 ∧ pt (σ 1) i k = b) ⟨fun ⟨a, i, k, a1, a2, a3, a4, a5⟩ => ⟨a, i, k, a1, a2, a3, by rw [rm_kd] at a4; exact a4, by rw [rm_pt a2] at a5; exact a5⟩, fun ⟨a, i, k, a1, a2, a3, a4, a5⟩ => ⟨a, i, k, a1, a2, a3, by rw [rm_kd]; exact a4, by rw [rm_pt a2]; exact a5⟩⟩]
  congr 1
  exact pif_congr ⟨fun ⟨a, i, k, a1, a2, a3, a5⟩ => ⟨a, i, k, a1, a2, a3, by rw [rm_pt a2] at a5; exact a5⟩, fun ⟨a, i, k, a1, a2, a3, a5⟩ => ⟨a, i, k, a1, a2, a3, by rw [rm_pt a2]; exact a5⟩⟩
theorem rm_cw {q δ j : Nat} (hj : j < 18) : owd σ j ≤ cw (rmS σ q δ) (fun _ => False) j := by
  rw [owd_cw hj]
  refine cn_mono (fun p _ ⟨a, b, c, d⟩ => ⟨a, rm_DB.mpr b, ?_, d⟩)
  rw [rm_w]; split
  · rfl
  · exact c
end LV
