section SCC
variable {p : Program} {l : Launch} {e : Env} {R : Room} {s : State} {m : MethodId} {args : Array Value} {below : List Frame} {meth : Method} {c : Code} {Q : State → Prop} {cc : ByteArray} {nL : Nat} {o : Cond} {own : String} {D : va_G} {cI cZ : ClassId} {A : Nat → Prop} {H : Heap} {locs : List Loc} {pc : Nat} {ls : Array Slot} {lv : List (Nat × Value)}
variable {cells slots : Nat}
theorem wk_behindiC {ws wc wr w1 wz : va_W} {st0 rest : List Value} {a : Array Value} {r : Int32}
    (hr : va_Run p l e R s m args below meth c H locs cells slots 0 0 (F0 m pc ls st0) rest (va_Qi (fun (r' : Int32) (_ : Unit) => r' = r) (sc_B D cI cZ w1 (va_A wc H.size)) (va_A wc H.size) a) (va_A wc H.size))
    (hP : va_P D clA ws H) (hD : va_D A ws) (hS : va_S A s.heap H locs) (hA : ∀ q : Nat, s.heap.size ≤ q → A q) (isC isR isZ : List Nat) (hC : isC.map (fun i => ws[i]?) = wc.map some) (hR : isR.map (fun i => ws[i]?) = wr.map some) (hn : va_nd isR = true) (hdis : ∀ i ∈ isR, i ∉ isC) (hnz : va_nd isZ = true) (hZ : isZ.map (fun i => (wr ++ w1)[i]?) = wz.map some) (hZ2 : isZ.filterMap (fun i => (wr ++ w1)[i]?) = wz)
    (kk : ∀ (H : Heap) (locs : List Loc), va_P D clA wz H → va_D A wz → va_S A s.heap H locs → W p l e R s m args below meth c H locs cells slots Q (F0 m (pc + 3) ls (.int r :: rest))) : W p l e R s m args below meth c H locs cells slots Q (F0 m pc ls st0) := by
  have hFc := va_free (wc := wc) hD hS hA isC hC
  refine va_calli hr hS (fun q _ h => hFc q h) hFc (fun r' u t H1 locs1 ht hvm hw hB hz1 hk1 hS1 => ?_)
  obtain ⟨hP1, hK1, hD1⟩ := hB
  rw [ht] at hP1
  subst hw
  obtain ⟨hP2, hD2⟩ := va_join hP hD isC isR hC hR hn hdis hk1 hFc hP1 hD1
  exact kk H1 locs1 (hP2.sub isZ hZ2) (hD2.sub isZ hnz hZ) hS1

theorem wk_behindvC {ws wc wr w1 wz : va_W} {st0 rest : List Value} {a : Array Value}
    (hr : va_Run p l e R s m args below meth c H locs cells slots 0 0 (F0 m pc ls st0) rest (va_Qv (fun (_ : Unit) => True) (sc_B D cI cZ w1 (va_A wc H.size)) (va_A wc H.size) a) (va_A wc H.size))
    (hP : va_P D clA ws H) (hD : va_D A ws) (hS : va_S A s.heap H locs) (hA : ∀ q : Nat, s.heap.size ≤ q → A q) (isC isR isZ : List Nat) (hC : isC.map (fun i => ws[i]?) = wc.map some) (hR : isR.map (fun i => ws[i]?) = wr.map some) (hn : va_nd isR = true) (hdis : ∀ i ∈ isR, i ∉ isC) (hnz : va_nd isZ = true) (hZ : isZ.map (fun i => (wr ++ w1)[i]?) = wz.map some) (hZ2 : isZ.filterMap (fun i => (wr ++ w1)[i]?) = wz)
    (kk : ∀ (H : Heap) (locs : List Loc), va_P D clA wz H → va_D A wz → va_S A s.heap H locs → W p l e R s m args below meth c H locs cells slots Q (F0 m (pc + 3) ls rest)) : W p l e R s m args below meth c H locs cells slots Q (F0 m pc ls st0) := by
  have hFc := va_free (wc := wc) hD hS hA isC hC
  refine va_callv hr hS (fun q _ h => hFc q h) hFc (fun u t H1 locs1 ht hvm hw hB hz1 hk1 hS1 => ?_)
  obtain ⟨hP1, hK1, hD1⟩ := hB
  rw [ht] at hP1
  obtain ⟨hP2, hD2⟩ := va_join hP hD isC isR hC hR hn hdis hk1 hFc hP1 hD1
  exact kk H1 locs1 (hP2.sub isZ hZ2) (hD2.sub isZ hnz hZ) hS1

theorem wk_ViC {C : String} {ix maxL n : Nat} {y : MethodName} {bytes : ByteArray} {ret : Option FieldType} {rm : Room} {ws wc wr w1 wz : va_W} {b : Nat} {As rest st0 : List Value} {r : Int32} {q : vw_C} {fs : List Value}
    (cf : CallFix p m c cc nL s args (o :: wA) own) (hcs : cells ≤ R.cells ∧ slots ≤ R.slots) (hK : va_K D clA (tyA cI cZ) s) (hN : nw_all s) (hA : ∀ q : Nat, s.heap.size ≤ q → A q) (hM : sc_i l y (Cond.code y bytes maxL ret :: wA) rm D cI cZ (.ref b :: As) wc w1 r) (hw : cw_V own ix C y bytes maxL ret n) (hrm : rm.cells = 0 ∧ rm.slots = 0 ∧ rm.frames + 1 ≤ R.frames ∧ 8 + (maxL + 11) + rm.locals ≤ R.locals)
    (ci : Nat) (hcl : clA[ci]? = some q) (hq : q.1 = C) (hrec : wc[0]? = some (b, .inr (ci, fs))) (hl : lv_has ls nL lv) (hP : va_P D clA ws H) (hD : va_D A ws) (hS : va_S A s.heap H locs) (isC isR isZ : List Nat) (hC : isC.map (fun i => ws[i]?) = wc.map some) (hR : isR.map (fun i => ws[i]?) = wr.map some) (hn : va_nd isR = true) (hdis : ∀ i ∈ isR, i ∉ isC) (hnz : va_nd isZ = true) (hZ : isZ.map (fun i => (wr ++ w1)[i]?) = wz.map some) (hZ2 : isZ.filterMap (fun i => (wr ++ w1)[i]?) = wz)
    (hnc : va_nd isC = true) (hAs : As.length = n) (hroom : (rest.map fun v => v.category).sum ≤ 8) (hst : st0 = As.reverse ++ .ref b :: rest) (hdg : decode cc pc = .ok (.invokevirtual ix, 3))
    (kk : ∀ (H : Heap) (locs : List Loc), va_P D clA wz H → va_D A wz → va_S A s.heap H locs → W p l e R s m args below meth c H locs cells slots Q (F0 m (pc + 3) ls (.int r :: rest))) : W p l e R s m args below meth c H locs cells slots Q (F0 m pc ls st0) := by
  have ht : ∀ w ∈ wA, w.before args s = true := fun w h => cf.2.2.2.2 w (List.mem_cons_of_mem _ h)
  obtain ⟨w1c, w2, w3, w4, w5, w6, w7, w8, w9⟩ := hw
  have hDc := hD.sub isC hnc hC
  have hPc : va_P D clA wc H := wk_subP hP isC hC
  exact wk_behindiC (va_runV (As := As) (rest := rest) (C := C) cf (hM H.size) ⟨callB_of n ht (wA_in w1c) rfl hrm.1 hrm.2.1 (ht _ w5) (ht _ w2) ⟨w7, w8, w9⟩ hrm.2.2, ht _ w3, ht _ w4⟩ ⟨sc_blind, by subst hq; exact va_recv hK hPc hcl hrec, sc_pre hK hN hPc hDc⟩ rfl hAs hl.1 hst (lv_room hroom) hdg hcs) hP hD hS hA isC isR isZ hC hR hn hdis hnz hZ hZ2 kk

theorem wk_VvC {C : String} {ix maxL n : Nat} {y : MethodName} {bytes : ByteArray} {ret : Option FieldType} {rm : Room} {ws wc wr w1 wz : va_W} {b : Nat} {As rest st0 : List Value} {q : vw_C} {fs : List Value}
    (cf : CallFix p m c cc nL s args (o :: wA) own) (hcs : cells ≤ R.cells ∧ slots ≤ R.slots) (hK : va_K D clA (tyA cI cZ) s) (hN : nw_all s) (hA : ∀ q : Nat, s.heap.size ≤ q → A q) (hM : sc_v l y (Cond.code y bytes maxL ret :: wA) rm D cI cZ (.ref b :: As) wc w1) (hw : cw_V own ix C y bytes maxL ret n) (hrm : rm.cells = 0 ∧ rm.slots = 0 ∧ rm.frames + 1 ≤ R.frames ∧ 8 + (maxL + 11) + rm.locals ≤ R.locals)
    (ci : Nat) (hcl : clA[ci]? = some q) (hq : q.1 = C) (hrec : wc[0]? = some (b, .inr (ci, fs))) (hl : lv_has ls nL lv) (hP : va_P D clA ws H) (hD : va_D A ws) (hS : va_S A s.heap H locs) (isC isR isZ : List Nat) (hC : isC.map (fun i => ws[i]?) = wc.map some) (hR : isR.map (fun i => ws[i]?) = wr.map some) (hn : va_nd isR = true) (hdis : ∀ i ∈ isR, i ∉ isC) (hnz : va_nd isZ = true) (hZ : isZ.map (fun i => (wr ++ w1)[i]?) = wz.map some) (hZ2 : isZ.filterMap (fun i => (wr ++ w1)[i]?) = wz)
    (hnc : va_nd isC = true) (hAs : As.length = n) (hroom : (rest.map fun v => v.category).sum ≤ 8) (hst : st0 = As.reverse ++ .ref b :: rest) (hdg : decode cc pc = .ok (.invokevirtual ix, 3))
    (kk : ∀ (H : Heap) (locs : List Loc), va_P D clA wz H → va_D A wz → va_S A s.heap H locs → W p l e R s m args below meth c H locs cells slots Q (F0 m (pc + 3) ls rest)) : W p l e R s m args below meth c H locs cells slots Q (F0 m pc ls st0) := by
  have ht : ∀ w ∈ wA, w.before args s = true := fun w h => cf.2.2.2.2 w (List.mem_cons_of_mem _ h)
  obtain ⟨w1c, w2, w3, w4, w5, w6, w7, w8, w9⟩ := hw
  have hDc := hD.sub isC hnc hC
  have hPc : va_P D clA wc H := wk_subP hP isC hC
  exact wk_behindvC (va_runV (As := As) (rest := rest) (C := C) cf (hM H.size) ⟨callB_of n ht (wA_in w1c) rfl hrm.1 hrm.2.1 (ht _ w5) (ht _ w2) ⟨w7, w8, w9⟩ hrm.2.2, ht _ w3, ht _ w4⟩ ⟨sc_blind, by subst hq; exact va_recv hK hPc hcl hrec, sc_pre hK hN hPc hDc⟩ rfl hAs hl.1 hst (lv_room hroom) hdg hcs) hP hD hS hA isC isR isZ hC hR hn hdis hnz hZ hZ2 kk

theorem wk_SiC {ix maxL n : Nat} {y : MethodName} {bytes : ByteArray} {ret : Option FieldType} {rm : Room} {ws wc wr w1 wz : va_W} {As rest st0 : List Value} {r : Int32}
    (cf : CallFix p m c cc nL s args (o :: wA) own) (hcs : cells ≤ R.cells ∧ slots ≤ R.slots) (hK : va_K D clA (tyA cI cZ) s) (hN : nw_all s) (hA : ∀ q : Nat, s.heap.size ≤ q → A q) (hM : sc_i l y (Cond.code y bytes maxL ret :: wA) rm D cI cZ As wc w1 r) (hw : cw_S own ix y bytes maxL ret n) (hrm : rm.cells = 0 ∧ rm.slots = 0 ∧ rm.frames + 1 ≤ R.frames ∧ 8 + (maxL + 11) + rm.locals ≤ R.locals)
    (hl : lv_has ls nL lv) (hP : va_P D clA ws H) (hD : va_D A ws) (hS : va_S A s.heap H locs) (isC isR isZ : List Nat) (hC : isC.map (fun i => ws[i]?) = wc.map some) (hR : isR.map (fun i => ws[i]?) = wr.map some) (hn : va_nd isR = true) (hdis : ∀ i ∈ isR, i ∉ isC) (hnz : va_nd isZ = true) (hZ : isZ.map (fun i => (wr ++ w1)[i]?) = wz.map some) (hZ2 : isZ.filterMap (fun i => (wr ++ w1)[i]?) = wz)
    (hnc : va_nd isC = true) (hAs : As.length = n) (hroom : (rest.map fun v => v.category).sum ≤ 8) (hst : st0 = As.reverse ++ rest) (hdg : decode cc pc = .ok (.invokestatic ix, 3))
    (kk : ∀ (H : Heap) (locs : List Loc), va_P D clA wz H → va_D A wz → va_S A s.heap H locs → W p l e R s m args below meth c H locs cells slots Q (F0 m (pc + 3) ls (.int r :: rest))) : W p l e R s m args below meth c H locs cells slots Q (F0 m pc ls st0) := by
  have ht : ∀ w ∈ wA, w.before args s = true := fun w h => cf.2.2.2.2 w (List.mem_cons_of_mem _ h)
  obtain ⟨w1c, w2, w3, w4, w5, w6, w7⟩ := hw
  have hDc := hD.sub isC hnc hC
  have hPc : va_P D clA wc H := wk_subP hP isC hC
  exact wk_behindiC (va_runS (As := As) (rest := rest) cf (hM H.size) ⟨callB_of n ht (wA_in w1c) rfl hrm.1 hrm.2.1 (ht _ w4) (ht _ w2) ⟨w5, w6, w7⟩ hrm.2.2, ht _ w3⟩ ⟨sc_blind, sc_pre hK hN hPc hDc⟩ rfl hAs hl.1 hst (lv_room hroom) hdg hcs) hP hD hS hA isC isR isZ hC hR hn hdis hnz hZ hZ2 kk

end SCC
theorem cA_I {D : va_G} {cl : List vw_C} {cI cZ cA : ClassId} {s : State} (h : va_K D cl (tyA cI cZ ++ [(cA, .int)]) s) : cI = cA :=
  Option.some.inj ((h.2 0 (cI, .int) rfl).2.symm.trans (h.2 2 (cA, .int) rfl).2)
theorem cA_Z {D : va_G} {cl : List vw_C} {cI cZ cA : ClassId} {s : State} (h : va_K D cl (tyA cI cZ ++ [(cA, .boolean)]) s) : cZ = cA :=
  Option.some.inj ((h.2 1 (cZ, .boolean) rfl).2.symm.trans (h.2 2 (cA, .boolean) rfl).2)
abbrev z0 : Nat → Int32 := fun _ => 0
theorem ar_int : Cond.arrayClass .int ∈ wA := wA_t 54 (by decide +kernel) (by decide +kernel)
theorem ar_bool : Cond.arrayClass .boolean ∈ wA := wA_t 55 (by decide +kernel) (by decide +kernel)
theorem oi_i : Cond.instanceMethod objectInit ∈ wA := wA_t 10 (by decide +kernel) (by decide +kernel)
theorem oi_c : Cond.code objectInit ⟨#[0xb1]⟩ 1 none ∈ wA := wA_t 11 (by decide +kernel) (by decide +kernel)
-- a constructor's contract: from an object with nothing in it to a world with these cells
abbrev sc_Bc (D : va_G) (cI cZ : ClassId) (V : va_W → Prop) (A : Nat → Prop) : Unit → State → Prop :=
  fun _ t => ∃ w1 : va_W, V w1 ∧ va_P D clA w1 t.heap ∧ va_K D clA (tyA cI cZ) t ∧ va_D A w1
def sc_c (l : Launch) (y : MethodName) (ws : List Cond) (rm : Room) (D : va_G) (cI cZ : ClassId) (av : List Value) (wc : va_W) (V : va_W → Prop) (mc ms : Nat) : Prop :=
  ∀ sz : Nat, Met l y ws rm (sc_P D cI cZ av wc sz) (va_Qv (fun (_ : Unit) => True) (sc_Bc D cI cZ V (va_A wc sz)) (va_A wc sz)) mc ms (va_A wc sz)
abbrev sc_Qc (below : List Frame) (args : Array Value) (s : State) (D : va_G) (cI cZ : ClassId) (A : Nat → Prop) (V : va_W → Prop) (mc ms : Nat) : State → Prop :=
  MQ below (va_Qv (fun (_ : Unit) => True) (sc_Bc D cI cZ V A) A) args s mc ms A
theorem sc_c_of {l : Launch} {y : MethodName} {rm : Room} {cc : ByteArray} {maxL : Nat} {D : va_G} {cI cZ : ClassId} {av : List Value} {wc : va_W} {V : va_W → Prop} {mc ms : Nat} {o : Cond} (hy : plainName y.cls = true) (hw : o = Cond.code y cc maxL none) (hlen : (lg_sl av).length ≤ maxL)
    (body : ∀ (p : Program) (e : Env) (s : State) (m : MethodId) (below : List Frame) (meth : Method) (c : Code) (A : Nat → Prop), CallFix p m c cc maxL s av.toArray (o :: wA) y.cls → meth.sig.returnType = none → meth.locks = false → meth.name = y.name → va_K D clA (tyA cI cZ) s → nw_all s → (∀ q : Nat, s.heap.size ≤ q → A q) → ∀ ls : Array Slot, lv_has ls maxL (lv_args 0 av) → va_P D clA wc s.heap → va_D A wc →
      W p l e rm s m av.toArray below meth c s.heap [] 0 0 (sc_Qc below av.toArray s D cI cZ A V mc ms) (F0 m 0 ls [])) : sc_c l y (o :: wA) rm D cI cZ av wc V mc ms := by
  intro sz
  refine Met.ofW (cc := cc) (maxL := maxL) (ret := none) hy (by rw [hw]) ?_
  intro p e s m args below meth c s₁ B hml hv
  obtain ⟨rfl, hsz, hP, hK, hD0, hN⟩ := hv
  subst hsz
  have hD := hD0.self (sz := s.heap.size)
  have hA : ∀ q : Nat, s.heap.size ≤ q → va_A wc s.heap.size q := fun q h => Or.inr h
  have hl := lv_entry av (n := maxL) hlen
  rw [lg_entry_eq]
  exact body p e s m below meth c _ ⟨B.exec, B.bytes, hml, findClass_of_methodNamed B.named, atoms_spec B.pre⟩ B.returns B.notSynchronized (name_of_methodNamed B.named B.method).1 hK hN hA _ hl hP hD
abbrev b_S_init : ByteArray := prog_2_method_1_code
abbrev y_S_init : MethodName := ⟨"OrderedVolume$Store", "<init>", "()V"⟩
abbrev o_S_init : Cond := .code y_S_init b_S_init 1 none
abbrev rm_S_init : Room := { frames := 1, cells := 5, slots := 480, locals := 23 }
theorem d_S_init_0 : decode b_S_init 0 = .ok (.aload_n 0, 1) := by decide +kernel
theorem d_S_init_1 : decode b_S_init 1 = .ok (.invokespecial 3, 3) := by decide +kernel
theorem d_S_init_4 : decode b_S_init 4 = .ok (.aload_n 0, 1) := by decide +kernel
theorem d_S_init_5 : decode b_S_init 5 = .ok (.bipush 48, 2) := by decide +kernel
theorem d_S_init_7 : decode b_S_init 7 = .ok (.newarray .int, 2) := by decide +kernel
theorem d_S_init_9 : decode b_S_init 9 = .ok (.putfield 9, 3) := by decide +kernel
theorem d_S_init_12 : decode b_S_init 12 = .ok (.aload_n 0, 1) := by decide +kernel
theorem d_S_init_13 : decode b_S_init 13 = .ok (.bipush 90, 2) := by decide +kernel
theorem d_S_init_15 : decode b_S_init 15 = .ok (.newarray .int, 2) := by decide +kernel
theorem d_S_init_17 : decode b_S_init 17 = .ok (.putfield 15, 3) := by decide +kernel
theorem d_S_init_20 : decode b_S_init 20 = .ok (.aload_n 0, 1) := by decide +kernel
theorem d_S_init_21 : decode b_S_init 21 = .ok (.sipush 288, 3) := by decide +kernel
theorem d_S_init_24 : decode b_S_init 24 = .ok (.newarray .int, 2) := by decide +kernel
theorem d_S_init_26 : decode b_S_init 26 = .ok (.putfield 18, 3) := by decide +kernel
theorem d_S_init_29 : decode b_S_init 29 = .ok (.aload_n 0, 1) := by decide +kernel
theorem d_S_init_30 : decode b_S_init 30 = .ok (.bipush 36, 2) := by decide +kernel
theorem d_S_init_32 : decode b_S_init 32 = .ok (.newarray .boolean, 2) := by decide +kernel
theorem d_S_init_34 : decode b_S_init 34 = .ok (.putfield 21, 3) := by decide +kernel
theorem d_S_init_37 : decode b_S_init 37 = .ok (.aload_n 0, 1) := by decide +kernel
theorem d_S_init_38 : decode b_S_init 38 = .ok (.bipush 18, 2) := by decide +kernel
theorem d_S_init_40 : decode b_S_init 40 = .ok (.newarray .int, 2) := by decide +kernel
theorem d_S_init_42 : decode b_S_init 42 = .ok (.putfield 25, 3) := by decide +kernel
theorem d_S_init_45 : decode b_S_init 45 = .ok (.aload_n 0, 1) := by decide +kernel
theorem d_S_init_46 : decode b_S_init 46 = .ok (.iconst 0, 1) := by decide +kernel
theorem d_S_init_47 : decode b_S_init 47 = .ok (.iconst 1, 1) := by decide +kernel
theorem d_S_init_48 : decode b_S_init 48 = .ok (.invokevirtual 28, 3) := by decide +kernel
theorem d_S_init_51 : decode b_S_init 51 = .ok (.aload_n 0, 1) := by decide +kernel
theorem d_S_init_52 : decode b_S_init 52 = .ok (.iconst 2, 1) := by decide +kernel
theorem d_S_init_53 : decode b_S_init 53 = .ok (.iconst 1, 1) := by decide +kernel
theorem d_S_init_54 : decode b_S_init 54 = .ok (.invokevirtual 32, 3) := by decide +kernel
theorem d_S_init_57 : decode b_S_init 57 = .ok (.aload_n 0, 1) := by decide +kernel
theorem d_S_init_58 : decode b_S_init 58 = .ok (.iconst 0, 1) := by decide +kernel
theorem d_S_init_59 : decode b_S_init 59 = .ok (.iconst 2, 1) := by decide +kernel
theorem d_S_init_60 : decode b_S_init 60 = .ok (.invokevirtual 35, 3) := by decide +kernel
theorem d_S_init_63 : decode b_S_init 63 = .ok (.aload_n 0, 1) := by decide +kernel
theorem d_S_init_64 : decode b_S_init 64 = .ok (.iconst 0, 1) := by decide +kernel
theorem d_S_init_65 : decode b_S_init 65 = .ok (.iconst 1, 1) := by decide +kernel
theorem d_S_init_66 : decode b_S_init 66 = .ok (.invokevirtual 38, 3) := by decide +kernel
theorem d_S_init_69 : decode b_S_init 69 = .ok (.aload_n 0, 1) := by decide +kernel
theorem d_S_init_70 : decode b_S_init 70 = .ok (.iconst 0, 1) := by decide +kernel
theorem d_S_init_71 : decode b_S_init 71 = .ok (.iconst 0, 1) := by decide +kernel
theorem d_S_init_72 : decode b_S_init 72 = .ok (.iconst 2, 1) := by decide +kernel
theorem d_S_init_73 : decode b_S_init 73 = .ok (.invokevirtual 41, 3) := by decide +kernel
theorem d_S_init_76 : decode b_S_init 76 = .ok (.return_, 1) := by decide +kernel
set_option maxHeartbeats 4000000 in
set_option maxRecDepth 100000 in
theorem c_S_init (l : Launch) (D : va_G) (cI cZ : ClassId) (h0 : Nat) : sc_c l y_S_init (o_S_init :: wA) rm_S_init D cI cZ [.ref h0] [(h0, .inr (0, [.null, .null, .null, .null, .null]))] (fun w => ∃ a1 a2 a3 a4 a5, w = w_S cI cZ h0 a1 a2 a3 a4 a5 (upd (upd z0 0 (nI 1)) 6 (nI 1)) (upd (upd (upd z0 0 (nI 2)) 1 (nI 1)) 2 (nI 2)) z0 z0 z0) 5 480 := by
  refine sc_c_of (cc := b_S_init) (maxL := 1) (by decide) rfl (Nat.le_of_ble_eq_true rfl) ?_
  intro p e s m below meth c A cf hr hlk hin hK hN hA ls hl hP hD
  have hx := cf.1
  have hb := cf.2.1
  have hml := cf.2.2.1
  have hown := cf.2.2.2.1
  have ht : ∀ w ∈ wA, w.before _ s = true := fun w h => cf.2.2.2.2 w (List.mem_cons_of_mem _ h)
  have hl : lv_has ls 1 [(0, .ref h0)] := hl
  have hS : va_S A s.heap s.heap [] := va_S.rf
  refine lv_aload_n hx hb d_S_init_0 rfl (lv_at hl 0 rfl) ?_
  refine W.objInit hx hb hown (ht (.methodLink "OrderedVolume$Store" 3 objectInit) (wA_t 17 (by decide +kernel) (by decide +kernel))) (ht _ oi_i) (ht _ oi_c) rfl (by rw [hml]; exact hl.1) rfl d_S_init_1 (Nat.le_of_ble_eq_true rfl) (Nat.le_of_ble_eq_true rfl) ?_
  refine W.eq (g2 := F0 m 4 ls []) rfl ?_
  refine lv_aload_n hx hb d_S_init_4 rfl (lv_at hl 0 rfl) ?_
  refine lv_bipush (v := (nI 48)) hx hb d_S_init_5 (by decide) ?_
  refine va_newa (atype := .int) (a0 := (48, .inl z0)) (ty := .int) hx hb (ht _ ar_int) rfl hK hP hD hS hA (fun _ => rfl) (by decide) (by decide) (by decide) (by decide) (by decide) d_S_init_7 (fun q7 cA H hK9 hP hD hS => ?_)
  have e9 := cA_I hK9
  subst e9
  have hP : va_P D clA [(h0, .inr (0, [.null, .null, .null, .null, .null])), (q7, .inl (cI, 48, .inl z0))] H := hP
  have hD : va_D A [(h0, .inr (0, [.null, .null, .null, .null, .null])), (q7, .inl (cI, 48, .inl z0))] := hD
  refine W.widen (k := 1) (n := 48) (by decide) (by decide) ?_
  refine va_putF (D := D) (ci := 0) (v := .ref q7) (ty := .array .int) (C := R_S) (T := F_S) (N := 5) hx hb ht in_S t_S t_S_ok n_S hown hK hP hD hS 0 rfl rfl 0 (by decide) (ht _ f_S_9) (fun _ h9 => h9) rfl hin rfl (by decide +kernel) rfl rfl (Nat.le_of_ble_eq_true rfl) d_S_init_9 (fun H locs hP hD hS => ?_)
  have hP : va_P D clA [(h0, .inr (0, [.ref q7, .null, .null, .null, .null])), (q7, .inl (cI, 48, .inl z0))] H := hP
  have hD : va_D A [(h0, .inr (0, [.ref q7, .null, .null, .null, .null])), (q7, .inl (cI, 48, .inl z0))] := hD
  refine lv_aload_n hx hb d_S_init_12 rfl (lv_at hl 0 rfl) ?_
  refine lv_bipush (v := (nI 90)) hx hb d_S_init_13 (by decide) ?_
  refine va_newa (atype := .int) (a0 := (90, .inl z0)) (ty := .int) hx hb (ht _ ar_int) rfl hK hP hD hS hA (fun _ => rfl) (by decide) (by decide) (by decide) (by decide) (by decide) d_S_init_15 (fun q15 cA H hK9 hP hD hS => ?_)
  have e9 := cA_I hK9
  subst e9
  have hP : va_P D clA [(h0, .inr (0, [.ref q7, .null, .null, .null, .null])), (q7, .inl (cI, 48, .inl z0)), (q15, .inl (cI, 90, .inl z0))] H := hP
  have hD : va_D A [(h0, .inr (0, [.ref q7, .null, .null, .null, .null])), (q7, .inl (cI, 48, .inl z0)), (q15, .inl (cI, 90, .inl z0))] := hD
  refine W.widen (k := 2) (n := 138) (by decide) (by decide) ?_
  refine va_putF (D := D) (ci := 0) (v := .ref q15) (ty := .array .int) (C := R_S) (T := F_S) (N := 5) hx hb ht in_S t_S t_S_ok n_S hown hK hP hD hS 0 rfl rfl 1 (by decide) (ht _ f_S_15) (fun _ h9 => h9) rfl hin rfl (by decide +kernel) rfl rfl (Nat.le_of_ble_eq_true rfl) d_S_init_17 (fun H locs hP hD hS => ?_)
  have hP : va_P D clA [(h0, .inr (0, [.ref q7, .ref q15, .null, .null, .null])), (q7, .inl (cI, 48, .inl z0)), (q15, .inl (cI, 90, .inl z0))] H := hP
  have hD : va_D A [(h0, .inr (0, [.ref q7, .ref q15, .null, .null, .null])), (q7, .inl (cI, 48, .inl z0)), (q15, .inl (cI, 90, .inl z0))] := hD
  refine lv_aload_n hx hb d_S_init_20 rfl (lv_at hl 0 rfl) ?_
  refine lv_sipush (v := (nI 288)) hx hb d_S_init_21 (by decide) ?_
  refine va_newa (atype := .int) (a0 := (288, .inl z0)) (ty := .int) hx hb (ht _ ar_int) rfl hK hP hD hS hA (fun _ => rfl) (by decide) (by decide) (by decide) (by decide) (by decide) d_S_init_24 (fun q24 cA H hK9 hP hD hS => ?_)
  have e9 := cA_I hK9
  subst e9
  have hP : va_P D clA [(h0, .inr (0, [.ref q7, .ref q15, .null, .null, .null])), (q7, .inl (cI, 48, .inl z0)), (q15, .inl (cI, 90, .inl z0)), (q24, .inl (cI, 288, .inl z0))] H := hP
  have hD : va_D A [(h0, .inr (0, [.ref q7, .ref q15, .null, .null, .null])), (q7, .inl (cI, 48, .inl z0)), (q15, .inl (cI, 90, .inl z0)), (q24, .inl (cI, 288, .inl z0))] := hD
  refine W.widen (k := 3) (n := 426) (by decide) (by decide) ?_
  refine va_putF (D := D) (ci := 0) (v := .ref q24) (ty := .array .int) (C := R_S) (T := F_S) (N := 5) hx hb ht in_S t_S t_S_ok n_S hown hK hP hD hS 0 rfl rfl 2 (by decide) (ht _ f_S_18) (fun _ h9 => h9) rfl hin rfl (by decide +kernel) rfl rfl (Nat.le_of_ble_eq_true rfl) d_S_init_26 (fun H locs hP hD hS => ?_)
  have hP : va_P D clA [(h0, .inr (0, [.ref q7, .ref q15, .ref q24, .null, .null])), (q7, .inl (cI, 48, .inl z0)), (q15, .inl (cI, 90, .inl z0)), (q24, .inl (cI, 288, .inl z0))] H := hP
  have hD : va_D A [(h0, .inr (0, [.ref q7, .ref q15, .ref q24, .null, .null])), (q7, .inl (cI, 48, .inl z0)), (q15, .inl (cI, 90, .inl z0)), (q24, .inl (cI, 288, .inl z0))] := hD
  refine lv_aload_n hx hb d_S_init_29 rfl (lv_at hl 0 rfl) ?_
  refine lv_bipush (v := (nI 36)) hx hb d_S_init_30 (by decide) ?_
  refine va_newa (atype := .boolean) (a0 := (36, .inl z0)) (ty := .boolean) hx hb (ht _ ar_bool) rfl hK hP hD hS hA (fun _ => rfl) (by decide) (by decide) (by decide) (by decide) (by decide) d_S_init_32 (fun q32 cA H hK9 hP hD hS => ?_)
  have e9 := cA_Z hK9
  subst e9
  have hP : va_P D clA [(h0, .inr (0, [.ref q7, .ref q15, .ref q24, .null, .null])), (q7, .inl (cI, 48, .inl z0)), (q15, .inl (cI, 90, .inl z0)), (q24, .inl (cI, 288, .inl z0)), (q32, .inl (cZ, 36, .inl z0))] H := hP
  have hD : va_D A [(h0, .inr (0, [.ref q7, .ref q15, .ref q24, .null, .null])), (q7, .inl (cI, 48, .inl z0)), (q15, .inl (cI, 90, .inl z0)), (q24, .inl (cI, 288, .inl z0)), (q32, .inl (cZ, 36, .inl z0))] := hD
  refine W.widen (k := 4) (n := 462) (by decide) (by decide) ?_
  refine va_putF (D := D) (ci := 0) (v := .ref q32) (ty := .array .boolean) (C := R_S) (T := F_S) (N := 5) hx hb ht in_S t_S t_S_ok n_S hown hK hP hD hS 0 rfl rfl 3 (by decide) (ht _ f_S_21) (fun _ h9 => h9) rfl hin rfl (by decide +kernel) rfl rfl (Nat.le_of_ble_eq_true rfl) d_S_init_34 (fun H locs hP hD hS => ?_)
  have hP : va_P D clA [(h0, .inr (0, [.ref q7, .ref q15, .ref q24, .ref q32, .null])), (q7, .inl (cI, 48, .inl z0)), (q15, .inl (cI, 90, .inl z0)), (q24, .inl (cI, 288, .inl z0)), (q32, .inl (cZ, 36, .inl z0))] H := hP
  have hD : va_D A [(h0, .inr (0, [.ref q7, .ref q15, .ref q24, .ref q32, .null])), (q7, .inl (cI, 48, .inl z0)), (q15, .inl (cI, 90, .inl z0)), (q24, .inl (cI, 288, .inl z0)), (q32, .inl (cZ, 36, .inl z0))] := hD
  refine lv_aload_n hx hb d_S_init_37 rfl (lv_at hl 0 rfl) ?_
  refine lv_bipush (v := (nI 18)) hx hb d_S_init_38 (by decide) ?_
  refine va_newa (atype := .int) (a0 := (18, .inl z0)) (ty := .int) hx hb (ht _ ar_int) rfl hK hP hD hS hA (fun _ => rfl) (by decide) (by decide) (by decide) (by decide) (by decide) d_S_init_40 (fun q40 cA H hK9 hP hD hS => ?_)
  have e9 := cA_I hK9
  subst e9
  have hP : va_P D clA [(h0, .inr (0, [.ref q7, .ref q15, .ref q24, .ref q32, .null])), (q7, .inl (cI, 48, .inl z0)), (q15, .inl (cI, 90, .inl z0)), (q24, .inl (cI, 288, .inl z0)), (q32, .inl (cZ, 36, .inl z0)), (q40, .inl (cI, 18, .inl z0))] H := hP
  have hD : va_D A [(h0, .inr (0, [.ref q7, .ref q15, .ref q24, .ref q32, .null])), (q7, .inl (cI, 48, .inl z0)), (q15, .inl (cI, 90, .inl z0)), (q24, .inl (cI, 288, .inl z0)), (q32, .inl (cZ, 36, .inl z0)), (q40, .inl (cI, 18, .inl z0))] := hD
  refine W.widen (k := 5) (n := 480) (by decide) (by decide) ?_
  refine va_putF (D := D) (ci := 0) (v := .ref q40) (ty := .array .int) (C := R_S) (T := F_S) (N := 5) hx hb ht in_S t_S t_S_ok n_S hown hK hP hD hS 0 rfl rfl 4 (by decide) (ht _ f_S_25) (fun _ h9 => h9) rfl hin rfl (by decide +kernel) rfl rfl (Nat.le_of_ble_eq_true rfl) d_S_init_42 (fun H locs hP hD hS => ?_)
  have hP : va_P D clA [(h0, .inr (0, [.ref q7, .ref q15, .ref q24, .ref q32, .ref q40])), (q7, .inl (cI, 48, .inl z0)), (q15, .inl (cI, 90, .inl z0)), (q24, .inl (cI, 288, .inl z0)), (q32, .inl (cZ, 36, .inl z0)), (q40, .inl (cI, 18, .inl z0))] H := hP
  have hD : va_D A [(h0, .inr (0, [.ref q7, .ref q15, .ref q24, .ref q32, .ref q40])), (q7, .inl (cI, 48, .inl z0)), (q15, .inl (cI, 90, .inl z0)), (q24, .inl (cI, 288, .inl z0)), (q32, .inl (cZ, 36, .inl z0)), (q40, .inl (cI, 18, .inl z0))] := hD
  have hP : va_P D clA (w_S cI cZ h0 q7 q15 q24 q32 q40 z0 z0 z0 z0 z0) H := hP
  have hD : va_D A (w_S cI cZ h0 q7 q15 q24 q32 q40 z0 z0 z0 z0 z0) := hD
  refine lv_aload_n hx hb d_S_init_45 rfl (lv_at hl 0 rfl) ?_
  refine lv_iconst (v := (nI 0)) hx hb d_S_init_46 (by decide) ?_
  refine lv_iconst (v := (nI 1)) hx hb d_S_init_47 (by decide) ?_
  have h48 : s_S_setInodeMark (nI 0) (nI 1) z0 = some (upd z0 0 (nI 1)) := rfl
  refine wk_VvC (As := [.int (nI 0), .int (nI 1)]) (rest := []) (wc := (w_S cI cZ h0 q7 q15 q24 q32 q40 z0 z0 z0 z0 z0)) (w1 := (w_S cI cZ h0 q7 q15 q24 q32 q40 (upd z0 0 (nI 1)) z0 z0 z0 z0)) (wr := []) (wz := (w_S cI cZ h0 q7 q15 q24 q32 q40 (upd z0 0 (nI 1)) z0 z0 z0 z0)) cf ⟨by decide, by decide⟩ hK hN hA (c_S_setInodeMark l D cI cZ h0 q7 q15 q24 q32 q40 z0 z0 z0 z0 z0 (upd z0 0 (nI 1)) (nI 0) (nI 1) h48) k_S_28 ⟨rfl, rfl, by decide, by decide⟩ 0 rfl rfl rfl hl hP hD hS [0, 1, 2, 3, 4, 5] [] [0, 1, 2, 3, 4, 5] rfl rfl rfl (by decide) rfl rfl rfl rfl rfl (Nat.le_of_ble_eq_true rfl) rfl d_S_init_48 (fun H locs hP hD hS => ?_)
  refine lv_aload_n hx hb d_S_init_51 rfl (lv_at hl 0 rfl) ?_
  refine lv_iconst (v := (nI 2)) hx hb d_S_init_52 (by decide) ?_
  refine lv_iconst (v := (nI 1)) hx hb d_S_init_53 (by decide) ?_
  have h54 : s_S_setBlockMark (nI 2) (nI 1) (upd z0 0 (nI 1)) = some (upd (upd z0 0 (nI 1)) 6 (nI 1)) := rfl
  refine wk_VvC (As := [.int (nI 2), .int (nI 1)]) (rest := []) (wc := (w_S cI cZ h0 q7 q15 q24 q32 q40 (upd z0 0 (nI 1)) z0 z0 z0 z0)) (w1 := (w_S cI cZ h0 q7 q15 q24 q32 q40 (upd (upd z0 0 (nI 1)) 6 (nI 1)) z0 z0 z0 z0)) (wr := []) (wz := (w_S cI cZ h0 q7 q15 q24 q32 q40 (upd (upd z0 0 (nI 1)) 6 (nI 1)) z0 z0 z0 z0)) cf ⟨by decide, by decide⟩ hK hN hA (c_S_setBlockMark l D cI cZ h0 q7 q15 q24 q32 q40 (upd z0 0 (nI 1)) z0 z0 z0 z0 (upd (upd z0 0 (nI 1)) 6 (nI 1)) (nI 2) (nI 1) h54) k_S_32 ⟨rfl, rfl, by decide, by decide⟩ 0 rfl rfl rfl hl hP hD hS [0, 1, 2, 3, 4, 5] [] [0, 1, 2, 3, 4, 5] rfl rfl rfl (by decide) rfl rfl rfl rfl rfl (Nat.le_of_ble_eq_true rfl) rfl d_S_init_54 (fun H locs hP hD hS => ?_)
  refine lv_aload_n hx hb d_S_init_57 rfl (lv_at hl 0 rfl) ?_
  refine lv_iconst (v := (nI 0)) hx hb d_S_init_58 (by decide) ?_
  refine lv_iconst (v := (nI 2)) hx hb d_S_init_59 (by decide) ?_
  have h60 : s_S_setKind (nI 0) (nI 2) z0 = some (upd z0 0 (nI 2)) := rfl
  refine wk_VvC (As := [.int (nI 0), .int (nI 2)]) (rest := []) (wc := (w_S cI cZ h0 q7 q15 q24 q32 q40 (upd (upd z0 0 (nI 1)) 6 (nI 1)) z0 z0 z0 z0)) (w1 := (w_S cI cZ h0 q7 q15 q24 q32 q40 (upd (upd z0 0 (nI 1)) 6 (nI 1)) (upd z0 0 (nI 2)) z0 z0 z0)) (wr := []) (wz := (w_S cI cZ h0 q7 q15 q24 q32 q40 (upd (upd z0 0 (nI 1)) 6 (nI 1)) (upd z0 0 (nI 2)) z0 z0 z0)) cf ⟨by decide, by decide⟩ hK hN hA (c_S_setKind l D cI cZ h0 q7 q15 q24 q32 q40 (upd (upd z0 0 (nI 1)) 6 (nI 1)) z0 z0 z0 z0 (upd z0 0 (nI 2)) (nI 0) (nI 2) h60) k_S_35 ⟨rfl, rfl, by decide, by decide⟩ 0 rfl rfl rfl hl hP hD hS [0, 1, 2, 3, 4, 5] [] [0, 1, 2, 3, 4, 5] rfl rfl rfl (by decide) rfl rfl rfl rfl rfl (Nat.le_of_ble_eq_true rfl) rfl d_S_init_60 (fun H locs hP hD hS => ?_)
  refine lv_aload_n hx hb d_S_init_63 rfl (lv_at hl 0 rfl) ?_
  refine lv_iconst (v := (nI 0)) hx hb d_S_init_64 (by decide) ?_
  refine lv_iconst (v := (nI 1)) hx hb d_S_init_65 (by decide) ?_
  have h66 : s_S_setLinks (nI 0) (nI 1) (upd z0 0 (nI 2)) = some (upd (upd z0 0 (nI 2)) 1 (nI 1)) := rfl
  refine wk_VvC (As := [.int (nI 0), .int (nI 1)]) (rest := []) (wc := (w_S cI cZ h0 q7 q15 q24 q32 q40 (upd (upd z0 0 (nI 1)) 6 (nI 1)) (upd z0 0 (nI 2)) z0 z0 z0)) (w1 := (w_S cI cZ h0 q7 q15 q24 q32 q40 (upd (upd z0 0 (nI 1)) 6 (nI 1)) (upd (upd z0 0 (nI 2)) 1 (nI 1)) z0 z0 z0)) (wr := []) (wz := (w_S cI cZ h0 q7 q15 q24 q32 q40 (upd (upd z0 0 (nI 1)) 6 (nI 1)) (upd (upd z0 0 (nI 2)) 1 (nI 1)) z0 z0 z0)) cf ⟨by decide, by decide⟩ hK hN hA (c_S_setLinks l D cI cZ h0 q7 q15 q24 q32 q40 (upd (upd z0 0 (nI 1)) 6 (nI 1)) (upd z0 0 (nI 2)) z0 z0 z0 (upd (upd z0 0 (nI 2)) 1 (nI 1)) (nI 0) (nI 1) h66) k_S_38 ⟨rfl, rfl, by decide, by decide⟩ 0 rfl rfl rfl hl hP hD hS [0, 1, 2, 3, 4, 5] [] [0, 1, 2, 3, 4, 5] rfl rfl rfl (by decide) rfl rfl rfl rfl rfl (Nat.le_of_ble_eq_true rfl) rfl d_S_init_66 (fun H locs hP hD hS => ?_)
  refine lv_aload_n hx hb d_S_init_69 rfl (lv_at hl 0 rfl) ?_
  refine lv_iconst (v := (nI 0)) hx hb d_S_init_70 (by decide) ?_
  refine lv_iconst (v := (nI 0)) hx hb d_S_init_71 (by decide) ?_
  refine lv_iconst (v := (nI 2)) hx hb d_S_init_72 (by decide) ?_
  have h73 : s_S_setPointer (nI 0) (nI 0) (nI 2) (upd (upd z0 0 (nI 2)) 1 (nI 1)) = some (upd (upd (upd z0 0 (nI 2)) 1 (nI 1)) 2 (nI 2)) := rfl
  refine wk_VvC (As := [.int (nI 0), .int (nI 0), .int (nI 2)]) (rest := []) (wc := (w_S cI cZ h0 q7 q15 q24 q32 q40 (upd (upd z0 0 (nI 1)) 6 (nI 1)) (upd (upd z0 0 (nI 2)) 1 (nI 1)) z0 z0 z0)) (w1 := (w_S cI cZ h0 q7 q15 q24 q32 q40 (upd (upd z0 0 (nI 1)) 6 (nI 1)) (upd (upd (upd z0 0 (nI 2)) 1 (nI 1)) 2 (nI 2)) z0 z0 z0)) (wr := []) (wz := (w_S cI cZ h0 q7 q15 q24 q32 q40 (upd (upd z0 0 (nI 1)) 6 (nI 1)) (upd (upd (upd z0 0 (nI 2)) 1 (nI 1)) 2 (nI 2)) z0 z0 z0)) cf ⟨by decide, by decide⟩ hK hN hA (c_S_setPointer l D cI cZ h0 q7 q15 q24 q32 q40 (upd (upd z0 0 (nI 1)) 6 (nI 1)) (upd (upd z0 0 (nI 2)) 1 (nI 1)) z0 z0 z0 (upd (upd (upd z0 0 (nI 2)) 1 (nI 1)) 2 (nI 2)) (nI 0) (nI 0) (nI 2) h73) k_S_41 ⟨rfl, rfl, by decide, by decide⟩ 0 rfl rfl rfl hl hP hD hS [0, 1, 2, 3, 4, 5] [] [0, 1, 2, 3, 4, 5] rfl rfl rfl (by decide) rfl rfl rfl rfl rfl (Nat.le_of_ble_eq_true rfl) rfl d_S_init_73 (fun H locs hP hD hS => ?_)
  exact W.vret cf.1 cf.2.1 hr (fun t ht hW => ⟨⟨(), rfl, trivial, _, ⟨q7, q15, q24, q32, q40, rfl⟩, by rw [ht]; exact hP, va_K.moved hW.alike hK, hD⟩, hS.F ht⟩) hS.2.2 d_S_init_76 hlk
abbrev b_V_init : ByteArray := prog_1_method_1_code
abbrev y_V_init : MethodName := ⟨"OrderedVolume", "<init>", "()V"⟩
abbrev o_V_init : Cond := .code y_V_init b_V_init 1 none
abbrev rm_V_init : Room := { frames := 2, cells := 15, slots := 1060, locals := 43 }
theorem d_V_init_0 : decode b_V_init 0 = .ok (.aload_n 0, 1) := by decide +kernel
theorem d_V_init_1 : decode b_V_init 1 = .ok (.invokespecial 1, 3) := by decide +kernel
theorem d_V_init_4 : decode b_V_init 4 = .ok (.aload_n 0, 1) := by decide +kernel
theorem d_V_init_5 : decode b_V_init 5 = .ok (.new 7, 3) := by decide +kernel
theorem d_V_init_8 : decode b_V_init 8 = .ok (.dup, 1) := by decide +kernel
theorem d_V_init_9 : decode b_V_init 9 = .ok (.invokespecial 9, 3) := by decide +kernel
theorem d_V_init_12 : decode b_V_init 12 = .ok (.putfield 10, 3) := by decide +kernel
theorem d_V_init_15 : decode b_V_init 15 = .ok (.aload_n 0, 1) := by decide +kernel
theorem d_V_init_16 : decode b_V_init 16 = .ok (.new 7, 3) := by decide +kernel
theorem d_V_init_19 : decode b_V_init 19 = .ok (.dup, 1) := by decide +kernel
theorem d_V_init_20 : decode b_V_init 20 = .ok (.invokespecial 9, 3) := by decide +kernel
theorem d_V_init_23 : decode b_V_init 23 = .ok (.putfield 16, 3) := by decide +kernel
theorem d_V_init_26 : decode b_V_init 26 = .ok (.aload_n 0, 1) := by decide +kernel
theorem d_V_init_27 : decode b_V_init 27 = .ok (.bipush 36, 2) := by decide +kernel
theorem d_V_init_29 : decode b_V_init 29 = .ok (.newarray .int, 2) := by decide +kernel
theorem d_V_init_31 : decode b_V_init 31 = .ok (.putfield 19, 3) := by decide +kernel
theorem d_V_init_34 : decode b_V_init 34 = .ok (.aload_n 0, 1) := by decide +kernel
theorem d_V_init_35 : decode b_V_init 35 = .ok (.bipush 36, 2) := by decide +kernel
theorem d_V_init_37 : decode b_V_init 37 = .ok (.newarray .int, 2) := by decide +kernel
theorem d_V_init_39 : decode b_V_init 39 = .ok (.putfield 23, 3) := by decide +kernel
theorem d_V_init_42 : decode b_V_init 42 = .ok (.aload_n 0, 1) := by decide +kernel
theorem d_V_init_43 : decode b_V_init 43 = .ok (.bipush 18, 2) := by decide +kernel
theorem d_V_init_45 : decode b_V_init 45 = .ok (.newarray .int, 2) := by decide +kernel
theorem d_V_init_47 : decode b_V_init 47 = .ok (.putfield 26, 3) := by decide +kernel
theorem d_V_init_50 : decode b_V_init 50 = .ok (.aload_n 0, 1) := by decide +kernel
theorem d_V_init_51 : decode b_V_init 51 = .ok (.iconst 0, 1) := by decide +kernel
theorem d_V_init_52 : decode b_V_init 52 = .ok (.putfield 29, 3) := by decide +kernel
theorem d_V_init_55 : decode b_V_init 55 = .ok (.return_, 1) := by decide +kernel
set_option maxHeartbeats 4000000 in
set_option maxRecDepth 100000 in
theorem c_V_init (l : Launch) (D : va_G) (cI cZ : ClassId) (h0 : Nat) : sc_c l y_V_init (o_V_init :: wA) rm_V_init D cI cZ [.ref h0] [(h0, .inr (1, [.null, .null, .null, .null, .null, .int 0]))] (fun w => ∃ a0 a1 a2 a3 a4 a5 a6 a7 a8 a9 a10 a11 a12 a13 a14, w = w_V cI cZ h0 a0 a1 a2 a3 a4 a5 a6 a7 a8 a9 a10 a11 a12 a13 a14 (upd (upd z0 0 (nI 1)) 6 (nI 1)) (upd (upd (upd z0 0 (nI 2)) 1 (nI 1)) 2 (nI 2)) z0 z0 z0 (upd (upd z0 0 (nI 1)) 6 (nI 1)) (upd (upd (upd z0 0 (nI 2)) 1 (nI 1)) 2 (nI 2)) z0 z0 z0 z0 z0 z0 (nI 0)) 15 1060 := by
  refine sc_c_of (cc := b_V_init) (maxL := 1) (by decide) rfl (Nat.le_of_ble_eq_true rfl) ?_
  intro p e s m below meth c A cf hr hlk hin hK hN hA ls hl hP hD
  have hx := cf.1
  have hb := cf.2.1
  have hml := cf.2.2.1
  have hown := cf.2.2.2.1
  have ht : ∀ w ∈ wA, w.before _ s = true := fun w h => cf.2.2.2.2 w (List.mem_cons_of_mem _ h)
  have hl : lv_has ls 1 [(0, .ref h0)] := hl
  have hS : va_S A s.heap s.heap [] := va_S.rf
  refine lv_aload_n hx hb d_V_init_0 rfl (lv_at hl 0 rfl) ?_
  refine W.objInit hx hb hown (ht (.methodLink "OrderedVolume" 1 objectInit) (wA_t 9 (by decide +kernel) (by decide +kernel))) (ht _ oi_i) (ht _ oi_c) rfl (by rw [hml]; exact hl.1) rfl d_V_init_1 (Nat.le_of_ble_eq_true rfl) (Nat.le_of_ble_eq_true rfl) ?_
  refine W.eq (g2 := F0 m 4 ls []) rfl ?_
  refine lv_aload_n hx hb d_V_init_4 rfl (lv_at hl 0 rfl) ?_
  refine va_new (ci := 0) (fs := [.null, .null, .null, .null, .null]) (C := R_S) (T := F_S) (N := 5) hx hb ht in_S t_S t_S_ok hown (ht (.classLink "OrderedVolume" 7 R_S) (wA_t 12 (by decide +kernel) (by decide +kernel))) (ht (.instantiable R_S 5) (wA_t 13 (by decide +kernel) (by decide +kernel))) (ht (.initialized R_S) (wA_t 2 (by decide +kernel) (by decide +kernel))) hK hP hD hS hA rfl (fun j hj => by rcases (show j = 0 ∨ j = 1 ∨ j = 2 ∨ j = 3 ∨ j = 4 by omega) with rfl | rfl | rfl | rfl | rfl <;> rfl) (by decide) (by decide) d_V_init_5 (fun q5 H hP hD hS => ?_)
  have hP : va_P D clA [(h0, .inr (1, [.null, .null, .null, .null, .null, .int 0])), (q5, .inr (0, [.null, .null, .null, .null, .null]))] H := hP
  have hD : va_D A [(h0, .inr (1, [.null, .null, .null, .null, .null, .int 0])), (q5, .inr (0, [.null, .null, .null, .null, .null]))] := hD
  refine W.widen (k := 1) (n := 5) (by omega) (by omega) ?_
  refine lv_dup hx hb d_V_init_8 rfl ?_
  have hPc := hP.sub (ws' := [(q5, .inr (0, [.null, .null, .null, .null, .null]))]) [1] rfl
  have hDc := hD.sub (ws' := [(q5, .inr (0, [.null, .null, .null, .null, .null]))]) [1] (by decide) rfl
  have hFc := va_free (wc := [(q5, .inr (0, [.null, .null, .null, .null, .null]))]) hD hS hA [1] rfl
  refine va_callv (va_runI (As := []) (rest := [.ref q5, .ref h0]) cf (c_S_init l D cI cZ q5 H.size) ⟨callB_of 0 ht (wA_in (wA_t 16 (by decide +kernel) (by decide +kernel))) rfl rfl rfl (ht (.initialized R_S) (wA_t 2 (by decide +kernel) (by decide +kernel))) (ht (.methodLink "OrderedVolume" 9 y_S_init) (wA_t 14 (by decide +kernel) (by decide +kernel))) ⟨by decide, by decide, by decide +kernel⟩ ⟨by decide, by decide⟩, rfl, (ht (.instanceMethod y_S_init) (wA_t 15 (by decide +kernel) (by decide +kernel)))⟩ ⟨sc_blind, sc_pre hK hN hPc hDc⟩ rfl rfl hl.1 rfl (lv_room (Nat.le_of_ble_eq_true rfl)) d_V_init_9 ⟨by decide, by decide⟩) hS (fun q _ h => hFc q h) hFc (fun u t H1 locs ht1 hvm hw hB hz1 hk1 hS => ?_)
  obtain ⟨w1, hV, hP1, hK1, hD1⟩ := hB
  rw [ht1] at hP1
  obtain ⟨q5_maps, q5_tables, q5_words, q5_blank, q5_queue, rfl⟩ := hV
  obtain ⟨hP, hD⟩ := va_join (wr := [(h0, .inr (1, [.null, .null, .null, .null, .null, .int 0]))]) hP hD [1] [0] rfl rfl (by decide) (by decide) hk1 hFc hP1 hD1
  generalize H1 = H at hP hS ⊢
  have hP : va_P D clA [(h0, .inr (1, [.null, .null, .null, .null, .null, .int 0])), (q5, .inr (0, [.ref q5_maps, .ref q5_tables, .ref q5_words, .ref q5_blank, .ref q5_queue])), (q5_maps, .inl (cI, 48, .inl (upd (upd z0 0 (nI 1)) 6 (nI 1)))), (q5_tables, .inl (cI, 90, .inl (upd (upd (upd z0 0 (nI 2)) 1 (nI 1)) 2 (nI 2)))), (q5_words, .inl (cI, 288, .inl z0)), (q5_blank, .inl (cZ, 36, .inl z0)), (q5_queue, .inl (cI, 18, .inl z0))] H := hP
  have hD : va_D A [(h0, .inr (1, [.null, .null, .null, .null, .null, .int 0])), (q5, .inr (0, [.ref q5_maps, .ref q5_tables, .ref q5_words, .ref q5_blank, .ref q5_queue])), (q5_maps, .inl (cI, 48, .inl (upd (upd z0 0 (nI 1)) 6 (nI 1)))), (q5_tables, .inl (cI, 90, .inl (upd (upd (upd z0 0 (nI 2)) 1 (nI 1)) 2 (nI 2)))), (q5_words, .inl (cI, 288, .inl z0)), (q5_blank, .inl (cZ, 36, .inl z0)), (q5_queue, .inl (cI, 18, .inl z0))] := hD
  refine W.widen (k := 6) (n := 485) (by decide) (by decide) ?_
  refine va_putF (D := D) (ci := 1) (v := .ref q5) (ty := .object "OrderedVolume$Store") (C := R_V) (T := F_V) (N := 6) hx hb ht in_V t_V t_V_ok n_V hown hK hP hD hS 0 rfl rfl 0 (by decide) (ht _ f_V_10) (fun _ h9 => h9) rfl hin rfl (by decide +kernel) rfl rfl (Nat.le_of_ble_eq_true rfl) d_V_init_12 (fun H locs hP hD hS => ?_)
  have hP : va_P D clA [(h0, .inr (1, [.ref q5, .null, .null, .null, .null, .int 0])), (q5, .inr (0, [.ref q5_maps, .ref q5_tables, .ref q5_words, .ref q5_blank, .ref q5_queue])), (q5_maps, .inl (cI, 48, .inl (upd (upd z0 0 (nI 1)) 6 (nI 1)))), (q5_tables, .inl (cI, 90, .inl (upd (upd (upd z0 0 (nI 2)) 1 (nI 1)) 2 (nI 2)))), (q5_words, .inl (cI, 288, .inl z0)), (q5_blank, .inl (cZ, 36, .inl z0)), (q5_queue, .inl (cI, 18, .inl z0))] H := hP
  have hD : va_D A [(h0, .inr (1, [.ref q5, .null, .null, .null, .null, .int 0])), (q5, .inr (0, [.ref q5_maps, .ref q5_tables, .ref q5_words, .ref q5_blank, .ref q5_queue])), (q5_maps, .inl (cI, 48, .inl (upd (upd z0 0 (nI 1)) 6 (nI 1)))), (q5_tables, .inl (cI, 90, .inl (upd (upd (upd z0 0 (nI 2)) 1 (nI 1)) 2 (nI 2)))), (q5_words, .inl (cI, 288, .inl z0)), (q5_blank, .inl (cZ, 36, .inl z0)), (q5_queue, .inl (cI, 18, .inl z0))] := hD
  refine lv_aload_n hx hb d_V_init_15 rfl (lv_at hl 0 rfl) ?_
  refine va_new (ci := 0) (fs := [.null, .null, .null, .null, .null]) (C := R_S) (T := F_S) (N := 5) hx hb ht in_S t_S t_S_ok hown (ht (.classLink "OrderedVolume" 7 R_S) (wA_t 12 (by decide +kernel) (by decide +kernel))) (ht (.instantiable R_S 5) (wA_t 13 (by decide +kernel) (by decide +kernel))) (ht (.initialized R_S) (wA_t 2 (by decide +kernel) (by decide +kernel))) hK hP hD hS hA rfl (fun j hj => by rcases (show j = 0 ∨ j = 1 ∨ j = 2 ∨ j = 3 ∨ j = 4 by omega) with rfl | rfl | rfl | rfl | rfl <;> rfl) (by decide) (by decide) d_V_init_16 (fun q16 H hP hD hS => ?_)
  have hP : va_P D clA [(h0, .inr (1, [.ref q5, .null, .null, .null, .null, .int 0])), (q5, .inr (0, [.ref q5_maps, .ref q5_tables, .ref q5_words, .ref q5_blank, .ref q5_queue])), (q5_maps, .inl (cI, 48, .inl (upd (upd z0 0 (nI 1)) 6 (nI 1)))), (q5_tables, .inl (cI, 90, .inl (upd (upd (upd z0 0 (nI 2)) 1 (nI 1)) 2 (nI 2)))), (q5_words, .inl (cI, 288, .inl z0)), (q5_blank, .inl (cZ, 36, .inl z0)), (q5_queue, .inl (cI, 18, .inl z0)), (q16, .inr (0, [.null, .null, .null, .null, .null]))] H := hP
  have hD : va_D A [(h0, .inr (1, [.ref q5, .null, .null, .null, .null, .int 0])), (q5, .inr (0, [.ref q5_maps, .ref q5_tables, .ref q5_words, .ref q5_blank, .ref q5_queue])), (q5_maps, .inl (cI, 48, .inl (upd (upd z0 0 (nI 1)) 6 (nI 1)))), (q5_tables, .inl (cI, 90, .inl (upd (upd (upd z0 0 (nI 2)) 1 (nI 1)) 2 (nI 2)))), (q5_words, .inl (cI, 288, .inl z0)), (q5_blank, .inl (cZ, 36, .inl z0)), (q5_queue, .inl (cI, 18, .inl z0)), (q16, .inr (0, [.null, .null, .null, .null, .null]))] := hD
  refine W.widen (k := 7) (n := 490) (by omega) (by omega) ?_
  refine lv_dup hx hb d_V_init_19 rfl ?_
  have hPc := hP.sub (ws' := [(q16, .inr (0, [.null, .null, .null, .null, .null]))]) [7] rfl
  have hDc := hD.sub (ws' := [(q16, .inr (0, [.null, .null, .null, .null, .null]))]) [7] (by decide) rfl
  have hFc := va_free (wc := [(q16, .inr (0, [.null, .null, .null, .null, .null]))]) hD hS hA [7] rfl
  refine va_callv (va_runI (As := []) (rest := [.ref q16, .ref h0]) cf (c_S_init l D cI cZ q16 H.size) ⟨callB_of 0 ht (wA_in (wA_t 16 (by decide +kernel) (by decide +kernel))) rfl rfl rfl (ht (.initialized R_S) (wA_t 2 (by decide +kernel) (by decide +kernel))) (ht (.methodLink "OrderedVolume" 9 y_S_init) (wA_t 14 (by decide +kernel) (by decide +kernel))) ⟨by decide, by decide, by decide +kernel⟩ ⟨by decide, by decide⟩, rfl, (ht (.instanceMethod y_S_init) (wA_t 15 (by decide +kernel) (by decide +kernel)))⟩ ⟨sc_blind, sc_pre hK hN hPc hDc⟩ rfl rfl hl.1 rfl (lv_room (Nat.le_of_ble_eq_true rfl)) d_V_init_20 ⟨by decide, by decide⟩) hS (fun q _ h => hFc q h) hFc (fun u t H1 locs ht1 hvm hw hB hz1 hk1 hS => ?_)
  obtain ⟨w1, hV, hP1, hK1, hD1⟩ := hB
  rw [ht1] at hP1
  obtain ⟨q16_maps, q16_tables, q16_words, q16_blank, q16_queue, rfl⟩ := hV
  obtain ⟨hP, hD⟩ := va_join (wr := [(h0, .inr (1, [.ref q5, .null, .null, .null, .null, .int 0])), (q5, .inr (0, [.ref q5_maps, .ref q5_tables, .ref q5_words, .ref q5_blank, .ref q5_queue])), (q5_maps, .inl (cI, 48, .inl (upd (upd z0 0 (nI 1)) 6 (nI 1)))), (q5_tables, .inl (cI, 90, .inl (upd (upd (upd z0 0 (nI 2)) 1 (nI 1)) 2 (nI 2)))), (q5_words, .inl (cI, 288, .inl z0)), (q5_blank, .inl (cZ, 36, .inl z0)), (q5_queue, .inl (cI, 18, .inl z0))]) hP hD [7] [0, 1, 2, 3, 4, 5, 6] rfl rfl (by decide) (by decide) hk1 hFc hP1 hD1
  generalize H1 = H at hP hS ⊢
  have hP : va_P D clA [(h0, .inr (1, [.ref q5, .null, .null, .null, .null, .int 0])), (q5, .inr (0, [.ref q5_maps, .ref q5_tables, .ref q5_words, .ref q5_blank, .ref q5_queue])), (q5_maps, .inl (cI, 48, .inl (upd (upd z0 0 (nI 1)) 6 (nI 1)))), (q5_tables, .inl (cI, 90, .inl (upd (upd (upd z0 0 (nI 2)) 1 (nI 1)) 2 (nI 2)))), (q5_words, .inl (cI, 288, .inl z0)), (q5_blank, .inl (cZ, 36, .inl z0)), (q5_queue, .inl (cI, 18, .inl z0)), (q16, .inr (0, [.ref q16_maps, .ref q16_tables, .ref q16_words, .ref q16_blank, .ref q16_queue])), (q16_maps, .inl (cI, 48, .inl (upd (upd z0 0 (nI 1)) 6 (nI 1)))), (q16_tables, .inl (cI, 90, .inl (upd (upd (upd z0 0 (nI 2)) 1 (nI 1)) 2 (nI 2)))), (q16_words, .inl (cI, 288, .inl z0)), (q16_blank, .inl (cZ, 36, .inl z0)), (q16_queue, .inl (cI, 18, .inl z0))] H := hP
  have hD : va_D A [(h0, .inr (1, [.ref q5, .null, .null, .null, .null, .int 0])), (q5, .inr (0, [.ref q5_maps, .ref q5_tables, .ref q5_words, .ref q5_blank, .ref q5_queue])), (q5_maps, .inl (cI, 48, .inl (upd (upd z0 0 (nI 1)) 6 (nI 1)))), (q5_tables, .inl (cI, 90, .inl (upd (upd (upd z0 0 (nI 2)) 1 (nI 1)) 2 (nI 2)))), (q5_words, .inl (cI, 288, .inl z0)), (q5_blank, .inl (cZ, 36, .inl z0)), (q5_queue, .inl (cI, 18, .inl z0)), (q16, .inr (0, [.ref q16_maps, .ref q16_tables, .ref q16_words, .ref q16_blank, .ref q16_queue])), (q16_maps, .inl (cI, 48, .inl (upd (upd z0 0 (nI 1)) 6 (nI 1)))), (q16_tables, .inl (cI, 90, .inl (upd (upd (upd z0 0 (nI 2)) 1 (nI 1)) 2 (nI 2)))), (q16_words, .inl (cI, 288, .inl z0)), (q16_blank, .inl (cZ, 36, .inl z0)), (q16_queue, .inl (cI, 18, .inl z0))] := hD
  refine W.widen (k := 12) (n := 970) (by decide) (by decide) ?_
  refine va_putF (D := D) (ci := 1) (v := .ref q16) (ty := .object "OrderedVolume$Store") (C := R_V) (T := F_V) (N := 6) hx hb ht in_V t_V t_V_ok n_V hown hK hP hD hS 0 rfl rfl 1 (by decide) (ht _ f_V_16) (fun _ h9 => h9) rfl hin rfl (by decide +kernel) rfl rfl (Nat.le_of_ble_eq_true rfl) d_V_init_23 (fun H locs hP hD hS => ?_)
  have hP : va_P D clA [(h0, .inr (1, [.ref q5, .ref q16, .null, .null, .null, .int 0])), (q5, .inr (0, [.ref q5_maps, .ref q5_tables, .ref q5_words, .ref q5_blank, .ref q5_queue])), (q5_maps, .inl (cI, 48, .inl (upd (upd z0 0 (nI 1)) 6 (nI 1)))), (q5_tables, .inl (cI, 90, .inl (upd (upd (upd z0 0 (nI 2)) 1 (nI 1)) 2 (nI 2)))), (q5_words, .inl (cI, 288, .inl z0)), (q5_blank, .inl (cZ, 36, .inl z0)), (q5_queue, .inl (cI, 18, .inl z0)), (q16, .inr (0, [.ref q16_maps, .ref q16_tables, .ref q16_words, .ref q16_blank, .ref q16_queue])), (q16_maps, .inl (cI, 48, .inl (upd (upd z0 0 (nI 1)) 6 (nI 1)))), (q16_tables, .inl (cI, 90, .inl (upd (upd (upd z0 0 (nI 2)) 1 (nI 1)) 2 (nI 2)))), (q16_words, .inl (cI, 288, .inl z0)), (q16_blank, .inl (cZ, 36, .inl z0)), (q16_queue, .inl (cI, 18, .inl z0))] H := hP
  have hD : va_D A [(h0, .inr (1, [.ref q5, .ref q16, .null, .null, .null, .int 0])), (q5, .inr (0, [.ref q5_maps, .ref q5_tables, .ref q5_words, .ref q5_blank, .ref q5_queue])), (q5_maps, .inl (cI, 48, .inl (upd (upd z0 0 (nI 1)) 6 (nI 1)))), (q5_tables, .inl (cI, 90, .inl (upd (upd (upd z0 0 (nI 2)) 1 (nI 1)) 2 (nI 2)))), (q5_words, .inl (cI, 288, .inl z0)), (q5_blank, .inl (cZ, 36, .inl z0)), (q5_queue, .inl (cI, 18, .inl z0)), (q16, .inr (0, [.ref q16_maps, .ref q16_tables, .ref q16_words, .ref q16_blank, .ref q16_queue])), (q16_maps, .inl (cI, 48, .inl (upd (upd z0 0 (nI 1)) 6 (nI 1)))), (q16_tables, .inl (cI, 90, .inl (upd (upd (upd z0 0 (nI 2)) 1 (nI 1)) 2 (nI 2)))), (q16_words, .inl (cI, 288, .inl z0)), (q16_blank, .inl (cZ, 36, .inl z0)), (q16_queue, .inl (cI, 18, .inl z0))] := hD
  refine lv_aload_n hx hb d_V_init_26 rfl (lv_at hl 0 rfl) ?_
  refine lv_bipush (v := (nI 36)) hx hb d_V_init_27 (by decide) ?_
  refine va_newa (atype := .int) (a0 := (36, .inl z0)) (ty := .int) hx hb (ht _ ar_int) rfl hK hP hD hS hA (fun _ => rfl) (by decide) (by decide) (by decide) (by decide) (by decide) d_V_init_29 (fun q29 cA H hK9 hP hD hS => ?_)
  have e9 := cA_I hK9
  subst e9
  have hP : va_P D clA [(h0, .inr (1, [.ref q5, .ref q16, .null, .null, .null, .int 0])), (q5, .inr (0, [.ref q5_maps, .ref q5_tables, .ref q5_words, .ref q5_blank, .ref q5_queue])), (q5_maps, .inl (cI, 48, .inl (upd (upd z0 0 (nI 1)) 6 (nI 1)))), (q5_tables, .inl (cI, 90, .inl (upd (upd (upd z0 0 (nI 2)) 1 (nI 1)) 2 (nI 2)))), (q5_words, .inl (cI, 288, .inl z0)), (q5_blank, .inl (cZ, 36, .inl z0)), (q5_queue, .inl (cI, 18, .inl z0)), (q16, .inr (0, [.ref q16_maps, .ref q16_tables, .ref q16_words, .ref q16_blank, .ref q16_queue])), (q16_maps, .inl (cI, 48, .inl (upd (upd z0 0 (nI 1)) 6 (nI 1)))), (q16_tables, .inl (cI, 90, .inl (upd (upd (upd z0 0 (nI 2)) 1 (nI 1)) 2 (nI 2)))), (q16_words, .inl (cI, 288, .inl z0)), (q16_blank, .inl (cZ, 36, .inl z0)), (q16_queue, .inl (cI, 18, .inl z0)), (q29, .inl (cI, 36, .inl z0))] H := hP
  have hD : va_D A [(h0, .inr (1, [.ref q5, .ref q16, .null, .null, .null, .int 0])), (q5, .inr (0, [.ref q5_maps, .ref q5_tables, .ref q5_words, .ref q5_blank, .ref q5_queue])), (q5_maps, .inl (cI, 48, .inl (upd (upd z0 0 (nI 1)) 6 (nI 1)))), (q5_tables, .inl (cI, 90, .inl (upd (upd (upd z0 0 (nI 2)) 1 (nI 1)) 2 (nI 2)))), (q5_words, .inl (cI, 288, .inl z0)), (q5_blank, .inl (cZ, 36, .inl z0)), (q5_queue, .inl (cI, 18, .inl z0)), (q16, .inr (0, [.ref q16_maps, .ref q16_tables, .ref q16_words, .ref q16_blank, .ref q16_queue])), (q16_maps, .inl (cI, 48, .inl (upd (upd z0 0 (nI 1)) 6 (nI 1)))), (q16_tables, .inl (cI, 90, .inl (upd (upd (upd z0 0 (nI 2)) 1 (nI 1)) 2 (nI 2)))), (q16_words, .inl (cI, 288, .inl z0)), (q16_blank, .inl (cZ, 36, .inl z0)), (q16_queue, .inl (cI, 18, .inl z0)), (q29, .inl (cI, 36, .inl z0))] := hD
  refine W.widen (k := 13) (n := 1006) (by decide) (by decide) ?_
  refine va_putF (D := D) (ci := 1) (v := .ref q29) (ty := .array .int) (C := R_V) (T := F_V) (N := 6) hx hb ht in_V t_V t_V_ok n_V hown hK hP hD hS 0 rfl rfl 2 (by decide) (ht _ f_V_19) (fun _ h9 => h9) rfl hin rfl (by decide +kernel) rfl rfl (Nat.le_of_ble_eq_true rfl) d_V_init_31 (fun H locs hP hD hS => ?_)
  have hP : va_P D clA [(h0, .inr (1, [.ref q5, .ref q16, .ref q29, .null, .null, .int 0])), (q5, .inr (0, [.ref q5_maps, .ref q5_tables, .ref q5_words, .ref q5_blank, .ref q5_queue])), (q5_maps, .inl (cI, 48, .inl (upd (upd z0 0 (nI 1)) 6 (nI 1)))), (q5_tables, .inl (cI, 90, .inl (upd (upd (upd z0 0 (nI 2)) 1 (nI 1)) 2 (nI 2)))), (q5_words, .inl (cI, 288, .inl z0)), (q5_blank, .inl (cZ, 36, .inl z0)), (q5_queue, .inl (cI, 18, .inl z0)), (q16, .inr (0, [.ref q16_maps, .ref q16_tables, .ref q16_words, .ref q16_blank, .ref q16_queue])), (q16_maps, .inl (cI, 48, .inl (upd (upd z0 0 (nI 1)) 6 (nI 1)))), (q16_tables, .inl (cI, 90, .inl (upd (upd (upd z0 0 (nI 2)) 1 (nI 1)) 2 (nI 2)))), (q16_words, .inl (cI, 288, .inl z0)), (q16_blank, .inl (cZ, 36, .inl z0)), (q16_queue, .inl (cI, 18, .inl z0)), (q29, .inl (cI, 36, .inl z0))] H := hP
  have hD : va_D A [(h0, .inr (1, [.ref q5, .ref q16, .ref q29, .null, .null, .int 0])), (q5, .inr (0, [.ref q5_maps, .ref q5_tables, .ref q5_words, .ref q5_blank, .ref q5_queue])), (q5_maps, .inl (cI, 48, .inl (upd (upd z0 0 (nI 1)) 6 (nI 1)))), (q5_tables, .inl (cI, 90, .inl (upd (upd (upd z0 0 (nI 2)) 1 (nI 1)) 2 (nI 2)))), (q5_words, .inl (cI, 288, .inl z0)), (q5_blank, .inl (cZ, 36, .inl z0)), (q5_queue, .inl (cI, 18, .inl z0)), (q16, .inr (0, [.ref q16_maps, .ref q16_tables, .ref q16_words, .ref q16_blank, .ref q16_queue])), (q16_maps, .inl (cI, 48, .inl (upd (upd z0 0 (nI 1)) 6 (nI 1)))), (q16_tables, .inl (cI, 90, .inl (upd (upd (upd z0 0 (nI 2)) 1 (nI 1)) 2 (nI 2)))), (q16_words, .inl (cI, 288, .inl z0)), (q16_blank, .inl (cZ, 36, .inl z0)), (q16_queue, .inl (cI, 18, .inl z0)), (q29, .inl (cI, 36, .inl z0))] := hD
  refine lv_aload_n hx hb d_V_init_34 rfl (lv_at hl 0 rfl) ?_
  refine lv_bipush (v := (nI 36)) hx hb d_V_init_35 (by decide) ?_
  refine va_newa (atype := .int) (a0 := (36, .inl z0)) (ty := .int) hx hb (ht _ ar_int) rfl hK hP hD hS hA (fun _ => rfl) (by decide) (by decide) (by decide) (by decide) (by decide) d_V_init_37 (fun q37 cA H hK9 hP hD hS => ?_)
  have e9 := cA_I hK9
  subst e9
  have hP : va_P D clA [(h0, .inr (1, [.ref q5, .ref q16, .ref q29, .null, .null, .int 0])), (q5, .inr (0, [.ref q5_maps, .ref q5_tables, .ref q5_words, .ref q5_blank, .ref q5_queue])), (q5_maps, .inl (cI, 48, .inl (upd (upd z0 0 (nI 1)) 6 (nI 1)))), (q5_tables, .inl (cI, 90, .inl (upd (upd (upd z0 0 (nI 2)) 1 (nI 1)) 2 (nI 2)))), (q5_words, .inl (cI, 288, .inl z0)), (q5_blank, .inl (cZ, 36, .inl z0)), (q5_queue, .inl (cI, 18, .inl z0)), (q16, .inr (0, [.ref q16_maps, .ref q16_tables, .ref q16_words, .ref q16_blank, .ref q16_queue])), (q16_maps, .inl (cI, 48, .inl (upd (upd z0 0 (nI 1)) 6 (nI 1)))), (q16_tables, .inl (cI, 90, .inl (upd (upd (upd z0 0 (nI 2)) 1 (nI 1)) 2 (nI 2)))), (q16_words, .inl (cI, 288, .inl z0)), (q16_blank, .inl (cZ, 36, .inl z0)), (q16_queue, .inl (cI, 18, .inl z0)), (q29, .inl (cI, 36, .inl z0)), (q37, .inl (cI, 36, .inl z0))] H := hP
  have hD : va_D A [(h0, .inr (1, [.ref q5, .ref q16, .ref q29, .null, .null, .int 0])), (q5, .inr (0, [.ref q5_maps, .ref q5_tables, .ref q5_words, .ref q5_blank, .ref q5_queue])), (q5_maps, .inl (cI, 48, .inl (upd (upd z0 0 (nI 1)) 6 (nI 1)))), (q5_tables, .inl (cI, 90, .inl (upd (upd (upd z0 0 (nI 2)) 1 (nI 1)) 2 (nI 2)))), (q5_words, .inl (cI, 288, .inl z0)), (q5_blank, .inl (cZ, 36, .inl z0)), (q5_queue, .inl (cI, 18, .inl z0)), (q16, .inr (0, [.ref q16_maps, .ref q16_tables, .ref q16_words, .ref q16_blank, .ref q16_queue])), (q16_maps, .inl (cI, 48, .inl (upd (upd z0 0 (nI 1)) 6 (nI 1)))), (q16_tables, .inl (cI, 90, .inl (upd (upd (upd z0 0 (nI 2)) 1 (nI 1)) 2 (nI 2)))), (q16_words, .inl (cI, 288, .inl z0)), (q16_blank, .inl (cZ, 36, .inl z0)), (q16_queue, .inl (cI, 18, .inl z0)), (q29, .inl (cI, 36, .inl z0)), (q37, .inl (cI, 36, .inl z0))] := hD
  refine W.widen (k := 14) (n := 1042) (by decide) (by decide) ?_
  refine va_putF (D := D) (ci := 1) (v := .ref q37) (ty := .array .int) (C := R_V) (T := F_V) (N := 6) hx hb ht in_V t_V t_V_ok n_V hown hK hP hD hS 0 rfl rfl 3 (by decide) (ht _ f_V_23) (fun _ h9 => h9) rfl hin rfl (by decide +kernel) rfl rfl (Nat.le_of_ble_eq_true rfl) d_V_init_39 (fun H locs hP hD hS => ?_)
  have hP : va_P D clA [(h0, .inr (1, [.ref q5, .ref q16, .ref q29, .ref q37, .null, .int 0])), (q5, .inr (0, [.ref q5_maps, .ref q5_tables, .ref q5_words, .ref q5_blank, .ref q5_queue])), (q5_maps, .inl (cI, 48, .inl (upd (upd z0 0 (nI 1)) 6 (nI 1)))), (q5_tables, .inl (cI, 90, .inl (upd (upd (upd z0 0 (nI 2)) 1 (nI 1)) 2 (nI 2)))), (q5_words, .inl (cI, 288, .inl z0)), (q5_blank, .inl (cZ, 36, .inl z0)), (q5_queue, .inl (cI, 18, .inl z0)), (q16, .inr (0, [.ref q16_maps, .ref q16_tables, .ref q16_words, .ref q16_blank, .ref q16_queue])), (q16_maps, .inl (cI, 48, .inl (upd (upd z0 0 (nI 1)) 6 (nI 1)))), (q16_tables, .inl (cI, 90, .inl (upd (upd (upd z0 0 (nI 2)) 1 (nI 1)) 2 (nI 2)))), (q16_words, .inl (cI, 288, .inl z0)), (q16_blank, .inl (cZ, 36, .inl z0)), (q16_queue, .inl (cI, 18, .inl z0)), (q29, .inl (cI, 36, .inl z0)), (q37, .inl (cI, 36, .inl z0))] H := hP
  have hD : va_D A [(h0, .inr (1, [.ref q5, .ref q16, .ref q29, .ref q37, .null, .int 0])), (q5, .inr (0, [.ref q5_maps, .ref q5_tables, .ref q5_words, .ref q5_blank, .ref q5_queue])), (q5_maps, .inl (cI, 48, .inl (upd (upd z0 0 (nI 1)) 6 (nI 1)))), (q5_tables, .inl (cI, 90, .inl (upd (upd (upd z0 0 (nI 2)) 1 (nI 1)) 2 (nI 2)))), (q5_words, .inl (cI, 288, .inl z0)), (q5_blank, .inl (cZ, 36, .inl z0)), (q5_queue, .inl (cI, 18, .inl z0)), (q16, .inr (0, [.ref q16_maps, .ref q16_tables, .ref q16_words, .ref q16_blank, .ref q16_queue])), (q16_maps, .inl (cI, 48, .inl (upd (upd z0 0 (nI 1)) 6 (nI 1)))), (q16_tables, .inl (cI, 90, .inl (upd (upd (upd z0 0 (nI 2)) 1 (nI 1)) 2 (nI 2)))), (q16_words, .inl (cI, 288, .inl z0)), (q16_blank, .inl (cZ, 36, .inl z0)), (q16_queue, .inl (cI, 18, .inl z0)), (q29, .inl (cI, 36, .inl z0)), (q37, .inl (cI, 36, .inl z0))] := hD
  refine lv_aload_n hx hb d_V_init_42 rfl (lv_at hl 0 rfl) ?_
  refine lv_bipush (v := (nI 18)) hx hb d_V_init_43 (by decide) ?_
  refine va_newa (atype := .int) (a0 := (18, .inl z0)) (ty := .int) hx hb (ht _ ar_int) rfl hK hP hD hS hA (fun _ => rfl) (by decide) (by decide) (by decide) (by decide) (by decide) d_V_init_45 (fun q45 cA H hK9 hP hD hS => ?_)
  have e9 := cA_I hK9
  subst e9
  have hP : va_P D clA [(h0, .inr (1, [.ref q5, .ref q16, .ref q29, .ref q37, .null, .int 0])), (q5, .inr (0, [.ref q5_maps, .ref q5_tables, .ref q5_words, .ref q5_blank, .ref q5_queue])), (q5_maps, .inl (cI, 48, .inl (upd (upd z0 0 (nI 1)) 6 (nI 1)))), (q5_tables, .inl (cI, 90, .inl (upd (upd (upd z0 0 (nI 2)) 1 (nI 1)) 2 (nI 2)))), (q5_words, .inl (cI, 288, .inl z0)), (q5_blank, .inl (cZ, 36, .inl z0)), (q5_queue, .inl (cI, 18, .inl z0)), (q16, .inr (0, [.ref q16_maps, .ref q16_tables, .ref q16_words, .ref q16_blank, .ref q16_queue])), (q16_maps, .inl (cI, 48, .inl (upd (upd z0 0 (nI 1)) 6 (nI 1)))), (q16_tables, .inl (cI, 90, .inl (upd (upd (upd z0 0 (nI 2)) 1 (nI 1)) 2 (nI 2)))), (q16_words, .inl (cI, 288, .inl z0)), (q16_blank, .inl (cZ, 36, .inl z0)), (q16_queue, .inl (cI, 18, .inl z0)), (q29, .inl (cI, 36, .inl z0)), (q37, .inl (cI, 36, .inl z0)), (q45, .inl (cI, 18, .inl z0))] H := hP
  have hD : va_D A [(h0, .inr (1, [.ref q5, .ref q16, .ref q29, .ref q37, .null, .int 0])), (q5, .inr (0, [.ref q5_maps, .ref q5_tables, .ref q5_words, .ref q5_blank, .ref q5_queue])), (q5_maps, .inl (cI, 48, .inl (upd (upd z0 0 (nI 1)) 6 (nI 1)))), (q5_tables, .inl (cI, 90, .inl (upd (upd (upd z0 0 (nI 2)) 1 (nI 1)) 2 (nI 2)))), (q5_words, .inl (cI, 288, .inl z0)), (q5_blank, .inl (cZ, 36, .inl z0)), (q5_queue, .inl (cI, 18, .inl z0)), (q16, .inr (0, [.ref q16_maps, .ref q16_tables, .ref q16_words, .ref q16_blank, .ref q16_queue])), (q16_maps, .inl (cI, 48, .inl (upd (upd z0 0 (nI 1)) 6 (nI 1)))), (q16_tables, .inl (cI, 90, .inl (upd (upd (upd z0 0 (nI 2)) 1 (nI 1)) 2 (nI 2)))), (q16_words, .inl (cI, 288, .inl z0)), (q16_blank, .inl (cZ, 36, .inl z0)), (q16_queue, .inl (cI, 18, .inl z0)), (q29, .inl (cI, 36, .inl z0)), (q37, .inl (cI, 36, .inl z0)), (q45, .inl (cI, 18, .inl z0))] := hD
  refine W.widen (k := 15) (n := 1060) (by decide) (by decide) ?_
  refine va_putF (D := D) (ci := 1) (v := .ref q45) (ty := .array .int) (C := R_V) (T := F_V) (N := 6) hx hb ht in_V t_V t_V_ok n_V hown hK hP hD hS 0 rfl rfl 4 (by decide) (ht _ f_V_26) (fun _ h9 => h9) rfl hin rfl (by decide +kernel) rfl rfl (Nat.le_of_ble_eq_true rfl) d_V_init_47 (fun H locs hP hD hS => ?_)
  have hP : va_P D clA [(h0, .inr (1, [.ref q5, .ref q16, .ref q29, .ref q37, .ref q45, .int 0])), (q5, .inr (0, [.ref q5_maps, .ref q5_tables, .ref q5_words, .ref q5_blank, .ref q5_queue])), (q5_maps, .inl (cI, 48, .inl (upd (upd z0 0 (nI 1)) 6 (nI 1)))), (q5_tables, .inl (cI, 90, .inl (upd (upd (upd z0 0 (nI 2)) 1 (nI 1)) 2 (nI 2)))), (q5_words, .inl (cI, 288, .inl z0)), (q5_blank, .inl (cZ, 36, .inl z0)), (q5_queue, .inl (cI, 18, .inl z0)), (q16, .inr (0, [.ref q16_maps, .ref q16_tables, .ref q16_words, .ref q16_blank, .ref q16_queue])), (q16_maps, .inl (cI, 48, .inl (upd (upd z0 0 (nI 1)) 6 (nI 1)))), (q16_tables, .inl (cI, 90, .inl (upd (upd (upd z0 0 (nI 2)) 1 (nI 1)) 2 (nI 2)))), (q16_words, .inl (cI, 288, .inl z0)), (q16_blank, .inl (cZ, 36, .inl z0)), (q16_queue, .inl (cI, 18, .inl z0)), (q29, .inl (cI, 36, .inl z0)), (q37, .inl (cI, 36, .inl z0)), (q45, .inl (cI, 18, .inl z0))] H := hP
  have hD : va_D A [(h0, .inr (1, [.ref q5, .ref q16, .ref q29, .ref q37, .ref q45, .int 0])), (q5, .inr (0, [.ref q5_maps, .ref q5_tables, .ref q5_words, .ref q5_blank, .ref q5_queue])), (q5_maps, .inl (cI, 48, .inl (upd (upd z0 0 (nI 1)) 6 (nI 1)))), (q5_tables, .inl (cI, 90, .inl (upd (upd (upd z0 0 (nI 2)) 1 (nI 1)) 2 (nI 2)))), (q5_words, .inl (cI, 288, .inl z0)), (q5_blank, .inl (cZ, 36, .inl z0)), (q5_queue, .inl (cI, 18, .inl z0)), (q16, .inr (0, [.ref q16_maps, .ref q16_tables, .ref q16_words, .ref q16_blank, .ref q16_queue])), (q16_maps, .inl (cI, 48, .inl (upd (upd z0 0 (nI 1)) 6 (nI 1)))), (q16_tables, .inl (cI, 90, .inl (upd (upd (upd z0 0 (nI 2)) 1 (nI 1)) 2 (nI 2)))), (q16_words, .inl (cI, 288, .inl z0)), (q16_blank, .inl (cZ, 36, .inl z0)), (q16_queue, .inl (cI, 18, .inl z0)), (q29, .inl (cI, 36, .inl z0)), (q37, .inl (cI, 36, .inl z0)), (q45, .inl (cI, 18, .inl z0))] := hD
  refine lv_aload_n hx hb d_V_init_50 rfl (lv_at hl 0 rfl) ?_
  refine lv_iconst (v := (nI 0)) hx hb d_V_init_51 (by decide) ?_
  have hz : (nI 0 : Int32) = 0 ∨ (nI 0 : Int32) = 1 := by decide
  refine va_put (D := D) (ci := 1) (v := .int (nI 0)) (ty := .boolean) (C := R_V) (T := F_V) (N := 6) hx hb ht in_V t_V t_V_ok n_V hown hK hP hD hS 0 rfl rfl 5 (by decide) (ht _ f_V_29) (fun _ h9 => h9) rfl (by decide +kernel) (nz_b hz) (fz_b hz) (Nat.le_of_ble_eq_true rfl) d_V_init_52 (fun H locs hP hD hS => ?_)
  have hP : va_P D clA [(h0, .inr (1, [.ref q5, .ref q16, .ref q29, .ref q37, .ref q45, .int (nI 0)])), (q5, .inr (0, [.ref q5_maps, .ref q5_tables, .ref q5_words, .ref q5_blank, .ref q5_queue])), (q5_maps, .inl (cI, 48, .inl (upd (upd z0 0 (nI 1)) 6 (nI 1)))), (q5_tables, .inl (cI, 90, .inl (upd (upd (upd z0 0 (nI 2)) 1 (nI 1)) 2 (nI 2)))), (q5_words, .inl (cI, 288, .inl z0)), (q5_blank, .inl (cZ, 36, .inl z0)), (q5_queue, .inl (cI, 18, .inl z0)), (q16, .inr (0, [.ref q16_maps, .ref q16_tables, .ref q16_words, .ref q16_blank, .ref q16_queue])), (q16_maps, .inl (cI, 48, .inl (upd (upd z0 0 (nI 1)) 6 (nI 1)))), (q16_tables, .inl (cI, 90, .inl (upd (upd (upd z0 0 (nI 2)) 1 (nI 1)) 2 (nI 2)))), (q16_words, .inl (cI, 288, .inl z0)), (q16_blank, .inl (cZ, 36, .inl z0)), (q16_queue, .inl (cI, 18, .inl z0)), (q29, .inl (cI, 36, .inl z0)), (q37, .inl (cI, 36, .inl z0)), (q45, .inl (cI, 18, .inl z0))] H := hP
  have hD : va_D A [(h0, .inr (1, [.ref q5, .ref q16, .ref q29, .ref q37, .ref q45, .int (nI 0)])), (q5, .inr (0, [.ref q5_maps, .ref q5_tables, .ref q5_words, .ref q5_blank, .ref q5_queue])), (q5_maps, .inl (cI, 48, .inl (upd (upd z0 0 (nI 1)) 6 (nI 1)))), (q5_tables, .inl (cI, 90, .inl (upd (upd (upd z0 0 (nI 2)) 1 (nI 1)) 2 (nI 2)))), (q5_words, .inl (cI, 288, .inl z0)), (q5_blank, .inl (cZ, 36, .inl z0)), (q5_queue, .inl (cI, 18, .inl z0)), (q16, .inr (0, [.ref q16_maps, .ref q16_tables, .ref q16_words, .ref q16_blank, .ref q16_queue])), (q16_maps, .inl (cI, 48, .inl (upd (upd z0 0 (nI 1)) 6 (nI 1)))), (q16_tables, .inl (cI, 90, .inl (upd (upd (upd z0 0 (nI 2)) 1 (nI 1)) 2 (nI 2)))), (q16_words, .inl (cI, 288, .inl z0)), (q16_blank, .inl (cZ, 36, .inl z0)), (q16_queue, .inl (cI, 18, .inl z0)), (q29, .inl (cI, 36, .inl z0)), (q37, .inl (cI, 36, .inl z0)), (q45, .inl (cI, 18, .inl z0))] := hD
  exact W.vret cf.1 cf.2.1 hr (fun t ht hW => ⟨⟨(), rfl, trivial, _, ⟨q5, q5_maps, q5_tables, q5_words, q5_blank, q5_queue, q16, q16_maps, q16_tables, q16_words, q16_blank, q16_queue, q29, q37, q45, rfl⟩, by rw [ht]; exact hP, va_K.moved hW.alike hK, hD⟩, hS.F ht⟩) hS.2.2 d_V_init_55 hlk
abbrev mR0 : Nat → Int32 := upd (upd (upd (upd (upd z0 30 (nI 2)) 31 (nI 1)) 32 (nI 2)) 0 (nI 1)) 6 (nI 1)
abbrev b_R_init : ByteArray := prog_4_method_1_code
abbrev y_R_init : MethodName := ⟨"OrderedVolumeModel", "<init>", "()V"⟩
abbrev o_R_init : Cond := .code y_R_init b_R_init 3 none
abbrev rm_R_init : Room := { frames := 1, cells := 11, slots := 2628, locals := 21 }
theorem d_R_init_0 : decode b_R_init 0 = .ok (.aload_n 0, 1) := by decide +kernel
theorem d_R_init_1 : decode b_R_init 1 = .ok (.invokespecial 1, 3) := by decide +kernel
theorem d_R_init_4 : decode b_R_init 4 = .ok (.aload_n 0, 1) := by decide +kernel
theorem d_R_init_5 : decode b_R_init 5 = .ok (.sipush 1080, 3) := by decide +kernel
theorem d_R_init_8 : decode b_R_init 8 = .ok (.newarray .int, 2) := by decide +kernel
theorem d_R_init_10 : decode b_R_init 10 = .ok (.putfield 7, 3) := by decide +kernel
theorem d_R_init_13 : decode b_R_init 13 = .ok (.aload_n 0, 1) := by decide +kernel
theorem d_R_init_14 : decode b_R_init 14 = .ok (.sipush 1080, 3) := by decide +kernel
theorem d_R_init_17 : decode b_R_init 17 = .ok (.newarray .int, 2) := by decide +kernel
theorem d_R_init_19 : decode b_R_init 19 = .ok (.putfield 13, 3) := by decide +kernel
theorem d_R_init_22 : decode b_R_init 22 = .ok (.aload_n 0, 1) := by decide +kernel
theorem d_R_init_23 : decode b_R_init 23 = .ok (.bipush 36, 2) := by decide +kernel
theorem d_R_init_25 : decode b_R_init 25 = .ok (.newarray .boolean, 2) := by decide +kernel
theorem d_R_init_27 : decode b_R_init 27 = .ok (.putfield 16, 3) := by decide +kernel
theorem d_R_init_30 : decode b_R_init 30 = .ok (.aload_n 0, 1) := by decide +kernel
theorem d_R_init_31 : decode b_R_init 31 = .ok (.sipush 288, 3) := by decide +kernel
theorem d_R_init_34 : decode b_R_init 34 = .ok (.newarray .boolean, 2) := by decide +kernel
theorem d_R_init_36 : decode b_R_init 36 = .ok (.putfield 20, 3) := by decide +kernel
theorem d_R_init_39 : decode b_R_init 39 = .ok (.aload_n 0, 1) := by decide +kernel
theorem d_R_init_40 : decode b_R_init 40 = .ok (.bipush 36, 2) := by decide +kernel
theorem d_R_init_42 : decode b_R_init 42 = .ok (.newarray .int, 2) := by decide +kernel
theorem d_R_init_44 : decode b_R_init 44 = .ok (.putfield 23, 3) := by decide +kernel
theorem d_R_init_47 : decode b_R_init 47 = .ok (.aload_n 0, 1) := by decide +kernel
theorem d_R_init_48 : decode b_R_init 48 = .ok (.bipush 18, 2) := by decide +kernel
theorem d_R_init_50 : decode b_R_init 50 = .ok (.newarray .boolean, 2) := by decide +kernel
theorem d_R_init_52 : decode b_R_init 52 = .ok (.putfield 26, 3) := by decide +kernel
theorem d_R_init_55 : decode b_R_init 55 = .ok (.aload_n 0, 1) := by decide +kernel
theorem d_R_init_56 : decode b_R_init 56 = .ok (.bipush 18, 2) := by decide +kernel
theorem d_R_init_58 : decode b_R_init 58 = .ok (.newarray .int, 2) := by decide +kernel
theorem d_R_init_60 : decode b_R_init 60 = .ok (.putfield 29, 3) := by decide +kernel
theorem d_R_init_63 : decode b_R_init 63 = .ok (.aload_n 0, 1) := by decide +kernel
theorem d_R_init_64 : decode b_R_init 64 = .ok (.bipush 18, 2) := by decide +kernel
theorem d_R_init_66 : decode b_R_init 66 = .ok (.newarray .int, 2) := by decide +kernel
theorem d_R_init_68 : decode b_R_init 68 = .ok (.putfield 32, 3) := by decide +kernel
theorem d_R_init_71 : decode b_R_init 71 = .ok (.aload_n 0, 1) := by decide +kernel
theorem d_R_init_72 : decode b_R_init 72 = .ok (.bipush 18, 2) := by decide +kernel
theorem d_R_init_74 : decode b_R_init 74 = .ok (.newarray .boolean, 2) := by decide +kernel
theorem d_R_init_76 : decode b_R_init 76 = .ok (.putfield 35, 3) := by decide +kernel
theorem d_R_init_79 : decode b_R_init 79 = .ok (.aload_n 0, 1) := by decide +kernel
theorem d_R_init_80 : decode b_R_init 80 = .ok (.bipush 18, 2) := by decide +kernel
theorem d_R_init_82 : decode b_R_init 82 = .ok (.newarray .boolean, 2) := by decide +kernel
theorem d_R_init_84 : decode b_R_init 84 = .ok (.putfield 38, 3) := by decide +kernel
theorem d_R_init_87 : decode b_R_init 87 = .ok (.aload_n 0, 1) := by decide +kernel
theorem d_R_init_88 : decode b_R_init 88 = .ok (.bipush 18, 2) := by decide +kernel
theorem d_R_init_90 : decode b_R_init 90 = .ok (.newarray .boolean, 2) := by decide +kernel
theorem d_R_init_92 : decode b_R_init 92 = .ok (.putfield 41, 3) := by decide +kernel
theorem d_R_init_95 : decode b_R_init 95 = .ok (.iconst 0, 1) := by decide +kernel
theorem d_R_init_96 : decode b_R_init 96 = .ok (.iconst 0, 1) := by decide +kernel
theorem d_R_init_97 : decode b_R_init 97 = .ok (.invokestatic 44, 3) := by decide +kernel
theorem d_R_init_100 : decode b_R_init 100 = .ok (.istore_n 1, 1) := by decide +kernel
theorem d_R_init_101 : decode b_R_init 101 = .ok (.aload_n 0, 1) := by decide +kernel
theorem d_R_init_102 : decode b_R_init 102 = .ok (.getfield 7, 3) := by decide +kernel
theorem d_R_init_105 : decode b_R_init 105 = .ok (.iload_n 1, 1) := by decide +kernel
theorem d_R_init_106 : decode b_R_init 106 = .ok (.iconst 2, 1) := by decide +kernel
theorem d_R_init_107 : decode b_R_init 107 = .ok (.iastore, 1) := by decide +kernel
theorem d_R_init_108 : decode b_R_init 108 = .ok (.aload_n 0, 1) := by decide +kernel
theorem d_R_init_109 : decode b_R_init 109 = .ok (.getfield 7, 3) := by decide +kernel
theorem d_R_init_112 : decode b_R_init 112 = .ok (.iload_n 1, 1) := by decide +kernel
theorem d_R_init_113 : decode b_R_init 113 = .ok (.iconst 1, 1) := by decide +kernel
theorem d_R_init_114 : decode b_R_init 114 = .ok (.iadd, 1) := by decide +kernel
theorem d_R_init_115 : decode b_R_init 115 = .ok (.iconst 1, 1) := by decide +kernel
theorem d_R_init_116 : decode b_R_init 116 = .ok (.iastore, 1) := by decide +kernel
theorem d_R_init_117 : decode b_R_init 117 = .ok (.aload_n 0, 1) := by decide +kernel
theorem d_R_init_118 : decode b_R_init 118 = .ok (.getfield 7, 3) := by decide +kernel
theorem d_R_init_121 : decode b_R_init 121 = .ok (.iload_n 1, 1) := by decide +kernel
theorem d_R_init_122 : decode b_R_init 122 = .ok (.iconst 2, 1) := by decide +kernel
theorem d_R_init_123 : decode b_R_init 123 = .ok (.iadd, 1) := by decide +kernel
theorem d_R_init_124 : decode b_R_init 124 = .ok (.iconst 2, 1) := by decide +kernel
theorem d_R_init_125 : decode b_R_init 125 = .ok (.iastore, 1) := by decide +kernel
theorem d_R_init_126 : decode b_R_init 126 = .ok (.aload_n 0, 1) := by decide +kernel
theorem d_R_init_127 : decode b_R_init 127 = .ok (.getfield 7, 3) := by decide +kernel
theorem d_R_init_130 : decode b_R_init 130 = .ok (.iconst 0, 1) := by decide +kernel
theorem d_R_init_131 : decode b_R_init 131 = .ok (.invokestatic 48, 3) := by decide +kernel
theorem d_R_init_134 : decode b_R_init 134 = .ok (.iconst 1, 1) := by decide +kernel
theorem d_R_init_135 : decode b_R_init 135 = .ok (.iastore, 1) := by decide +kernel
theorem d_R_init_136 : decode b_R_init 136 = .ok (.aload_n 0, 1) := by decide +kernel
theorem d_R_init_137 : decode b_R_init 137 = .ok (.getfield 7, 3) := by decide +kernel
theorem d_R_init_140 : decode b_R_init 140 = .ok (.iconst 2, 1) := by decide +kernel
theorem d_R_init_141 : decode b_R_init 141 = .ok (.invokestatic 52, 3) := by decide +kernel
theorem d_R_init_144 : decode b_R_init 144 = .ok (.iconst 1, 1) := by decide +kernel
theorem d_R_init_145 : decode b_R_init 145 = .ok (.iastore, 1) := by decide +kernel
theorem d_R_init_146 : decode b_R_init 146 = .ok (.iconst 0, 1) := by decide +kernel
theorem d_R_init_147 : decode b_R_init 147 = .ok (.istore_n 2, 1) := by decide +kernel
theorem d_R_init_148 : decode b_R_init 148 = .ok (.iload_n 2, 1) := by decide +kernel
theorem d_R_init_149 : decode b_R_init 149 = .ok (.sipush 1080, 3) := by decide +kernel
theorem d_R_init_152 : decode b_R_init 152 = .ok (.if_icmp .ge 21, 3) := by decide +kernel
theorem d_R_init_155 : decode b_R_init 155 = .ok (.aload_n 0, 1) := by decide +kernel
theorem d_R_init_156 : decode b_R_init 156 = .ok (.getfield 13, 3) := by decide +kernel
theorem d_R_init_159 : decode b_R_init 159 = .ok (.iload_n 2, 1) := by decide +kernel
theorem d_R_init_160 : decode b_R_init 160 = .ok (.aload_n 0, 1) := by decide +kernel
theorem d_R_init_161 : decode b_R_init 161 = .ok (.getfield 7, 3) := by decide +kernel
theorem d_R_init_164 : decode b_R_init 164 = .ok (.iload_n 2, 1) := by decide +kernel
theorem d_R_init_165 : decode b_R_init 165 = .ok (.iaload, 1) := by decide +kernel
theorem d_R_init_166 : decode b_R_init 166 = .ok (.iastore, 1) := by decide +kernel
theorem d_R_init_167 : decode b_R_init 167 = .ok (.iinc 2 1, 3) := by decide +kernel
theorem d_R_init_170 : decode b_R_init 170 = .ok (.goto (-22), 3) := by decide +kernel
theorem d_R_init_173 : decode b_R_init 173 = .ok (.return_, 1) := by decide +kernel
set_option maxHeartbeats 4000000 in
set_option maxRecDepth 100000 in
theorem c_R_init (l : Launch) (D : va_G) (cI cZ : ClassId) (h0 : Nat) : sc_c l y_R_init (o_R_init :: wA) rm_R_init D cI cZ [.ref h0] [(h0, .inr (2, [.null, .null, .null, .null, .null, .null, .null, .null, .null, .null, .null, .int 0]))] (fun w => ∃ a0 a1 a2 a3 a4 a5 a6 a7 a8 a9 a10 g, (∀ j, j < 1080 → g j = mR0 j) ∧ (∀ j, 1080 ≤ j → g j = 0) ∧ w = w_R cI cZ h0 a0 a1 a2 a3 a4 a5 a6 a7 a8 a9 a10 mR0 g z0 z0 z0 z0 z0 z0 z0 z0 z0 0) 11 2628 := by
  refine sc_c_of (cc := b_R_init) (maxL := 3) (by decide) rfl (Nat.le_of_ble_eq_true rfl) ?_
  intro p e s m below meth c A cf hr hlk hin hK hN hA ls hl hP hD
  have hx := cf.1
  have hb := cf.2.1
  have hml := cf.2.2.1
  have hown := cf.2.2.2.1
  have ht : ∀ w ∈ wA, w.before _ s = true := fun w h => cf.2.2.2.2 w (List.mem_cons_of_mem _ h)
  have hl : lv_has ls 3 [(0, .ref h0)] := hl
  have hS : va_S A s.heap s.heap [] := va_S.rf
  refine lv_aload_n hx hb d_R_init_0 rfl (lv_at hl 0 rfl) ?_
  refine W.objInit hx hb hown (ht (.methodLink "OrderedVolumeModel" 1 objectInit) (wA_t 401 (by decide +kernel) (by decide +kernel))) (ht _ oi_i) (ht _ oi_c) rfl (by rw [hml]; exact hl.1) rfl d_R_init_1 (Nat.le_of_ble_eq_true rfl) (Nat.le_of_ble_eq_true rfl) ?_
  refine W.eq (g2 := F0 m 4 ls []) rfl ?_
  refine lv_aload_n hx hb d_R_init_4 rfl (lv_at hl 0 rfl) ?_
  refine lv_sipush (v := (nI 1080)) hx hb d_R_init_5 (by decide) ?_
  refine va_newa (atype := .int) (a0 := (1080, .inl z0)) (ty := .int) hx hb (ht _ ar_int) rfl hK hP hD hS hA (fun _ => rfl) (by decide) (by decide) (by decide) (by decide) (by decide) d_R_init_8 (fun q8 cA H hK9 hP hD hS => ?_)
  have e9 := cA_I hK9
  subst e9
  have hP : va_P D clA [(h0, .inr (2, [.null, .null, .null, .null, .null, .null, .null, .null, .null, .null, .null, .int 0])), (q8, .inl (cI, 1080, .inl z0))] H := hP
  have hD : va_D A [(h0, .inr (2, [.null, .null, .null, .null, .null, .null, .null, .null, .null, .null, .null, .int 0])), (q8, .inl (cI, 1080, .inl z0))] := hD
  refine W.widen (k := 1) (n := 1080) (by decide) (by decide) ?_
  refine va_put (D := D) (ci := 2) (v := .ref q8) (ty := .array .int) (C := R_R) (T := F_R) (N := 12) hx hb ht in_R t_R t_R_ok n_R hown hK hP hD hS 0 rfl rfl 0 (by decide) (ht _ f_R_7) (fun _ h9 => h9) rfl (by decide +kernel) rfl rfl (Nat.le_of_ble_eq_true rfl) d_R_init_10 (fun H locs hP hD hS => ?_)
  have hP : va_P D clA [(h0, .inr (2, [.ref q8, .null, .null, .null, .null, .null, .null, .null, .null, .null, .null, .int 0])), (q8, .inl (cI, 1080, .inl z0))] H := hP
  have hD : va_D A [(h0, .inr (2, [.ref q8, .null, .null, .null, .null, .null, .null, .null, .null, .null, .null, .int 0])), (q8, .inl (cI, 1080, .inl z0))] := hD
  refine lv_aload_n hx hb d_R_init_13 rfl (lv_at hl 0 rfl) ?_
  refine lv_sipush (v := (nI 1080)) hx hb d_R_init_14 (by decide) ?_
  refine va_newa (atype := .int) (a0 := (1080, .inl z0)) (ty := .int) hx hb (ht _ ar_int) rfl hK hP hD hS hA (fun _ => rfl) (by decide) (by decide) (by decide) (by decide) (by decide) d_R_init_17 (fun q17 cA H hK9 hP hD hS => ?_)
  have e9 := cA_I hK9
  subst e9
  have hP : va_P D clA [(h0, .inr (2, [.ref q8, .null, .null, .null, .null, .null, .null, .null, .null, .null, .null, .int 0])), (q8, .inl (cI, 1080, .inl z0)), (q17, .inl (cI, 1080, .inl z0))] H := hP
  have hD : va_D A [(h0, .inr (2, [.ref q8, .null, .null, .null, .null, .null, .null, .null, .null, .null, .null, .int 0])), (q8, .inl (cI, 1080, .inl z0)), (q17, .inl (cI, 1080, .inl z0))] := hD
  refine W.widen (k := 2) (n := 2160) (by decide) (by decide) ?_
  refine va_put (D := D) (ci := 2) (v := .ref q17) (ty := .array .int) (C := R_R) (T := F_R) (N := 12) hx hb ht in_R t_R t_R_ok n_R hown hK hP hD hS 0 rfl rfl 1 (by decide) (ht _ f_R_13) (fun _ h9 => h9) rfl (by decide +kernel) rfl rfl (Nat.le_of_ble_eq_true rfl) d_R_init_19 (fun H locs hP hD hS => ?_)
  have hP : va_P D clA [(h0, .inr (2, [.ref q8, .ref q17, .null, .null, .null, .null, .null, .null, .null, .null, .null, .int 0])), (q8, .inl (cI, 1080, .inl z0)), (q17, .inl (cI, 1080, .inl z0))] H := hP
  have hD : va_D A [(h0, .inr (2, [.ref q8, .ref q17, .null, .null, .null, .null, .null, .null, .null, .null, .null, .int 0])), (q8, .inl (cI, 1080, .inl z0)), (q17, .inl (cI, 1080, .inl z0))] := hD
  refine lv_aload_n hx hb d_R_init_22 rfl (lv_at hl 0 rfl) ?_
  refine lv_bipush (v := (nI 36)) hx hb d_R_init_23 (by decide) ?_
  refine va_newa (atype := .boolean) (a0 := (36, .inl z0)) (ty := .boolean) hx hb (ht _ ar_bool) rfl hK hP hD hS hA (fun _ => rfl) (by decide) (by decide) (by decide) (by decide) (by decide) d_R_init_25 (fun q25 cA H hK9 hP hD hS => ?_)
  have e9 := cA_Z hK9
  subst e9
  have hP : va_P D clA [(h0, .inr (2, [.ref q8, .ref q17, .null, .null, .null, .null, .null, .null, .null, .null, .null, .int 0])), (q8, .inl (cI, 1080, .inl z0)), (q17, .inl (cI, 1080, .inl z0)), (q25, .inl (cZ, 36, .inl z0))] H := hP
  have hD : va_D A [(h0, .inr (2, [.ref q8, .ref q17, .null, .null, .null, .null, .null, .null, .null, .null, .null, .int 0])), (q8, .inl (cI, 1080, .inl z0)), (q17, .inl (cI, 1080, .inl z0)), (q25, .inl (cZ, 36, .inl z0))] := hD
  refine W.widen (k := 3) (n := 2196) (by decide) (by decide) ?_
  refine va_put (D := D) (ci := 2) (v := .ref q25) (ty := .array .boolean) (C := R_R) (T := F_R) (N := 12) hx hb ht in_R t_R t_R_ok n_R hown hK hP hD hS 0 rfl rfl 2 (by decide) (ht _ f_R_16) (fun _ h9 => h9) rfl (by decide +kernel) rfl rfl (Nat.le_of_ble_eq_true rfl) d_R_init_27 (fun H locs hP hD hS => ?_)
  have hP : va_P D clA [(h0, .inr (2, [.ref q8, .ref q17, .ref q25, .null, .null, .null, .null, .null, .null, .null, .null, .int 0])), (q8, .inl (cI, 1080, .inl z0)), (q17, .inl (cI, 1080, .inl z0)), (q25, .inl (cZ, 36, .inl z0))] H := hP
  have hD : va_D A [(h0, .inr (2, [.ref q8, .ref q17, .ref q25, .null, .null, .null, .null, .null, .null, .null, .null, .int 0])), (q8, .inl (cI, 1080, .inl z0)), (q17, .inl (cI, 1080, .inl z0)), (q25, .inl (cZ, 36, .inl z0))] := hD
  refine lv_aload_n hx hb d_R_init_30 rfl (lv_at hl 0 rfl) ?_
  refine lv_sipush (v := (nI 288)) hx hb d_R_init_31 (by decide) ?_
  refine va_newa (atype := .boolean) (a0 := (288, .inl z0)) (ty := .boolean) hx hb (ht _ ar_bool) rfl hK hP hD hS hA (fun _ => rfl) (by decide) (by decide) (by decide) (by decide) (by decide) d_R_init_34 (fun q34 cA H hK9 hP hD hS => ?_)
  have e9 := cA_Z hK9
  subst e9
  have hP : va_P D clA [(h0, .inr (2, [.ref q8, .ref q17, .ref q25, .null, .null, .null, .null, .null, .null, .null, .null, .int 0])), (q8, .inl (cI, 1080, .inl z0)), (q17, .inl (cI, 1080, .inl z0)), (q25, .inl (cZ, 36, .inl z0)), (q34, .inl (cZ, 288, .inl z0))] H := hP
  have hD : va_D A [(h0, .inr (2, [.ref q8, .ref q17, .ref q25, .null, .null, .null, .null, .null, .null, .null, .null, .int 0])), (q8, .inl (cI, 1080, .inl z0)), (q17, .inl (cI, 1080, .inl z0)), (q25, .inl (cZ, 36, .inl z0)), (q34, .inl (cZ, 288, .inl z0))] := hD
  refine W.widen (k := 4) (n := 2484) (by decide) (by decide) ?_
  refine va_put (D := D) (ci := 2) (v := .ref q34) (ty := .array .boolean) (C := R_R) (T := F_R) (N := 12) hx hb ht in_R t_R t_R_ok n_R hown hK hP hD hS 0 rfl rfl 3 (by decide) (ht _ f_R_20) (fun _ h9 => h9) rfl (by decide +kernel) rfl rfl (Nat.le_of_ble_eq_true rfl) d_R_init_36 (fun H locs hP hD hS => ?_)
  have hP : va_P D clA [(h0, .inr (2, [.ref q8, .ref q17, .ref q25, .ref q34, .null, .null, .null, .null, .null, .null, .null, .int 0])), (q8, .inl (cI, 1080, .inl z0)), (q17, .inl (cI, 1080, .inl z0)), (q25, .inl (cZ, 36, .inl z0)), (q34, .inl (cZ, 288, .inl z0))] H := hP
  have hD : va_D A [(h0, .inr (2, [.ref q8, .ref q17, .ref q25, .ref q34, .null, .null, .null, .null, .null, .null, .null, .int 0])), (q8, .inl (cI, 1080, .inl z0)), (q17, .inl (cI, 1080, .inl z0)), (q25, .inl (cZ, 36, .inl z0)), (q34, .inl (cZ, 288, .inl z0))] := hD
  refine lv_aload_n hx hb d_R_init_39 rfl (lv_at hl 0 rfl) ?_
  refine lv_bipush (v := (nI 36)) hx hb d_R_init_40 (by decide) ?_
  refine va_newa (atype := .int) (a0 := (36, .inl z0)) (ty := .int) hx hb (ht _ ar_int) rfl hK hP hD hS hA (fun _ => rfl) (by decide) (by decide) (by decide) (by decide) (by decide) d_R_init_42 (fun q42 cA H hK9 hP hD hS => ?_)
  have e9 := cA_I hK9
  subst e9
  have hP : va_P D clA [(h0, .inr (2, [.ref q8, .ref q17, .ref q25, .ref q34, .null, .null, .null, .null, .null, .null, .null, .int 0])), (q8, .inl (cI, 1080, .inl z0)), (q17, .inl (cI, 1080, .inl z0)), (q25, .inl (cZ, 36, .inl z0)), (q34, .inl (cZ, 288, .inl z0)), (q42, .inl (cI, 36, .inl z0))] H := hP
  have hD : va_D A [(h0, .inr (2, [.ref q8, .ref q17, .ref q25, .ref q34, .null, .null, .null, .null, .null, .null, .null, .int 0])), (q8, .inl (cI, 1080, .inl z0)), (q17, .inl (cI, 1080, .inl z0)), (q25, .inl (cZ, 36, .inl z0)), (q34, .inl (cZ, 288, .inl z0)), (q42, .inl (cI, 36, .inl z0))] := hD
  refine W.widen (k := 5) (n := 2520) (by decide) (by decide) ?_
  refine va_put (D := D) (ci := 2) (v := .ref q42) (ty := .array .int) (C := R_R) (T := F_R) (N := 12) hx hb ht in_R t_R t_R_ok n_R hown hK hP hD hS 0 rfl rfl 4 (by decide) (ht _ f_R_23) (fun _ h9 => h9) rfl (by decide +kernel) rfl rfl (Nat.le_of_ble_eq_true rfl) d_R_init_44 (fun H locs hP hD hS => ?_)
  have hP : va_P D clA [(h0, .inr (2, [.ref q8, .ref q17, .ref q25, .ref q34, .ref q42, .null, .null, .null, .null, .null, .null, .int 0])), (q8, .inl (cI, 1080, .inl z0)), (q17, .inl (cI, 1080, .inl z0)), (q25, .inl (cZ, 36, .inl z0)), (q34, .inl (cZ, 288, .inl z0)), (q42, .inl (cI, 36, .inl z0))] H := hP
  have hD : va_D A [(h0, .inr (2, [.ref q8, .ref q17, .ref q25, .ref q34, .ref q42, .null, .null, .null, .null, .null, .null, .int 0])), (q8, .inl (cI, 1080, .inl z0)), (q17, .inl (cI, 1080, .inl z0)), (q25, .inl (cZ, 36, .inl z0)), (q34, .inl (cZ, 288, .inl z0)), (q42, .inl (cI, 36, .inl z0))] := hD
  refine lv_aload_n hx hb d_R_init_47 rfl (lv_at hl 0 rfl) ?_
  refine lv_bipush (v := (nI 18)) hx hb d_R_init_48 (by decide) ?_
  refine va_newa (atype := .boolean) (a0 := (18, .inl z0)) (ty := .boolean) hx hb (ht _ ar_bool) rfl hK hP hD hS hA (fun _ => rfl) (by decide) (by decide) (by decide) (by decide) (by decide) d_R_init_50 (fun q50 cA H hK9 hP hD hS => ?_)
  have e9 := cA_Z hK9
  subst e9
  have hP : va_P D clA [(h0, .inr (2, [.ref q8, .ref q17, .ref q25, .ref q34, .ref q42, .null, .null, .null, .null, .null, .null, .int 0])), (q8, .inl (cI, 1080, .inl z0)), (q17, .inl (cI, 1080, .inl z0)), (q25, .inl (cZ, 36, .inl z0)), (q34, .inl (cZ, 288, .inl z0)), (q42, .inl (cI, 36, .inl z0)), (q50, .inl (cZ, 18, .inl z0))] H := hP
  have hD : va_D A [(h0, .inr (2, [.ref q8, .ref q17, .ref q25, .ref q34, .ref q42, .null, .null, .null, .null, .null, .null, .int 0])), (q8, .inl (cI, 1080, .inl z0)), (q17, .inl (cI, 1080, .inl z0)), (q25, .inl (cZ, 36, .inl z0)), (q34, .inl (cZ, 288, .inl z0)), (q42, .inl (cI, 36, .inl z0)), (q50, .inl (cZ, 18, .inl z0))] := hD
  refine W.widen (k := 6) (n := 2538) (by decide) (by decide) ?_
  refine va_put (D := D) (ci := 2) (v := .ref q50) (ty := .array .boolean) (C := R_R) (T := F_R) (N := 12) hx hb ht in_R t_R t_R_ok n_R hown hK hP hD hS 0 rfl rfl 5 (by decide) (ht _ f_R_26) (fun _ h9 => h9) rfl (by decide +kernel) rfl rfl (Nat.le_of_ble_eq_true rfl) d_R_init_52 (fun H locs hP hD hS => ?_)
  have hP : va_P D clA [(h0, .inr (2, [.ref q8, .ref q17, .ref q25, .ref q34, .ref q42, .ref q50, .null, .null, .null, .null, .null, .int 0])), (q8, .inl (cI, 1080, .inl z0)), (q17, .inl (cI, 1080, .inl z0)), (q25, .inl (cZ, 36, .inl z0)), (q34, .inl (cZ, 288, .inl z0)), (q42, .inl (cI, 36, .inl z0)), (q50, .inl (cZ, 18, .inl z0))] H := hP
  have hD : va_D A [(h0, .inr (2, [.ref q8, .ref q17, .ref q25, .ref q34, .ref q42, .ref q50, .null, .null, .null, .null, .null, .int 0])), (q8, .inl (cI, 1080, .inl z0)), (q17, .inl (cI, 1080, .inl z0)), (q25, .inl (cZ, 36, .inl z0)), (q34, .inl (cZ, 288, .inl z0)), (q42, .inl (cI, 36, .inl z0)), (q50, .inl (cZ, 18, .inl z0))] := hD
  refine lv_aload_n hx hb d_R_init_55 rfl (lv_at hl 0 rfl) ?_
  refine lv_bipush (v := (nI 18)) hx hb d_R_init_56 (by decide) ?_
  refine va_newa (atype := .int) (a0 := (18, .inl z0)) (ty := .int) hx hb (ht _ ar_int) rfl hK hP hD hS hA (fun _ => rfl) (by decide) (by decide) (by decide) (by decide) (by decide) d_R_init_58 (fun q58 cA H hK9 hP hD hS => ?_)
  have e9 := cA_I hK9
  subst e9
  have hP : va_P D clA [(h0, .inr (2, [.ref q8, .ref q17, .ref q25, .ref q34, .ref q42, .ref q50, .null, .null, .null, .null, .null, .int 0])), (q8, .inl (cI, 1080, .inl z0)), (q17, .inl (cI, 1080, .inl z0)), (q25, .inl (cZ, 36, .inl z0)), (q34, .inl (cZ, 288, .inl z0)), (q42, .inl (cI, 36, .inl z0)), (q50, .inl (cZ, 18, .inl z0)), (q58, .inl (cI, 18, .inl z0))] H := hP
  have hD : va_D A [(h0, .inr (2, [.ref q8, .ref q17, .ref q25, .ref q34, .ref q42, .ref q50, .null, .null, .null, .null, .null, .int 0])), (q8, .inl (cI, 1080, .inl z0)), (q17, .inl (cI, 1080, .inl z0)), (q25, .inl (cZ, 36, .inl z0)), (q34, .inl (cZ, 288, .inl z0)), (q42, .inl (cI, 36, .inl z0)), (q50, .inl (cZ, 18, .inl z0)), (q58, .inl (cI, 18, .inl z0))] := hD
  refine W.widen (k := 7) (n := 2556) (by decide) (by decide) ?_
  refine va_put (D := D) (ci := 2) (v := .ref q58) (ty := .array .int) (C := R_R) (T := F_R) (N := 12) hx hb ht in_R t_R t_R_ok n_R hown hK hP hD hS 0 rfl rfl 6 (by decide) (ht _ f_R_29) (fun _ h9 => h9) rfl (by decide +kernel) rfl rfl (Nat.le_of_ble_eq_true rfl) d_R_init_60 (fun H locs hP hD hS => ?_)
  have hP : va_P D clA [(h0, .inr (2, [.ref q8, .ref q17, .ref q25, .ref q34, .ref q42, .ref q50, .ref q58, .null, .null, .null, .null, .int 0])), (q8, .inl (cI, 1080, .inl z0)), (q17, .inl (cI, 1080, .inl z0)), (q25, .inl (cZ, 36, .inl z0)), (q34, .inl (cZ, 288, .inl z0)), (q42, .inl (cI, 36, .inl z0)), (q50, .inl (cZ, 18, .inl z0)), (q58, .inl (cI, 18, .inl z0))] H := hP
  have hD : va_D A [(h0, .inr (2, [.ref q8, .ref q17, .ref q25, .ref q34, .ref q42, .ref q50, .ref q58, .null, .null, .null, .null, .int 0])), (q8, .inl (cI, 1080, .inl z0)), (q17, .inl (cI, 1080, .inl z0)), (q25, .inl (cZ, 36, .inl z0)), (q34, .inl (cZ, 288, .inl z0)), (q42, .inl (cI, 36, .inl z0)), (q50, .inl (cZ, 18, .inl z0)), (q58, .inl (cI, 18, .inl z0))] := hD
  refine lv_aload_n hx hb d_R_init_63 rfl (lv_at hl 0 rfl) ?_
  refine lv_bipush (v := (nI 18)) hx hb d_R_init_64 (by decide) ?_
  refine va_newa (atype := .int) (a0 := (18, .inl z0)) (ty := .int) hx hb (ht _ ar_int) rfl hK hP hD hS hA (fun _ => rfl) (by decide) (by decide) (by decide) (by decide) (by decide) d_R_init_66 (fun q66 cA H hK9 hP hD hS => ?_)
  have e9 := cA_I hK9
  subst e9
  have hP : va_P D clA [(h0, .inr (2, [.ref q8, .ref q17, .ref q25, .ref q34, .ref q42, .ref q50, .ref q58, .null, .null, .null, .null, .int 0])), (q8, .inl (cI, 1080, .inl z0)), (q17, .inl (cI, 1080, .inl z0)), (q25, .inl (cZ, 36, .inl z0)), (q34, .inl (cZ, 288, .inl z0)), (q42, .inl (cI, 36, .inl z0)), (q50, .inl (cZ, 18, .inl z0)), (q58, .inl (cI, 18, .inl z0)), (q66, .inl (cI, 18, .inl z0))] H := hP
  have hD : va_D A [(h0, .inr (2, [.ref q8, .ref q17, .ref q25, .ref q34, .ref q42, .ref q50, .ref q58, .null, .null, .null, .null, .int 0])), (q8, .inl (cI, 1080, .inl z0)), (q17, .inl (cI, 1080, .inl z0)), (q25, .inl (cZ, 36, .inl z0)), (q34, .inl (cZ, 288, .inl z0)), (q42, .inl (cI, 36, .inl z0)), (q50, .inl (cZ, 18, .inl z0)), (q58, .inl (cI, 18, .inl z0)), (q66, .inl (cI, 18, .inl z0))] := hD
  refine W.widen (k := 8) (n := 2574) (by decide) (by decide) ?_
  refine va_put (D := D) (ci := 2) (v := .ref q66) (ty := .array .int) (C := R_R) (T := F_R) (N := 12) hx hb ht in_R t_R t_R_ok n_R hown hK hP hD hS 0 rfl rfl 7 (by decide) (ht _ f_R_32) (fun _ h9 => h9) rfl (by decide +kernel) rfl rfl (Nat.le_of_ble_eq_true rfl) d_R_init_68 (fun H locs hP hD hS => ?_)
  have hP : va_P D clA [(h0, .inr (2, [.ref q8, .ref q17, .ref q25, .ref q34, .ref q42, .ref q50, .ref q58, .ref q66, .null, .null, .null, .int 0])), (q8, .inl (cI, 1080, .inl z0)), (q17, .inl (cI, 1080, .inl z0)), (q25, .inl (cZ, 36, .inl z0)), (q34, .inl (cZ, 288, .inl z0)), (q42, .inl (cI, 36, .inl z0)), (q50, .inl (cZ, 18, .inl z0)), (q58, .inl (cI, 18, .inl z0)), (q66, .inl (cI, 18, .inl z0))] H := hP
  have hD : va_D A [(h0, .inr (2, [.ref q8, .ref q17, .ref q25, .ref q34, .ref q42, .ref q50, .ref q58, .ref q66, .null, .null, .null, .int 0])), (q8, .inl (cI, 1080, .inl z0)), (q17, .inl (cI, 1080, .inl z0)), (q25, .inl (cZ, 36, .inl z0)), (q34, .inl (cZ, 288, .inl z0)), (q42, .inl (cI, 36, .inl z0)), (q50, .inl (cZ, 18, .inl z0)), (q58, .inl (cI, 18, .inl z0)), (q66, .inl (cI, 18, .inl z0))] := hD
  refine lv_aload_n hx hb d_R_init_71 rfl (lv_at hl 0 rfl) ?_
  refine lv_bipush (v := (nI 18)) hx hb d_R_init_72 (by decide) ?_
  refine va_newa (atype := .boolean) (a0 := (18, .inl z0)) (ty := .boolean) hx hb (ht _ ar_bool) rfl hK hP hD hS hA (fun _ => rfl) (by decide) (by decide) (by decide) (by decide) (by decide) d_R_init_74 (fun q74 cA H hK9 hP hD hS => ?_)
  have e9 := cA_Z hK9
  subst e9
  have hP : va_P D clA [(h0, .inr (2, [.ref q8, .ref q17, .ref q25, .ref q34, .ref q42, .ref q50, .ref q58, .ref q66, .null, .null, .null, .int 0])), (q8, .inl (cI, 1080, .inl z0)), (q17, .inl (cI, 1080, .inl z0)), (q25, .inl (cZ, 36, .inl z0)), (q34, .inl (cZ, 288, .inl z0)), (q42, .inl (cI, 36, .inl z0)), (q50, .inl (cZ, 18, .inl z0)), (q58, .inl (cI, 18, .inl z0)), (q66, .inl (cI, 18, .inl z0)), (q74, .inl (cZ, 18, .inl z0))] H := hP
  have hD : va_D A [(h0, .inr (2, [.ref q8, .ref q17, .ref q25, .ref q34, .ref q42, .ref q50, .ref q58, .ref q66, .null, .null, .null, .int 0])), (q8, .inl (cI, 1080, .inl z0)), (q17, .inl (cI, 1080, .inl z0)), (q25, .inl (cZ, 36, .inl z0)), (q34, .inl (cZ, 288, .inl z0)), (q42, .inl (cI, 36, .inl z0)), (q50, .inl (cZ, 18, .inl z0)), (q58, .inl (cI, 18, .inl z0)), (q66, .inl (cI, 18, .inl z0)), (q74, .inl (cZ, 18, .inl z0))] := hD
  refine W.widen (k := 9) (n := 2592) (by decide) (by decide) ?_
  refine va_put (D := D) (ci := 2) (v := .ref q74) (ty := .array .boolean) (C := R_R) (T := F_R) (N := 12) hx hb ht in_R t_R t_R_ok n_R hown hK hP hD hS 0 rfl rfl 8 (by decide) (ht _ f_R_35) (fun _ h9 => h9) rfl (by decide +kernel) rfl rfl (Nat.le_of_ble_eq_true rfl) d_R_init_76 (fun H locs hP hD hS => ?_)
  have hP : va_P D clA [(h0, .inr (2, [.ref q8, .ref q17, .ref q25, .ref q34, .ref q42, .ref q50, .ref q58, .ref q66, .ref q74, .null, .null, .int 0])), (q8, .inl (cI, 1080, .inl z0)), (q17, .inl (cI, 1080, .inl z0)), (q25, .inl (cZ, 36, .inl z0)), (q34, .inl (cZ, 288, .inl z0)), (q42, .inl (cI, 36, .inl z0)), (q50, .inl (cZ, 18, .inl z0)), (q58, .inl (cI, 18, .inl z0)), (q66, .inl (cI, 18, .inl z0)), (q74, .inl (cZ, 18, .inl z0))] H := hP
  have hD : va_D A [(h0, .inr (2, [.ref q8, .ref q17, .ref q25, .ref q34, .ref q42, .ref q50, .ref q58, .ref q66, .ref q74, .null, .null, .int 0])), (q8, .inl (cI, 1080, .inl z0)), (q17, .inl (cI, 1080, .inl z0)), (q25, .inl (cZ, 36, .inl z0)), (q34, .inl (cZ, 288, .inl z0)), (q42, .inl (cI, 36, .inl z0)), (q50, .inl (cZ, 18, .inl z0)), (q58, .inl (cI, 18, .inl z0)), (q66, .inl (cI, 18, .inl z0)), (q74, .inl (cZ, 18, .inl z0))] := hD
  refine lv_aload_n hx hb d_R_init_79 rfl (lv_at hl 0 rfl) ?_
  refine lv_bipush (v := (nI 18)) hx hb d_R_init_80 (by decide) ?_
  refine va_newa (atype := .boolean) (a0 := (18, .inl z0)) (ty := .boolean) hx hb (ht _ ar_bool) rfl hK hP hD hS hA (fun _ => rfl) (by decide) (by decide) (by decide) (by decide) (by decide) d_R_init_82 (fun q82 cA H hK9 hP hD hS => ?_)
  have e9 := cA_Z hK9
  subst e9
  have hP : va_P D clA [(h0, .inr (2, [.ref q8, .ref q17, .ref q25, .ref q34, .ref q42, .ref q50, .ref q58, .ref q66, .ref q74, .null, .null, .int 0])), (q8, .inl (cI, 1080, .inl z0)), (q17, .inl (cI, 1080, .inl z0)), (q25, .inl (cZ, 36, .inl z0)), (q34, .inl (cZ, 288, .inl z0)), (q42, .inl (cI, 36, .inl z0)), (q50, .inl (cZ, 18, .inl z0)), (q58, .inl (cI, 18, .inl z0)), (q66, .inl (cI, 18, .inl z0)), (q74, .inl (cZ, 18, .inl z0)), (q82, .inl (cZ, 18, .inl z0))] H := hP
  have hD : va_D A [(h0, .inr (2, [.ref q8, .ref q17, .ref q25, .ref q34, .ref q42, .ref q50, .ref q58, .ref q66, .ref q74, .null, .null, .int 0])), (q8, .inl (cI, 1080, .inl z0)), (q17, .inl (cI, 1080, .inl z0)), (q25, .inl (cZ, 36, .inl z0)), (q34, .inl (cZ, 288, .inl z0)), (q42, .inl (cI, 36, .inl z0)), (q50, .inl (cZ, 18, .inl z0)), (q58, .inl (cI, 18, .inl z0)), (q66, .inl (cI, 18, .inl z0)), (q74, .inl (cZ, 18, .inl z0)), (q82, .inl (cZ, 18, .inl z0))] := hD
  refine W.widen (k := 10) (n := 2610) (by decide) (by decide) ?_
  refine va_put (D := D) (ci := 2) (v := .ref q82) (ty := .array .boolean) (C := R_R) (T := F_R) (N := 12) hx hb ht in_R t_R t_R_ok n_R hown hK hP hD hS 0 rfl rfl 9 (by decide) (ht _ f_R_38) (fun _ h9 => h9) rfl (by decide +kernel) rfl rfl (Nat.le_of_ble_eq_true rfl) d_R_init_84 (fun H locs hP hD hS => ?_)
  have hP : va_P D clA [(h0, .inr (2, [.ref q8, .ref q17, .ref q25, .ref q34, .ref q42, .ref q50, .ref q58, .ref q66, .ref q74, .ref q82, .null, .int 0])), (q8, .inl (cI, 1080, .inl z0)), (q17, .inl (cI, 1080, .inl z0)), (q25, .inl (cZ, 36, .inl z0)), (q34, .inl (cZ, 288, .inl z0)), (q42, .inl (cI, 36, .inl z0)), (q50, .inl (cZ, 18, .inl z0)), (q58, .inl (cI, 18, .inl z0)), (q66, .inl (cI, 18, .inl z0)), (q74, .inl (cZ, 18, .inl z0)), (q82, .inl (cZ, 18, .inl z0))] H := hP
  have hD : va_D A [(h0, .inr (2, [.ref q8, .ref q17, .ref q25, .ref q34, .ref q42, .ref q50, .ref q58, .ref q66, .ref q74, .ref q82, .null, .int 0])), (q8, .inl (cI, 1080, .inl z0)), (q17, .inl (cI, 1080, .inl z0)), (q25, .inl (cZ, 36, .inl z0)), (q34, .inl (cZ, 288, .inl z0)), (q42, .inl (cI, 36, .inl z0)), (q50, .inl (cZ, 18, .inl z0)), (q58, .inl (cI, 18, .inl z0)), (q66, .inl (cI, 18, .inl z0)), (q74, .inl (cZ, 18, .inl z0)), (q82, .inl (cZ, 18, .inl z0))] := hD
  refine lv_aload_n hx hb d_R_init_87 rfl (lv_at hl 0 rfl) ?_
  refine lv_bipush (v := (nI 18)) hx hb d_R_init_88 (by decide) ?_
  refine va_newa (atype := .boolean) (a0 := (18, .inl z0)) (ty := .boolean) hx hb (ht _ ar_bool) rfl hK hP hD hS hA (fun _ => rfl) (by decide) (by decide) (by decide) (by decide) (by decide) d_R_init_90 (fun q90 cA H hK9 hP hD hS => ?_)
  have e9 := cA_Z hK9
  subst e9
  have hP : va_P D clA [(h0, .inr (2, [.ref q8, .ref q17, .ref q25, .ref q34, .ref q42, .ref q50, .ref q58, .ref q66, .ref q74, .ref q82, .null, .int 0])), (q8, .inl (cI, 1080, .inl z0)), (q17, .inl (cI, 1080, .inl z0)), (q25, .inl (cZ, 36, .inl z0)), (q34, .inl (cZ, 288, .inl z0)), (q42, .inl (cI, 36, .inl z0)), (q50, .inl (cZ, 18, .inl z0)), (q58, .inl (cI, 18, .inl z0)), (q66, .inl (cI, 18, .inl z0)), (q74, .inl (cZ, 18, .inl z0)), (q82, .inl (cZ, 18, .inl z0)), (q90, .inl (cZ, 18, .inl z0))] H := hP
  have hD : va_D A [(h0, .inr (2, [.ref q8, .ref q17, .ref q25, .ref q34, .ref q42, .ref q50, .ref q58, .ref q66, .ref q74, .ref q82, .null, .int 0])), (q8, .inl (cI, 1080, .inl z0)), (q17, .inl (cI, 1080, .inl z0)), (q25, .inl (cZ, 36, .inl z0)), (q34, .inl (cZ, 288, .inl z0)), (q42, .inl (cI, 36, .inl z0)), (q50, .inl (cZ, 18, .inl z0)), (q58, .inl (cI, 18, .inl z0)), (q66, .inl (cI, 18, .inl z0)), (q74, .inl (cZ, 18, .inl z0)), (q82, .inl (cZ, 18, .inl z0)), (q90, .inl (cZ, 18, .inl z0))] := hD
  refine W.widen (k := 11) (n := 2628) (by decide) (by decide) ?_
  refine va_put (D := D) (ci := 2) (v := .ref q90) (ty := .array .boolean) (C := R_R) (T := F_R) (N := 12) hx hb ht in_R t_R t_R_ok n_R hown hK hP hD hS 0 rfl rfl 10 (by decide) (ht _ f_R_41) (fun _ h9 => h9) rfl (by decide +kernel) rfl rfl (Nat.le_of_ble_eq_true rfl) d_R_init_92 (fun H locs hP hD hS => ?_)
  have hP : va_P D clA [(h0, .inr (2, [.ref q8, .ref q17, .ref q25, .ref q34, .ref q42, .ref q50, .ref q58, .ref q66, .ref q74, .ref q82, .ref q90, .int 0])), (q8, .inl (cI, 1080, .inl z0)), (q17, .inl (cI, 1080, .inl z0)), (q25, .inl (cZ, 36, .inl z0)), (q34, .inl (cZ, 288, .inl z0)), (q42, .inl (cI, 36, .inl z0)), (q50, .inl (cZ, 18, .inl z0)), (q58, .inl (cI, 18, .inl z0)), (q66, .inl (cI, 18, .inl z0)), (q74, .inl (cZ, 18, .inl z0)), (q82, .inl (cZ, 18, .inl z0)), (q90, .inl (cZ, 18, .inl z0))] H := hP
  have hD : va_D A [(h0, .inr (2, [.ref q8, .ref q17, .ref q25, .ref q34, .ref q42, .ref q50, .ref q58, .ref q66, .ref q74, .ref q82, .ref q90, .int 0])), (q8, .inl (cI, 1080, .inl z0)), (q17, .inl (cI, 1080, .inl z0)), (q25, .inl (cZ, 36, .inl z0)), (q34, .inl (cZ, 288, .inl z0)), (q42, .inl (cI, 36, .inl z0)), (q50, .inl (cZ, 18, .inl z0)), (q58, .inl (cI, 18, .inl z0)), (q66, .inl (cI, 18, .inl z0)), (q74, .inl (cZ, 18, .inl z0)), (q82, .inl (cZ, 18, .inl z0)), (q90, .inl (cZ, 18, .inl z0))] := hD
  have hP : va_P D clA (w_R cI cZ h0 q8 q17 q25 q34 q42 q50 q58 q66 q74 q82 q90 z0 z0 z0 z0 z0 z0 z0 z0 z0 z0 z0 0) H := hP
  have hD : va_D A (w_R cI cZ h0 q8 q17 q25 q34 q42 q50 q58 q66 q74 q82 q90 z0 z0 z0 z0 z0 z0 z0 z0 z0 z0 z0 0) := hD
  refine W.widen (k := 11) (n := 2628) (by decide) (by decide) ?_
  refine lv_iconst (v := (nI 0)) hx hb d_R_init_95 (by decide) ?_
  refine lv_iconst (v := (nI 0)) hx hb d_R_init_96 (by decide) ?_
  refine wk_SiC (As := [.int (nI 0), .int (nI 0)]) (rest := []) (wc := []) (w1 := []) (wr := (w_R cI cZ h0 q8 q17 q25 q34 q42 q50 q58 q66 q74 q82 q90 z0 z0 z0 z0 z0 z0 z0 z0 z0 z0 z0 0)) (wz := (w_R cI cZ h0 q8 q17 q25 q34 q42 q50 q58 q66 q74 q82 q90 z0 z0 z0 z0 z0 z0 z0 z0 z0 z0 z0 0)) cf ⟨by decide, by decide⟩ hK hN hA (c_R_at l D cI cZ 0 (nI 0) (nI 0) (nI 30) rfl) k_R_44 ⟨rfl, rfl, by decide, by decide⟩ hl hP hD hS [] [0, 1, 2, 3, 4, 5, 6, 7, 8, 9, 10, 11] [0, 1, 2, 3, 4, 5, 6, 7, 8, 9, 10, 11] rfl rfl rfl (by decide) rfl rfl rfl rfl rfl (Nat.le_of_ble_eq_true rfl) rfl d_R_init_97 (fun H locs hP hD hS => ?_)
  refine lv_istore_n (lv' := [(1, .int (nI 30)), (0, .ref h0)]) hx hb d_R_init_100 rfl hl (by decide) rfl (fun ls hl => ?_)
  refine lv_aload_n hx hb d_R_init_101 rfl (lv_at hl 1 rfl) ?_
  refine va_get (D := D) (ci := 2) (v := .ref q8) (C := R_R) (T := F_R) (N := 12) hx hb ht in_R hown hK hP 0 rfl rfl 0 (by decide) (ht _ f_R_7) (fun _ h9 => h9) rfl d_R_init_102 ?_
  refine lv_iload_n hx hb d_R_init_105 rfl (lv_at hl 0 rfl) ?_
  refine lv_iconst (v := (nI 2)) hx hb d_R_init_106 (by decide) ?_
  refine va_iast hx hb hK hP hD hS 1 0 rfl rfl (by unfold vp_in; decide) d_R_init_107 (fun H locs hP hD hS => ?_)
  have hP : va_P D clA (w_R cI cZ h0 q8 q17 q25 q34 q42 q50 q58 q66 q74 q82 q90 (upd z0 30 (nI 2)) z0 z0 z0 z0 z0 z0 z0 z0 z0 z0 0) H := hP
  have hD : va_D A (w_R cI cZ h0 q8 q17 q25 q34 q42 q50 q58 q66 q74 q82 q90 (upd z0 30 (nI 2)) z0 z0 z0 z0 z0 z0 z0 z0 z0 z0 0) := hD
  refine lv_aload_n hx hb d_R_init_108 rfl (lv_at hl 1 rfl) ?_
  refine va_get (D := D) (ci := 2) (v := .ref q8) (C := R_R) (T := F_R) (N := 12) hx hb ht in_R hown hK hP 0 rfl rfl 0 (by decide) (ht _ f_R_7) (fun _ h9 => h9) rfl d_R_init_109 ?_
  refine lv_iload_n hx hb d_R_init_112 rfl (lv_at hl 0 rfl) ?_
  refine lv_iconst (v := (nI 1)) hx hb d_R_init_113 (by decide) ?_
  refine lv_iadd hx hb d_R_init_114 ?_
  refine lv_iconst (v := (nI 1)) hx hb d_R_init_115 (by decide) ?_
  refine va_iast hx hb hK hP hD hS 1 0 rfl rfl (by unfold vp_in; decide) d_R_init_116 (fun H locs hP hD hS => ?_)
  have hP : va_P D clA (w_R cI cZ h0 q8 q17 q25 q34 q42 q50 q58 q66 q74 q82 q90 (upd (upd z0 30 (nI 2)) 31 (nI 1)) z0 z0 z0 z0 z0 z0 z0 z0 z0 z0 0) H := hP
  have hD : va_D A (w_R cI cZ h0 q8 q17 q25 q34 q42 q50 q58 q66 q74 q82 q90 (upd (upd z0 30 (nI 2)) 31 (nI 1)) z0 z0 z0 z0 z0 z0 z0 z0 z0 z0 0) := hD
  refine lv_aload_n hx hb d_R_init_117 rfl (lv_at hl 1 rfl) ?_
  refine va_get (D := D) (ci := 2) (v := .ref q8) (C := R_R) (T := F_R) (N := 12) hx hb ht in_R hown hK hP 0 rfl rfl 0 (by decide) (ht _ f_R_7) (fun _ h9 => h9) rfl d_R_init_118 ?_
  refine lv_iload_n hx hb d_R_init_121 rfl (lv_at hl 0 rfl) ?_
  refine lv_iconst (v := (nI 2)) hx hb d_R_init_122 (by decide) ?_
  refine lv_iadd hx hb d_R_init_123 ?_
  refine lv_iconst (v := (nI 2)) hx hb d_R_init_124 (by decide) ?_
  refine va_iast hx hb hK hP hD hS 1 0 rfl rfl (by unfold vp_in; decide) d_R_init_125 (fun H locs hP hD hS => ?_)
  have hP : va_P D clA (w_R cI cZ h0 q8 q17 q25 q34 q42 q50 q58 q66 q74 q82 q90 (upd (upd (upd z0 30 (nI 2)) 31 (nI 1)) 32 (nI 2)) z0 z0 z0 z0 z0 z0 z0 z0 z0 z0 0) H := hP
  have hD : va_D A (w_R cI cZ h0 q8 q17 q25 q34 q42 q50 q58 q66 q74 q82 q90 (upd (upd (upd z0 30 (nI 2)) 31 (nI 1)) 32 (nI 2)) z0 z0 z0 z0 z0 z0 z0 z0 z0 z0 0) := hD
  refine lv_aload_n hx hb d_R_init_126 rfl (lv_at hl 1 rfl) ?_
  refine va_get (D := D) (ci := 2) (v := .ref q8) (C := R_R) (T := F_R) (N := 12) hx hb ht in_R hown hK hP 0 rfl rfl 0 (by decide) (ht _ f_R_7) (fun _ h9 => h9) rfl d_R_init_127 ?_
  refine lv_iconst (v := (nI 0)) hx hb d_R_init_130 (by decide) ?_
  refine wk_SiC (As := [.int (nI 0)]) (rest := [.ref q8]) (wc := []) (w1 := []) (wr := (w_R cI cZ h0 q8 q17 q25 q34 q42 q50 q58 q66 q74 q82 q90 (upd (upd (upd z0 30 (nI 2)) 31 (nI 1)) 32 (nI 2)) z0 z0 z0 z0 z0 z0 z0 z0 z0 z0 0)) (wz := (w_R cI cZ h0 q8 q17 q25 q34 q42 q50 q58 q66 q74 q82 q90 (upd (upd (upd z0 30 (nI 2)) 31 (nI 1)) 32 (nI 2)) z0 z0 z0 z0 z0 z0 z0 z0 z0 z0 0)) cf ⟨by decide, by decide⟩ hK hN hA (c_R_markOfInode l D cI cZ 0 (nI 0) (nI 0) rfl) k_R_48 ⟨rfl, rfl, by decide, by decide⟩ hl hP hD hS [] [0, 1, 2, 3, 4, 5, 6, 7, 8, 9, 10, 11] [0, 1, 2, 3, 4, 5, 6, 7, 8, 9, 10, 11] rfl rfl rfl (by decide) rfl rfl rfl rfl rfl (Nat.le_of_ble_eq_true rfl) rfl d_R_init_131 (fun H locs hP hD hS => ?_)
  refine lv_iconst (v := (nI 1)) hx hb d_R_init_134 (by decide) ?_
  refine va_iast hx hb hK hP hD hS 1 0 rfl rfl (by unfold vp_in; decide) d_R_init_135 (fun H locs hP hD hS => ?_)
  have hP : va_P D clA (w_R cI cZ h0 q8 q17 q25 q34 q42 q50 q58 q66 q74 q82 q90 (upd (upd (upd (upd z0 30 (nI 2)) 31 (nI 1)) 32 (nI 2)) 0 (nI 1)) z0 z0 z0 z0 z0 z0 z0 z0 z0 z0 0) H := hP
  have hD : va_D A (w_R cI cZ h0 q8 q17 q25 q34 q42 q50 q58 q66 q74 q82 q90 (upd (upd (upd (upd z0 30 (nI 2)) 31 (nI 1)) 32 (nI 2)) 0 (nI 1)) z0 z0 z0 z0 z0 z0 z0 z0 z0 z0 0) := hD
  refine lv_aload_n hx hb d_R_init_136 rfl (lv_at hl 1 rfl) ?_
  refine va_get (D := D) (ci := 2) (v := .ref q8) (C := R_R) (T := F_R) (N := 12) hx hb ht in_R hown hK hP 0 rfl rfl 0 (by decide) (ht _ f_R_7) (fun _ h9 => h9) rfl d_R_init_137 ?_
  refine lv_iconst (v := (nI 2)) hx hb d_R_init_140 (by decide) ?_
  refine wk_SiC (As := [.int (nI 2)]) (rest := [.ref q8]) (wc := []) (w1 := []) (wr := (w_R cI cZ h0 q8 q17 q25 q34 q42 q50 q58 q66 q74 q82 q90 (upd (upd (upd (upd z0 30 (nI 2)) 31 (nI 1)) 32 (nI 2)) 0 (nI 1)) z0 z0 z0 z0 z0 z0 z0 z0 z0 z0 0)) (wz := (w_R cI cZ h0 q8 q17 q25 q34 q42 q50 q58 q66 q74 q82 q90 (upd (upd (upd (upd z0 30 (nI 2)) 31 (nI 1)) 32 (nI 2)) 0 (nI 1)) z0 z0 z0 z0 z0 z0 z0 z0 z0 z0 0)) cf ⟨by decide, by decide⟩ hK hN hA (c_R_markOfBlock l D cI cZ 0 (nI 2) (nI 6) rfl) k_R_52 ⟨rfl, rfl, by decide, by decide⟩ hl hP hD hS [] [0, 1, 2, 3, 4, 5, 6, 7, 8, 9, 10, 11] [0, 1, 2, 3, 4, 5, 6, 7, 8, 9, 10, 11] rfl rfl rfl (by decide) rfl rfl rfl rfl rfl (Nat.le_of_ble_eq_true rfl) rfl d_R_init_141 (fun H locs hP hD hS => ?_)
  refine lv_iconst (v := (nI 1)) hx hb d_R_init_144 (by decide) ?_
  refine va_iast hx hb hK hP hD hS 1 0 rfl rfl (by unfold vp_in; decide) d_R_init_145 (fun H locs hP hD hS => ?_)
  have hP : va_P D clA (w_R cI cZ h0 q8 q17 q25 q34 q42 q50 q58 q66 q74 q82 q90 (upd (upd (upd (upd (upd z0 30 (nI 2)) 31 (nI 1)) 32 (nI 2)) 0 (nI 1)) 6 (nI 1)) z0 z0 z0 z0 z0 z0 z0 z0 z0 z0 0) H := hP
  have hD : va_D A (w_R cI cZ h0 q8 q17 q25 q34 q42 q50 q58 q66 q74 q82 q90 (upd (upd (upd (upd (upd z0 30 (nI 2)) 31 (nI 1)) 32 (nI 2)) 0 (nI 1)) 6 (nI 1)) z0 z0 z0 z0 z0 z0 z0 z0 z0 z0 0) := hD
  refine lv_iconst (v := (nI 0)) hx hb d_R_init_146 (by decide) ?_
  refine lv_istore_n (lv' := [(2, .int (nI 0)), (1, .int (nI 30)), (0, .ref h0)]) hx hb d_R_init_147 rfl hl (by decide) rfl (fun ls hl => ?_)
  have key : ∀ (r k : Nat) (g : Nat → Int32) (H : Heap) (locs : List Loc) (ls : Array Slot), k + r = 1080 → (∀ j, j < k → g j = mR0 j) → (∀ j, k ≤ j → g j = 0) → lv_has ls 3 [(2, .int (nI k)), (1, .int (nI 30)), (0, .ref h0)] → va_P D clA (w_R cI cZ h0 q8 q17 q25 q34 q42 q50 q58 q66 q74 q82 q90 mR0 g z0 z0 z0 z0 z0 z0 z0 z0 z0 0) H → va_D A (w_R cI cZ h0 q8 q17 q25 q34 q42 q50 q58 q66 q74 q82 q90 mR0 g z0 z0 z0 z0 z0 z0 z0 z0 z0 0) → va_S A s.heap H locs → W p l e rm_R_init s m [Value.ref h0].toArray below meth c H locs 11 2628 (sc_Qc below [Value.ref h0].toArray s D cI cZ A (fun w => ∃ a0 a1 a2 a3 a4 a5 a6 a7 a8 a9 a10 g, (∀ j, j < 1080 → g j = mR0 j) ∧ (∀ j, 1080 ≤ j → g j = 0) ∧ w = w_R cI cZ h0 a0 a1 a2 a3 a4 a5 a6 a7 a8 a9 a10 mR0 g z0 z0 z0 z0 z0 z0 z0 z0 z0 0) 11 2628) (F0 m 148 ls []) := by
    intro r
    induction r with
    | zero =>
      intro k g H locs ls hk hg hg0 hl hP hD hS
      refine lv_iload_n hx hb d_R_init_148 rfl (lv_at hl 0 rfl) ?_
      refine lv_sipush (v := (nI 1080)) hx hb d_R_init_149 (by decide) ?_
      refine lv_icmp_ge hx hb d_R_init_152 rfl (fun hc => ?_) (fun hc => absurd (nI_le (by omega) (by omega)) hc)
      exact W.vret cf.1 cf.2.1 hr (fun t ht hW => ⟨⟨(), rfl, trivial, _, ⟨q8, q17, q25, q34, q42, q50, q58, q66, q74, q82, q90, g, fun j hj => hg j (by omega), fun j hj => hg0 j (by omega), rfl⟩, by rw [ht]; exact hP, va_K.moved hW.alike hK, hD⟩, hS.F ht⟩) hS.2.2 d_R_init_173 hlk
    | succ r ih =>
      intro k g H locs ls hk hg hg0 hl hP hD hS
      refine lv_iload_n hx hb d_R_init_148 rfl (lv_at hl 0 rfl) ?_
      refine lv_sipush (v := (nI 1080)) hx hb d_R_init_149 (by decide) ?_
      refine lv_icmp_ge hx hb d_R_init_152 rfl (fun hc => absurd hc (nI_ge (by omega) (by omega))) (fun hc => ?_)
      refine lv_aload_n hx hb d_R_init_155 rfl (lv_at hl 2 rfl) ?_
      refine va_get (D := D) (ci := 2) (v := .ref q17) (C := R_R) (T := F_R) (N := 12) hx hb ht in_R hown hK hP 0 rfl rfl 1 (by decide) (ht _ f_R_13) (fun _ h9 => h9) rfl d_R_init_156 ?_
      refine lv_iload_n hx hb d_R_init_159 rfl (lv_at hl 0 rfl) ?_
      refine lv_aload_n hx hb d_R_init_160 rfl (lv_at hl 2 rfl) ?_
      refine va_get (D := D) (ci := 2) (v := .ref q8) (C := R_R) (T := F_R) (N := 12) hx hb ht in_R hown hK hP 0 rfl rfl 0 (by decide) (ht _ f_R_7) (fun _ h9 => h9) rfl d_R_init_161 ?_
      refine lv_iload_n hx hb d_R_init_164 rfl (lv_at hl 0 rfl) ?_
      refine va_iald hx hb hK hP 1 0 rfl rfl (vp_in_nI (by omega) (by omega)) d_R_init_165 ?_
      refine va_iast hx hb hK hP hD hS 2 0 rfl rfl (vp_in_nI (by omega) (by omega)) d_R_init_166 (fun H locs hP hD hS => ?_)
      have hP : va_P D clA (w_R cI cZ h0 q8 q17 q25 q34 q42 q50 q58 q66 q74 q82 q90 mR0 (upd g (nI k).toNatClampNeg (mR0 (nI k).toNatClampNeg)) z0 z0 z0 z0 z0 z0 z0 z0 z0 0) H := hP
      have hD : va_D A (w_R cI cZ h0 q8 q17 q25 q34 q42 q50 q58 q66 q74 q82 q90 mR0 (upd g (nI k).toNatClampNeg (mR0 (nI k).toNatClampNeg)) z0 z0 z0 z0 z0 z0 z0 z0 z0 0) := hD
      refine lv_iinc (k := 0) (v := nI (k + 1)) (lv' := [(2, .int (nI (k + 1))), (1, .int (nI 30)), (0, .ref h0)]) hx hb d_R_init_167 hl rfl (nI_1 k) (by decide) rfl (fun ls hl => ?_)
      refine lv_goto hx hb d_R_init_170 rfl ?_
      have hcl : (nI k).toNatClampNeg = k := nI_clamp (by omega)
      rw [hcl] at hP hD
      refine ih (k + 1) _ H locs ls (by omega) (fun j hj => ?_) (fun j hj => ?_) hl hP hD hS
      · by_cases e : j = k
        · subst e; exact pk_us
        · rw [pk_un e]; exact hg j (by omega)
      · rw [pk_un (by omega)]; exact hg0 j (by omega)
  exact key 1080 0 z0 H locs ls rfl (fun j hj => absurd hj (Nat.not_lt_zero _)) (fun j _ => rfl) hl hP hD hS
