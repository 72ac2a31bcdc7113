/-! constructors' contracts, and the JDK's own text methods over the class's one text -/
def FT : List Int32 := [104, 103, 102, 101, 100, 99, 98, 97, 97, 98, 99, 100, 101, 102, 122, 122, 121, 121, 120, 120, 97, 97, 97, 97, 97, 98, 98, 98, 98, 98, 99, 99, 99, 113, 112, 111, 110, 109, 108, 107, 106]
def sti (q v : Nat → Nat) (A : Nat → Prop) (U : State) (H : Heap) : Prop := va_Z RJ0 "COMPACT_STRINGS" "Z" (.int 1) A U H ∧ va_Zq RJ3 "SIOOBE_FORMATTER" "Ljava/util/function/BiFunction;" A U H ∧ vk_S 1 [41] [FT] q v A U H
theorem sti.moved {q v : Nat → Nat} {A : Nat → Prop} {u U : State} {H : Heap} (hvm : u.vm.Alike U.vm) (h : sti q v A u H) : sti q v A U H := ⟨h.1.moved hvm, h.2.1.moved hvm, h.2.2.moved hvm⟩
theorem sti.kept {q v : Nat → Nat} {A : Nat → Prop} {U : State} {H H1 : Heap} (h : sti q v A U H) (hq : ∀ a : Nat, a < H.size → ¬ A a → H1[a]? = H[a]?) : sti q v A U H1 := ⟨h.1.kept hq, h.2.1.kept hq, h.2.2.kept hq⟩
theorem sti.narrow {q v : Nat → Nat} {A B : Nat → Prop} {U : State} {H : Heap} (h : sti q v A U H) (hAB : ∀ q, B q → A q) : sti q v B U H := ⟨h.1.narrow hAB, h.2.1.narrow hAB, h.2.2.narrow hAB⟩
def Qj (A : Nat → Prop) (r : Option Value) : Array Value → State → Outcome → State → Prop := fun _ st oc t => oc = .returned r ∧ va_F A st t
def Pj (q v : Nat → Nat) (av : List Value) (sz : Nat) : Array Value → State → Prop := va_Pc av (fun U => U.heap.size = sz ∧ sti q v (va_A [] sz) U U.heap)
def Cj (l : Launch) (y : MethodName) (ws : List Cond) (rm : Room) (q v : Nat → Nat) (av : List Value) (r : Option Value) : Prop := ∀ sz : Nat, Met l y ws rm (Pj q v av sz) (Qj (va_A [] sz) r) 0 0 (va_A [] sz)
theorem Pj.blind {q v : Nat → Nat} {av : List Value} {sz : Nat} : FrameBlind (Pj q v av sz) := by
  intro a U g mk z
  obtain ⟨q0, q1, q2⟩ := z
  exact ⟨q0, q1, sti.moved (u := U) (U := U.calling g mk a) (Vm.Alike.refl U.vm) q2⟩
theorem vA_nil {sz q : Nat} (h : va_A [] sz q) : sz ≤ q := by
  rcases h with ⟨k, e, h⟩ | h
  · simp at h
  · exact h
section LZ
variable {p : Program} {l : Launch} {e : Env} {R : Room} {s : State} {m : MethodId} {args : Array Value} {below : List Frame} {meth : Method} {c : Code} {H : Heap} {locs : List Loc} {cells slots : Nat} {Q : State → Prop} {cc : ByteArray} {pc nL : Nat} {ls : Array Slot} {rest st0 st1 : List Value} {D : va_G} {cA : ClassId} {A : Nat → Prop} {ws Wi Wo wf : va_W} {r : Option Value} {y : MethodName} {bytes : ByteArray} {maxL n index mc ms : Nat} {ret : Option FieldType} {wsM Ts : List Cond} {rm : Room} {own C : String} {b : Addr} {As : List Value} {q v : Nat → Nat}
theorem Cj.of {y : MethodName} {ws' : List Cond} {av : List Value} (hy : plainName y.cls = true) (hw : wsM = Cond.code y cc maxL ret :: ws') (hlen : (lg_sl av).length ≤ maxL)
    (body : ∀ (p : Program) (e : Env) (s : State) (m : MethodId) (below : List Frame) (meth : Method) (c : Code) (A : Nat → Prop) (ls : Array Slot), Cx p s m av.toArray meth c cc maxL y.cls wsM ret → sti q v A s s.heap → (∀ q, s.heap.size ≤ q → A q) → lv_has ls maxL (lv_args 0 av) →
      W p l e rm s m av.toArray below meth c s.heap [] 0 0 (MQ below (Qj A r) av.toArray s 0 0 A) (F0 m 0 ls [])) : Cj l y wsM rm q v av r := by
  intro sz
  refine Met.ofW (cc := cc) (maxL := maxL) (ret := ret) hy hw ?_
  intro p e s m args below meth c s₁ B hml hv
  obtain ⟨rfl, hsz, hst⟩ := hv
  subst hsz
  have hl := lv_entry av (n := maxL) hlen
  rw [lg_entry_eq]
  exact body p e s m below meth c _ _ ⟨B.exec, B.bytes, hml, findClass_of_methodNamed B.named, atoms_spec (ws := wsM) B.pre, B.returns, B.notSynchronized⟩ hst (fun q h => Or.inr h) hl
theorem cj_go {a : Array Value} (hr : va_Run p l e R s m args below meth c H locs cells slots 0 0 (F0 m pc ls st0) rest (Qj (va_A [] H.size) r a) (va_A [] H.size)) (hS : va_S A s.heap H locs) (hA : ∀ q, s.heap.size ≤ q → A q) (hs1 : r.toList ++ rest = st1)
    (kk : ∀ (H1 : Heap) (locs1 : List Loc), (∀ q : Nat, q < H.size → H1[q]? = H[q]?) → va_S A s.heap H1 locs1 → W p l e R s m args below meth c H1 locs1 cells slots Q (F0 m (pc + 3) ls st1)) : W p l e R s m args below meth c H locs cells slots Q (F0 m pc ls st0) := by
  intro T hT X
  obtain ⟨v, st₀, t, T', L, h0, X', hL, e1, e2, ⟨hv, hz, hk⟩, st⟩ := hr T hT X
  cases hv
  subst hs1
  rw [h0] at hz hk
  have hk2 : ∀ q : Nat, q < H.size → t.heap[q]? = H[q]? := fun q h => hk q h (fun z => absurd (vA_nil z) (Nat.not_le.mpr h))
  have hF : ∀ q : Nat, va_A [] H.size q → A q := fun q z => hA q (Nat.le_trans hS.1 (vA_nil z))
  obtain ⟨t2, a1, b1⟩ := kk T'.heap (locs ++ L) (fun q h => by rw [e1]; exact hk2 q h)
    ⟨Nat.le_trans hS.1 (by rw [e1]; exact hz), fun q h1 h2 => by rw [e1, hk2 q (Nat.lt_of_lt_of_le h1 hS.1)]; exact hS.2.1 q h1 h2, fun q hq => by
      rcases List.mem_append.mp hq with h | h
      · exact hS.2.2 q h
      · exact hF q.base (hL q h)⟩ T' rfl X'
  exact ⟨t2, st t2 a1, b1⟩
theorem cj_pre (hst : sti q v A s s.heap) (hS : va_S A s.heap H locs) (hA : ∀ q, s.heap.size ≤ q → A q) {av : List Value} : ∀ U : State, U.heap = H → s.WarmedH U.vm → Pj q v av H.size av.toArray U := by
  intro U hU hW
  refine ⟨rfl, by rw [hU], ?_⟩
  rw [hU]
  exact ((hst.kept (H1 := H) (fun q h1 h2 => hS.2.1 q h1 h2)).narrow (fun q z => hA q (Nat.le_trans hS.1 (vA_nil z)))).moved hW.alike
theorem cj_V (hM : Cj l y wsM rm q v (.ref (q 0) :: As) r) (S : CallFix p m c cc nL s args Ts own) (cw : CallW R s args own RJ0 index y bytes maxL ret wsM rm 0 0 n) (hst : sti q v A s s.heap) (hS : va_S A s.heap H locs) (hA : ∀ q, s.heap.size ≤ q → A q)
    (hlen : As.length = n) (hsize : ls.size = nL) (hstack : st0 = As.reverse ++ .ref (q 0) :: rest) (hs1 : r.toList ++ rest = st1) (hW : (rest.map fun v => v.category).sum ≤ 8) (hdg : decode cc pc = .ok (.invokevirtual index, 3)) (hf : cells + 0 ≤ R.cells ∧ slots + 0 ≤ R.slots)
    (kk : ∀ (H1 : Heap) (locs1 : List Loc), (∀ q : Nat, q < H.size → H1[q]? = H[q]?) → va_S A s.heap H1 locs1 → W p l e R s m args below meth c H1 locs1 cells slots Q (F0 m (pc + 3) ls st1)) : W p l e R s m args below meth c H locs cells slots Q (F0 m pc ls st0) := by
  obtain ⟨cell, q1, q2, q3, q4⟩ := (hst.2.2.1 0 (by decide)).1.kept (H1 := H) (fun q h1 h2 => hS.2.1 q h1 h2)
  exact cj_go (va_runV S (hM H.size) cw ⟨Pj.blind, ⟨cell, q1, q2, q3⟩, cj_pre hst hS hA⟩ rfl hlen hsize hstack (lv_room hW) hdg hf) hS hA hs1 kk
theorem cj_S (hM : Cj l y wsM rm q v As r) (S : CallFix p m c cc nL s args Ts own) (cw : CallB R s args own index y bytes maxL ret wsM rm 0 0 n ∧ (Cond.static y).before args s = true) (hst : sti q v A s s.heap) (hS : va_S A s.heap H locs) (hA : ∀ q, s.heap.size ≤ q → A q)
    (hlen : As.length = n) (hsize : ls.size = nL) (hstack : st0 = As.reverse ++ rest) (hs1 : r.toList ++ rest = st1) (hW : (rest.map fun v => v.category).sum ≤ 8) (hdg : decode cc pc = .ok (.invokestatic index, 3)) (hf : cells + 0 ≤ R.cells ∧ slots + 0 ≤ R.slots)
    (kk : ∀ (H1 : Heap) (locs1 : List Loc), (∀ q : Nat, q < H.size → H1[q]? = H[q]?) → va_S A s.heap H1 locs1 → W p l e R s m args below meth c H1 locs1 cells slots Q (F0 m (pc + 3) ls st1)) : W p l e R s m args below meth c H locs cells slots Q (F0 m pc ls st0) :=
  cj_go (va_runS S (hM H.size) cw ⟨Pj.blind, cj_pre hst hS hA⟩ rfl hlen hsize hstack (lv_room hW) hdg hf) hS hA hs1 kk
theorem rj_i {v : Int32} {ty : FieldType} (hx : p.tables.exec = Jvm.exec) (hb : c.code = cc) (hr : meth.sig.returnType = some ty) (hn : narrow ty (.int v) = .int v) (hlocks : meth.locks = false) (hS : va_S A s.heap H locs) (hdg : decode cc pc = .ok (.ireturn, 1)) : W p l e R s m args below meth c H locs 0 0 (MQ below (Qj A (some (.int v))) args s 0 0 A) (F0 m pc ls [.int v]) :=
  W.zret hx hb hr hn (fun t ht _ => ⟨rfl, hS.F ht⟩) hS.2.2 hdg hlocks
theorem rj_v (hx : p.tables.exec = Jvm.exec) (hb : c.code = cc) (hr : meth.sig.returnType = none) (hlocks : meth.locks = false) (hS : va_S A s.heap H locs) (hdg : decode cc pc = .ok (.return_, 1)) : W p l e R s m args below meth c H locs 0 0 (MQ below (Qj A none) args s 0 0 A) (F0 m pc ls []) :=
  W.vret hx hb hr (fun t ht _ => ⟨rfl, hS.F ht⟩) hS.2.2 hdg hlocks
/-! constructors -/
def Qi (D : va_G) (A : Nat → Prop) (PO : va_W → Prop) : Array Value → State → Outcome → State → Prop := fun _ st oc t => (oc = .returned none ∧ ∃ Wo, PO Wo ∧ va_P D vwCl Wo t.heap ∧ va_D A Wo) ∧ va_F A st t
def Pi (D : va_G) (cA : ClassId) (X : (Nat → Prop) → State → Heap → Prop) (av : List Value) (Wi : va_W) (sz : Nat) : Array Value → State → Prop := va_Pc av (fun U => U.heap.size = sz ∧ va_P D vwCl Wi U.heap ∧ Gd D cA U ∧ va_D (fun _ => True) Wi ∧ stt (va_A Wi sz) U U.heap ∧ X (va_A Wi sz) U U.heap)
/-- from the world Wi: the constructor y leaves a world of the kind PO; mc new cells, of ms slots -/
def Ci (l : Launch) (y : MethodName) (ws : List Cond) (rm : Room) (D : va_G) (cA : ClassId) (X : (Nat → Prop) → State → Heap → Prop) (av : List Value) (Wi : va_W) (PO : va_W → Prop) (mc ms : Nat) : Prop := ∀ sz : Nat, Met l y ws rm (Pi D cA X av Wi sz) (Qi D (va_A Wi sz) PO) mc ms (va_A Wi sz)
def X0 : (Nat → Prop) → State → Heap → Prop := fun _ _ _ => True
def Xt (q v : Nat → Nat) : (Nat → Prop) → State → Heap → Prop := fun A U H => vk_R RX5 61 "hgfedcbaabcdefzzyyxxaaaaabbbbbcccqponmlkj" (q 0) U ∧ sti q v A U H
def Bl (X : (Nat → Prop) → State → Heap → Prop) : Prop := ∀ (A : Nat → Prop) (U U2 : State) (H : Heap), U2.vm = U.vm → X A U H → X A U2 H
theorem X0_bl : Bl X0 := fun _ _ _ _ _ _ => trivial
theorem Xt_bl : Bl (Xt q v) := fun A U U2 H e h => ⟨vk_R.same e h.1, sti.moved (by rw [e]; exact Vm.Alike.refl U.vm) h.2⟩
theorem Pi.blind {X : (Nat → Prop) → State → Heap → Prop} {av : List Value} {sz : Nat} (hX : Bl X) : FrameBlind (Pi D cA X av Wi sz) := by
  intro a U g mk z
  obtain ⟨q0, q1, q2, q3, q4, q5, q6⟩ := z
  exact ⟨q0, q1, q2, ⟨va_K.moved (u := U) (U := U.calling g mk a) (Vm.Alike.refl U.vm) q3.1, nst.same (u := U) (U := U.calling g mk a) rfl q3.2⟩, q4, stt.moved (u := U) (U := U.calling g mk a) (Vm.Alike.refl U.vm) q5, hX _ U (U.calling g mk a) U.heap rfl q6⟩
theorem Ci.of {y : MethodName} {ws' : List Cond} {av : List Value} {X : (Nat → Prop) → State → Heap → Prop} {PO : va_W → Prop} (hy : plainName y.cls = true) (hyn : y.name = "<init>") (hw : wsM = Cond.code y cc maxL none :: ws') (hlen : (lg_sl av).length ≤ maxL)
    (body : ∀ (p : Program) (e : Env) (s : State) (m : MethodId) (below : List Frame) (meth : Method) (c : Code) (A : Nat → Prop) (ls : Array Slot), Cx p s m av.toArray meth c cc maxL y.cls wsM none → meth.name = "<init>" → Gd D cA s → stt A s s.heap → X A s s.heap → (∀ q, s.heap.size ≤ q → A q) → va_P D vwCl Wi s.heap → va_D A Wi → lv_has ls maxL (lv_args 0 av) →
      W p l e rm s m av.toArray below meth c s.heap [] 0 0 (MQ below (Qi D A PO) av.toArray s mc ms A) (F0 m 0 ls [])) : Ci l y wsM rm D cA X av Wi PO mc ms := by
  intro sz
  refine Met.ofW (cc := cc) (maxL := maxL) (ret := none) hy hw ?_
  intro p e s m args below meth c s₁ B hml hv
  obtain ⟨rfl, hsz, hP, hG, hD0, hst, hX⟩ := hv
  subst hsz
  have hl := lv_entry av (n := maxL) hlen
  rw [lg_entry_eq]
  exact body p e s m below meth c _ _ ⟨B.exec, B.bytes, hml, findClass_of_methodNamed B.named, atoms_spec (ws := wsM) B.pre, B.returns, B.notSynchronized⟩ ((name_of_methodNamed B.named B.method).1.trans hyn) hG hst hX (fun q h => Or.inr h) hP (hD0.self (sz := s.heap.size)) hl
theorem rc_v {PO : va_W → Prop} (hx : p.tables.exec = Jvm.exec) (hb : c.code = cc) (hr : meth.sig.returnType = none) (hlocks : meth.locks = false) (hPO : PO Wo) (hP : va_P D vwCl Wo H) (hD : va_D A Wo) (hS : va_S A s.heap H locs) (hdg : decode cc pc = .ok (.return_, 1)) (h1 : cells ≤ mc) (h2 : slots ≤ ms) : W p l e R s m args below meth c H locs cells slots (MQ below (Qi D A PO) args s mc ms A) (F0 m pc ls []) :=
  W.widen h1 h2 (W.vret hx hb hr (fun t ht _ => ⟨⟨rfl, Wo, hPO, by rw [ht]; exact hP, hD⟩, hS.F ht⟩) hS.2.2 hdg hlocks)
theorem ci_go {a : Array Value} {PO : va_W → Prop} (hr : va_Run p l e R s m args below meth c H locs cells slots mc ms (F0 m pc ls st0) rest (Qi D (va_A Wi H.size) PO a) (va_A Wi H.size)) (hP : va_P D vwCl ws H) (hD : va_D A ws) (hS : va_S A s.heap H locs) (hA : ∀ q, s.heap.size ≤ q → A q) (isC isR : List Nat) (hC : isC.map (fun i => ws[i]?) = Wi.map some) (hR : isR.map (fun i => ws[i]?) = (isR.filterMap (fun i => ws[i]?)).map some) (hn : va_nd (isC ++ isR) = true)
    (kk : ∀ (H1 : Heap) (locs1 : List Loc) (Wo : va_W), PO Wo → va_P D vwCl ((isR.filterMap (fun i => ws[i]?)) ++ Wo) H1 → va_D A ((isR.filterMap (fun i => ws[i]?)) ++ Wo) → va_S A s.heap H1 locs1 → W p l e R s m args below meth c H1 locs1 (cells + mc) (slots + ms) Q (F0 m (pc + 3) ls rest)) : W p l e R s m args below meth c H locs cells slots Q (F0 m pc ls st0) := by
  intro T hT X
  obtain ⟨v, st₀, t, T', L, h0, X', hL, e1, e2, ⟨⟨hv, Wo, hPO, hP1, hD1⟩, hz, hk⟩, st⟩ := hr T hT X
  cases hv
  rw [h0] at hz hk
  obtain ⟨hnR, hdis⟩ := vd_app isC isR hn
  have hFc := va_free hD hS hA isC hC
  obtain ⟨hPj, hDj⟩ := va_join hP hD isC isR hC hR hnR hdis hk hFc hP1 hD1
  obtain ⟨t2, a1, b1⟩ := kk T'.heap (locs ++ L) Wo hPO (by rw [e1]; exact hPj) hDj
    ⟨Nat.le_trans hS.1 (by rw [e1]; exact hz), fun q h1 h2 => by rw [e1, hk q (Nat.lt_of_lt_of_le h1 hS.1) (fun z => h2 (hFc q z))]; exact hS.2.1 q h1 h2, fun q hq => by
      rcases List.mem_append.mp hq with h | h
      · exact hS.2.2 q h
      · exact hFc q.base (hL q h)⟩ T' rfl X'
  exact ⟨t2, st t2 a1, b1⟩
theorem ci_pre {X : (Nat → Prop) → State → Heap → Prop} (hG : Gd D cA s) (hst : stt A s s.heap) (hP : va_P D vwCl ws H) (hD : va_D A ws) (hS : va_S A s.heap H locs) (hA : ∀ q, s.heap.size ≤ q → A q) (isC : List Nat) (hC : isC.map (fun i => ws[i]?) = Wi.map some) (hn : va_nd isC = true) (hX : ∀ U : State, U.heap = H → s.WarmedH U.vm → X (va_A Wi H.size) U U.heap) {av : List Value} : ∀ U : State, U.heap = H → s.WarmedH U.vm → Pi D cA X av Wi H.size av.toArray U := by
  intro U hU hW
  obtain ⟨a1, a2, a3, a4, a5, a6⟩ := ct_pre (av := av) hG hst hP hD hS hA isC hC hn U hU hW
  exact ⟨a1, a2, a3, a4, a5, a6, hX U hU hW⟩
theorem ci_IN {host : String} {PO : va_W → Prop} (hM : Ci l y wsM rm D cA X0 (.ref b :: As) Wi PO mc ms) (S : CallFix p m c cc nL s args Ts own) (cw : va_CN R s args own index y host bytes maxL none wsM rm mc ms n ∧ y.name = "<init>" ∧ (Cond.instanceMethod y).before args s = true) (hG : Gd D cA s) (hst : stt A s s.heap) (hP : va_P D vwCl ws H) (hD : va_D A ws) (hS : va_S A s.heap H locs) (hA : ∀ q, s.heap.size ≤ q → A q) (isC isR : List Nat) (hC : isC.map (fun i => ws[i]?) = Wi.map some) (hR : isR.map (fun i => ws[i]?) = (isR.filterMap (fun i => ws[i]?)).map some) (hn : va_nd (isC ++ isR) = true)
    (hlen : As.length = n) (hsize : ls.size = nL) (hstack : st0 = As.reverse ++ .ref b :: rest) (hW : (rest.map fun v => v.category).sum ≤ 8) (hdg : decode cc pc = .ok (.invokespecial index, 3)) (hf : cells + mc ≤ R.cells ∧ slots + ms ≤ R.slots)
    (kk : ∀ (H1 : Heap) (locs1 : List Loc) (Wo : va_W), PO Wo → va_P D vwCl ((isR.filterMap (fun i => ws[i]?)) ++ Wo) H1 → va_D A ((isR.filterMap (fun i => ws[i]?)) ++ Wo) → va_S A s.heap H1 locs1 → W p l e R s m args below meth c H1 locs1 (cells + mc) (slots + ms) Q (F0 m (pc + 3) ls rest)) : W p l e R s m args below meth c H locs cells slots Q (F0 m pc ls st0) :=
  ci_go (va_runIN S (hM H.size) cw ⟨Pi.blind X0_bl, ci_pre hG hst hP hD hS hA isC hC (vd_left _ _ hn) (fun _ _ _ => trivial)⟩ rfl hlen hsize hstack (lv_room hW) hdg hf) hP hD hS hA isC isR hC hR hn kk
theorem ci_I {PO : va_W → Prop} {X : (Nat → Prop) → State → Heap → Prop} (hXb : Bl X) (hM : Ci l y wsM rm D cA X (.ref b :: As) Wi PO mc ms) (S : CallFix p m c cc nL s args Ts own) (cw : CallB R s args own index y bytes maxL none wsM rm mc ms n ∧ y.name = "<init>" ∧ (Cond.instanceMethod y).before args s = true) (hG : Gd D cA s) (hst : stt A s s.heap) (hP : va_P D vwCl ws H) (hD : va_D A ws) (hS : va_S A s.heap H locs) (hA : ∀ q, s.heap.size ≤ q → A q) (isC isR : List Nat) (hC : isC.map (fun i => ws[i]?) = Wi.map some) (hR : isR.map (fun i => ws[i]?) = (isR.filterMap (fun i => ws[i]?)).map some) (hn : va_nd (isC ++ isR) = true) (hX : ∀ U : State, U.heap = H → s.WarmedH U.vm → X (va_A Wi H.size) U U.heap)
    (hlen : As.length = n) (hsize : ls.size = nL) (hstack : st0 = As.reverse ++ .ref b :: rest) (hW : (rest.map fun v => v.category).sum ≤ 8) (hdg : decode cc pc = .ok (.invokespecial index, 3)) (hf : cells + mc ≤ R.cells ∧ slots + ms ≤ R.slots)
    (kk : ∀ (H1 : Heap) (locs1 : List Loc) (Wo : va_W), PO Wo → va_P D vwCl ((isR.filterMap (fun i => ws[i]?)) ++ Wo) H1 → va_D A ((isR.filterMap (fun i => ws[i]?)) ++ Wo) → va_S A s.heap H1 locs1 → W p l e R s m args below meth c H1 locs1 (cells + mc) (slots + ms) Q (F0 m (pc + 3) ls rest)) : W p l e R s m args below meth c H locs cells slots Q (F0 m pc ls st0) :=
  ci_go (va_runI S (hM H.size) cw ⟨Pi.blind hXb, ci_pre hG hst hP hD hS hA isC hC (vd_left _ _ hn) hX⟩ rfl hlen hsize hstack (lv_room hW) hdg hf) hP hD hS hA isC isR hC hR hn kk
def zf : Nat → Int32 := fun _ => 0
theorem ci_newa (hx : p.tables.exec = Jvm.exec) (hb : c.code = cc) (harr : (Cond.arrayClass .int).before args s = true) (hG : Gd D cA s) (hP : va_P D vwCl ws H) (hD : va_D A ws) (hS : va_S A s.heap H locs) (hA : ∀ q, s.heap.size ≤ q → A q) {k : Int32} {N : Nat} (hn : ¬ k < 0) (hN : k.toNatClampNeg = N) (hbytes : N * 4 ≤ 536870912) (hcells : cells + 1 ≤ R.cells) (hslots : slots + N ≤ R.slots) (hdg : decode cc pc = .ok (.newarray .int, 2))
    (kk : ∀ (z : Nat) (H1 : Heap), va_P D vwCl (ws ++ [(z, .inl (cA, N, .inl zf))]) H1 → va_D A (ws ++ [(z, .inl (cA, N, .inl zf))]) → va_S A s.heap H1 locs → W p l e R s m args below meth c H1 locs (cells + 1) (slots + N) Q (F0 m (pc + 2) ls (.ref z :: rest))) : W p l e R s m args below meth c H locs cells slots Q (F0 m pc ls (.int k :: rest)) := by
  refine va_newa (atype := .int) (ty := .int) (a0 := (N, .inl zf)) hx hb harr rfl hG.1 hP hD hS hA (fun _ => rfl) hn hN hbytes hcells hslots hdg (fun z cB H1 hK hP hD hS => ?_)
  have e : cB = cA := by
    have h1 : va_RA s cA .int := (hK.2 0 _ rfl).2
    have h2 : va_RA s cB .int := (hK.2 1 _ rfl).2
    have h3 : s.vm.findClass ("[" ++ (FieldType.int).toString) = some cA := h1
    have h4 : s.vm.findClass ("[" ++ (FieldType.int).toString) = some cB := h2
    rw [h3] at h4
    exact (Option.some.inj h4).symm
  subst e
  exact kk z H1 hP hD hS
end LZ
