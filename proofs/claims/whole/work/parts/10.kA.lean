/-! contracts, by program (wip/whole/gen.py) -/
set_option maxHeartbeats 4000000 in
set_option maxRecDepth 100000 in
theorem kJ7_fill_53178 (l : Launch) (D : va_G) (cA : ClassId) (F : Nat) (cv : Nat) (n : Nat) (cf : (Nat → Int32)) (a1 : Int32) (cf_9 : (Nat → Int32)) (h : mJ7_fill_53178 F n cf a1 = some cf_9) : Ct l yJ7_fill_53178 wsJ7_fill_53178 ({ frames := 0, cells := 0, slots := 0, locals := 0 }) D cA [.ref cv, .int a1] [(cv, .inl (cA, n, .inl cf))] [(cv, .inl (cA, n, .inl cf_9))] (none) := by
  refine Ct.of (cc := cJ7_fill_53178) (maxL := 4) (ret := none) (by decide) rfl (Nat.le_of_ble_eq_true rfl) ?_
  intro p e s m below meth c A ls hcx hG hst hA hP hD hl
  obtain ⟨hx, hb, hml, hown, hts, hr, hlocks⟩ := id hcx
  have hown : s.vm.findClass RJ7 = some m.cls := hown
  have hS : va_S A s.heap s.heap [] := va_S.rf
  have hl : lv_has ls 4 [(0, .ref cv), (1, .int a1)] := hl
  have hmJ7_fill_53178_5 : ∀ (n5 : Nat) (x2 : Int32) (x3 : Int32) (cf : (Nat → Int32)) (H : Heap) (locs : List Loc) (ls : Array Slot), mJ7_fill_53178_5 F n a1 n5 x2 x3 cf = some cf_9 → va_P D vwCl [(cv, .inl (cA, n, .inl cf))] H → va_D A [(cv, .inl (cA, n, .inl cf))] → va_S A s.heap H locs → lv_has ls 4 [(0, .ref cv), (1, .int a1), (2, .int x2), (3, .int x3)] → W p l e ({ frames := 0, cells := 0, slots := 0, locals := 0 }) s m ([.ref cv, .int a1] : List Value).toArray below meth c H locs 0 0 (MQ below (Qw D A [(cv, .inl (cA, n, .inl cf_9))] (none)) ([.ref cv, .int a1] : List Value).toArray s 0 0 A) (F0 m 5 ls []) := by
    intro n5
    induction n5 with
    | zero => intro x2 x3 cf H locs ls h; exact (no_some h).elim
    | succ n5 ih5 =>
      intro x2 x3 cf H locs ls h hP hD hS hl
      rw [mJ7_fill_53178_5] at h
      refine lv_iload_n hx hb dJ7_fill_53178_5 rfl (lv_at hl 2 rfl) ?_
      refine lv_iload_n hx hb dJ7_fill_53178_6 rfl (lv_at hl 3 rfl) ?_
      refine lv_icmp_ge (tgt := 20) hx hb dJ7_fill_53178_7 (by decide) (fun c7 => ?_) (fun c7 => ?_)
      · have h := i_t c7 h
        cases h
        exact rt_v hx hb hr hlocks hP hD hS dJ7_fill_53178_20
      · have h := i_f c7 h
        refine lv_aload_n hx hb dJ7_fill_53178_10 rfl (lv_at hl 0 rfl) ?_
        refine lv_iload_n hx hb dJ7_fill_53178_11 rfl (lv_at hl 2 rfl) ?_
        refine lv_iload_n hx hb dJ7_fill_53178_12 rfl (lv_at hl 1 rfl) ?_
        obtain ⟨hi13, h⟩ := ck_some h
        refine va_iast hx hb hG.1 hP hD hS 0 0 rfl rfl hi13 dJ7_fill_53178_13 (fun H locs hP hD hS => ?_)
        have hP : va_P D vwCl [(cv, .inl (cA, n, .inl (upd cf x2.toNatClampNeg a1)))] H := hP
        have hD : va_D A [(cv, .inl (cA, n, .inl (upd cf x2.toNatClampNeg a1)))] := hD
        refine lv_iinc (v := x2 + (1 : Int32)) (lv' := [(2, .int (x2 + (1 : Int32))), (0, .ref cv), (1, .int a1), (3, .int x3)]) hx hb dJ7_fill_53178_14 hl (k := 2) rfl (congrArg (fun z => x2 + z) (by decide)) (by decide) rfl (fun ls hl => ?_)
        refine lv_goto (tgt := 5) hx hb dJ7_fill_53178_17 (by decide) ?_
        exact ih5 (x2 + (1 : Int32)) x3 (upd cf x2.toNatClampNeg a1) _ _ _ h hP hD hS (lv_sub hl [1, 2, 0, 3] rfl)
  unfold mJ7_fill_53178 at h
  refine lv_iconst (v := (0 : Int32)) hx hb dJ7_fill_53178_0 (by decide) ?_
  refine lv_istore_n (lv' := [(2, .int (0 : Int32)), (0, .ref cv), (1, .int a1)]) hx hb dJ7_fill_53178_1 rfl hl (by decide) rfl (fun ls hl => ?_)
  refine lv_aload_n hx hb dJ7_fill_53178_2 rfl (lv_at hl 1 rfl) ?_
  refine va_alen (v := Int32.ofNat n) hx hb hG.1 hP 0 0 rfl rfl rfl dJ7_fill_53178_3 ?_
  refine lv_istore_n (lv' := [(3, .int (Int32.ofNat n)), (2, .int (0 : Int32)), (0, .ref cv), (1, .int a1)]) hx hb dJ7_fill_53178_4 rfl hl (by decide) rfl (fun ls hl => ?_)
  exact hmJ7_fill_53178_5 F (0 : Int32) (Int32.ofNat n) cf _ _ _ h hP hD hS (lv_sub hl [2, 3, 1, 0] rfl)
set_option maxHeartbeats 4000000 in
set_option maxRecDepth 100000 in
theorem kX0_look (l : Launch) (D : va_G) (cA : ClassId) (F : Nat) (co : Nat) (cv : Nat) (n : Nat) (cf : (Nat → Int32)) (a1 : Int32) (r0 : Int32) (h : mX0_look F n cf a1 = some r0) : Ct l yX0_look wsX0_look ({ frames := 0, cells := 0, slots := 0, locals := 0 }) D cA [.ref co, .int a1] [(co, .inr (0, [.ref cv])), (cv, .inl (cA, n, .inl cf))] [(co, .inr (0, [.ref cv])), (cv, .inl (cA, n, .inl cf))] (some (.int r0)) := by
  refine Ct.of (cc := cX0_look) (maxL := 2) (ret := (some .int)) (by decide) rfl (Nat.le_of_ble_eq_true rfl) ?_
  intro p e s m below meth c A ls hcx hG hst hA hP hD hl
  obtain ⟨hx, hb, hml, hown, hts, hr, hlocks⟩ := id hcx
  have hown : s.vm.findClass RX0 = some m.cls := hown
  have hS : va_S A s.heap s.heap [] := va_S.rf
  have hl : lv_has ls 2 [(0, .ref co), (1, .int a1)] := hl
  have hinX0 : ∀ w ∈ u_ws RX0 TX0 1, w ∈ wsX0_look := by decide +kernel
  have fl13 := hts (.fieldLink RX0 13 "RunSorter$Cells" "values" "[I") (by decide +kernel)
  unfold mX0_look at h
  refine lv_iload_n hx hb dX0_look_0 rfl (lv_at hl 1 rfl) ?_
  refine lv_if_lt (tgt := 22) hx hb dX0_look_1 (by decide) (fun c1 => ?_) (fun c1 => ?_)
  · have h := i_t c1 h
    refine lv_iconst (v := (0 : Int32)) hx hb dX0_look_22 (by decide) ?_
    cases h
    exact rt_i hx hb hr hlocks hP hD hS dX0_look_23
  · have h := i_f c1 h
    refine lv_iload_n hx hb dX0_look_4 rfl (lv_at hl 1 rfl) ?_
    refine lv_aload_n hx hb dX0_look_5 rfl (lv_at hl 0 rfl) ?_
    refine va_get (D := D) (cl := vwCl) (ci := 0) (v := .ref cv) (C := RX0) (T := TX0) (N := 1) hx hb hts hinX0 hown hG.1 hP 0 rfl rfl 0 (by decide) fl13 (fun _ h9 => h9) rfl dX0_look_6 ?_
    refine va_alen (v := Int32.ofNat n) hx hb hG.1 hP 1 0 rfl rfl rfl dX0_look_9 ?_
    refine lv_icmp_ge (tgt := 22) hx hb dX0_look_10 (by decide) (fun c10 => ?_) (fun c10 => ?_)
    · have h := i_t c10 h
      refine lv_iconst (v := (0 : Int32)) hx hb dX0_look_22 (by decide) ?_
      cases h
      exact rt_i hx hb hr hlocks hP hD hS dX0_look_23
    · have h := i_f c10 h
      refine lv_aload_n hx hb dX0_look_13 rfl (lv_at hl 0 rfl) ?_
      refine va_get (D := D) (cl := vwCl) (ci := 0) (v := .ref cv) (C := RX0) (T := TX0) (N := 1) hx hb hts hinX0 hown hG.1 hP 0 rfl rfl 0 (by decide) fl13 (fun _ h9 => h9) rfl dX0_look_14 ?_
      refine lv_iload_n hx hb dX0_look_17 rfl (lv_at hl 1 rfl) ?_
      obtain ⟨hi18, h⟩ := ck_some h
      refine va_iald hx hb hG.1 hP 1 0 rfl rfl hi18 dX0_look_18 ?_
      refine lv_goto (tgt := 23) hx hb dX0_look_19 (by decide) ?_
      cases h
      exact rt_i hx hb hr hlocks hP hD hS dX0_look_23
set_option maxHeartbeats 4000000 in
set_option maxRecDepth 100000 in
theorem kX0_fill (l : Launch) (D : va_G) (cA : ClassId) (F : Nat) (co : Nat) (cv : Nat) (n : Nat) (cf : (Nat → Int32)) (a1 : Int32) (a2 : Int32) (cf_9 : (Nat → Int32)) (h : mX0_fill F n cf a1 a2 = some cf_9) : Ct l yX0_fill wsX0_fill ({ frames := 0, cells := 0, slots := 0, locals := 0 }) D cA [.ref co, .int a1, .int a2] [(co, .inr (0, [.ref cv])), (cv, .inl (cA, n, .inl cf))] [(co, .inr (0, [.ref cv])), (cv, .inl (cA, n, .inl cf_9))] (none) := by
  refine Ct.of (cc := cX0_fill) (maxL := 3) (ret := none) (by decide) rfl (Nat.le_of_ble_eq_true rfl) ?_
  intro p e s m below meth c A ls hcx hG hst hA hP hD hl
  obtain ⟨hx, hb, hml, hown, hts, hr, hlocks⟩ := id hcx
  have hown : s.vm.findClass RX0 = some m.cls := hown
  have hS : va_S A s.heap s.heap [] := va_S.rf
  have hl : lv_has ls 3 [(0, .ref co), (1, .int a1), (2, .int a2)] := hl
  have hinX0 : ∀ w ∈ u_ws RX0 TX0 1, w ∈ wsX0_fill := by decide +kernel
  have fl13 := hts (.fieldLink RX0 13 "RunSorter$Cells" "values" "[I") (by decide +kernel)
  unfold mX0_fill at h
  refine lv_iload_n hx hb dX0_fill_0 rfl (lv_at hl 1 rfl) ?_
  refine lv_if_lt (tgt := 20) hx hb dX0_fill_1 (by decide) (fun c1 => ?_) (fun c1 => ?_)
  · have h := i_t c1 h
    cases h
    exact rt_v hx hb hr hlocks hP hD hS dX0_fill_20
  · have h := i_f c1 h
    refine lv_iload_n hx hb dX0_fill_4 rfl (lv_at hl 1 rfl) ?_
    refine lv_aload_n hx hb dX0_fill_5 rfl (lv_at hl 0 rfl) ?_
    refine va_get (D := D) (cl := vwCl) (ci := 0) (v := .ref cv) (C := RX0) (T := TX0) (N := 1) hx hb hts hinX0 hown hG.1 hP 0 rfl rfl 0 (by decide) fl13 (fun _ h9 => h9) rfl dX0_fill_6 ?_
    refine va_alen (v := Int32.ofNat n) hx hb hG.1 hP 1 0 rfl rfl rfl dX0_fill_9 ?_
    refine lv_icmp_ge (tgt := 20) hx hb dX0_fill_10 (by decide) (fun c10 => ?_) (fun c10 => ?_)
    · have h := i_t c10 h
      cases h
      exact rt_v hx hb hr hlocks hP hD hS dX0_fill_20
    · have h := i_f c10 h
      refine lv_aload_n hx hb dX0_fill_13 rfl (lv_at hl 0 rfl) ?_
      refine va_get (D := D) (cl := vwCl) (ci := 0) (v := .ref cv) (C := RX0) (T := TX0) (N := 1) hx hb hts hinX0 hown hG.1 hP 0 rfl rfl 0 (by decide) fl13 (fun _ h9 => h9) rfl dX0_fill_14 ?_
      refine lv_iload_n hx hb dX0_fill_17 rfl (lv_at hl 1 rfl) ?_
      refine lv_iload_n hx hb dX0_fill_18 rfl (lv_at hl 2 rfl) ?_
      obtain ⟨hi19, h⟩ := ck_some h
      refine va_iast hx hb hG.1 hP hD hS 1 0 rfl rfl hi19 dX0_fill_19 (fun H locs hP hD hS => ?_)
      have hP : va_P D vwCl [(co, .inr (0, [.ref cv])), (cv, .inl (cA, n, .inl (upd cf a1.toNatClampNeg a2)))] H := hP
      have hD : va_D A [(co, .inr (0, [.ref cv])), (cv, .inl (cA, n, .inl (upd cf a1.toNatClampNeg a2)))] := hD
      cases h
      exact rt_v hx hb hr hlocks hP hD hS dX0_fill_20
set_option maxHeartbeats 4000000 in
set_option maxRecDepth 100000 in
theorem kX0_add (l : Launch) (D : va_G) (cA : ClassId) (F : Nat) (co : Nat) (cv : Nat) (n : Nat) (cf : (Nat → Int32)) (a1 : Int32) (a2 : Int32) (cf_9 : (Nat → Int32)) (h : mX0_add F n cf a1 a2 = some cf_9) : Ct l yX0_add wsX0_add ({ frames := 0, cells := 0, slots := 0, locals := 0 }) D cA [.ref co, .int a1, .int a2] [(co, .inr (0, [.ref cv])), (cv, .inl (cA, n, .inl cf))] [(co, .inr (0, [.ref cv])), (cv, .inl (cA, n, .inl cf_9))] (none) := by
  refine Ct.of (cc := cX0_add) (maxL := 3) (ret := none) (by decide) rfl (Nat.le_of_ble_eq_true rfl) ?_
  intro p e s m below meth c A ls hcx hG hst hA hP hD hl
  obtain ⟨hx, hb, hml, hown, hts, hr, hlocks⟩ := id hcx
  have hown : s.vm.findClass RX0 = some m.cls := hown
  have hS : va_S A s.heap s.heap [] := va_S.rf
  have hl : lv_has ls 3 [(0, .ref co), (1, .int a1), (2, .int a2)] := hl
  have hinX0 : ∀ w ∈ u_ws RX0 TX0 1, w ∈ wsX0_add := by decide +kernel
  have fl13 := hts (.fieldLink RX0 13 "RunSorter$Cells" "values" "[I") (by decide +kernel)
  unfold mX0_add at h
  refine lv_iload_n hx hb dX0_add_0 rfl (lv_at hl 1 rfl) ?_
  refine lv_if_lt (tgt := 23) hx hb dX0_add_1 (by decide) (fun c1 => ?_) (fun c1 => ?_)
  · have h := i_t c1 h
    cases h
    exact rt_v hx hb hr hlocks hP hD hS dX0_add_23
  · have h := i_f c1 h
    refine lv_iload_n hx hb dX0_add_4 rfl (lv_at hl 1 rfl) ?_
    refine lv_aload_n hx hb dX0_add_5 rfl (lv_at hl 0 rfl) ?_
    refine va_get (D := D) (cl := vwCl) (ci := 0) (v := .ref cv) (C := RX0) (T := TX0) (N := 1) hx hb hts hinX0 hown hG.1 hP 0 rfl rfl 0 (by decide) fl13 (fun _ h9 => h9) rfl dX0_add_6 ?_
    refine va_alen (v := Int32.ofNat n) hx hb hG.1 hP 1 0 rfl rfl rfl dX0_add_9 ?_
    refine lv_icmp_ge (tgt := 23) hx hb dX0_add_10 (by decide) (fun c10 => ?_) (fun c10 => ?_)
    · have h := i_t c10 h
      cases h
      exact rt_v hx hb hr hlocks hP hD hS dX0_add_23
    · have h := i_f c10 h
      refine lv_aload_n hx hb dX0_add_13 rfl (lv_at hl 0 rfl) ?_
      refine va_get (D := D) (cl := vwCl) (ci := 0) (v := .ref cv) (C := RX0) (T := TX0) (N := 1) hx hb hts hinX0 hown hG.1 hP 0 rfl rfl 0 (by decide) fl13 (fun _ h9 => h9) rfl dX0_add_14 ?_
      refine lv_iload_n hx hb dX0_add_17 rfl (lv_at hl 1 rfl) ?_
      refine lv_dup2_11 hx hb dX0_add_18 rfl rfl ?_
      obtain ⟨hi19, h⟩ := ck_some h
      refine va_iald hx hb hG.1 hP 1 0 rfl rfl hi19 dX0_add_19 ?_
      refine lv_iload_n hx hb dX0_add_20 rfl (lv_at hl 2 rfl) ?_
      refine lv_iadd hx hb dX0_add_21 ?_
      obtain ⟨hi22, h⟩ := ck_some h
      refine va_iast hx hb hG.1 hP hD hS 1 0 rfl rfl hi22 dX0_add_22 (fun H locs hP hD hS => ?_)
      have hP : va_P D vwCl [(co, .inr (0, [.ref cv])), (cv, .inl (cA, n, .inl (upd cf a1.toNatClampNeg ((cf a1.toNatClampNeg) + a2))))] H := hP
      have hD : va_D A [(co, .inr (0, [.ref cv])), (cv, .inl (cA, n, .inl (upd cf a1.toNatClampNeg ((cf a1.toNatClampNeg) + a2))))] := hD
      cases h
      exact rt_v hx hb hr hlocks hP hD hS dX0_add_23
set_option maxHeartbeats 4000000 in
set_option maxRecDepth 100000 in
theorem kX0_raise (l : Launch) (D : va_G) (cA : ClassId) (F : Nat) (co : Nat) (cv : Nat) (n : Nat) (cf : (Nat → Int32)) (a1 : Int32) (a2 : Int32) (cf_9 : (Nat → Int32)) (h : mX0_raise F n cf a1 a2 = some cf_9) : Ct l yX0_raise wsX0_raise ({ frames := 0, cells := 0, slots := 0, locals := 0 }) D cA [.ref co, .int a1, .int a2] [(co, .inr (0, [.ref cv])), (cv, .inl (cA, n, .inl cf))] [(co, .inr (0, [.ref cv])), (cv, .inl (cA, n, .inl cf_9))] (none) := by
  refine Ct.of (cc := cX0_raise) (maxL := 3) (ret := none) (by decide) rfl (Nat.le_of_ble_eq_true rfl) ?_
  intro p e s m below meth c A ls hcx hG hst hA hP hD hl
  obtain ⟨hx, hb, hml, hown, hts, hr, hlocks⟩ := id hcx
  have hown : s.vm.findClass RX0 = some m.cls := hown
  have hS : va_S A s.heap s.heap [] := va_S.rf
  have hl : lv_has ls 3 [(0, .ref co), (1, .int a1), (2, .int a2)] := hl
  have hinX0 : ∀ w ∈ u_ws RX0 TX0 1, w ∈ wsX0_raise := by decide +kernel
  have fl13 := hts (.fieldLink RX0 13 "RunSorter$Cells" "values" "[I") (by decide +kernel)
  unfold mX0_raise at h
  refine lv_iload_n hx hb dX0_raise_0 rfl (lv_at hl 1 rfl) ?_
  refine lv_if_lt (tgt := 30) hx hb dX0_raise_1 (by decide) (fun c1 => ?_) (fun c1 => ?_)
  · have h := i_t c1 h
    cases h
    exact rt_v hx hb hr hlocks hP hD hS dX0_raise_30
  · have h := i_f c1 h
    refine lv_iload_n hx hb dX0_raise_4 rfl (lv_at hl 1 rfl) ?_
    refine lv_aload_n hx hb dX0_raise_5 rfl (lv_at hl 0 rfl) ?_
    refine va_get (D := D) (cl := vwCl) (ci := 0) (v := .ref cv) (C := RX0) (T := TX0) (N := 1) hx hb hts hinX0 hown hG.1 hP 0 rfl rfl 0 (by decide) fl13 (fun _ h9 => h9) rfl dX0_raise_6 ?_
    refine va_alen (v := Int32.ofNat n) hx hb hG.1 hP 1 0 rfl rfl rfl dX0_raise_9 ?_
    refine lv_icmp_ge (tgt := 30) hx hb dX0_raise_10 (by decide) (fun c10 => ?_) (fun c10 => ?_)
    · have h := i_t c10 h
      cases h
      exact rt_v hx hb hr hlocks hP hD hS dX0_raise_30
    · have h := i_f c10 h
      refine lv_aload_n hx hb dX0_raise_13 rfl (lv_at hl 0 rfl) ?_
      refine va_get (D := D) (cl := vwCl) (ci := 0) (v := .ref cv) (C := RX0) (T := TX0) (N := 1) hx hb hts hinX0 hown hG.1 hP 0 rfl rfl 0 (by decide) fl13 (fun _ h9 => h9) rfl dX0_raise_14 ?_
      refine lv_iload_n hx hb dX0_raise_17 rfl (lv_at hl 1 rfl) ?_
      obtain ⟨hi18, h⟩ := ck_some h
      refine va_iald hx hb hG.1 hP 1 0 rfl rfl hi18 dX0_raise_18 ?_
      refine lv_iload_n hx hb dX0_raise_19 rfl (lv_at hl 2 rfl) ?_
      refine lv_icmp_ge (tgt := 30) hx hb dX0_raise_20 (by decide) (fun c20 => ?_) (fun c20 => ?_)
      · have h := i_t c20 h
        cases h
        exact rt_v hx hb hr hlocks hP hD hS dX0_raise_30
      · have h := i_f c20 h
        refine lv_aload_n hx hb dX0_raise_23 rfl (lv_at hl 0 rfl) ?_
        refine va_get (D := D) (cl := vwCl) (ci := 0) (v := .ref cv) (C := RX0) (T := TX0) (N := 1) hx hb hts hinX0 hown hG.1 hP 0 rfl rfl 0 (by decide) fl13 (fun _ h9 => h9) rfl dX0_raise_24 ?_
        refine lv_iload_n hx hb dX0_raise_27 rfl (lv_at hl 1 rfl) ?_
        refine lv_iload_n hx hb dX0_raise_28 rfl (lv_at hl 2 rfl) ?_
        obtain ⟨hi29, h⟩ := ck_some h
        refine va_iast hx hb hG.1 hP hD hS 1 0 rfl rfl hi29 dX0_raise_29 (fun H locs hP hD hS => ?_)
        have hP : va_P D vwCl [(co, .inr (0, [.ref cv])), (cv, .inl (cA, n, .inl (upd cf a1.toNatClampNeg a2)))] H := hP
        have hD : va_D A [(co, .inr (0, [.ref cv])), (cv, .inl (cA, n, .inl (upd cf a1.toNatClampNeg a2)))] := hD
        cases h
        exact rt_v hx hb hr hlocks hP hD hS dX0_raise_30
set_option maxHeartbeats 4000000 in
set_option maxRecDepth 100000 in
theorem kX0_clearAll (l : Launch) (D : va_G) (cA : ClassId) (F : Nat) (co : Nat) (cv : Nat) (n : Nat) (cf : (Nat → Int32)) (cf_9 : (Nat → Int32)) (h : mX0_clearAll F n cf = some cf_9) : Ct l yX0_clearAll wsX0_clearAll ({ frames := 1, cells := 0, slots := 0, locals := 23 }) D cA [.ref co] [(co, .inr (0, [.ref cv])), (cv, .inl (cA, n, .inl cf))] [(co, .inr (0, [.ref cv])), (cv, .inl (cA, n, .inl cf_9))] (none) := by
  refine Ct.of (cc := cX0_clearAll) (maxL := 1) (ret := none) (by decide) rfl (Nat.le_of_ble_eq_true rfl) ?_
  intro p e s m below meth c A ls hcx hG hst hA hP hD hl
  obtain ⟨hx, hb, hml, hown, hts, hr, hlocks⟩ := id hcx
  have hown : s.vm.findClass RX0 = some m.cls := hown
  have hS : va_S A s.heap s.heap [] := va_S.rf
  have hl : lv_has ls 1 [(0, .ref co)] := hl
  have hinX0 : ∀ w ∈ u_ws RX0 TX0 1, w ∈ wsX0_clearAll := by decide +kernel
  have fl13 := hts (.fieldLink RX0 13 "RunSorter$Cells" "values" "[I") (by decide +kernel)
  unfold mX0_clearAll at h
  refine lv_aload_n hx hb dX0_clearAll_0 rfl (lv_at hl 0 rfl) ?_
  refine va_get (D := D) (cl := vwCl) (ci := 0) (v := .ref cv) (C := RX0) (T := TX0) (N := 1) hx hb hts hinX0 hown hG.1 hP 0 rfl rfl 0 (by decide) fl13 (fun _ h9 => h9) rfl dX0_clearAll_1 ?_
  refine lv_iconst (v := (0 : Int32)) hx hb dX0_clearAll_4 (by decide) ?_
  obtain ⟨cf_5, hc5, h⟩ := bd1_some h
  refine ct_S (As := [.ref cv, .int (0 : Int32)]) (rest := []) (st1 := []) (wf := [(co, .inr (0, [.ref cv])), (cv, .inl (cA, n, .inl cf_5))]) (kJ7_fill_53178 l D cA F cv n cf (0 : Int32) cf_5 hc5) ⟨hx, hb, hml, hown, hts⟩ (va_cwS 2 hts gX0_clearAll_J7_fill_53178 rfl rfl rfl (by decide +kernel) ⟨Nat.le_of_ble_eq_true rfl, Nat.le_of_ble_eq_true rfl⟩) hG hst hP hD hS hA [1] [0] [0, 1] rfl rfl rfl rfl rfl rfl hl.1 rfl rfl (Nat.le_of_ble_eq_true rfl) dX0_clearAll_5 ⟨Nat.zero_le _, Nat.zero_le _⟩ (fun H locs hP hD hS => ?_)
  cases h
  exact rt_v hx hb hr hlocks hP hD hS dX0_clearAll_8
set_option maxHeartbeats 4000000 in
set_option maxRecDepth 100000 in
theorem kX4_aim (l : Launch) (D : va_G) (cA : ClassId) (F : Nat) (po : Nat) (q2 : Nat) (q : Nat) (pe : Int32) (pd : Int32) (pl : Int32) (a2 : Int32) (a3 : Int32) (a4 : Int32) (pe_9 : Int32) (pd_9 : Int32) (pl_9 : Int32) (h : mX4_aim F a2 a3 a4 = some (pe_9, pd_9, pl_9)) : Ct l yX4_aim wsX4_aim ({ frames := 0, cells := 0, slots := 0, locals := 0 }) D cA [.ref po, .ref q2, .int a2, .int a3, .int a4] [(po, .inr (4, [.ref q, .int pe, .int pd, .int pl]))] [(po, .inr (4, [.ref q2, .int pe_9, .int pd_9, .int pl_9]))] (none) := by
  refine Ct.of (cc := cX4_aim) (maxL := 5) (ret := none) (by decide) rfl (Nat.le_of_ble_eq_true rfl) ?_
  intro p e s m below meth c A ls hcx hG hst hA hP hD hl
  obtain ⟨hx, hb, hml, hown, hts, hr, hlocks⟩ := id hcx
  have hown : s.vm.findClass RX4 = some m.cls := hown
  have hS : va_S A s.heap s.heap [] := va_S.rf
  have hl : lv_has ls 5 [(0, .ref po), (1, .ref q2), (2, .int a2), (3, .int a3), (4, .int a4)] := hl
  have hinX4 : ∀ w ∈ u_ws RX4 TX4 4, w ∈ wsX4_aim := by decide +kernel
  have fl19 := hts (.fieldLink RX4 19 "RunSorter$Span" "cells" "LRunSorter$Cells;") (by decide +kernel)
  have fl7 := hts (.fieldLink RX4 7 "RunSorter$Span" "end" "I") (by decide +kernel)
  have fl13 := hts (.fieldLink RX4 13 "RunSorter$Span" "direction" "I") (by decide +kernel)
  have fl16 := hts (.fieldLink RX4 16 "RunSorter$Span" "left" "I") (by decide +kernel)
  unfold mX4_aim at h
  refine lv_aload_n hx hb dX4_aim_0 rfl (lv_at hl 0 rfl) ?_
  refine lv_aload_n hx hb dX4_aim_1 rfl (lv_at hl 1 rfl) ?_
  refine va_put (D := D) (cl := vwCl) (ci := 4) (v := .ref q2) (ty := .object "RunSorter$Cells") (C := RX4) (T := TX4) (N := 4) hx hb hts hinX4 tyX4 tyX4_ok nmX4 hown hG.1 hP hD hS 0 rfl rfl 0 (by decide) fl19 (fun _ h9 => h9) rfl (by decide +kernel) rfl rfl (Nat.le_of_ble_eq_true rfl) dX4_aim_2 (fun H locs hP hD hS => ?_)
  have hP : va_P D vwCl [(po, .inr (4, [.ref q2, .int pe, .int pd, .int pl]))] H := hP
  have hD : va_D A [(po, .inr (4, [.ref q2, .int pe, .int pd, .int pl]))] := hD
  refine lv_aload_n hx hb dX4_aim_5 rfl (lv_at hl 0 rfl) ?_
  refine lv_iload_n hx hb dX4_aim_6 rfl (lv_at hl 2 rfl) ?_
  refine va_put (D := D) (cl := vwCl) (ci := 4) (v := .int a2) (ty := .int) (C := RX4) (T := TX4) (N := 4) hx hb hts hinX4 tyX4 tyX4_ok nmX4 hown hG.1 hP hD hS 0 rfl rfl 1 (by decide) fl7 (fun _ h9 => h9) rfl (by decide +kernel) rfl rfl (Nat.le_of_ble_eq_true rfl) dX4_aim_7 (fun H locs hP hD hS => ?_)
  have hP : va_P D vwCl [(po, .inr (4, [.ref q2, .int a2, .int pd, .int pl]))] H := hP
  have hD : va_D A [(po, .inr (4, [.ref q2, .int a2, .int pd, .int pl]))] := hD
  refine lv_aload_n hx hb dX4_aim_10 rfl (lv_at hl 0 rfl) ?_
  refine lv_iload_n hx hb dX4_aim_11 rfl (lv_at hl 3 rfl) ?_
  refine va_put (D := D) (cl := vwCl) (ci := 4) (v := .int a3) (ty := .int) (C := RX4) (T := TX4) (N := 4) hx hb hts hinX4 tyX4 tyX4_ok nmX4 hown hG.1 hP hD hS 0 rfl rfl 2 (by decide) fl13 (fun _ h9 => h9) rfl (by decide +kernel) rfl rfl (Nat.le_of_ble_eq_true rfl) dX4_aim_12 (fun H locs hP hD hS => ?_)
  have hP : va_P D vwCl [(po, .inr (4, [.ref q2, .int a2, .int a3, .int pl]))] H := hP
  have hD : va_D A [(po, .inr (4, [.ref q2, .int a2, .int a3, .int pl]))] := hD
  refine lv_aload_n hx hb dX4_aim_15 rfl (lv_at hl 0 rfl) ?_
  refine lv_iload hx hb dX4_aim_16 (lv_at hl 4 rfl) ?_
  refine va_put (D := D) (cl := vwCl) (ci := 4) (v := .int a4) (ty := .int) (C := RX4) (T := TX4) (N := 4) hx hb hts hinX4 tyX4 tyX4_ok nmX4 hown hG.1 hP hD hS 0 rfl rfl 3 (by decide) fl16 (fun _ h9 => h9) rfl (by decide +kernel) rfl rfl (Nat.le_of_ble_eq_true rfl) dX4_aim_18 (fun H locs hP hD hS => ?_)
  have hP : va_P D vwCl [(po, .inr (4, [.ref q2, .int a2, .int a3, .int a4]))] H := hP
  have hD : va_D A [(po, .inr (4, [.ref q2, .int a2, .int a3, .int a4]))] := hD
  cases h
  exact rt_v hx hb hr hlocks hP hD hS dX4_aim_21
set_option maxHeartbeats 4000000 in
set_option maxRecDepth 100000 in
theorem kX4_ahead (l : Launch) (D : va_G) (cA : ClassId) (F : Nat) (po : Nat) (co : Nat) (cv : Nat) (n : Nat) (pe : Int32) (pd : Int32) (pl : Int32) (cf : (Nat → Int32)) (a1 : Int32) (r0 : Int32) (h : mX4_ahead F n pe pd cf a1 = some r0) : Ct l yX4_ahead wsX4_ahead ({ frames := 1, cells := 0, slots := 0, locals := 21 }) D cA [.ref po, .int a1] [(po, .inr (4, [.ref co, .int pe, .int pd, .int pl])), (co, .inr (0, [.ref cv])), (cv, .inl (cA, n, .inl cf))] [(po, .inr (4, [.ref co, .int pe, .int pd, .int pl])), (co, .inr (0, [.ref cv])), (cv, .inl (cA, n, .inl cf))] (some (.int r0)) := by
  refine Ct.of (cc := cX4_ahead) (maxL := 2) (ret := (some .int)) (by decide) rfl (Nat.le_of_ble_eq_true rfl) ?_
  intro p e s m below meth c A ls hcx hG hst hA hP hD hl
  obtain ⟨hx, hb, hml, hown, hts, hr, hlocks⟩ := id hcx
  have hown : s.vm.findClass RX4 = some m.cls := hown
  have hS : va_S A s.heap s.heap [] := va_S.rf
  have hl : lv_has ls 2 [(0, .ref po), (1, .int a1)] := hl
  have hinX4 : ∀ w ∈ u_ws RX4 TX4 4, w ∈ wsX4_ahead := by decide +kernel
  have fl19 := hts (.fieldLink RX4 19 "RunSorter$Span" "cells" "LRunSorter$Cells;") (by decide +kernel)
  have fl7 := hts (.fieldLink RX4 7 "RunSorter$Span" "end" "I") (by decide +kernel)
  have fl13 := hts (.fieldLink RX4 13 "RunSorter$Span" "direction" "I") (by decide +kernel)
  unfold mX4_ahead at h
  refine lv_aload_n hx hb dX4_ahead_0 rfl (lv_at hl 0 rfl) ?_
  refine va_get (D := D) (cl := vwCl) (ci := 4) (v := .ref co) (C := RX4) (T := TX4) (N := 4) hx hb hts hinX4 hown hG.1 hP 0 rfl rfl 0 (by decide) fl19 (fun _ h9 => h9) rfl dX4_ahead_1 ?_
  refine lv_aload_n hx hb dX4_ahead_4 rfl (lv_at hl 0 rfl) ?_
  refine va_get (D := D) (cl := vwCl) (ci := 4) (v := .int pe) (C := RX4) (T := TX4) (N := 4) hx hb hts hinX4 hown hG.1 hP 0 rfl rfl 1 (by decide) fl7 (fun _ h9 => h9) rfl dX4_ahead_5 ?_
  refine lv_aload_n hx hb dX4_ahead_8 rfl (lv_at hl 0 rfl) ?_
  refine va_get (D := D) (cl := vwCl) (ci := 4) (v := .int pd) (C := RX4) (T := TX4) (N := 4) hx hb hts hinX4 hown hG.1 hP 0 rfl rfl 2 (by decide) fl13 (fun _ h9 => h9) rfl dX4_ahead_9 ?_
  refine lv_iload_n hx hb dX4_ahead_12 rfl (lv_at hl 1 rfl) ?_
  refine lv_imul hx hb dX4_ahead_13 ?_
  refine lv_iadd hx hb dX4_ahead_14 ?_
  obtain ⟨r15, hc15, h⟩ := bd1_some h
  refine ct_VN (As := [.int (pe + (pd * a1))]) (rest := []) (st1 := [.int r15]) (wf := [(po, .inr (4, [.ref co, .int pe, .int pd, .int pl])), (co, .inr (0, [.ref cv])), (cv, .inl (cA, n, .inl cf))]) (kX0_look l D cA F co cv n cf (pe + (pd * a1)) r15 hc15) ⟨hx, hb, hml, hown, hts⟩ ⟨va_cnB 1 hts gX4_ahead_X0_look_n23 rfl rfl rfl (hG.2.m 25 rfl) (hts (.initialized RX0) (by decide +kernel)) (by decide +kernel) ⟨Nat.le_of_ble_eq_true rfl, Nat.le_of_ble_eq_true rfl⟩, hts (.instanceMethod yX0_look) (by decide +kernel), hts (.selects RX0 yX0_look yX0_look) (by decide +kernel)⟩ hG hst hP hD hS hA 0 rfl rfl rfl [1, 2] [0] [0, 1, 2] rfl rfl rfl rfl rfl rfl hl.1 rfl rfl (Nat.le_of_ble_eq_true rfl) dX4_ahead_15 ⟨Nat.zero_le _, Nat.zero_le _⟩ (fun H locs hP hD hS => ?_)
  cases h
  exact rt_i hx hb hr hlocks hP hD hS dX4_ahead_18
set_option maxHeartbeats 4000000 in
set_option maxRecDepth 100000 in
theorem kX4_drop (l : Launch) (D : va_G) (cA : ClassId) (F : Nat) (po : Nat) (q : Nat) (pe : Int32) (pd : Int32) (pl : Int32) (a1 : Int32) (pe_9 : Int32) (pl_9 : Int32) (h : mX4_drop F pe pd pl a1 = some (pe_9, pl_9)) : Ct l yX4_drop wsX4_drop ({ frames := 0, cells := 0, slots := 0, locals := 0 }) D cA [.ref po, .int a1] [(po, .inr (4, [.ref q, .int pe, .int pd, .int pl]))] [(po, .inr (4, [.ref q, .int pe_9, .int pd, .int pl_9]))] (none) := by
  refine Ct.of (cc := cX4_drop) (maxL := 2) (ret := none) (by decide) rfl (Nat.le_of_ble_eq_true rfl) ?_
  intro p e s m below meth c A ls hcx hG hst hA hP hD hl
  obtain ⟨hx, hb, hml, hown, hts, hr, hlocks⟩ := id hcx
  have hown : s.vm.findClass RX4 = some m.cls := hown
  have hS : va_S A s.heap s.heap [] := va_S.rf
  have hl : lv_has ls 2 [(0, .ref po), (1, .int a1)] := hl
  have hinX4 : ∀ w ∈ u_ws RX4 TX4 4, w ∈ wsX4_drop := by decide +kernel
  have fl7 := hts (.fieldLink RX4 7 "RunSorter$Span" "end" "I") (by decide +kernel)
  have fl13 := hts (.fieldLink RX4 13 "RunSorter$Span" "direction" "I") (by decide +kernel)
  have fl16 := hts (.fieldLink RX4 16 "RunSorter$Span" "left" "I") (by decide +kernel)
  unfold mX4_drop at h
  refine lv_aload_n hx hb dX4_drop_0 rfl (lv_at hl 0 rfl) ?_
  refine lv_dup hx hb dX4_drop_1 rfl ?_
  refine va_get (D := D) (cl := vwCl) (ci := 4) (v := .int pe) (C := RX4) (T := TX4) (N := 4) hx hb hts hinX4 hown hG.1 hP 0 rfl rfl 1 (by decide) fl7 (fun _ h9 => h9) rfl dX4_drop_2 ?_
  refine lv_aload_n hx hb dX4_drop_5 rfl (lv_at hl 0 rfl) ?_
  refine va_get (D := D) (cl := vwCl) (ci := 4) (v := .int pd) (C := RX4) (T := TX4) (N := 4) hx hb hts hinX4 hown hG.1 hP 0 rfl rfl 2 (by decide) fl13 (fun _ h9 => h9) rfl dX4_drop_6 ?_
  refine lv_iload_n hx hb dX4_drop_9 rfl (lv_at hl 1 rfl) ?_
  refine lv_imul hx hb dX4_drop_10 ?_
  refine lv_iadd hx hb dX4_drop_11 ?_
  refine va_put (D := D) (cl := vwCl) (ci := 4) (v := .int (pe + (pd * a1))) (ty := .int) (C := RX4) (T := TX4) (N := 4) hx hb hts hinX4 tyX4 tyX4_ok nmX4 hown hG.1 hP hD hS 0 rfl rfl 1 (by decide) fl7 (fun _ h9 => h9) rfl (by decide +kernel) rfl rfl (Nat.le_of_ble_eq_true rfl) dX4_drop_12 (fun H locs hP hD hS => ?_)
  have hP : va_P D vwCl [(po, .inr (4, [.ref q, .int (pe + (pd * a1)), .int pd, .int pl]))] H := hP
  have hD : va_D A [(po, .inr (4, [.ref q, .int (pe + (pd * a1)), .int pd, .int pl]))] := hD
  refine lv_aload_n hx hb dX4_drop_15 rfl (lv_at hl 0 rfl) ?_
  refine lv_dup hx hb dX4_drop_16 rfl ?_
  refine va_get (D := D) (cl := vwCl) (ci := 4) (v := .int pl) (C := RX4) (T := TX4) (N := 4) hx hb hts hinX4 hown hG.1 hP 0 rfl rfl 3 (by decide) fl16 (fun _ h9 => h9) rfl dX4_drop_17 ?_
  refine lv_iload_n hx hb dX4_drop_20 rfl (lv_at hl 1 rfl) ?_
  refine lv_isub hx hb dX4_drop_21 ?_
  refine va_put (D := D) (cl := vwCl) (ci := 4) (v := .int (pl - a1)) (ty := .int) (C := RX4) (T := TX4) (N := 4) hx hb hts hinX4 tyX4 tyX4_ok nmX4 hown hG.1 hP hD hS 0 rfl rfl 3 (by decide) fl16 (fun _ h9 => h9) rfl (by decide +kernel) rfl rfl (Nat.le_of_ble_eq_true rfl) dX4_drop_22 (fun H locs hP hD hS => ?_)
  have hP : va_P D vwCl [(po, .inr (4, [.ref q, .int (pe + (pd * a1)), .int pd, .int (pl - a1)]))] H := hP
  have hD : va_D A [(po, .inr (4, [.ref q, .int (pe + (pd * a1)), .int pd, .int (pl - a1)]))] := hD
  cases h
  exact rt_v hx hb hr hlocks hP hD hS dX4_drop_25
set_option maxHeartbeats 4000000 in
set_option maxRecDepth 100000 in
theorem kX5_keyOf (l : Launch) (D : va_G) (cA : ClassId) (F : Nat) (a0 : Int32) (r0 : Int32) (h : mX5_keyOf F a0 = some r0) : Ct l yX5_keyOf wsX5_keyOf ({ frames := 0, cells := 0, slots := 0, locals := 0 }) D cA [.int a0] [] [] (some (.int r0)) := by
  refine Ct.of (cc := cX5_keyOf) (maxL := 1) (ret := (some .int)) (by decide) rfl (Nat.le_of_ble_eq_true rfl) ?_
  intro p e s m below meth c A ls hcx hG hst hA hP hD hl
  obtain ⟨hx, hb, hml, hown, hts, hr, hlocks⟩ := id hcx
  have hown : s.vm.findClass RX5 = some m.cls := hown
  have hS : va_S A s.heap s.heap [] := va_S.rf
  have hl : lv_has ls 1 [(0, .int a0)] := hl
  unfold mX5_keyOf at h
  refine lv_iload_n hx hb dX5_keyOf_0 rfl (lv_at hl 0 rfl) ?_
  refine lv_bipush (v := (26 : Int32)) hx hb dX5_keyOf_1 (by decide) ?_
  refine lv_irem hx hb dX5_keyOf_3 (by decide) ?_
  cases h
  exact rt_i hx hb hr hlocks hP hD hS dX5_keyOf_4
set_option maxHeartbeats 4000000 in
set_option maxRecDepth 100000 in
theorem kX5_tagOf (l : Launch) (D : va_G) (cA : ClassId) (F : Nat) (a0 : Int32) (r0 : Int32) (h : mX5_tagOf F a0 = some r0) : Ct l yX5_tagOf wsX5_tagOf ({ frames := 0, cells := 0, slots := 0, locals := 0 }) D cA [.int a0] [] [] (some (.int r0)) := by
  refine Ct.of (cc := cX5_tagOf) (maxL := 1) (ret := (some .int)) (by decide) rfl (Nat.le_of_ble_eq_true rfl) ?_
  intro p e s m below meth c A ls hcx hG hst hA hP hD hl
  obtain ⟨hx, hb, hml, hown, hts, hr, hlocks⟩ := id hcx
  have hown : s.vm.findClass RX5 = some m.cls := hown
  have hS : va_S A s.heap s.heap [] := va_S.rf
  have hl : lv_has ls 1 [(0, .int a0)] := hl
  unfold mX5_tagOf at h
  refine lv_iload_n hx hb dX5_tagOf_0 rfl (lv_at hl 0 rfl) ?_
  refine lv_bipush (v := (26 : Int32)) hx hb dX5_tagOf_1 (by decide) ?_
  refine lv_idiv hx hb dX5_tagOf_3 (by decide) ?_
  cases h
  exact rt_i hx hb hr hlocks hP hD hS dX5_tagOf_4
set_option maxHeartbeats 4000000 in
set_option maxRecDepth 100000 in
theorem kX5_recordOf (l : Launch) (D : va_G) (cA : ClassId) (F : Nat) (a0 : Int32) (a1 : Int32) (r0 : Int32) (h : mX5_recordOf F a0 a1 = some r0) : Ct l yX5_recordOf wsX5_recordOf ({ frames := 0, cells := 0, slots := 0, locals := 0 }) D cA [.int a0, .int a1] [] [] (some (.int r0)) := by
  refine Ct.of (cc := cX5_recordOf) (maxL := 2) (ret := (some .int)) (by decide) rfl (Nat.le_of_ble_eq_true rfl) ?_
  intro p e s m below meth c A ls hcx hG hst hA hP hD hl
  obtain ⟨hx, hb, hml, hown, hts, hr, hlocks⟩ := id hcx
  have hown : s.vm.findClass RX5 = some m.cls := hown
  have hS : va_S A s.heap s.heap [] := va_S.rf
  have hl : lv_has ls 2 [(0, .int a0), (1, .int a1)] := hl
  unfold mX5_recordOf at h
  refine lv_iload_n hx hb dX5_recordOf_0 rfl (lv_at hl 1 rfl) ?_
  refine lv_bipush (v := (26 : Int32)) hx hb dX5_recordOf_1 (by decide) ?_
  refine lv_imul hx hb dX5_recordOf_3 ?_
  refine lv_iload_n hx hb dX5_recordOf_4 rfl (lv_at hl 0 rfl) ?_
  refine lv_iadd hx hb dX5_recordOf_5 ?_
  cases h
  exact rt_i hx hb hr hlocks hP hD hS dX5_recordOf_6
set_option maxHeartbeats 4000000 in
set_option maxRecDepth 100000 in
theorem kX5_rankOf (l : Launch) (D : va_G) (cA : ClassId) (F : Nat) (a0 : Int32) (a1 : Int32) (r0 : Int32) (h : mX5_rankOf F a0 a1 = some r0) : Ct l yX5_rankOf wsX5_rankOf ({ frames := 0, cells := 0, slots := 0, locals := 0 }) D cA [.int a0, .int a1] [] [] (some (.int r0)) := by
  refine Ct.of (cc := cX5_rankOf) (maxL := 2) (ret := (some .int)) (by decide) rfl (Nat.le_of_ble_eq_true rfl) ?_
  intro p e s m below meth c A ls hcx hG hst hA hP hD hl
  obtain ⟨hx, hb, hml, hown, hts, hr, hlocks⟩ := id hcx
  have hown : s.vm.findClass RX5 = some m.cls := hown
  have hS : va_S A s.heap s.heap [] := va_S.rf
  have hl : lv_has ls 2 [(0, .int a0), (1, .int a1)] := hl
  unfold mX5_rankOf at h
  refine lv_iload_n hx hb dX5_rankOf_0 rfl (lv_at hl 0 rfl) ?_
  by_cases c1_1 : a0 = (1 : Int32)
  · have h := i_t c1_1 h
    refine lv_tableIn (tgt := 28) hx hb dX5_rankOf_1 (by rw [c1_1]; decide) (by rw [c1_1]; decide) (by rw [c1_1]; rfl) (by decide) ?_
    refine lv_iload_n hx hb dX5_rankOf_28 rfl (lv_at hl 1 rfl) ?_
    refine lv_ineg hx hb dX5_rankOf_29 ?_
    cases h
    exact rt_i hx hb hr hlocks hP hD hS dX5_rankOf_30
  have h := i_f c1_1 h
  by_cases c1_2 : a0 = (2 : Int32)
  · have h := i_t c1_2 h
    refine lv_tableIn (tgt := 31) hx hb dX5_rankOf_1 (by rw [c1_2]; decide) (by rw [c1_2]; decide) (by rw [c1_2]; rfl) (by decide) ?_
    refine lv_iload_n hx hb dX5_rankOf_31 rfl (lv_at hl 1 rfl) ?_
    refine lv_iconst (v := (5 : Int32)) hx hb dX5_rankOf_32 (by decide) ?_
    refine lv_irem hx hb dX5_rankOf_33 (by decide) ?_
    cases h
    exact rt_i hx hb hr hlocks hP hD hS dX5_rankOf_34
  have h := i_f c1_2 h
  by_cases c1_3 : a0 = (3 : Int32)
  · have h := i_t c1_3 h
    refine lv_tableIn (tgt := 35) hx hb dX5_rankOf_1 (by rw [c1_3]; decide) (by rw [c1_3]; decide) (by rw [c1_3]; rfl) (by decide) ?_
    refine lv_ldc (v := (1065233 : Int32)) hx hb hown (hts (.constant RX5 170 (1065233)) (by decide +kernel)) dX5_rankOf_35 ?_
    refine lv_iload_n hx hb dX5_rankOf_37 rfl (lv_at hl 1 rfl) ?_
    refine lv_ishr hx hb dX5_rankOf_38 ?_
    refine lv_iconst (v := (1 : Int32)) hx hb dX5_rankOf_39 (by decide) ?_
    refine lv_iand hx hb dX5_rankOf_40 ?_
    refine lv_iconst (v := (1 : Int32)) hx hb dX5_rankOf_41 (by decide) ?_
    refine lv_icmp_ne (tgt := 49) hx hb dX5_rankOf_42 (by decide) (fun c42 => ?_) (fun c42 => ?_)
    · have h := i_f c42 h
      refine lv_iconst (v := (1 : Int32)) hx hb dX5_rankOf_49 (by decide) ?_
      cases h
      exact rt_i hx hb hr hlocks hP hD hS dX5_rankOf_50
    · have h := i_t c42 h
      refine lv_iconst (v := (0 : Int32)) hx hb dX5_rankOf_45 (by decide) ?_
      refine lv_goto (tgt := 50) hx hb dX5_rankOf_46 (by decide) ?_
      cases h
      exact rt_i hx hb hr hlocks hP hD hS dX5_rankOf_50
  have h := i_f c1_3 h
  have q1_1 := lv_neT c1_1 (a := 1) (by decide)
  have q1_2 := lv_neT c1_2 (a := 2) (by decide)
  have q1_3 := lv_neT c1_3 (a := 3) (by decide)
  refine lv_tableOut (tgt := 51) hx hb dX5_rankOf_1 (by omega) (by decide) ?_
  refine lv_iload_n hx hb dX5_rankOf_51 rfl (lv_at hl 1 rfl) ?_
  cases h
  exact rt_i hx hb hr hlocks hP hD hS dX5_rankOf_52
set_option maxHeartbeats 4000000 in
set_option maxRecDepth 100000 in
theorem kX5_isOutside (l : Launch) (D : va_G) (cA : ClassId) (F : Nat) (a0 : Int32) (a1 : Int32) (a2 : Int32) (r0 : Int32) (h : mX5_isOutside F a0 a1 a2 = some r0) : Ct l yX5_isOutside wsX5_isOutside ({ frames := 0, cells := 0, slots := 0, locals := 0 }) D cA [.int a0, .int a1, .int a2] [] [] (some (.int r0)) := by
  refine Ct.of (cc := cX5_isOutside) (maxL := 3) (ret := (some .boolean)) (by decide) rfl (Nat.le_of_ble_eq_true rfl) ?_
  intro p e s m below meth c A ls hcx hG hst hA hP hD hl
  obtain ⟨hx, hb, hml, hown, hts, hr, hlocks⟩ := id hcx
  have hown : s.vm.findClass RX5 = some m.cls := hown
  have hS : va_S A s.heap s.heap [] := va_S.rf
  have hl : lv_has ls 3 [(0, .int a0), (1, .int a1), (2, .int a2)] := hl
  unfold mX5_isOutside at h
  refine lv_iload_n hx hb dX5_isOutside_0 rfl (lv_at hl 0 rfl) ?_
  refine lv_iload_n hx hb dX5_isOutside_1 rfl (lv_at hl 1 rfl) ?_
  refine lv_icmp_lt (tgt := 10) hx hb dX5_isOutside_2 (by decide) (fun c2 => ?_) (fun c2 => ?_)
  · have h := i_t c2 h
    refine lv_iconst (v := (1 : Int32)) hx hb dX5_isOutside_10 (by decide) ?_
    refine lv_goto (tgt := 15) hx hb dX5_isOutside_11 (by decide) ?_
    obtain ⟨hz15, h⟩ := bz_some h
    cases h
    exact rt_z hx hb hr hlocks hz15 hP hD hS dX5_isOutside_15
  · have h := i_f c2 h
    refine lv_iload_n hx hb dX5_isOutside_5 rfl (lv_at hl 0 rfl) ?_
    refine lv_iload_n hx hb dX5_isOutside_6 rfl (lv_at hl 2 rfl) ?_
    refine lv_icmp_le (tgt := 14) hx hb dX5_isOutside_7 (by decide) (fun c7 => ?_) (fun c7 => ?_)
    · have h := i_t c7 h
      refine lv_iconst (v := (0 : Int32)) hx hb dX5_isOutside_14 (by decide) ?_
      obtain ⟨hz15, h⟩ := bz_some h
      cases h
      exact rt_z hx hb hr hlocks hz15 hP hD hS dX5_isOutside_15
    · have h := i_f c7 h
      refine lv_iconst (v := (1 : Int32)) hx hb dX5_isOutside_10 (by decide) ?_
      refine lv_goto (tgt := 15) hx hb dX5_isOutside_11 (by decide) ?_
      obtain ⟨hz15, h⟩ := bz_some h
      cases h
      exact rt_z hx hb hr hlocks hz15 hP hD hS dX5_isOutside_15
set_option maxHeartbeats 4000000 in
set_option maxRecDepth 100000 in
theorem kX5_isNoKey (l : Launch) (D : va_G) (cA : ClassId) (F : Nat) (a0 : Int32) (r0 : Int32) (h : mX5_isNoKey F a0 = some r0) : Ct l yX5_isNoKey wsX5_isNoKey ({ frames := 1, cells := 0, slots := 0, locals := 22 }) D cA [.int a0] [] [] (some (.int r0)) := by
  refine Ct.of (cc := cX5_isNoKey) (maxL := 1) (ret := (some .boolean)) (by decide) rfl (Nat.le_of_ble_eq_true rfl) ?_
  intro p e s m below meth c A ls hcx hG hst hA hP hD hl
  obtain ⟨hx, hb, hml, hown, hts, hr, hlocks⟩ := id hcx
  have hown : s.vm.findClass RX5 = some m.cls := hown
  have hS : va_S A s.heap s.heap [] := va_S.rf
  have hl : lv_has ls 1 [(0, .int a0)] := hl
  unfold mX5_isNoKey at h
  refine lv_iload_n hx hb dX5_isNoKey_0 rfl (lv_at hl 0 rfl) ?_
  refine lv_iconst (v := (0 : Int32)) hx hb dX5_isNoKey_1 (by decide) ?_
  refine lv_bipush (v := (25 : Int32)) hx hb dX5_isNoKey_2 (by decide) ?_
  obtain ⟨r4, hc4, h⟩ := bd1_some h
  refine ct_S (As := [.int a0, .int (0 : Int32), .int (25 : Int32)]) (rest := []) (st1 := [.int r4]) (wf := []) (kX5_isOutside l D cA F    a0 (0 : Int32) (25 : Int32) r4 hc4) ⟨hx, hb, hml, hown, hts⟩ (va_cwS 3 hts gX5_isNoKey_X5_isOutside rfl rfl rfl (by decide +kernel) ⟨Nat.le_of_ble_eq_true rfl, Nat.le_of_ble_eq_true rfl⟩) hG hst hP hD hS hA [] [] [] rfl rfl rfl rfl rfl rfl hl.1 rfl rfl (Nat.le_of_ble_eq_true rfl) dX5_isNoKey_4 ⟨Nat.zero_le _, Nat.zero_le _⟩ (fun H locs hP hD hS => ?_)
  obtain ⟨hz7, h⟩ := bz_some h
  cases h
  exact rt_z hx hb hr hlocks hz7 hP hD hS dX5_isNoKey_7
set_option maxHeartbeats 4000000 in
set_option maxRecDepth 100000 in
theorem kX1_isLess (l : Launch) (D : va_G) (cA : ClassId) (F : Nat) (jo : Nat) (talo : Nat) (talv : Nat) (jord : Int32) (talf : (Nat → Int32)) (a1 : Int32) (a2 : Int32) (r0 : Int32) (talf_9 : (Nat → Int32)) (h : mX1_isLess F jord talf a1 a2 = some (r0, talf_9)) : Ct l yX1_isLess wsX1_isLess ({ frames := 1, cells := 0, slots := 0, locals := 22 }) D cA [.ref jo, .int a1, .int a2] [(jo, .inr (1, [.ref talo, .int jord])), (talo, .inr (0, [.ref talv])), (talv, .inl (cA, 12, .inl talf))] [(jo, .inr (1, [.ref talo, .int jord])), (talo, .inr (0, [.ref talv])), (talv, .inl (cA, 12, .inl talf_9))] (some (.int r0)) := by
  refine Ct.of (cc := cX1_isLess) (maxL := 3) (ret := (some .boolean)) (by decide) rfl (Nat.le_of_ble_eq_true rfl) ?_
  intro p e s m below meth c A ls hcx hG hst hA hP hD hl
  obtain ⟨hx, hb, hml, hown, hts, hr, hlocks⟩ := id hcx
  have hown : s.vm.findClass RX1 = some m.cls := hown
  have hS : va_S A s.heap s.heap [] := va_S.rf
  have hl : lv_has ls 3 [(0, .ref jo), (1, .int a1), (2, .int a2)] := hl
  have hinX1 : ∀ w ∈ u_ws RX1 TX1 2, w ∈ wsX1_isLess := by decide +kernel
  have fl15 := hts (.fieldLink RX1 15 "RunSorter$Judge" "tally" "LRunSorter$Cells;") (by decide +kernel)
  have fl9 := hts (.fieldLink RX1 9 "RunSorter$Judge" "order" "I") (by decide +kernel)
  unfold mX1_isLess at h
  refine lv_aload_n hx hb dX1_isLess_0 rfl (lv_at hl 0 rfl) ?_
  refine va_get (D := D) (cl := vwCl) (ci := 1) (v := .ref talo) (C := RX1) (T := TX1) (N := 2) hx hb hts hinX1 hown hG.1 hP 0 rfl rfl 0 (by decide) fl15 (fun _ h9 => h9) rfl dX1_isLess_1 ?_
  refine lv_iconst (v := (0 : Int32)) hx hb dX1_isLess_4 (by decide) ?_
  refine lv_iconst (v := (1 : Int32)) hx hb dX1_isLess_5 (by decide) ?_
  obtain ⟨talf_6, hc6, h⟩ := bd1_some h
  refine ct_VN (As := [.int (0 : Int32), .int (1 : Int32)]) (rest := []) (st1 := []) (wf := [(jo, .inr (1, [.ref talo, .int jord])), (talo, .inr (0, [.ref talv])), (talv, .inl (cA, 12, .inl talf_6))]) (kX0_add l D cA F talo talv 12 talf (0 : Int32) (1 : Int32) talf_6 hc6) ⟨hx, hb, hml, hown, hts⟩ ⟨va_cnB 2 hts gX1_isLess_X0_add_n19 rfl rfl rfl (hG.2.m 18 rfl) (hts (.initialized RX0) (by decide +kernel)) (by decide +kernel) ⟨Nat.le_of_ble_eq_true rfl, Nat.le_of_ble_eq_true rfl⟩, hts (.instanceMethod yX0_add) (by decide +kernel), hts (.selects RX0 yX0_add yX0_add) (by decide +kernel)⟩ hG hst hP hD hS hA 0 rfl rfl rfl [1, 2] [0] [0, 1, 2] rfl rfl rfl rfl rfl rfl hl.1 rfl rfl (Nat.le_of_ble_eq_true rfl) dX1_isLess_6 ⟨Nat.zero_le _, Nat.zero_le _⟩ (fun H locs hP hD hS => ?_)
  refine lv_aload_n hx hb dX1_isLess_9 rfl (lv_at hl 0 rfl) ?_
  refine va_get (D := D) (cl := vwCl) (ci := 1) (v := .int jord) (C := RX1) (T := TX1) (N := 2) hx hb hts hinX1 hown hG.1 hP 0 rfl rfl 1 (by decide) fl9 (fun _ h9 => h9) rfl dX1_isLess_10 ?_
  refine lv_iload_n hx hb dX1_isLess_13 rfl (lv_at hl 1 rfl) ?_
  obtain ⟨r14, hc14, h⟩ := bd1_some h
  refine ct_SN (As := [.int a1]) (rest := [.int jord]) (st1 := [.int r14, .int jord]) (wf := [(jo, .inr (1, [.ref talo, .int jord])), (talo, .inr (0, [.ref talv])), (talv, .inl (cA, 12, .inl talf_6))]) (kX5_keyOf l D cA F    a1 r14 hc14) ⟨hx, hb, hml, hown, hts⟩ ⟨va_cnB 1 hts gX1_isLess_X5_keyOf_n25 rfl rfl rfl (hG.2.m 19 rfl) (hts (.initialized RX5) (by decide +kernel)) (by decide +kernel) ⟨Nat.le_of_ble_eq_true rfl, Nat.le_of_ble_eq_true rfl⟩, hts (.static yX5_keyOf) (by decide +kernel), trivial⟩ hG hst hP hD hS hA [] [0, 1, 2] [0, 1, 2] rfl rfl rfl rfl rfl rfl hl.1 rfl rfl (Nat.le_of_ble_eq_true rfl) dX1_isLess_14 ⟨Nat.zero_le _, Nat.zero_le _⟩ (fun H locs hP hD hS => ?_)
  obtain ⟨r17, hc17, h⟩ := bd1_some h
  refine ct_SN (As := [.int jord, .int r14]) (rest := []) (st1 := [.int r17]) (wf := [(jo, .inr (1, [.ref talo, .int jord])), (talo, .inr (0, [.ref talv])), (talv, .inl (cA, 12, .inl talf_6))]) (kX5_rankOf l D cA F    jord r14 r17 hc17) ⟨hx, hb, hml, hown, hts⟩ ⟨va_cnB 2 hts gX1_isLess_X5_rankOf_n29 rfl rfl rfl (hG.2.m 20 rfl) (hts (.initialized RX5) (by decide +kernel)) (by decide +kernel) ⟨Nat.le_of_ble_eq_true rfl, Nat.le_of_ble_eq_true rfl⟩, hts (.static yX5_rankOf) (by decide +kernel), trivial⟩ hG hst hP hD hS hA [] [0, 1, 2] [0, 1, 2] rfl rfl rfl rfl rfl rfl hl.1 rfl rfl (Nat.le_of_ble_eq_true rfl) dX1_isLess_17 ⟨Nat.zero_le _, Nat.zero_le _⟩ (fun H locs hP hD hS => ?_)
  refine lv_aload_n hx hb dX1_isLess_20 rfl (lv_at hl 0 rfl) ?_
  refine va_get (D := D) (cl := vwCl) (ci := 1) (v := .int jord) (C := RX1) (T := TX1) (N := 2) hx hb hts hinX1 hown hG.1 hP 0 rfl rfl 1 (by decide) fl9 (fun _ h9 => h9) rfl dX1_isLess_21 ?_
  refine lv_iload_n hx hb dX1_isLess_24 rfl (lv_at hl 2 rfl) ?_
  obtain ⟨r25, hc25, h⟩ := bd1_some h
  refine ct_SN (As := [.int a2]) (rest := [.int jord, .int r17]) (st1 := [.int r25, .int jord, .int r17]) (wf := [(jo, .inr (1, [.ref talo, .int jord])), (talo, .inr (0, [.ref talv])), (talv, .inl (cA, 12, .inl talf_6))]) (kX5_keyOf l D cA F    a2 r25 hc25) ⟨hx, hb, hml, hown, hts⟩ ⟨va_cnB 1 hts gX1_isLess_X5_keyOf_n25 rfl rfl rfl (hG.2.m 19 rfl) (hts (.initialized RX5) (by decide +kernel)) (by decide +kernel) ⟨Nat.le_of_ble_eq_true rfl, Nat.le_of_ble_eq_true rfl⟩, hts (.static yX5_keyOf) (by decide +kernel), trivial⟩ hG hst hP hD hS hA [] [0, 1, 2] [0, 1, 2] rfl rfl rfl rfl rfl rfl hl.1 rfl rfl (Nat.le_of_ble_eq_true rfl) dX1_isLess_25 ⟨Nat.zero_le _, Nat.zero_le _⟩ (fun H locs hP hD hS => ?_)
  obtain ⟨r28, hc28, h⟩ := bd1_some h
  refine ct_SN (As := [.int jord, .int r25]) (rest := [.int r17]) (st1 := [.int r28, .int r17]) (wf := [(jo, .inr (1, [.ref talo, .int jord])), (talo, .inr (0, [.ref talv])), (talv, .inl (cA, 12, .inl talf_6))]) (kX5_rankOf l D cA F    jord r25 r28 hc28) ⟨hx, hb, hml, hown, hts⟩ ⟨va_cnB 2 hts gX1_isLess_X5_rankOf_n29 rfl rfl rfl (hG.2.m 20 rfl) (hts (.initialized RX5) (by decide +kernel)) (by decide +kernel) ⟨Nat.le_of_ble_eq_true rfl, Nat.le_of_ble_eq_true rfl⟩, hts (.static yX5_rankOf) (by decide +kernel), trivial⟩ hG hst hP hD hS hA [] [0, 1, 2] [0, 1, 2] rfl rfl rfl rfl rfl rfl hl.1 rfl rfl (Nat.le_of_ble_eq_true rfl) dX1_isLess_28 ⟨Nat.zero_le _, Nat.zero_le _⟩ (fun H locs hP hD hS => ?_)
  refine lv_icmp_ge (tgt := 38) hx hb dX1_isLess_31 (by decide) (fun c31 => ?_) (fun c31 => ?_)
  · have h := i_t c31 h
    refine lv_iconst (v := (0 : Int32)) hx hb dX1_isLess_38 (by decide) ?_
    obtain ⟨hz39, h⟩ := bz_some h
    cases h
    exact rt_z hx hb hr hlocks hz39 hP hD hS dX1_isLess_39
  · have h := i_f c31 h
    refine lv_iconst (v := (1 : Int32)) hx hb dX1_isLess_34 (by decide) ?_
    refine lv_goto (tgt := 39) hx hb dX1_isLess_35 (by decide) ?_
    obtain ⟨hz39, h⟩ := bz_some h
    cases h
    exact rt_z hx hb hr hlocks hz39 hP hD hS dX1_isLess_39
set_option maxHeartbeats 4000000 in
set_option maxRecDepth 100000 in
theorem kX1_passing (l : Launch) (D : va_G) (cA : ClassId) (F : Nat) (jo : Nat) (po : Nat) (talo : Nat) (talv : Nat) (co : Nat) (cv : Nat) (n : Nat) (jord : Int32) (talf : (Nat → Int32)) (pe : Int32) (pd : Int32) (pl : Int32) (cf : (Nat → Int32)) (a2 : Int32) (a3 : Int32) (a4 : Int32) (r0 : Int32) (talf_9 : (Nat → Int32)) (h : mX1_passing F n jord talf pe pd pl cf a2 a3 a4 = some (r0, talf_9)) : Ct l yX1_passing wsX1_passing ({ frames := 2, cells := 0, slots := 0, locals := 44 }) D cA [.ref jo, .ref po, .int a2, .int a3, .int a4] [(jo, .inr (1, [.ref talo, .int jord])), (talo, .inr (0, [.ref talv])), (talv, .inl (cA, 12, .inl talf)), (po, .inr (4, [.ref co, .int pe, .int pd, .int pl])), (co, .inr (0, [.ref cv])), (cv, .inl (cA, n, .inl cf))] [(jo, .inr (1, [.ref talo, .int jord])), (talo, .inr (0, [.ref talv])), (talv, .inl (cA, 12, .inl talf_9)), (po, .inr (4, [.ref co, .int pe, .int pd, .int pl])), (co, .inr (0, [.ref cv])), (cv, .inl (cA, n, .inl cf))] (some (.int r0)) := by
  refine Ct.of (cc := cX1_passing) (maxL := 12) (ret := (some .int)) (by decide) rfl (Nat.le_of_ble_eq_true rfl) ?_
  intro p e s m below meth c A ls hcx hG hst hA hP hD hl
  obtain ⟨hx, hb, hml, hown, hts, hr, hlocks⟩ := id hcx
  have hown : s.vm.findClass RX1 = some m.cls := hown
  have hS : va_S A s.heap s.heap [] := va_S.rf
  have hl : lv_has ls 12 [(0, .ref jo), (1, .ref po), (2, .int a2), (3, .int a3), (4, .int a4)] := hl
  have hinX4 : ∀ w ∈ u_ws RX4 TX4 4, w ∈ wsX1_passing := by decide +kernel
  have hmX1_passing_15 : ∀ (n15 : Nat) (x5 : Int32) (x6 : Int32) (x7 : Int32) (x8 : Int32) (talf : (Nat → Int32)) (H : Heap) (locs : List Loc) (ls : Array Slot), mX1_passing_15 F n jord pe pd cf a2 a3 a4 n15 x5 x6 x7 x8 talf = some (r0, talf_9) → va_P D vwCl [(jo, .inr (1, [.ref talo, .int jord])), (talo, .inr (0, [.ref talv])), (talv, .inl (cA, 12, .inl talf)), (po, .inr (4, [.ref co, .int pe, .int pd, .int pl])), (co, .inr (0, [.ref cv])), (cv, .inl (cA, n, .inl cf))] H → va_D A [(jo, .inr (1, [.ref talo, .int jord])), (talo, .inr (0, [.ref talv])), (talv, .inl (cA, 12, .inl talf)), (po, .inr (4, [.ref co, .int pe, .int pd, .int pl])), (co, .inr (0, [.ref cv])), (cv, .inl (cA, n, .inl cf))] → va_S A s.heap H locs → lv_has ls 12 [(0, .ref jo), (1, .ref po), (2, .int a2), (3, .int a3), (4, .int a4), (5, .int x5), (6, .int x6), (7, .int x7), (8, .int x8)] → W p l e ({ frames := 2, cells := 0, slots := 0, locals := 44 }) s m ([.ref jo, .ref po, .int a2, .int a3, .int a4] : List Value).toArray below meth c H locs 0 0 (MQ below (Qw D A [(jo, .inr (1, [.ref talo, .int jord])), (talo, .inr (0, [.ref talv])), (talv, .inl (cA, 12, .inl talf_9)), (po, .inr (4, [.ref co, .int pe, .int pd, .int pl])), (co, .inr (0, [.ref cv])), (cv, .inl (cA, n, .inl cf))] (some (.int r0))) ([.ref jo, .ref po, .int a2, .int a3, .int a4] : List Value).toArray s 0 0 A) (F0 m 15 ls []) := by
    intro n15
    induction n15 with
    | zero => intro x5 x6 x7 x8 talf H locs ls h; exact (no_some h).elim
    | succ n15 ih15 =>
      have hmX1_passing_101 : ∀ (x5 : Int32) (x6 : Int32) (x7 : Int32) (x8 : Int32) (x9 : Int32) (s0 : Int32) (talf : (Nat → Int32)) (H : Heap) (locs : List Loc) (ls : Array Slot), mX1_passing_101 F a4 (fun p0 p1 p2 p3 p4 => mX1_passing_15 F n jord pe pd cf a2 a3 a4  n15 p0 p1 p2 p3 p4) x5 x6 x7 x8 x9 s0 talf = some (r0, talf_9) → va_P D vwCl [(jo, .inr (1, [.ref talo, .int jord])), (talo, .inr (0, [.ref talv])), (talv, .inl (cA, 12, .inl talf)), (po, .inr (4, [.ref co, .int pe, .int pd, .int pl])), (co, .inr (0, [.ref cv])), (cv, .inl (cA, n, .inl cf))] H → va_D A [(jo, .inr (1, [.ref talo, .int jord])), (talo, .inr (0, [.ref talv])), (talv, .inl (cA, 12, .inl talf)), (po, .inr (4, [.ref co, .int pe, .int pd, .int pl])), (co, .inr (0, [.ref cv])), (cv, .inl (cA, n, .inl cf))] → va_S A s.heap H locs → lv_has ls 12 [(0, .ref jo), (1, .ref po), (2, .int a2), (3, .int a3), (4, .int a4), (5, .int x5), (6, .int x6), (7, .int x7), (8, .int x8), (9, .int x9)] → W p l e ({ frames := 2, cells := 0, slots := 0, locals := 44 }) s m ([.ref jo, .ref po, .int a2, .int a3, .int a4] : List Value).toArray below meth c H locs 0 0 (MQ below (Qw D A [(jo, .inr (1, [.ref talo, .int jord])), (talo, .inr (0, [.ref talv])), (talv, .inl (cA, 12, .inl talf_9)), (po, .inr (4, [.ref co, .int pe, .int pd, .int pl])), (co, .inr (0, [.ref cv])), (cv, .inl (cA, n, .inl cf))] (some (.int r0))) ([.ref jo, .ref po, .int a2, .int a3, .int a4] : List Value).toArray s 0 0 A) (F0 m 101 ls [.int s0]) := by
        intro x5 x6 x7 x8 x9 s0 talf H locs ls h hP hD hS hl
        unfold mX1_passing_101 at h
        refine lv_istore (lv' := [(11, .int s0), (0, .ref jo), (1, .ref po), (2, .int a2), (3, .int a3), (4, .int a4), (5, .int x5), (6, .int x6), (7, .int x7), (8, .int x8), (9, .int x9)]) hx hb dX1_passing_101 hl (by decide) rfl (fun ls hl => ?_)
        refine lv_iload hx hb dX1_passing_103 (lv_at hl 0 rfl) ?_
        refine lv_iload hx hb dX1_passing_105 (lv_at hl 5 rfl) ?_
        refine lv_icmp_ne (tgt := 119) hx hb dX1_passing_107 (by decide) (fun c107 => ?_) (fun c107 => ?_)
        · have h := i_f c107 h
          refine lv_iload hx hb dX1_passing_119 (lv_at hl 10 rfl) ?_
          refine lv_istore (lv' := [(6, .int x9), (11, .int s0), (0, .ref jo), (1, .ref po), (2, .int a2), (3, .int a3), (4, .int a4), (5, .int x5), (7, .int x7), (8, .int x8), (9, .int x9)]) hx hb dX1_passing_121 hl (by decide) rfl (fun ls hl => ?_)
          refine lv_iconst (v := (0 : Int32)) hx hb dX1_passing_123 (by decide) ?_
          refine lv_istore (lv' := [(7, .int (0 : Int32)), (6, .int x9), (11, .int s0), (0, .ref jo), (1, .ref po), (2, .int a2), (3, .int a3), (4, .int a4), (5, .int x5), (8, .int x8), (9, .int x9)]) hx hb dX1_passing_124 hl (by decide) rfl (fun ls hl => ?_)
          refine lv_iinc (v := x8 + (1 : Int32)) (lv' := [(8, .int (x8 + (1 : Int32))), (7, .int (0 : Int32)), (6, .int x9), (11, .int s0), (0, .ref jo), (1, .ref po), (2, .int a2), (3, .int a3), (4, .int a4), (5, .int x5), (9, .int x9)]) hx hb dX1_passing_126 hl (k := 9) rfl (congrArg (fun z => x8 + z) (by decide)) (by decide) rfl (fun ls hl => ?_)
          refine lv_goto (tgt := 15) hx hb dX1_passing_129 (by decide) ?_
          exact ih15 x5 x9 (0 : Int32) (x8 + (1 : Int32)) talf _ _ _ h hP hD hS (lv_sub hl [4, 5, 6, 7, 8, 9, 2, 1, 0] rfl)
        · have h := i_t c107 h
          refine lv_iload hx hb dX1_passing_110 (lv_at hl 10 rfl) ?_
          refine lv_iconst (v := (1 : Int32)) hx hb dX1_passing_112 (by decide) ?_
          refine lv_iadd hx hb dX1_passing_113 ?_
          refine lv_istore (lv' := [(5, .int (x9 + (1 : Int32))), (11, .int s0), (0, .ref jo), (1, .ref po), (2, .int a2), (3, .int a3), (4, .int a4), (6, .int x6), (7, .int x7), (8, .int x8), (9, .int x9)]) hx hb dX1_passing_114 hl (by decide) rfl (fun ls hl => ?_)
          refine lv_goto (tgt := 126) hx hb dX1_passing_116 (by decide) ?_
          refine lv_iinc (v := x8 + (1 : Int32)) (lv' := [(8, .int (x8 + (1 : Int32))), (5, .int (x9 + (1 : Int32))), (11, .int s0), (0, .ref jo), (1, .ref po), (2, .int a2), (3, .int a3), (4, .int a4), (6, .int x6), (7, .int x7), (9, .int x9)]) hx hb dX1_passing_126 hl (k := 9) rfl (congrArg (fun z => x8 + z) (by decide)) (by decide) rfl (fun ls hl => ?_)
          refine lv_goto (tgt := 15) hx hb dX1_passing_129 (by decide) ?_
          exact ih15 (x9 + (1 : Int32)) x6 x7 (x8 + (1 : Int32)) talf _ _ _ h hP hD hS (lv_sub hl [3, 4, 5, 6, 7, 1, 8, 9, 0] rfl)
      have hmX1_passing_70 : ∀ (x5 : Int32) (x6 : Int32) (x7 : Int32) (x8 : Int32) (s0 : Int32) (talf : (Nat → Int32)) (H : Heap) (locs : List Loc) (ls : Array Slot), mX1_passing_70 F n jord pe pd cf a2 a3 a4 (fun p0 p1 p2 p3 p4 => mX1_passing_15 F n jord pe pd cf a2 a3 a4  n15 p0 p1 p2 p3 p4) x5 x6 x7 x8 s0 talf = some (r0, talf_9) → va_P D vwCl [(jo, .inr (1, [.ref talo, .int jord])), (talo, .inr (0, [.ref talv])), (talv, .inl (cA, 12, .inl talf)), (po, .inr (4, [.ref co, .int pe, .int pd, .int pl])), (co, .inr (0, [.ref cv])), (cv, .inl (cA, n, .inl cf))] H → va_D A [(jo, .inr (1, [.ref talo, .int jord])), (talo, .inr (0, [.ref talv])), (talv, .inl (cA, 12, .inl talf)), (po, .inr (4, [.ref co, .int pe, .int pd, .int pl])), (co, .inr (0, [.ref cv])), (cv, .inl (cA, n, .inl cf))] → va_S A s.heap H locs → lv_has ls 12 [(0, .ref jo), (1, .ref po), (2, .int a2), (3, .int a3), (4, .int a4), (5, .int x5), (6, .int x6), (7, .int x7), (8, .int x8)] → W p l e ({ frames := 2, cells := 0, slots := 0, locals := 44 }) s m ([.ref jo, .ref po, .int a2, .int a3, .int a4] : List Value).toArray below meth c H locs 0 0 (MQ below (Qw D A [(jo, .inr (1, [.ref talo, .int jord])), (talo, .inr (0, [.ref talv])), (talv, .inl (cA, 12, .inl talf_9)), (po, .inr (4, [.ref co, .int pe, .int pd, .int pl])), (co, .inr (0, [.ref cv])), (cv, .inl (cA, n, .inl cf))] (some (.int r0))) ([.ref jo, .ref po, .int a2, .int a3, .int a4] : List Value).toArray s 0 0 A) (F0 m 70 ls [.int s0]) := by
        intro x5 x6 x7 x8 s0 talf H locs ls h hP hD hS hl
        unfold mX1_passing_70 at h
        refine lv_istore (lv' := [(9, .int s0), (0, .ref jo), (1, .ref po), (2, .int a2), (3, .int a3), (4, .int a4), (5, .int x5), (6, .int x6), (7, .int x7), (8, .int x8)]) hx hb dX1_passing_70 hl (by decide) rfl (fun ls hl => ?_)
        refine lv_aload_n hx hb dX1_passing_72 rfl (lv_at hl 2 rfl) ?_
        refine lv_iload hx hb dX1_passing_73 (lv_at hl 0 rfl) ?_
        obtain ⟨r75, hc75, h⟩ := bd1_some h
        refine ct_VN (As := [.int s0]) (rest := []) (st1 := [.int r75]) (wf := [(jo, .inr (1, [.ref talo, .int jord])), (talo, .inr (0, [.ref talv])), (talv, .inl (cA, 12, .inl talf)), (po, .inr (4, [.ref co, .int pe, .int pd, .int pl])), (co, .inr (0, [.ref cv])), (cv, .inl (cA, n, .inl cf))]) (kX4_ahead l D cA F po co cv n pe pd pl cf s0 r75 hc75) ⟨hx, hb, hml, hown, hts⟩ ⟨va_cnB 1 hts gX1_passing_X4_ahead_n38 rfl rfl rfl (hG.2.m 27 rfl) (hts (.initialized RX4) (by decide +kernel)) (by decide +kernel) ⟨Nat.le_of_ble_eq_true rfl, Nat.le_of_ble_eq_true rfl⟩, hts (.instanceMethod yX4_ahead) (by decide +kernel), hts (.selects RX4 yX4_ahead yX4_ahead) (by decide +kernel)⟩ hG hst hP hD hS hA 4 rfl rfl rfl [3, 4, 5] [0, 1, 2] [0, 1, 2, 3, 4, 5] rfl rfl rfl rfl rfl rfl hl.1 rfl rfl (Nat.le_of_ble_eq_true rfl) dX1_passing_75 ⟨Nat.zero_le _, Nat.zero_le _⟩ (fun H locs hP hD hS => ?_)
        refine lv_istore (lv' := [(10, .int r75), (9, .int s0), (0, .ref jo), (1, .ref po), (2, .int a2), (3, .int a3), (4, .int a4), (5, .int x5), (6, .int x6), (7, .int x7), (8, .int x8)]) hx hb dX1_passing_78 hl (by decide) rfl (fun ls hl => ?_)
        refine lv_iload_n hx hb dX1_passing_80 rfl (lv_at hl 5 rfl) ?_
        refine lv_if_eq (tgt := 94) hx hb dX1_passing_81 (by decide) (fun c81 => ?_) (fun c81 => ?_)
        · have h := i_t c81 h
          refine lv_aload_n hx hb dX1_passing_94 rfl (lv_at hl 2 rfl) ?_
          refine lv_iload hx hb dX1_passing_95 (lv_at hl 0 rfl) ?_
          refine lv_iload_n hx hb dX1_passing_97 rfl (lv_at hl 4 rfl) ?_
          obtain ⟨r98, talf_98, hc98, h⟩ := bd2_some h
          refine ct_V (As := [.int r75, .int a2]) (rest := []) (st1 := [.int r98]) (wf := [(jo, .inr (1, [.ref talo, .int jord])), (talo, .inr (0, [.ref talv])), (talv, .inl (cA, 12, .inl talf_98)), (po, .inr (4, [.ref co, .int pe, .int pd, .int pl])), (co, .inr (0, [.ref cv])), (cv, .inl (cA, n, .inl cf))]) (kX1_isLess l D cA F jo talo talv  jord talf r75 a2 r98 talf_98 hc98) ⟨hx, hb, hml, hown, hts⟩ (cwV 2 hts gX1_passing_X1_isLess rfl rfl rfl (by decide +kernel) ⟨Nat.le_of_ble_eq_true rfl, Nat.le_of_ble_eq_true rfl⟩) hG hst hP hD hS hA 1 rfl rfl rfl [0, 1, 2] [3, 4, 5] [3, 4, 5, 0, 1, 2] rfl rfl rfl rfl rfl rfl hl.1 rfl rfl (Nat.le_of_ble_eq_true rfl) dX1_passing_98 ⟨Nat.zero_le _, Nat.zero_le _⟩ (fun H locs hP hD hS => ?_)
          exact hmX1_passing_101 x5 x6 x7 x8 s0 r98 talf_98 _ _ _ h hP hD hS (lv_sub hl [2, 3, 4, 5, 6, 7, 8, 9, 10, 1] rfl)
        · have h := i_f c81 h
          refine lv_aload_n hx hb dX1_passing_84 rfl (lv_at hl 2 rfl) ?_
          refine lv_iload_n hx hb dX1_passing_85 rfl (lv_at hl 4 rfl) ?_
          refine lv_iload hx hb dX1_passing_86 (lv_at hl 0 rfl) ?_
          obtain ⟨r88, talf_88, hc88, h⟩ := bd2_some h
          refine ct_V (As := [.int a2, .int r75]) (rest := []) (st1 := [.int r88]) (wf := [(jo, .inr (1, [.ref talo, .int jord])), (talo, .inr (0, [.ref talv])), (talv, .inl (cA, 12, .inl talf_88)), (po, .inr (4, [.ref co, .int pe, .int pd, .int pl])), (co, .inr (0, [.ref cv])), (cv, .inl (cA, n, .inl cf))]) (kX1_isLess l D cA F jo talo talv  jord talf a2 r75 r88 talf_88 hc88) ⟨hx, hb, hml, hown, hts⟩ (cwV 2 hts gX1_passing_X1_isLess rfl rfl rfl (by decide +kernel) ⟨Nat.le_of_ble_eq_true rfl, Nat.le_of_ble_eq_true rfl⟩) hG hst hP hD hS hA 1 rfl rfl rfl [0, 1, 2] [3, 4, 5] [3, 4, 5, 0, 1, 2] rfl rfl rfl rfl rfl rfl hl.1 rfl rfl (Nat.le_of_ble_eq_true rfl) dX1_passing_88 ⟨Nat.zero_le _, Nat.zero_le _⟩ (fun H locs hP hD hS => ?_)
          refine lv_goto (tgt := 101) hx hb dX1_passing_91 (by decide) ?_
          exact hmX1_passing_101 x5 x6 x7 x8 s0 r88 talf_88 _ _ _ h hP hD hS (lv_sub hl [2, 3, 4, 5, 6, 7, 8, 9, 10, 1] rfl)
      have hmX1_passing_49 : ∀ (x5 : Int32) (x6 : Int32) (x8 : Int32) (s0 : Int32) (talf : (Nat → Int32)) (H : Heap) (locs : List Loc) (ls : Array Slot), mX1_passing_49 F n jord pe pd cf a2 a3 a4 (fun p0 p1 p2 p3 p4 => mX1_passing_15 F n jord pe pd cf a2 a3 a4  n15 p0 p1 p2 p3 p4) x5 x6 x8 s0 talf = some (r0, talf_9) → va_P D vwCl [(jo, .inr (1, [.ref talo, .int jord])), (talo, .inr (0, [.ref talv])), (talv, .inl (cA, 12, .inl talf)), (po, .inr (4, [.ref co, .int pe, .int pd, .int pl])), (co, .inr (0, [.ref cv])), (cv, .inl (cA, n, .inl cf))] H → va_D A [(jo, .inr (1, [.ref talo, .int jord])), (talo, .inr (0, [.ref talv])), (talv, .inl (cA, 12, .inl talf)), (po, .inr (4, [.ref co, .int pe, .int pd, .int pl])), (co, .inr (0, [.ref cv])), (cv, .inl (cA, n, .inl cf))] → va_S A s.heap H locs → lv_has ls 12 [(0, .ref jo), (1, .ref po), (2, .int a2), (3, .int a3), (4, .int a4), (5, .int x5), (6, .int x6), (8, .int x8)] → W p l e ({ frames := 2, cells := 0, slots := 0, locals := 44 }) s m ([.ref jo, .ref po, .int a2, .int a3, .int a4] : List Value).toArray below meth c H locs 0 0 (MQ below (Qw D A [(jo, .inr (1, [.ref talo, .int jord])), (talo, .inr (0, [.ref talv])), (talv, .inl (cA, 12, .inl talf_9)), (po, .inr (4, [.ref co, .int pe, .int pd, .int pl])), (co, .inr (0, [.ref cv])), (cv, .inl (cA, n, .inl cf))] (some (.int r0))) ([.ref jo, .ref po, .int a2, .int a3, .int a4] : List Value).toArray s 0 0 A) (F0 m 49 ls [.int s0]) := by
        intro x5 x6 x8 s0 talf H locs ls h hP hD hS hl
        unfold mX1_passing_49 at h
        refine lv_istore (lv' := [(7, .int s0), (0, .ref jo), (1, .ref po), (2, .int a2), (3, .int a3), (4, .int a4), (5, .int x5), (6, .int x6), (8, .int x8)]) hx hb dX1_passing_49 hl (by decide) rfl (fun ls hl => ?_)
        refine lv_iload hx hb dX1_passing_51 (lv_at hl 0 rfl) ?_
        refine lv_if_eq (tgt := 63) hx hb dX1_passing_53 (by decide) (fun c53 => ?_) (fun c53 => ?_)
        · have h := i_t c53 h
          refine lv_iload hx hb dX1_passing_63 (lv_at hl 6 rfl) ?_
          refine lv_iload hx hb dX1_passing_65 (lv_at hl 7 rfl) ?_
          refine lv_iadd hx hb dX1_passing_67 ?_
          refine lv_iconst (v := (2 : Int32)) hx hb dX1_passing_68 (by decide) ?_
          refine lv_idiv hx hb dX1_passing_69 (by decide) ?_
          exact hmX1_passing_70 x5 x6 s0 x8 ((x5 + x6) / (2 : Int32)) talf _ _ _ h hP hD hS (lv_sub hl [1, 2, 3, 4, 5, 6, 7, 0, 8] rfl)
        · have h := i_f c53 h
          refine lv_iconst (v := (2 : Int32)) hx hb dX1_passing_56 (by decide) ?_
          refine lv_iload hx hb dX1_passing_57 (lv_at hl 6 rfl) ?_
          refine lv_imul hx hb dX1_passing_59 ?_
          refine lv_goto (tgt := 70) hx hb dX1_passing_60 (by decide) ?_
          exact hmX1_passing_70 x5 x6 s0 x8 ((2 : Int32) * x5) talf _ _ _ h hP hD hS (lv_sub hl [1, 2, 3, 4, 5, 6, 7, 0, 8] rfl)
      intro x5 x6 x7 x8 talf H locs ls h hP hD hS hl
      rw [mX1_passing_15] at h
      refine lv_iload hx hb dX1_passing_15 (lv_at hl 8 rfl) ?_
      refine lv_sipush (v := (1000 : Int32)) hx hb dX1_passing_17 (by decide) ?_
      refine lv_icmp_ge (tgt := 132) hx hb dX1_passing_20 (by decide) (fun c20 => ?_) (fun c20 => ?_)
      · have h := i_t c20 h
        refine lv_iload hx hb dX1_passing_132 (lv_at hl 5 rfl) ?_
        cases h
        exact rt_i hx hb hr hlocks hP hD hS dX1_passing_134
      · have h := i_f c20 h
        refine lv_iload hx hb dX1_passing_23 (lv_at hl 5 rfl) ?_
        refine lv_iload hx hb dX1_passing_25 (lv_at hl 6 rfl) ?_
        refine lv_icmp_ge (tgt := 132) hx hb dX1_passing_27 (by decide) (fun c27 => ?_) (fun c27 => ?_)
        · have h := i_t c27 h
          refine lv_iload hx hb dX1_passing_132 (lv_at hl 5 rfl) ?_
          cases h
          exact rt_i hx hb hr hlocks hP hD hS dX1_passing_134
        · have h := i_f c27 h
          refine lv_iload hx hb dX1_passing_30 (lv_at hl 7 rfl) ?_
          refine lv_if_eq (tgt := 48) hx hb dX1_passing_32 (by decide) (fun c32 => ?_) (fun c32 => ?_)
          · have h := i_t c32 h
            refine lv_iconst (v := (0 : Int32)) hx hb dX1_passing_48 (by decide) ?_
            exact hmX1_passing_49 x5 x6 x8 (0 : Int32) talf _ _ _ h hP hD hS (lv_sub hl [0, 1, 2, 3, 4, 5, 6, 8] rfl)
          · have h := i_f c32 h
            refine lv_iconst (v := (2 : Int32)) hx hb dX1_passing_35 (by decide) ?_
            refine lv_iload hx hb dX1_passing_36 (lv_at hl 5 rfl) ?_
            refine lv_imul hx hb dX1_passing_38 ?_
            refine lv_iload hx hb dX1_passing_39 (lv_at hl 6 rfl) ?_
            refine lv_icmp_ge (tgt := 48) hx hb dX1_passing_41 (by decide) (fun c41 => ?_) (fun c41 => ?_)
            · have h := i_t c41 h
              refine lv_iconst (v := (0 : Int32)) hx hb dX1_passing_48 (by decide) ?_
              exact hmX1_passing_49 x5 x6 x8 (0 : Int32) talf _ _ _ h hP hD hS (lv_sub hl [0, 1, 2, 3, 4, 5, 6, 8] rfl)
            · have h := i_f c41 h
              refine lv_iconst (v := (1 : Int32)) hx hb dX1_passing_44 (by decide) ?_
              refine lv_goto (tgt := 49) hx hb dX1_passing_45 (by decide) ?_
              exact hmX1_passing_49 x5 x6 x8 (1 : Int32) talf _ _ _ h hP hD hS (lv_sub hl [0, 1, 2, 3, 4, 5, 6, 8] rfl)
  unfold mX1_passing at h
  refine lv_iconst (v := (0 : Int32)) hx hb dX1_passing_0 (by decide) ?_
  refine lv_istore (lv' := [(5, .int (0 : Int32)), (0, .ref jo), (1, .ref po), (2, .int a2), (3, .int a3), (4, .int a4)]) hx hb dX1_passing_1 hl (by decide) rfl (fun ls hl => ?_)
  refine lv_aload_n hx hb dX1_passing_3 rfl (lv_at hl 2 rfl) ?_
  refine va_getN (D := D) (cl := vwCl) (ci := 4) (v := .int pl) (C := RX4) (T := TX4) (N := 4) hx hb hts hinX4 hown hG.1 hP 3 rfl rfl 3 (by decide) (hG.2.f 5 rfl) (fun _ h9 => h9) rfl dX1_passing_4 ?_
  refine lv_istore (lv' := [(6, .int pl), (5, .int (0 : Int32)), (0, .ref jo), (1, .ref po), (2, .int a2), (3, .int a3), (4, .int a4)]) hx hb dX1_passing_7 hl (by decide) rfl (fun ls hl => ?_)
  refine lv_iconst (v := (1 : Int32)) hx hb dX1_passing_9 (by decide) ?_
  refine lv_istore (lv' := [(7, .int (1 : Int32)), (6, .int pl), (5, .int (0 : Int32)), (0, .ref jo), (1, .ref po), (2, .int a2), (3, .int a3), (4, .int a4)]) hx hb dX1_passing_10 hl (by decide) rfl (fun ls hl => ?_)
  refine lv_iconst (v := (0 : Int32)) hx hb dX1_passing_12 (by decide) ?_
  refine lv_istore (lv' := [(8, .int (0 : Int32)), (7, .int (1 : Int32)), (6, .int pl), (5, .int (0 : Int32)), (0, .ref jo), (1, .ref po), (2, .int a2), (3, .int a3), (4, .int a4)]) hx hb dX1_passing_13 hl (by decide) rfl (fun ls hl => ?_)
  exact hmX1_passing_15 F (0 : Int32) pl (1 : Int32) (0 : Int32) talf _ _ _ h hP hD hS (lv_sub hl [4, 5, 6, 7, 8, 3, 2, 1, 0] rfl)
