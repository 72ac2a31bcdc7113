/-! contracts, by program (wip/whole/gen.py) -/
set_option maxHeartbeats 4000000 in
set_option maxRecDepth 100000 in
theorem kX5_isNoPlace (l : Launch) (D : va_G) (cA : ClassId) (F : Nat) (xo : Nat) (txto : Nat) (laio : Nat) (rulo : Nat) (so : Nat) (oso : Nat) (ajo : Nat) (aso : Nat) (xlet : Int32) (xrec : Int32) (a1 : Int32) (r0 : Int32) (h : mX5_isNoPlace F xrec a1 = some r0) : Ct l yX5_isNoPlace wsX5_isNoPlace ({ frames := 1, cells := 0, slots := 0, locals := 22 }) D cA [.ref xo, .int a1] [(xo, .inr (5, [.ref txto, .int xlet, .ref laio, .int xrec, .ref rulo, .ref so, .ref oso, .ref ajo, .ref aso]))] [(xo, .inr (5, [.ref txto, .int xlet, .ref laio, .int xrec, .ref rulo, .ref so, .ref oso, .ref ajo, .ref aso]))] (some (.int r0)) := by
  refine Ct.of (cc := cX5_isNoPlace) (maxL := 2) (ret := (some .boolean)) (by decide) rfl (Nat.le_of_ble_eq_true rfl) ?_
  intro p e s m below meth c A ls hcx hG hst hA hP hD hl
  obtain ⟨hx, hb, hml, hown, hts, hr, hlocks⟩ := id hcx
  have hown : s.vm.findClass RX5 = some m.cls := hown
  have hS : va_S A s.heap s.heap [] := va_S.rf
  have hl : lv_has ls 2 [(0, .ref xo), (1, .int a1)] := hl
  have hinX5 : ∀ w ∈ u_ws RX5 TX5 9, w ∈ wsX5_isNoPlace := by decide +kernel
  have fl25 := hts (.fieldLink RX5 25 "RunSorter" "records" "I") (by decide +kernel)
  unfold mX5_isNoPlace at h
  refine lv_iload_n hx hb dX5_isNoPlace_0 rfl (lv_at hl 1 rfl) ?_
  refine lv_iconst (v := (0 : Int32)) hx hb dX5_isNoPlace_1 (by decide) ?_
  refine lv_aload_n hx hb dX5_isNoPlace_2 rfl (lv_at hl 0 rfl) ?_
  refine va_get (D := D) (cl := vwCl) (ci := 5) (v := .int xrec) (C := RX5) (T := TX5) (N := 9) hx hb hts hinX5 hown hG.1 hP 0 rfl rfl 3 (by decide) fl25 (fun _ h9 => h9) rfl dX5_isNoPlace_3 ?_
  refine lv_iconst (v := (1 : Int32)) hx hb dX5_isNoPlace_6 (by decide) ?_
  refine lv_isub hx hb dX5_isNoPlace_7 ?_
  obtain ⟨r8, hc8, h⟩ := bd1_some h
  refine ct_S (As := [.int a1, .int (0 : Int32), .int (xrec - (1 : Int32))]) (rest := []) (st1 := [.int r8]) (wf := [(xo, .inr (5, [.ref txto, .int xlet, .ref laio, .int xrec, .ref rulo, .ref so, .ref oso, .ref ajo, .ref aso]))]) (kX5_isOutside l D cA F    a1 (0 : Int32) (xrec - (1 : Int32)) r8 hc8) ⟨hx, hb, hml, hown, hts⟩ (va_cwS 3 hts gX5_isNoPlace_X5_isOutside rfl rfl rfl (by decide +kernel) ⟨Nat.le_of_ble_eq_true rfl, Nat.le_of_ble_eq_true rfl⟩) hG hst hP hD hS hA [] [0] [0] rfl rfl rfl rfl rfl rfl hl.1 rfl rfl (Nat.le_of_ble_eq_true rfl) dX5_isNoPlace_8 ⟨Nat.zero_le _, Nat.zero_le _⟩ (fun H locs hP hD hS => ?_)
  obtain ⟨hz11, h⟩ := bz_some h
  cases h
  exact rt_z hx hb hr hlocks hz11 hP hD hS dX5_isNoPlace_11
set_option maxHeartbeats 4000000 in
set_option maxRecDepth 100000 in
theorem kX5_write (l : Launch) (D : va_G) (cA : ClassId) (F : Nat) (xo : Nat) (txto : Nat) (laio : Nat) (rulo : Nat) (so : Nat) (oso : Nat) (ajo : Nat) (aso : Nat) (txtv : Nat) (xlet : Int32) (xrec : Int32) (txtf : (Nat → Int32)) (a1 : Int32) (r0 : Int32) (xlet_9 : Int32) (txtf_9 : (Nat → Int32)) (h : mX5_write F xlet txtf a1 = some (r0, xlet_9, txtf_9)) : Ct l yX5_write wsX5_write ({ frames := 1, cells := 0, slots := 0, locals := 22 }) D cA [.ref xo, .int a1] [(xo, .inr (5, [.ref txto, .int xlet, .ref laio, .int xrec, .ref rulo, .ref so, .ref oso, .ref ajo, .ref aso])), (txto, .inr (0, [.ref txtv])), (txtv, .inl (cA, 200, .inl txtf))] [(xo, .inr (5, [.ref txto, .int xlet_9, .ref laio, .int xrec, .ref rulo, .ref so, .ref oso, .ref ajo, .ref aso])), (txto, .inr (0, [.ref txtv])), (txtv, .inl (cA, 200, .inl txtf_9))] (some (.int r0)) := by
  refine Ct.of (cc := cX5_write) (maxL := 2) (ret := (some .int)) (by decide) rfl (Nat.le_of_ble_eq_true rfl) ?_
  intro p e s m below meth c A ls hcx hG hst hA hP hD hl
  obtain ⟨hx, hb, hml, hown, hts, hr, hlocks⟩ := id hcx
  have hown : s.vm.findClass RX5 = some m.cls := hown
  have hS : va_S A s.heap s.heap [] := va_S.rf
  have hl : lv_has ls 2 [(0, .ref xo), (1, .int a1)] := hl
  have hinX5 : ∀ w ∈ u_ws RX5 TX5 9, w ∈ wsX5_write := by decide +kernel
  have fl18 := hts (.fieldLink RX5 18 "RunSorter" "letters" "I") (by decide +kernel)
  have fl14 := hts (.fieldLink RX5 14 "RunSorter" "text" "LRunSorter$Cells;") (by decide +kernel)
  unfold mX5_write at h
  refine lv_iload_n hx hb dX5_write_0 rfl (lv_at hl 1 rfl) ?_
  refine lv_bipush (v := (32 : Int32)) hx hb dX5_write_1 (by decide) ?_
  refine lv_bipush (v := (126 : Int32)) hx hb dX5_write_3 (by decide) ?_
  obtain ⟨r5, hc5, h⟩ := bd1_some h
  refine ct_S (As := [.int a1, .int (32 : Int32), .int (126 : Int32)]) (rest := []) (st1 := [.int r5]) (wf := [(xo, .inr (5, [.ref txto, .int xlet, .ref laio, .int xrec, .ref rulo, .ref so, .ref oso, .ref ajo, .ref aso])), (txto, .inr (0, [.ref txtv])), (txtv, .inl (cA, 200, .inl txtf))]) (kX5_isOutside l D cA F    a1 (32 : Int32) (126 : Int32) r5 hc5) ⟨hx, hb, hml, hown, hts⟩ (va_cwS 3 hts gX5_write_X5_isOutside rfl rfl rfl (by decide +kernel) ⟨Nat.le_of_ble_eq_true rfl, Nat.le_of_ble_eq_true rfl⟩) hG hst hP hD hS hA [] [0, 1, 2] [0, 1, 2] rfl rfl rfl rfl rfl rfl hl.1 rfl rfl (Nat.le_of_ble_eq_true rfl) dX5_write_5 ⟨Nat.zero_le _, Nat.zero_le _⟩ (fun H locs hP hD hS => ?_)
  refine lv_if_eq (tgt := 13) hx hb dX5_write_8 (by decide) (fun c8 => ?_) (fun c8 => ?_)
  · have h := i_t c8 h
    refine lv_aload_n hx hb dX5_write_13 rfl (lv_at hl 0 rfl) ?_
    refine va_get (D := D) (cl := vwCl) (ci := 5) (v := .int xlet) (C := RX5) (T := TX5) (N := 9) hx hb hts hinX5 hown hG.1 hP 0 rfl rfl 1 (by decide) fl18 (fun _ h9 => h9) rfl dX5_write_14 ?_
    refine lv_sipush (v := (200 : Int32)) hx hb dX5_write_17 (by decide) ?_
    refine lv_icmp_lt (tgt := 26) hx hb dX5_write_20 (by decide) (fun c20 => ?_) (fun c20 => ?_)
    · have h := i_t c20 h
      refine lv_aload_n hx hb dX5_write_26 rfl (lv_at hl 0 rfl) ?_
      refine va_get (D := D) (cl := vwCl) (ci := 5) (v := .ref txto) (C := RX5) (T := TX5) (N := 9) hx hb hts hinX5 hown hG.1 hP 0 rfl rfl 0 (by decide) fl14 (fun _ h9 => h9) rfl dX5_write_27 ?_
      refine lv_aload_n hx hb dX5_write_30 rfl (lv_at hl 0 rfl) ?_
      refine va_get (D := D) (cl := vwCl) (ci := 5) (v := .int xlet) (C := RX5) (T := TX5) (N := 9) hx hb hts hinX5 hown hG.1 hP 0 rfl rfl 1 (by decide) fl18 (fun _ h9 => h9) rfl dX5_write_31 ?_
      refine lv_iload_n hx hb dX5_write_34 rfl (lv_at hl 1 rfl) ?_
      obtain ⟨txtf_35, hc35, h⟩ := bd1_some h
      refine ct_VN (As := [.int xlet, .int a1]) (rest := []) (st1 := []) (wf := [(xo, .inr (5, [.ref txto, .int xlet, .ref laio, .int xrec, .ref rulo, .ref so, .ref oso, .ref ajo, .ref aso])), (txto, .inr (0, [.ref txtv])), (txtv, .inl (cA, 200, .inl txtf_35))]) (kX0_fill l D cA F txto txtv 200 txtf xlet a1 txtf_35 hc35) ⟨hx, hb, hml, hown, hts⟩ ⟨va_cnB 2 hts gX5_write_X0_fill_n57 rfl rfl rfl (hG.2.m 9 rfl) (hts (.initialized RX0) (by decide +kernel)) (by decide +kernel) ⟨Nat.le_of_ble_eq_true rfl, Nat.le_of_ble_eq_true rfl⟩, hts (.instanceMethod yX0_fill) (by decide +kernel), hts (.selects RX0 yX0_fill yX0_fill) (by decide +kernel)⟩ hG hst hP hD hS hA 0 rfl rfl rfl [1, 2] [0] [0, 1, 2] rfl rfl rfl rfl rfl rfl hl.1 rfl rfl (Nat.le_of_ble_eq_true rfl) dX5_write_35 ⟨Nat.zero_le _, Nat.zero_le _⟩ (fun H locs hP hD hS => ?_)
      refine lv_aload_n hx hb dX5_write_38 rfl (lv_at hl 0 rfl) ?_
      refine lv_dup hx hb dX5_write_39 rfl ?_
      refine va_get (D := D) (cl := vwCl) (ci := 5) (v := .int xlet) (C := RX5) (T := TX5) (N := 9) hx hb hts hinX5 hown hG.1 hP 0 rfl rfl 1 (by decide) fl18 (fun _ h9 => h9) rfl dX5_write_40 ?_
      refine lv_iconst (v := (1 : Int32)) hx hb dX5_write_43 (by decide) ?_
      refine lv_iadd hx hb dX5_write_44 ?_
      refine va_put (D := D) (cl := vwCl) (ci := 5) (v := .int (xlet + (1 : Int32))) (ty := .int) (C := RX5) (T := TX5) (N := 9) hx hb hts hinX5 tyX5 tyX5_ok nmX5 hown hG.1 hP hD hS 0 rfl rfl 1 (by decide) fl18 (fun _ h9 => h9) rfl (by decide +kernel) rfl rfl (Nat.le_of_ble_eq_true rfl) dX5_write_45 (fun H locs hP hD hS => ?_)
      have hP : va_P D vwCl [(xo, .inr (5, [.ref txto, .int (xlet + (1 : Int32)), .ref laio, .int xrec, .ref rulo, .ref so, .ref oso, .ref ajo, .ref aso])), (txto, .inr (0, [.ref txtv])), (txtv, .inl (cA, 200, .inl txtf_35))] H := hP
      have hD : va_D A [(xo, .inr (5, [.ref txto, .int (xlet + (1 : Int32)), .ref laio, .int xrec, .ref rulo, .ref so, .ref oso, .ref ajo, .ref aso])), (txto, .inr (0, [.ref txtv])), (txtv, .inl (cA, 200, .inl txtf_35))] := hD
      refine lv_aload_n hx hb dX5_write_48 rfl (lv_at hl 0 rfl) ?_
      refine va_get (D := D) (cl := vwCl) (ci := 5) (v := .int (xlet + (1 : Int32))) (C := RX5) (T := TX5) (N := 9) hx hb hts hinX5 hown hG.1 hP 0 rfl rfl 1 (by decide) fl18 (fun _ h9 => h9) rfl dX5_write_49 ?_
      cases h
      exact rt_i hx hb hr hlocks hP hD hS dX5_write_52
    · have h := i_f c20 h
      refine lv_bipush (v := (-3 : Int32)) hx hb dX5_write_23 (by decide) ?_
      cases h
      exact rt_i hx hb hr hlocks hP hD hS dX5_write_25
  · have h := i_f c8 h
    refine lv_iconst (v := (-1 : Int32)) hx hb dX5_write_11 (by decide) ?_
    cases h
    exact rt_i hx hb hr hlocks hP hD hS dX5_write_12
set_option maxHeartbeats 4000000 in
set_option maxRecDepth 100000 in
theorem kX5_wipe (l : Launch) (D : va_G) (cA : ClassId) (F : Nat) (xo : Nat) (txto : Nat) (laio : Nat) (rulo : Nat) (so : Nat) (oso : Nat) (ajo : Nat) (aso : Nat) (xlet : Int32) (xrec : Int32) (r0 : Int32) (xlet_9 : Int32) (h : mX5_wipe F xlet = some (r0, xlet_9)) : Ct l yX5_wipe wsX5_wipe ({ frames := 0, cells := 0, slots := 0, locals := 0 }) D cA [.ref xo] [(xo, .inr (5, [.ref txto, .int xlet, .ref laio, .int xrec, .ref rulo, .ref so, .ref oso, .ref ajo, .ref aso]))] [(xo, .inr (5, [.ref txto, .int xlet_9, .ref laio, .int xrec, .ref rulo, .ref so, .ref oso, .ref ajo, .ref aso]))] (some (.int r0)) := by
  refine Ct.of (cc := cX5_wipe) (maxL := 2) (ret := (some .int)) (by decide) rfl (Nat.le_of_ble_eq_true rfl) ?_
  intro p e s m below meth c A ls hcx hG hst hA hP hD hl
  obtain ⟨hx, hb, hml, hown, hts, hr, hlocks⟩ := id hcx
  have hown : s.vm.findClass RX5 = some m.cls := hown
  have hS : va_S A s.heap s.heap [] := va_S.rf
  have hl : lv_has ls 2 [(0, .ref xo)] := hl
  have hinX5 : ∀ w ∈ u_ws RX5 TX5 9, w ∈ wsX5_wipe := by decide +kernel
  have fl18 := hts (.fieldLink RX5 18 "RunSorter" "letters" "I") (by decide +kernel)
  unfold mX5_wipe at h
  refine lv_aload_n hx hb dX5_wipe_0 rfl (lv_at hl 0 rfl) ?_
  refine va_get (D := D) (cl := vwCl) (ci := 5) (v := .int xlet) (C := RX5) (T := TX5) (N := 9) hx hb hts hinX5 hown hG.1 hP 0 rfl rfl 1 (by decide) fl18 (fun _ h9 => h9) rfl dX5_wipe_1 ?_
  refine lv_istore_n (lv' := [(1, .int xlet), (0, .ref xo)]) hx hb dX5_wipe_4 rfl hl (by decide) rfl (fun ls hl => ?_)
  refine lv_aload_n hx hb dX5_wipe_5 rfl (lv_at hl 1 rfl) ?_
  refine lv_iconst (v := (0 : Int32)) hx hb dX5_wipe_6 (by decide) ?_
  refine va_put (D := D) (cl := vwCl) (ci := 5) (v := .int (0 : Int32)) (ty := .int) (C := RX5) (T := TX5) (N := 9) hx hb hts hinX5 tyX5 tyX5_ok nmX5 hown hG.1 hP hD hS 0 rfl rfl 1 (by decide) fl18 (fun _ h9 => h9) rfl (by decide +kernel) rfl rfl (Nat.le_of_ble_eq_true rfl) dX5_wipe_7 (fun H locs hP hD hS => ?_)
  have hP : va_P D vwCl [(xo, .inr (5, [.ref txto, .int (0 : Int32), .ref laio, .int xrec, .ref rulo, .ref so, .ref oso, .ref ajo, .ref aso]))] H := hP
  have hD : va_D A [(xo, .inr (5, [.ref txto, .int (0 : Int32), .ref laio, .int xrec, .ref rulo, .ref so, .ref oso, .ref ajo, .ref aso]))] := hD
  refine lv_iload_n hx hb dX5_wipe_10 rfl (lv_at hl 0 rfl) ?_
  cases h
  exact rt_i hx hb hr hlocks hP hD hS dX5_wipe_11
set_option maxHeartbeats 4000000 in
set_option maxRecDepth 100000 in
theorem kX5_fault (l : Launch) (D : va_G) (cA : ClassId) (F : Nat) (xo : Nat) (txto : Nat) (laio : Nat) (rulo : Nat) (so : Nat) (oso : Nat) (ajo : Nat) (aso : Nat) (txtv : Nat) (xlet : Int32) (xrec : Int32) (txtf : (Nat → Int32)) (r0 : Int32) (h : mX5_fault F xlet txtf = some r0) : Ct l yX5_fault wsX5_fault ({ frames := 1, cells := 0, slots := 0, locals := 22 }) D cA [.ref xo] [(xo, .inr (5, [.ref txto, .int xlet, .ref laio, .int xrec, .ref rulo, .ref so, .ref oso, .ref ajo, .ref aso])), (txto, .inr (0, [.ref txtv])), (txtv, .inl (cA, 200, .inl txtf))] [(xo, .inr (5, [.ref txto, .int xlet, .ref laio, .int xrec, .ref rulo, .ref so, .ref oso, .ref ajo, .ref aso])), (txto, .inr (0, [.ref txtv])), (txtv, .inl (cA, 200, .inl txtf))] (some (.int r0)) := by
  refine Ct.of (cc := cX5_fault) (maxL := 2) (ret := (some .int)) (by decide) rfl (Nat.le_of_ble_eq_true rfl) ?_
  intro p e s m below meth c A ls hcx hG hst hA hP hD hl
  obtain ⟨hx, hb, hml, hown, hts, hr, hlocks⟩ := id hcx
  have hown : s.vm.findClass RX5 = some m.cls := hown
  have hS : va_S A s.heap s.heap [] := va_S.rf
  have hl : lv_has ls 2 [(0, .ref xo)] := hl
  have hinX5 : ∀ w ∈ u_ws RX5 TX5 9, w ∈ wsX5_fault := by decide +kernel
  have fl18 := hts (.fieldLink RX5 18 "RunSorter" "letters" "I") (by decide +kernel)
  have fl14 := hts (.fieldLink RX5 14 "RunSorter" "text" "LRunSorter$Cells;") (by decide +kernel)
  have hmX5_fault_2 : ∀ (n2 : Nat) (x1 : Int32) (H : Heap) (locs : List Loc) (ls : Array Slot), mX5_fault_2 F xlet txtf n2 x1 = some r0 → va_P D vwCl [(xo, .inr (5, [.ref txto, .int xlet, .ref laio, .int xrec, .ref rulo, .ref so, .ref oso, .ref ajo, .ref aso])), (txto, .inr (0, [.ref txtv])), (txtv, .inl (cA, 200, .inl txtf))] H → va_D A [(xo, .inr (5, [.ref txto, .int xlet, .ref laio, .int xrec, .ref rulo, .ref so, .ref oso, .ref ajo, .ref aso])), (txto, .inr (0, [.ref txtv])), (txtv, .inl (cA, 200, .inl txtf))] → va_S A s.heap H locs → lv_has ls 2 [(0, .ref xo), (1, .int x1)] → W p l e ({ frames := 1, cells := 0, slots := 0, locals := 22 }) s m ([.ref xo] : List Value).toArray below meth c H locs 0 0 (MQ below (Qw D A [(xo, .inr (5, [.ref txto, .int xlet, .ref laio, .int xrec, .ref rulo, .ref so, .ref oso, .ref ajo, .ref aso])), (txto, .inr (0, [.ref txtv])), (txtv, .inl (cA, 200, .inl txtf))] (some (.int r0))) ([.ref xo] : List Value).toArray s 0 0 A) (F0 m 2 ls []) := by
    intro n2
    induction n2 with
    | zero => intro x1 H locs ls h; exact (no_some h).elim
    | succ n2 ih2 =>
      intro x1 H locs ls h hP hD hS hl
      rw [mX5_fault_2] at h
      refine lv_iload_n hx hb dX5_fault_2 rfl (lv_at hl 1 rfl) ?_
      refine lv_aload_n hx hb dX5_fault_3 rfl (lv_at hl 0 rfl) ?_
      refine va_get (D := D) (cl := vwCl) (ci := 5) (v := .int xlet) (C := RX5) (T := TX5) (N := 9) hx hb hts hinX5 hown hG.1 hP 0 rfl rfl 1 (by decide) fl18 (fun _ h9 => h9) rfl dX5_fault_4 ?_
      refine lv_icmp_ge (tgt := 42) hx hb dX5_fault_7 (by decide) (fun c7 => ?_) (fun c7 => ?_)
      · have h := i_t c7 h
        refine lv_bipush (v := (-4 : Int32)) hx hb dX5_fault_42 (by decide) ?_
        cases h
        exact rt_i hx hb hr hlocks hP hD hS dX5_fault_44
      · have h := i_f c7 h
        refine lv_iload_n hx hb dX5_fault_10 rfl (lv_at hl 1 rfl) ?_
        refine lv_bipush (v := (96 : Int32)) hx hb dX5_fault_11 (by decide) ?_
        refine lv_icmp_ge (tgt := 34) hx hb dX5_fault_13 (by decide) (fun c13 => ?_) (fun c13 => ?_)
        · have h := i_t c13 h
          refine lv_iload_n hx hb dX5_fault_34 rfl (lv_at hl 1 rfl) ?_
          cases h
          exact rt_i hx hb hr hlocks hP hD hS dX5_fault_35
        · have h := i_f c13 h
          refine lv_aload_n hx hb dX5_fault_16 rfl (lv_at hl 0 rfl) ?_
          refine va_get (D := D) (cl := vwCl) (ci := 5) (v := .ref txto) (C := RX5) (T := TX5) (N := 9) hx hb hts hinX5 hown hG.1 hP 0 rfl rfl 0 (by decide) fl14 (fun _ h9 => h9) rfl dX5_fault_17 ?_
          refine lv_iload_n hx hb dX5_fault_20 rfl (lv_at hl 1 rfl) ?_
          obtain ⟨r21, hc21, h⟩ := bd1_some h
          refine ct_VN (As := [.int x1]) (rest := []) (st1 := [.int r21]) (wf := [(xo, .inr (5, [.ref txto, .int xlet, .ref laio, .int xrec, .ref rulo, .ref so, .ref oso, .ref ajo, .ref aso])), (txto, .inr (0, [.ref txtv])), (txtv, .inl (cA, 200, .inl txtf))]) (kX0_look l D cA F txto txtv 200 txtf x1 r21 hc21) ⟨hx, hb, hml, hown, hts⟩ ⟨va_cnB 1 hts gX5_fault_X0_look_n84 rfl rfl rfl (hG.2.m 10 rfl) (hts (.initialized RX0) (by decide +kernel)) (by decide +kernel) ⟨Nat.le_of_ble_eq_true rfl, Nat.le_of_ble_eq_true rfl⟩, hts (.instanceMethod yX0_look) (by decide +kernel), hts (.selects RX0 yX0_look yX0_look) (by decide +kernel)⟩ hG hst hP hD hS hA 0 rfl rfl rfl [1, 2] [0] [0, 1, 2] rfl rfl rfl rfl rfl rfl hl.1 rfl rfl (Nat.le_of_ble_eq_true rfl) dX5_fault_21 ⟨Nat.zero_le _, Nat.zero_le _⟩ (fun H locs hP hD hS => ?_)
          refine lv_bipush (v := (97 : Int32)) hx hb dX5_fault_24 (by decide) ?_
          refine lv_bipush (v := (122 : Int32)) hx hb dX5_fault_26 (by decide) ?_
          obtain ⟨r28, hc28, h⟩ := bd1_some h
          refine ct_S (As := [.int r21, .int (97 : Int32), .int (122 : Int32)]) (rest := []) (st1 := [.int r28]) (wf := [(xo, .inr (5, [.ref txto, .int xlet, .ref laio, .int xrec, .ref rulo, .ref so, .ref oso, .ref ajo, .ref aso])), (txto, .inr (0, [.ref txtv])), (txtv, .inl (cA, 200, .inl txtf))]) (kX5_isOutside l D cA F    r21 (97 : Int32) (122 : Int32) r28 hc28) ⟨hx, hb, hml, hown, hts⟩ (va_cwS 3 hts gX5_fault_X5_isOutside rfl rfl rfl (by decide +kernel) ⟨Nat.le_of_ble_eq_true rfl, Nat.le_of_ble_eq_true rfl⟩) hG hst hP hD hS hA [] [0, 1, 2] [0, 1, 2] rfl rfl rfl rfl rfl rfl hl.1 rfl rfl (Nat.le_of_ble_eq_true rfl) dX5_fault_28 ⟨Nat.zero_le _, Nat.zero_le _⟩ (fun H locs hP hD hS => ?_)
          refine lv_if_eq (tgt := 36) hx hb dX5_fault_31 (by decide) (fun c31 => ?_) (fun c31 => ?_)
          · have h := i_t c31 h
            refine lv_iinc (v := x1 + (1 : Int32)) (lv' := [(1, .int (x1 + (1 : Int32))), (0, .ref xo)]) hx hb dX5_fault_36 hl (k := 1) rfl (congrArg (fun z => x1 + z) (by decide)) (by decide) rfl (fun ls hl => ?_)
            refine lv_goto (tgt := 2) hx hb dX5_fault_39 (by decide) ?_
            exact ih2 (x1 + (1 : Int32)) _ _ _ h hP hD hS (lv_sub hl [1, 0] rfl)
          · have h := i_f c31 h
            refine lv_iload_n hx hb dX5_fault_34 rfl (lv_at hl 1 rfl) ?_
            cases h
            exact rt_i hx hb hr hlocks hP hD hS dX5_fault_35
  unfold mX5_fault at h
  refine lv_iconst (v := (0 : Int32)) hx hb dX5_fault_0 (by decide) ?_
  refine lv_istore_n (lv' := [(1, .int (0 : Int32)), (0, .ref xo)]) hx hb dX5_fault_1 rfl hl (by decide) rfl (fun ls hl => ?_)
  exact hmX5_fault_2 F (0 : Int32) _ _ _ h hP hD hS (lv_sub hl [1, 0] rfl)
set_option maxHeartbeats 4000000 in
set_option maxRecDepth 100000 in
theorem kX5_beginAnew (l : Launch) (D : va_G) (cA : ClassId) (F : Nat) (xo : Nat) (txto : Nat) (laio : Nat) (rulo : Nat) (so : Nat) (oso : Nat) (ajo : Nat) (aso : Nat) (laiv : Nat) (rulv : Nat) (rowo : Nat) (talo : Nat) (plao : Nat) (leno : Nat) (jo : Nat) (mo : Nat) (rowv : Nat) (talv : Nat) (xlet : Int32) (xrec : Int32) (laif : (Nat → Int32)) (rulf : (Nat → Int32)) (srec : Int32) (spol : Int32) (slea : Int32) (sdep : Int32) (sinr : Int32) (swai : Int32) (rowf : (Nat → Int32)) (talf : (Nat → Int32)) (jord : Int32) (srec_9 : Int32) (spol_9 : Int32) (slea_9 : Int32) (sdep_9 : Int32) (sinr_9 : Int32) (swai_9 : Int32) (rowf_9 : (Nat → Int32)) (talf_9 : (Nat → Int32)) (jord_9 : Int32) (h : mX5_beginAnew F xrec laif rulf srec spol slea sdep sinr swai rowf talf jord = some (srec_9, spol_9, slea_9, sdep_9, sinr_9, swai_9, rowf_9, talf_9, jord_9)) : Ct l yX5_beginAnew wsX5_beginAnew ({ frames := 3, cells := 0, slots := 0, locals := 68 }) D cA [.ref xo] [(xo, .inr (5, [.ref txto, .int xlet, .ref laio, .int xrec, .ref rulo, .ref so, .ref oso, .ref ajo, .ref aso])), (laio, .inr (0, [.ref laiv])), (laiv, .inl (cA, 96, .inl laif)), (rulo, .inr (0, [.ref rulv])), (rulv, .inl (cA, 4, .inl rulf)), (so, .inr (3, [.ref rowo, .ref talo, .ref plao, .ref leno, .ref jo, .ref mo, .int srec, .int spol, .int slea, .int sdep, .int sinr, .int swai])), (rowo, .inr (0, [.ref rowv])), (rowv, .inl (cA, 96, .inl rowf)), (talo, .inr (0, [.ref talv])), (talv, .inl (cA, 12, .inl talf)), (jo, .inr (1, [.ref talo, .int jord]))] [(xo, .inr (5, [.ref txto, .int xlet, .ref laio, .int xrec, .ref rulo, .ref so, .ref oso, .ref ajo, .ref aso])), (laio, .inr (0, [.ref laiv])), (laiv, .inl (cA, 96, .inl laif)), (rulo, .inr (0, [.ref rulv])), (rulv, .inl (cA, 4, .inl rulf)), (so, .inr (3, [.ref rowo, .ref talo, .ref plao, .ref leno, .ref jo, .ref mo, .int srec_9, .int spol_9, .int slea_9, .int sdep_9, .int sinr_9, .int swai_9])), (rowo, .inr (0, [.ref rowv])), (rowv, .inl (cA, 96, .inl rowf_9)), (talo, .inr (0, [.ref talv])), (talv, .inl (cA, 12, .inl talf_9)), (jo, .inr (1, [.ref talo, .int jord_9]))] (none) := by
  refine Ct.of (cc := cX5_beginAnew) (maxL := 1) (ret := none) (by decide) rfl (Nat.le_of_ble_eq_true rfl) ?_
  intro p e s m below meth c A ls hcx hG hst hA hP hD hl
  obtain ⟨hx, hb, hml, hown, hts, hr, hlocks⟩ := id hcx
  have hown : s.vm.findClass RX5 = some m.cls := hown
  have hS : va_S A s.heap s.heap [] := va_S.rf
  have hl : lv_has ls 1 [(0, .ref xo)] := hl
  have hinX5 : ∀ w ∈ u_ws RX5 TX5 9, w ∈ wsX5_beginAnew := by decide +kernel
  have fl34 := hts (.fieldLink RX5 34 "RunSorter" "sorter" "LRunSorter$Sorter;") (by decide +kernel)
  have fl22 := hts (.fieldLink RX5 22 "RunSorter" "laid" "LRunSorter$Cells;") (by decide +kernel)
  have fl25 := hts (.fieldLink RX5 25 "RunSorter" "records" "I") (by decide +kernel)
  have fl28 := hts (.fieldLink RX5 28 "RunSorter" "rules" "LRunSorter$Cells;") (by decide +kernel)
  unfold mX5_beginAnew at h
  refine lv_aload_n hx hb dX5_beginAnew_0 rfl (lv_at hl 0 rfl) ?_
  refine va_get (D := D) (cl := vwCl) (ci := 5) (v := .ref so) (C := RX5) (T := TX5) (N := 9) hx hb hts hinX5 hown hG.1 hP 0 rfl rfl 5 (by decide) fl34 (fun _ h9 => h9) rfl dX5_beginAnew_1 ?_
  refine lv_aload_n hx hb dX5_beginAnew_4 rfl (lv_at hl 0 rfl) ?_
  refine va_get (D := D) (cl := vwCl) (ci := 5) (v := .ref laio) (C := RX5) (T := TX5) (N := 9) hx hb hts hinX5 hown hG.1 hP 0 rfl rfl 2 (by decide) fl22 (fun _ h9 => h9) rfl dX5_beginAnew_5 ?_
  refine lv_aload_n hx hb dX5_beginAnew_8 rfl (lv_at hl 0 rfl) ?_
  refine va_get (D := D) (cl := vwCl) (ci := 5) (v := .int xrec) (C := RX5) (T := TX5) (N := 9) hx hb hts hinX5 hown hG.1 hP 0 rfl rfl 3 (by decide) fl25 (fun _ h9 => h9) rfl dX5_beginAnew_9 ?_
  refine lv_aload_n hx hb dX5_beginAnew_12 rfl (lv_at hl 0 rfl) ?_
  refine va_get (D := D) (cl := vwCl) (ci := 5) (v := .ref rulo) (C := RX5) (T := TX5) (N := 9) hx hb hts hinX5 hown hG.1 hP 0 rfl rfl 4 (by decide) fl28 (fun _ h9 => h9) rfl dX5_beginAnew_13 ?_
  refine lv_aload_n hx hb dX5_beginAnew_16 rfl (lv_at hl 0 rfl) ?_
  refine va_get (D := D) (cl := vwCl) (ci := 5) (v := .ref rulo) (C := RX5) (T := TX5) (N := 9) hx hb hts hinX5 hown hG.1 hP 0 rfl rfl 4 (by decide) fl28 (fun _ h9 => h9) rfl dX5_beginAnew_17 ?_
  refine lv_iconst (v := (1 : Int32)) hx hb dX5_beginAnew_20 (by decide) ?_
  obtain ⟨r21, hc21, h⟩ := bd1_some h
  refine ct_VN (As := [.int (1 : Int32)]) (rest := [.ref rulo, .int xrec, .ref laio, .ref so]) (st1 := [.int r21, .ref rulo, .int xrec, .ref laio, .ref so]) (wf := [(xo, .inr (5, [.ref txto, .int xlet, .ref laio, .int xrec, .ref rulo, .ref so, .ref oso, .ref ajo, .ref aso])), (laio, .inr (0, [.ref laiv])), (laiv, .inl (cA, 96, .inl laif)), (rulo, .inr (0, [.ref rulv])), (rulv, .inl (cA, 4, .inl rulf)), (so, .inr (3, [.ref rowo, .ref talo, .ref plao, .ref leno, .ref jo, .ref mo, .int srec, .int spol, .int slea, .int sdep, .int sinr, .int swai])), (rowo, .inr (0, [.ref rowv])), (rowv, .inl (cA, 96, .inl rowf)), (talo, .inr (0, [.ref talv])), (talv, .inl (cA, 12, .inl talf)), (jo, .inr (1, [.ref talo, .int jord]))]) (kX0_look l D cA F rulo rulv 4 rulf (1 : Int32) r21 hc21) ⟨hx, hb, hml, hown, hts⟩ ⟨va_cnB 1 hts gX5_beginAnew_X0_look_n84 rfl rfl rfl (hG.2.m 10 rfl) (hts (.initialized RX0) (by decide +kernel)) (by decide +kernel) ⟨Nat.le_of_ble_eq_true rfl, Nat.le_of_ble_eq_true rfl⟩, hts (.instanceMethod yX0_look) (by decide +kernel), hts (.selects RX0 yX0_look yX0_look) (by decide +kernel)⟩ hG hst hP hD hS hA 0 rfl rfl rfl [3, 4] [0, 1, 2, 5, 6, 7, 8, 9, 10] [0, 1, 2, 9, 10, 3, 4, 5, 6, 7, 8] rfl rfl rfl rfl rfl rfl hl.1 rfl rfl (Nat.le_of_ble_eq_true rfl) dX5_beginAnew_21 ⟨Nat.zero_le _, Nat.zero_le _⟩ (fun H locs hP hD hS => ?_)
  obtain ⟨srec_24, spol_24, slea_24, sdep_24, sinr_24, swai_24, rowf_24, talf_24, jord_24, hc24, h⟩ := bd9_some h
  refine ct_VN (As := [.ref laio, .int xrec, .ref rulo, .int r21]) (rest := []) (st1 := []) (wf := [(xo, .inr (5, [.ref txto, .int xlet, .ref laio, .int xrec, .ref rulo, .ref so, .ref oso, .ref ajo, .ref aso])), (laio, .inr (0, [.ref laiv])), (laiv, .inl (cA, 96, .inl laif)), (rulo, .inr (0, [.ref rulv])), (rulv, .inl (cA, 4, .inl rulf)), (so, .inr (3, [.ref rowo, .ref talo, .ref plao, .ref leno, .ref jo, .ref mo, .int srec_24, .int spol_24, .int slea_24, .int sdep_24, .int sinr_24, .int swai_24])), (rowo, .inr (0, [.ref rowv])), (rowv, .inl (cA, 96, .inl rowf_24)), (talo, .inr (0, [.ref talv])), (talv, .inl (cA, 12, .inl talf_24)), (jo, .inr (1, [.ref talo, .int jord_24]))]) (kX3_begin l D cA F so laio rulo rowo talo plao leno jo mo rowv talv laiv rulv  srec spol slea sdep sinr swai rowf talf jord laif rulf xrec r21 srec_24 spol_24 slea_24 sdep_24 sinr_24 swai_24 rowf_24 talf_24 jord_24 hc24) ⟨hx, hb, hml, hown, hts⟩ ⟨va_cnB 4 hts gX5_beginAnew_X3_begin_n141 rfl rfl rfl (hG.2.m 11 rfl) (hts (.initialized RX3) (by decide +kernel)) (by decide +kernel) ⟨Nat.le_of_ble_eq_true rfl, Nat.le_of_ble_eq_true rfl⟩, hts (.instanceMethod yX3_begin) (by decide +kernel), hts (.selects RX3 yX3_begin yX3_begin) (by decide +kernel)⟩ hG hst hP hD hS hA 3 rfl rfl rfl [5, 6, 7, 8, 9, 10, 1, 2, 3, 4] [0] [0, 7, 8, 9, 10, 1, 2, 3, 4, 5, 6] rfl rfl rfl rfl rfl rfl hl.1 rfl rfl (Nat.le_of_ble_eq_true rfl) dX5_beginAnew_24 ⟨Nat.zero_le _, Nat.zero_le _⟩ (fun H locs hP hD hS => ?_)
  cases h
  exact rt_v hx hb hr hlocks hP hD hS dX5_beginAnew_27
set_option maxHeartbeats 4000000 in
set_option maxRecDepth 100000 in
theorem kX5_lay (l : Launch) (D : va_G) (cA : ClassId) (F : Nat) (xo : Nat) (txto : Nat) (laio : Nat) (rulo : Nat) (so : Nat) (oso : Nat) (ajo : Nat) (aso : Nat) (txtv : Nat) (laiv : Nat) (rulv : Nat) (rowo : Nat) (talo : Nat) (plao : Nat) (leno : Nat) (jo : Nat) (mo : Nat) (rowv : Nat) (talv : Nat) (xlet : Int32) (xrec : Int32) (txtf : (Nat → Int32)) (laif : (Nat → Int32)) (rulf : (Nat → Int32)) (srec : Int32) (spol : Int32) (slea : Int32) (sdep : Int32) (sinr : Int32) (swai : Int32) (rowf : (Nat → Int32)) (talf : (Nat → Int32)) (jord : Int32) (r0 : Int32) (xrec_9 : Int32) (laif_9 : (Nat → Int32)) (srec_9 : Int32) (spol_9 : Int32) (slea_9 : Int32) (sdep_9 : Int32) (sinr_9 : Int32) (swai_9 : Int32) (rowf_9 : (Nat → Int32)) (talf_9 : (Nat → Int32)) (jord_9 : Int32) (h : mX5_lay F xlet xrec txtf laif rulf srec spol slea sdep sinr swai rowf talf jord = some (r0, xrec_9, laif_9, srec_9, spol_9, slea_9, sdep_9, sinr_9, swai_9, rowf_9, talf_9, jord_9)) : Ct l yX5_lay wsX5_lay ({ frames := 4, cells := 0, slots := 0, locals := 88 }) D cA [.ref xo] [(xo, .inr (5, [.ref txto, .int xlet, .ref laio, .int xrec, .ref rulo, .ref so, .ref oso, .ref ajo, .ref aso])), (txto, .inr (0, [.ref txtv])), (txtv, .inl (cA, 200, .inl txtf)), (laio, .inr (0, [.ref laiv])), (laiv, .inl (cA, 96, .inl laif)), (rulo, .inr (0, [.ref rulv])), (rulv, .inl (cA, 4, .inl rulf)), (so, .inr (3, [.ref rowo, .ref talo, .ref plao, .ref leno, .ref jo, .ref mo, .int srec, .int spol, .int slea, .int sdep, .int sinr, .int swai])), (rowo, .inr (0, [.ref rowv])), (rowv, .inl (cA, 96, .inl rowf)), (talo, .inr (0, [.ref talv])), (talv, .inl (cA, 12, .inl talf)), (jo, .inr (1, [.ref talo, .int jord]))] [(xo, .inr (5, [.ref txto, .int xlet, .ref laio, .int xrec_9, .ref rulo, .ref so, .ref oso, .ref ajo, .ref aso])), (txto, .inr (0, [.ref txtv])), (txtv, .inl (cA, 200, .inl txtf)), (laio, .inr (0, [.ref laiv])), (laiv, .inl (cA, 96, .inl laif_9)), (rulo, .inr (0, [.ref rulv])), (rulv, .inl (cA, 4, .inl rulf)), (so, .inr (3, [.ref rowo, .ref talo, .ref plao, .ref leno, .ref jo, .ref mo, .int srec_9, .int spol_9, .int slea_9, .int sdep_9, .int sinr_9, .int swai_9])), (rowo, .inr (0, [.ref rowv])), (rowv, .inl (cA, 96, .inl rowf_9)), (talo, .inr (0, [.ref talv])), (talv, .inl (cA, 12, .inl talf_9)), (jo, .inr (1, [.ref talo, .int jord_9]))] (some (.int r0)) := by
  refine Ct.of (cc := cX5_lay) (maxL := 2) (ret := (some .int)) (by decide) rfl (Nat.le_of_ble_eq_true rfl) ?_
  intro p e s m below meth c A ls hcx hG hst hA hP hD hl
  obtain ⟨hx, hb, hml, hown, hts, hr, hlocks⟩ := id hcx
  have hown : s.vm.findClass RX5 = some m.cls := hown
  have hS : va_S A s.heap s.heap [] := va_S.rf
  have hl : lv_has ls 2 [(0, .ref xo)] := hl
  have hinX5 : ∀ w ∈ u_ws RX5 TX5 9, w ∈ wsX5_lay := by decide +kernel
  have fl18 := hts (.fieldLink RX5 18 "RunSorter" "letters" "I") (by decide +kernel)
  have fl25 := hts (.fieldLink RX5 25 "RunSorter" "records" "I") (by decide +kernel)
  have fl22 := hts (.fieldLink RX5 22 "RunSorter" "laid" "LRunSorter$Cells;") (by decide +kernel)
  have fl14 := hts (.fieldLink RX5 14 "RunSorter" "text" "LRunSorter$Cells;") (by decide +kernel)
  have hmX5_lay_21 : ∀ (n21 : Nat) (x1 : Int32) (xrec : Int32) (laif : (Nat → Int32)) (srec : Int32) (spol : Int32) (slea : Int32) (sdep : Int32) (sinr : Int32) (swai : Int32) (rowf : (Nat → Int32)) (talf : (Nat → Int32)) (jord : Int32) (H : Heap) (locs : List Loc) (ls : Array Slot), mX5_lay_21 F xlet txtf rulf n21 x1 xrec laif srec spol slea sdep sinr swai rowf talf jord = some (r0, xrec_9, laif_9, srec_9, spol_9, slea_9, sdep_9, sinr_9, swai_9, rowf_9, talf_9, jord_9) → va_P D vwCl [(xo, .inr (5, [.ref txto, .int xlet, .ref laio, .int xrec, .ref rulo, .ref so, .ref oso, .ref ajo, .ref aso])), (txto, .inr (0, [.ref txtv])), (txtv, .inl (cA, 200, .inl txtf)), (laio, .inr (0, [.ref laiv])), (laiv, .inl (cA, 96, .inl laif)), (rulo, .inr (0, [.ref rulv])), (rulv, .inl (cA, 4, .inl rulf)), (so, .inr (3, [.ref rowo, .ref talo, .ref plao, .ref leno, .ref jo, .ref mo, .int srec, .int spol, .int slea, .int sdep, .int sinr, .int swai])), (rowo, .inr (0, [.ref rowv])), (rowv, .inl (cA, 96, .inl rowf)), (talo, .inr (0, [.ref talv])), (talv, .inl (cA, 12, .inl talf)), (jo, .inr (1, [.ref talo, .int jord]))] H → va_D A [(xo, .inr (5, [.ref txto, .int xlet, .ref laio, .int xrec, .ref rulo, .ref so, .ref oso, .ref ajo, .ref aso])), (txto, .inr (0, [.ref txtv])), (txtv, .inl (cA, 200, .inl txtf)), (laio, .inr (0, [.ref laiv])), (laiv, .inl (cA, 96, .inl laif)), (rulo, .inr (0, [.ref rulv])), (rulv, .inl (cA, 4, .inl rulf)), (so, .inr (3, [.ref rowo, .ref talo, .ref plao, .ref leno, .ref jo, .ref mo, .int srec, .int spol, .int slea, .int sdep, .int sinr, .int swai])), (rowo, .inr (0, [.ref rowv])), (rowv, .inl (cA, 96, .inl rowf)), (talo, .inr (0, [.ref talv])), (talv, .inl (cA, 12, .inl talf)), (jo, .inr (1, [.ref talo, .int jord]))] → va_S A s.heap H locs → lv_has ls 2 [(0, .ref xo), (1, .int x1)] → W p l e ({ frames := 4, cells := 0, slots := 0, locals := 88 }) s m ([.ref xo] : List Value).toArray below meth c H locs 0 0 (MQ below (Qw D A [(xo, .inr (5, [.ref txto, .int xlet, .ref laio, .int xrec_9, .ref rulo, .ref so, .ref oso, .ref ajo, .ref aso])), (txto, .inr (0, [.ref txtv])), (txtv, .inl (cA, 200, .inl txtf)), (laio, .inr (0, [.ref laiv])), (laiv, .inl (cA, 96, .inl laif_9)), (rulo, .inr (0, [.ref rulv])), (rulv, .inl (cA, 4, .inl rulf)), (so, .inr (3, [.ref rowo, .ref talo, .ref plao, .ref leno, .ref jo, .ref mo, .int srec_9, .int spol_9, .int slea_9, .int sdep_9, .int sinr_9, .int swai_9])), (rowo, .inr (0, [.ref rowv])), (rowv, .inl (cA, 96, .inl rowf_9)), (talo, .inr (0, [.ref talv])), (talv, .inl (cA, 12, .inl talf_9)), (jo, .inr (1, [.ref talo, .int jord_9]))] (some (.int r0))) ([.ref xo] : List Value).toArray s 0 0 A) (F0 m 21 ls []) := by
    intro n21
    induction n21 with
    | zero => intro x1 xrec laif srec spol slea sdep sinr swai rowf talf jord H locs ls h; exact (no_some h).elim
    | succ n21 ih21 =>
      intro x1 xrec laif srec spol slea sdep sinr swai rowf talf jord H locs ls h hP hD hS hl
      rw [mX5_lay_21] at h
      refine lv_iload_n hx hb dX5_lay_21 rfl (lv_at hl 1 rfl) ?_
      refine lv_aload_n hx hb dX5_lay_22 rfl (lv_at hl 0 rfl) ?_
      refine va_get (D := D) (cl := vwCl) (ci := 5) (v := .int xlet) (C := RX5) (T := TX5) (N := 9) hx hb hts hinX5 hown hG.1 hP 0 rfl rfl 1 (by decide) fl18 (fun _ h9 => h9) rfl dX5_lay_23 ?_
      refine lv_icmp_ge (tgt := 58) hx hb dX5_lay_26 (by decide) (fun c26 => ?_) (fun c26 => ?_)
      · have h := i_t c26 h
        refine lv_aload_n hx hb dX5_lay_58 rfl (lv_at hl 0 rfl) ?_
        refine lv_aload_n hx hb dX5_lay_59 rfl (lv_at hl 0 rfl) ?_
        refine va_get (D := D) (cl := vwCl) (ci := 5) (v := .int xlet) (C := RX5) (T := TX5) (N := 9) hx hb hts hinX5 hown hG.1 hP 0 rfl rfl 1 (by decide) fl18 (fun _ h9 => h9) rfl dX5_lay_60 ?_
        refine va_put (D := D) (cl := vwCl) (ci := 5) (v := .int xlet) (ty := .int) (C := RX5) (T := TX5) (N := 9) hx hb hts hinX5 tyX5 tyX5_ok nmX5 hown hG.1 hP hD hS 0 rfl rfl 3 (by decide) fl25 (fun _ h9 => h9) rfl (by decide +kernel) rfl rfl (Nat.le_of_ble_eq_true rfl) dX5_lay_63 (fun H locs hP hD hS => ?_)
        have hP : va_P D vwCl [(xo, .inr (5, [.ref txto, .int xlet, .ref laio, .int xlet, .ref rulo, .ref so, .ref oso, .ref ajo, .ref aso])), (txto, .inr (0, [.ref txtv])), (txtv, .inl (cA, 200, .inl txtf)), (laio, .inr (0, [.ref laiv])), (laiv, .inl (cA, 96, .inl laif)), (rulo, .inr (0, [.ref rulv])), (rulv, .inl (cA, 4, .inl rulf)), (so, .inr (3, [.ref rowo, .ref talo, .ref plao, .ref leno, .ref jo, .ref mo, .int srec, .int spol, .int slea, .int sdep, .int sinr, .int swai])), (rowo, .inr (0, [.ref rowv])), (rowv, .inl (cA, 96, .inl rowf)), (talo, .inr (0, [.ref talv])), (talv, .inl (cA, 12, .inl talf)), (jo, .inr (1, [.ref talo, .int jord]))] H := hP
        have hD : va_D A [(xo, .inr (5, [.ref txto, .int xlet, .ref laio, .int xlet, .ref rulo, .ref so, .ref oso, .ref ajo, .ref aso])), (txto, .inr (0, [.ref txtv])), (txtv, .inl (cA, 200, .inl txtf)), (laio, .inr (0, [.ref laiv])), (laiv, .inl (cA, 96, .inl laif)), (rulo, .inr (0, [.ref rulv])), (rulv, .inl (cA, 4, .inl rulf)), (so, .inr (3, [.ref rowo, .ref talo, .ref plao, .ref leno, .ref jo, .ref mo, .int srec, .int spol, .int slea, .int sdep, .int sinr, .int swai])), (rowo, .inr (0, [.ref rowv])), (rowv, .inl (cA, 96, .inl rowf)), (talo, .inr (0, [.ref talv])), (talv, .inl (cA, 12, .inl talf)), (jo, .inr (1, [.ref talo, .int jord]))] := hD
        refine lv_aload_n hx hb dX5_lay_66 rfl (lv_at hl 0 rfl) ?_
        obtain ⟨srec_67, spol_67, slea_67, sdep_67, sinr_67, swai_67, rowf_67, talf_67, jord_67, hc67, h⟩ := bd9_some h
        refine ct_V (As := []) (rest := []) (st1 := []) (wf := [(xo, .inr (5, [.ref txto, .int xlet, .ref laio, .int xlet, .ref rulo, .ref so, .ref oso, .ref ajo, .ref aso])), (txto, .inr (0, [.ref txtv])), (txtv, .inl (cA, 200, .inl txtf)), (laio, .inr (0, [.ref laiv])), (laiv, .inl (cA, 96, .inl laif)), (rulo, .inr (0, [.ref rulv])), (rulv, .inl (cA, 4, .inl rulf)), (so, .inr (3, [.ref rowo, .ref talo, .ref plao, .ref leno, .ref jo, .ref mo, .int srec_67, .int spol_67, .int slea_67, .int sdep_67, .int sinr_67, .int swai_67])), (rowo, .inr (0, [.ref rowv])), (rowv, .inl (cA, 96, .inl rowf_67)), (talo, .inr (0, [.ref talv])), (talv, .inl (cA, 12, .inl talf_67)), (jo, .inr (1, [.ref talo, .int jord_67]))]) (kX5_beginAnew l D cA F xo txto laio rulo so oso ajo aso laiv rulv rowo talo plao leno jo mo rowv talv  xlet xlet laif rulf srec spol slea sdep sinr swai rowf talf jord  srec_67 spol_67 slea_67 sdep_67 sinr_67 swai_67 rowf_67 talf_67 jord_67 hc67) ⟨hx, hb, hml, hown, hts⟩ (cwV 0 hts gX5_lay_X5_beginAnew rfl rfl rfl (by decide +kernel) ⟨Nat.le_of_ble_eq_true rfl, Nat.le_of_ble_eq_true rfl⟩) hG hst hP hD hS hA 5 rfl rfl rfl [0, 3, 4, 5, 6, 7, 8, 9, 10, 11, 12] [1, 2] [2, 0, 1, 3, 4, 5, 6, 7, 8, 9, 10, 11, 12] rfl rfl rfl rfl rfl rfl hl.1 rfl rfl (Nat.le_of_ble_eq_true rfl) dX5_lay_67 ⟨Nat.zero_le _, Nat.zero_le _⟩ (fun H locs hP hD hS => ?_)
        refine lv_aload_n hx hb dX5_lay_70 rfl (lv_at hl 0 rfl) ?_
        refine va_get (D := D) (cl := vwCl) (ci := 5) (v := .int xlet) (C := RX5) (T := TX5) (N := 9) hx hb hts hinX5 hown hG.1 hP 0 rfl rfl 3 (by decide) fl25 (fun _ h9 => h9) rfl dX5_lay_71 ?_
        cases h
        exact rt_i hx hb hr hlocks hP hD hS dX5_lay_74
      · have h := i_f c26 h
        refine lv_aload_n hx hb dX5_lay_29 rfl (lv_at hl 0 rfl) ?_
        refine va_get (D := D) (cl := vwCl) (ci := 5) (v := .ref laio) (C := RX5) (T := TX5) (N := 9) hx hb hts hinX5 hown hG.1 hP 0 rfl rfl 2 (by decide) fl22 (fun _ h9 => h9) rfl dX5_lay_30 ?_
        refine lv_iload_n hx hb dX5_lay_33 rfl (lv_at hl 1 rfl) ?_
        refine lv_aload_n hx hb dX5_lay_34 rfl (lv_at hl 0 rfl) ?_
        refine va_get (D := D) (cl := vwCl) (ci := 5) (v := .ref txto) (C := RX5) (T := TX5) (N := 9) hx hb hts hinX5 hown hG.1 hP 0 rfl rfl 0 (by decide) fl14 (fun _ h9 => h9) rfl dX5_lay_35 ?_
        refine lv_iload_n hx hb dX5_lay_38 rfl (lv_at hl 1 rfl) ?_
        obtain ⟨r39, hc39, h⟩ := bd1_some h
        refine ct_VN (As := [.int x1]) (rest := [.int x1, .ref laio]) (st1 := [.int r39, .int x1, .ref laio]) (wf := [(xo, .inr (5, [.ref txto, .int xlet, .ref laio, .int xrec, .ref rulo, .ref so, .ref oso, .ref ajo, .ref aso])), (txto, .inr (0, [.ref txtv])), (txtv, .inl (cA, 200, .inl txtf)), (laio, .inr (0, [.ref laiv])), (laiv, .inl (cA, 96, .inl laif)), (rulo, .inr (0, [.ref rulv])), (rulv, .inl (cA, 4, .inl rulf)), (so, .inr (3, [.ref rowo, .ref talo, .ref plao, .ref leno, .ref jo, .ref mo, .int srec, .int spol, .int slea, .int sdep, .int sinr, .int swai])), (rowo, .inr (0, [.ref rowv])), (rowv, .inl (cA, 96, .inl rowf)), (talo, .inr (0, [.ref talv])), (talv, .inl (cA, 12, .inl talf)), (jo, .inr (1, [.ref talo, .int jord]))]) (kX0_look l D cA F txto txtv 200 txtf x1 r39 hc39) ⟨hx, hb, hml, hown, hts⟩ ⟨va_cnB 1 hts gX5_lay_X0_look_n84 rfl rfl rfl (hG.2.m 10 rfl) (hts (.initialized RX0) (by decide +kernel)) (by decide +kernel) ⟨Nat.le_of_ble_eq_true rfl, Nat.le_of_ble_eq_true rfl⟩, hts (.instanceMethod yX0_look) (by decide +kernel), hts (.selects RX0 yX0_look yX0_look) (by decide +kernel)⟩ hG hst hP hD hS hA 0 rfl rfl rfl [1, 2] [0, 3, 4, 5, 6, 7, 8, 9, 10, 11, 12] [0, 11, 12, 1, 2, 3, 4, 5, 6, 7, 8, 9, 10] rfl rfl rfl rfl rfl rfl hl.1 rfl rfl (Nat.le_of_ble_eq_true rfl) dX5_lay_39 ⟨Nat.zero_le _, Nat.zero_le _⟩ (fun H locs hP hD hS => ?_)
        refine lv_bipush (v := (97 : Int32)) hx hb dX5_lay_42 (by decide) ?_
        refine lv_isub hx hb dX5_lay_44 ?_
        refine lv_iload_n hx hb dX5_lay_45 rfl (lv_at hl 1 rfl) ?_
        obtain ⟨r46, hc46, h⟩ := bd1_some h
        refine ct_S (As := [.int (r39 - (97 : Int32)), .int x1]) (rest := [.int x1, .ref laio]) (st1 := [.int r46, .int x1, .ref laio]) (wf := [(xo, .inr (5, [.ref txto, .int xlet, .ref laio, .int xrec, .ref rulo, .ref so, .ref oso, .ref ajo, .ref aso])), (txto, .inr (0, [.ref txtv])), (txtv, .inl (cA, 200, .inl txtf)), (laio, .inr (0, [.ref laiv])), (laiv, .inl (cA, 96, .inl laif)), (rulo, .inr (0, [.ref rulv])), (rulv, .inl (cA, 4, .inl rulf)), (so, .inr (3, [.ref rowo, .ref talo, .ref plao, .ref leno, .ref jo, .ref mo, .int srec, .int spol, .int slea, .int sdep, .int sinr, .int swai])), (rowo, .inr (0, [.ref rowv])), (rowv, .inl (cA, 96, .inl rowf)), (talo, .inr (0, [.ref talv])), (talv, .inl (cA, 12, .inl talf)), (jo, .inr (1, [.ref talo, .int jord]))]) (kX5_recordOf l D cA F    (r39 - (97 : Int32)) x1 r46 hc46) ⟨hx, hb, hml, hown, hts⟩ (va_cwS 2 hts gX5_lay_X5_recordOf rfl rfl rfl (by decide +kernel) ⟨Nat.le_of_ble_eq_true rfl, Nat.le_of_ble_eq_true rfl⟩) hG hst hP hD hS hA [] [0, 1, 2, 3, 4, 5, 6, 7, 8, 9, 10, 11, 12] [0, 1, 2, 3, 4, 5, 6, 7, 8, 9, 10, 11, 12] rfl rfl rfl rfl rfl rfl hl.1 rfl rfl (Nat.le_of_ble_eq_true rfl) dX5_lay_46 ⟨Nat.zero_le _, Nat.zero_le _⟩ (fun H locs hP hD hS => ?_)
        obtain ⟨laif_49, hc49, h⟩ := bd1_some h
        refine ct_VN (As := [.int x1, .int r46]) (rest := []) (st1 := []) (wf := [(xo, .inr (5, [.ref txto, .int xlet, .ref laio, .int xrec, .ref rulo, .ref so, .ref oso, .ref ajo, .ref aso])), (txto, .inr (0, [.ref txtv])), (txtv, .inl (cA, 200, .inl txtf)), (laio, .inr (0, [.ref laiv])), (laiv, .inl (cA, 96, .inl laif_49)), (rulo, .inr (0, [.ref rulv])), (rulv, .inl (cA, 4, .inl rulf)), (so, .inr (3, [.ref rowo, .ref talo, .ref plao, .ref leno, .ref jo, .ref mo, .int srec, .int spol, .int slea, .int sdep, .int sinr, .int swai])), (rowo, .inr (0, [.ref rowv])), (rowv, .inl (cA, 96, .inl rowf)), (talo, .inr (0, [.ref talv])), (talv, .inl (cA, 12, .inl talf)), (jo, .inr (1, [.ref talo, .int jord]))]) (kX0_fill l D cA F laio laiv 96 laif x1 r46 laif_49 hc49) ⟨hx, hb, hml, hown, hts⟩ ⟨va_cnB 2 hts gX5_lay_X0_fill_n57 rfl rfl rfl (hG.2.m 9 rfl) (hts (.initialized RX0) (by decide +kernel)) (by decide +kernel) ⟨Nat.le_of_ble_eq_true rfl, Nat.le_of_ble_eq_true rfl⟩, hts (.instanceMethod yX0_fill) (by decide +kernel), hts (.selects RX0 yX0_fill yX0_fill) (by decide +kernel)⟩ hG hst hP hD hS hA 0 rfl rfl rfl [3, 4] [0, 1, 2, 5, 6, 7, 8, 9, 10, 11, 12] [0, 1, 2, 11, 12, 3, 4, 5, 6, 7, 8, 9, 10] rfl rfl rfl rfl rfl rfl hl.1 rfl rfl (Nat.le_of_ble_eq_true rfl) dX5_lay_49 ⟨Nat.zero_le _, Nat.zero_le _⟩ (fun H locs hP hD hS => ?_)
        refine lv_iinc (v := x1 + (1 : Int32)) (lv' := [(1, .int (x1 + (1 : Int32))), (0, .ref xo)]) hx hb dX5_lay_52 hl (k := 1) rfl (congrArg (fun z => x1 + z) (by decide)) (by decide) rfl (fun ls hl => ?_)
        refine lv_goto (tgt := 21) hx hb dX5_lay_55 (by decide) ?_
        exact ih21 (x1 + (1 : Int32)) xrec laif_49 srec spol slea sdep sinr swai rowf talf jord _ _ _ h hP hD hS (lv_sub hl [1, 0] rfl)
  unfold mX5_lay at h
  refine lv_aload_n hx hb dX5_lay_0 rfl (lv_at hl 0 rfl) ?_
  refine va_get (D := D) (cl := vwCl) (ci := 5) (v := .int xlet) (C := RX5) (T := TX5) (N := 9) hx hb hts hinX5 hown hG.1 hP 0 rfl rfl 1 (by decide) fl18 (fun _ h9 => h9) rfl dX5_lay_1 ?_
  refine lv_if_eq (tgt := 16) hx hb dX5_lay_4 (by decide) (fun c4 => ?_) (fun c4 => ?_)
  · have h := i_t c4 h
    refine lv_bipush (v := (-2 : Int32)) hx hb dX5_lay_16 (by decide) ?_
    cases h
    exact rt_i hx hb hr hlocks hP hD hS dX5_lay_18
  · have h := i_f c4 h
    refine lv_aload_n hx hb dX5_lay_7 rfl (lv_at hl 0 rfl) ?_
    obtain ⟨r8, hc8, h⟩ := bd1_some h
    refine ct_V (As := []) (rest := []) (st1 := [.int r8]) (wf := [(xo, .inr (5, [.ref txto, .int xlet, .ref laio, .int xrec, .ref rulo, .ref so, .ref oso, .ref ajo, .ref aso])), (txto, .inr (0, [.ref txtv])), (txtv, .inl (cA, 200, .inl txtf)), (laio, .inr (0, [.ref laiv])), (laiv, .inl (cA, 96, .inl laif)), (rulo, .inr (0, [.ref rulv])), (rulv, .inl (cA, 4, .inl rulf)), (so, .inr (3, [.ref rowo, .ref talo, .ref plao, .ref leno, .ref jo, .ref mo, .int srec, .int spol, .int slea, .int sdep, .int sinr, .int swai])), (rowo, .inr (0, [.ref rowv])), (rowv, .inl (cA, 96, .inl rowf)), (talo, .inr (0, [.ref talv])), (talv, .inl (cA, 12, .inl talf)), (jo, .inr (1, [.ref talo, .int jord]))]) (kX5_fault l D cA F xo txto laio rulo so oso ajo aso txtv  xlet xrec txtf  r8 hc8) ⟨hx, hb, hml, hown, hts⟩ (cwV 0 hts gX5_lay_X5_fault rfl rfl rfl (by decide +kernel) ⟨Nat.le_of_ble_eq_true rfl, Nat.le_of_ble_eq_true rfl⟩) hG hst hP hD hS hA 5 rfl rfl rfl [0, 1, 2] [3, 4, 5, 6, 7, 8, 9, 10, 11, 12] [10, 11, 12, 0, 1, 2, 3, 4, 5, 6, 7, 8, 9] rfl rfl rfl rfl rfl rfl hl.1 rfl rfl (Nat.le_of_ble_eq_true rfl) dX5_lay_8 ⟨Nat.zero_le _, Nat.zero_le _⟩ (fun H locs hP hD hS => ?_)
    refine lv_bipush (v := (-4 : Int32)) hx hb dX5_lay_11 (by decide) ?_
    refine lv_icmp_eq (tgt := 19) hx hb dX5_lay_13 (by decide) (fun c13 => ?_) (fun c13 => ?_)
    · have h := i_t c13 h
      refine lv_iconst (v := (0 : Int32)) hx hb dX5_lay_19 (by decide) ?_
      refine lv_istore_n (lv' := [(1, .int (0 : Int32)), (0, .ref xo)]) hx hb dX5_lay_20 rfl hl (by decide) rfl (fun ls hl => ?_)
      exact hmX5_lay_21 F (0 : Int32) xrec laif srec spol slea sdep sinr swai rowf talf jord _ _ _ h hP hD hS (lv_sub hl [1, 0] rfl)
    · have h := i_f c13 h
      refine lv_bipush (v := (-2 : Int32)) hx hb dX5_lay_16 (by decide) ?_
      cases h
      exact rt_i hx hb hr hlocks hP hD hS dX5_lay_18
set_option maxHeartbeats 4000000 in
set_option maxRecDepth 100000 in
theorem kX5_rule (l : Launch) (D : va_G) (cA : ClassId) (F : Nat) (xo : Nat) (txto : Nat) (laio : Nat) (rulo : Nat) (so : Nat) (oso : Nat) (ajo : Nat) (aso : Nat) (laiv : Nat) (rulv : Nat) (rowo : Nat) (talo : Nat) (plao : Nat) (leno : Nat) (jo : Nat) (mo : Nat) (rowv : Nat) (talv : Nat) (xlet : Int32) (xrec : Int32) (laif : (Nat → Int32)) (rulf : (Nat → Int32)) (srec : Int32) (spol : Int32) (slea : Int32) (sdep : Int32) (sinr : Int32) (swai : Int32) (rowf : (Nat → Int32)) (talf : (Nat → Int32)) (jord : Int32) (a1 : Int32) (a2 : Int32) (r0 : Int32) (rulf_9 : (Nat → Int32)) (srec_9 : Int32) (spol_9 : Int32) (slea_9 : Int32) (sdep_9 : Int32) (sinr_9 : Int32) (swai_9 : Int32) (rowf_9 : (Nat → Int32)) (talf_9 : (Nat → Int32)) (jord_9 : Int32) (h : mX5_rule F xrec laif rulf srec spol slea sdep sinr swai rowf talf jord a1 a2 = some (r0, rulf_9, srec_9, spol_9, slea_9, sdep_9, sinr_9, swai_9, rowf_9, talf_9, jord_9)) : Ct l yX5_rule wsX5_rule ({ frames := 4, cells := 0, slots := 0, locals := 88 }) D cA [.ref xo, .int a1, .int a2] [(xo, .inr (5, [.ref txto, .int xlet, .ref laio, .int xrec, .ref rulo, .ref so, .ref oso, .ref ajo, .ref aso])), (laio, .inr (0, [.ref laiv])), (laiv, .inl (cA, 96, .inl laif)), (rulo, .inr (0, [.ref rulv])), (rulv, .inl (cA, 4, .inl rulf)), (so, .inr (3, [.ref rowo, .ref talo, .ref plao, .ref leno, .ref jo, .ref mo, .int srec, .int spol, .int slea, .int sdep, .int sinr, .int swai])), (rowo, .inr (0, [.ref rowv])), (rowv, .inl (cA, 96, .inl rowf)), (talo, .inr (0, [.ref talv])), (talv, .inl (cA, 12, .inl talf)), (jo, .inr (1, [.ref talo, .int jord]))] [(xo, .inr (5, [.ref txto, .int xlet, .ref laio, .int xrec, .ref rulo, .ref so, .ref oso, .ref ajo, .ref aso])), (laio, .inr (0, [.ref laiv])), (laiv, .inl (cA, 96, .inl laif)), (rulo, .inr (0, [.ref rulv])), (rulv, .inl (cA, 4, .inl rulf_9)), (so, .inr (3, [.ref rowo, .ref talo, .ref plao, .ref leno, .ref jo, .ref mo, .int srec_9, .int spol_9, .int slea_9, .int sdep_9, .int sinr_9, .int swai_9])), (rowo, .inr (0, [.ref rowv])), (rowv, .inl (cA, 96, .inl rowf_9)), (talo, .inr (0, [.ref talv])), (talv, .inl (cA, 12, .inl talf_9)), (jo, .inr (1, [.ref talo, .int jord_9]))] (some (.int r0)) := by
  refine Ct.of (cc := cX5_rule) (maxL := 4) (ret := (some .int)) (by decide) rfl (Nat.le_of_ble_eq_true rfl) ?_
  intro p e s m below meth c A ls hcx hG hst hA hP hD hl
  obtain ⟨hx, hb, hml, hown, hts, hr, hlocks⟩ := id hcx
  have hown : s.vm.findClass RX5 = some m.cls := hown
  have hS : va_S A s.heap s.heap [] := va_S.rf
  have hl : lv_has ls 4 [(0, .ref xo), (1, .int a1), (2, .int a2)] := hl
  obtain ⟨t1, t2, hZ1, hT1, hZ2, hT2⟩ := id hst
  have hinX5 : ∀ w ∈ u_ws RX5 TX5 9, w ∈ wsX5_rule := by decide +kernel
  have fl91 := hts (.fieldLink RX5 91 "RunSorter" "LOWEST" "[I") (by decide +kernel)
  have fl95 := hts (.fieldLink RX5 95 "RunSorter" "HIGHEST" "[I") (by decide +kernel)
  have fl28 := hts (.fieldLink RX5 28 "RunSorter" "rules" "LRunSorter$Cells;") (by decide +kernel)
  unfold mX5_rule at h
  refine lv_iload_n hx hb dX5_rule_0 rfl (lv_at hl 1 rfl) ?_
  refine lv_iconst (v := (0 : Int32)) hx hb dX5_rule_1 (by decide) ?_
  refine lv_iconst (v := (3 : Int32)) hx hb dX5_rule_2 (by decide) ?_
  obtain ⟨r3, hc3, h⟩ := bd1_some h
  refine ct_S (As := [.int a1, .int (0 : Int32), .int (3 : Int32)]) (rest := []) (st1 := [.int r3]) (wf := [(xo, .inr (5, [.ref txto, .int xlet, .ref laio, .int xrec, .ref rulo, .ref so, .ref oso, .ref ajo, .ref aso])), (laio, .inr (0, [.ref laiv])), (laiv, .inl (cA, 96, .inl laif)), (rulo, .inr (0, [.ref rulv])), (rulv, .inl (cA, 4, .inl rulf)), (so, .inr (3, [.ref rowo, .ref talo, .ref plao, .ref leno, .ref jo, .ref mo, .int srec, .int spol, .int slea, .int sdep, .int sinr, .int swai])), (rowo, .inr (0, [.ref rowv])), (rowv, .inl (cA, 96, .inl rowf)), (talo, .inr (0, [.ref talv])), (talv, .inl (cA, 12, .inl talf)), (jo, .inr (1, [.ref talo, .int jord]))]) (kX5_isOutside l D cA F    a1 (0 : Int32) (3 : Int32) r3 hc3) ⟨hx, hb, hml, hown, hts⟩ (va_cwS 3 hts gX5_rule_X5_isOutside rfl rfl rfl (by decide +kernel) ⟨Nat.le_of_ble_eq_true rfl, Nat.le_of_ble_eq_true rfl⟩) hG hst hP hD hS hA [] [0, 1, 2, 3, 4, 5, 6, 7, 8, 9, 10] [0, 1, 2, 3, 4, 5, 6, 7, 8, 9, 10] rfl rfl rfl rfl rfl rfl hl.1 rfl rfl (Nat.le_of_ble_eq_true rfl) dX5_rule_3 ⟨Nat.zero_le _, Nat.zero_le _⟩ (fun H locs hP hD hS => ?_)
  refine lv_if_ne (tgt := 26) hx hb dX5_rule_6 (by decide) (fun c6 => ?_) (fun c6 => ?_)
  · have h := i_f c6 h
    refine lv_iconst (v := (-1 : Int32)) hx hb dX5_rule_26 (by decide) ?_
    cases h
    exact rt_i hx hb hr hlocks hP hD hS dX5_rule_27
  · have h := i_t c6 h
    refine lv_iload_n hx hb dX5_rule_9 rfl (lv_at hl 2 rfl) ?_
    refine va_gets hx hb hZ1 hS hown fl91 (fun _ h9 => h9) dX5_rule_10 ?_
    refine lv_iload_n hx hb dX5_rule_13 rfl (lv_at hl 1 rfl) ?_
    obtain ⟨hi14, h⟩ := ck_some h
    refine va_ti (v := .int (lowT a1.toNatClampNeg)) hx hb hT1 hS hi14 rfl dX5_rule_14 ?_
    refine va_gets hx hb hZ2 hS hown fl95 (fun _ h9 => h9) dX5_rule_15 ?_
    refine lv_iload_n hx hb dX5_rule_18 rfl (lv_at hl 1 rfl) ?_
    obtain ⟨hi19, h⟩ := ck_some h
    refine va_ti (v := .int (highT a1.toNatClampNeg)) hx hb hT2 hS hi19 rfl dX5_rule_19 ?_
    obtain ⟨r20, hc20, h⟩ := bd1_some h
    refine ct_S (As := [.int a2, .int (lowT a1.toNatClampNeg), .int (highT a1.toNatClampNeg)]) (rest := []) (st1 := [.int r20]) (wf := [(xo, .inr (5, [.ref txto, .int xlet, .ref laio, .int xrec, .ref rulo, .ref so, .ref oso, .ref ajo, .ref aso])), (laio, .inr (0, [.ref laiv])), (laiv, .inl (cA, 96, .inl laif)), (rulo, .inr (0, [.ref rulv])), (rulv, .inl (cA, 4, .inl rulf)), (so, .inr (3, [.ref rowo, .ref talo, .ref plao, .ref leno, .ref jo, .ref mo, .int srec, .int spol, .int slea, .int sdep, .int sinr, .int swai])), (rowo, .inr (0, [.ref rowv])), (rowv, .inl (cA, 96, .inl rowf)), (talo, .inr (0, [.ref talv])), (talv, .inl (cA, 12, .inl talf)), (jo, .inr (1, [.ref talo, .int jord]))]) (kX5_isOutside l D cA F    a2 (lowT a1.toNatClampNeg) (highT a1.toNatClampNeg) r20 hc20) ⟨hx, hb, hml, hown, hts⟩ (va_cwS 3 hts gX5_rule_X5_isOutside rfl rfl rfl (by decide +kernel) ⟨Nat.le_of_ble_eq_true rfl, Nat.le_of_ble_eq_true rfl⟩) hG hst hP hD hS hA [] [0, 1, 2, 3, 4, 5, 6, 7, 8, 9, 10] [0, 1, 2, 3, 4, 5, 6, 7, 8, 9, 10] rfl rfl rfl rfl rfl rfl hl.1 rfl rfl (Nat.le_of_ble_eq_true rfl) dX5_rule_20 ⟨Nat.zero_le _, Nat.zero_le _⟩ (fun H locs hP hD hS => ?_)
    refine lv_if_eq (tgt := 28) hx hb dX5_rule_23 (by decide) (fun c23 => ?_) (fun c23 => ?_)
    · have h := i_t c23 h
      refine lv_aload_n hx hb dX5_rule_28 rfl (lv_at hl 0 rfl) ?_
      refine va_get (D := D) (cl := vwCl) (ci := 5) (v := .ref rulo) (C := RX5) (T := TX5) (N := 9) hx hb hts hinX5 hown hG.1 hP 0 rfl rfl 4 (by decide) fl28 (fun _ h9 => h9) rfl dX5_rule_29 ?_
      refine lv_iload_n hx hb dX5_rule_32 rfl (lv_at hl 1 rfl) ?_
      obtain ⟨r33, hc33, h⟩ := bd1_some h
      refine ct_VN (As := [.int a1]) (rest := []) (st1 := [.int r33]) (wf := [(xo, .inr (5, [.ref txto, .int xlet, .ref laio, .int xrec, .ref rulo, .ref so, .ref oso, .ref ajo, .ref aso])), (laio, .inr (0, [.ref laiv])), (laiv, .inl (cA, 96, .inl laif)), (rulo, .inr (0, [.ref rulv])), (rulv, .inl (cA, 4, .inl rulf)), (so, .inr (3, [.ref rowo, .ref talo, .ref plao, .ref leno, .ref jo, .ref mo, .int srec, .int spol, .int slea, .int sdep, .int sinr, .int swai])), (rowo, .inr (0, [.ref rowv])), (rowv, .inl (cA, 96, .inl rowf)), (talo, .inr (0, [.ref talv])), (talv, .inl (cA, 12, .inl talf)), (jo, .inr (1, [.ref talo, .int jord]))]) (kX0_look l D cA F rulo rulv 4 rulf a1 r33 hc33) ⟨hx, hb, hml, hown, hts⟩ ⟨va_cnB 1 hts gX5_rule_X0_look_n84 rfl rfl rfl (hG.2.m 10 rfl) (hts (.initialized RX0) (by decide +kernel)) (by decide +kernel) ⟨Nat.le_of_ble_eq_true rfl, Nat.le_of_ble_eq_true rfl⟩, hts (.instanceMethod yX0_look) (by decide +kernel), hts (.selects RX0 yX0_look yX0_look) (by decide +kernel)⟩ hG hst hP hD hS hA 0 rfl rfl rfl [3, 4] [0, 1, 2, 5, 6, 7, 8, 9, 10] [0, 1, 2, 9, 10, 3, 4, 5, 6, 7, 8] rfl rfl rfl rfl rfl rfl hl.1 rfl rfl (Nat.le_of_ble_eq_true rfl) dX5_rule_33 ⟨Nat.zero_le _, Nat.zero_le _⟩ (fun H locs hP hD hS => ?_)
      refine lv_istore_n (lv' := [(3, .int r33), (0, .ref xo), (1, .int a1), (2, .int a2)]) hx hb dX5_rule_36 rfl hl (by decide) rfl (fun ls hl => ?_)
      refine lv_iload_n hx hb dX5_rule_37 rfl (lv_at hl 0 rfl) ?_
      refine lv_iload_n hx hb dX5_rule_38 rfl (lv_at hl 3 rfl) ?_
      refine lv_icmp_ne (tgt := 45) hx hb dX5_rule_39 (by decide) (fun c39 => ?_) (fun c39 => ?_)
      · have h := i_f c39 h
        refine lv_aload_n hx hb dX5_rule_45 rfl (lv_at hl 1 rfl) ?_
        refine va_get (D := D) (cl := vwCl) (ci := 5) (v := .ref rulo) (C := RX5) (T := TX5) (N := 9) hx hb hts hinX5 hown hG.1 hP 0 rfl rfl 4 (by decide) fl28 (fun _ h9 => h9) rfl dX5_rule_46 ?_
        refine lv_iload_n hx hb dX5_rule_49 rfl (lv_at hl 2 rfl) ?_
        refine lv_iload_n hx hb dX5_rule_50 rfl (lv_at hl 3 rfl) ?_
        obtain ⟨rulf_51, hc51, h⟩ := bd1_some h
        refine ct_VN (As := [.int a1, .int a2]) (rest := []) (st1 := []) (wf := [(xo, .inr (5, [.ref txto, .int xlet, .ref laio, .int xrec, .ref rulo, .ref so, .ref oso, .ref ajo, .ref aso])), (laio, .inr (0, [.ref laiv])), (laiv, .inl (cA, 96, .inl laif)), (rulo, .inr (0, [.ref rulv])), (rulv, .inl (cA, 4, .inl rulf_51)), (so, .inr (3, [.ref rowo, .ref talo, .ref plao, .ref leno, .ref jo, .ref mo, .int srec, .int spol, .int slea, .int sdep, .int sinr, .int swai])), (rowo, .inr (0, [.ref rowv])), (rowv, .inl (cA, 96, .inl rowf)), (talo, .inr (0, [.ref talv])), (talv, .inl (cA, 12, .inl talf)), (jo, .inr (1, [.ref talo, .int jord]))]) (kX0_fill l D cA F rulo rulv 4 rulf a1 a2 rulf_51 hc51) ⟨hx, hb, hml, hown, hts⟩ ⟨va_cnB 2 hts gX5_rule_X0_fill_n57 rfl rfl rfl (hG.2.m 9 rfl) (hts (.initialized RX0) (by decide +kernel)) (by decide +kernel) ⟨Nat.le_of_ble_eq_true rfl, Nat.le_of_ble_eq_true rfl⟩, hts (.instanceMethod yX0_fill) (by decide +kernel), hts (.selects RX0 yX0_fill yX0_fill) (by decide +kernel)⟩ hG hst hP hD hS hA 0 rfl rfl rfl [3, 4] [0, 1, 2, 5, 6, 7, 8, 9, 10] [0, 1, 2, 9, 10, 3, 4, 5, 6, 7, 8] rfl rfl rfl rfl rfl rfl hl.1 rfl rfl (Nat.le_of_ble_eq_true rfl) dX5_rule_51 ⟨Nat.zero_le _, Nat.zero_le _⟩ (fun H locs hP hD hS => ?_)
        refine lv_aload_n hx hb dX5_rule_54 rfl (lv_at hl 1 rfl) ?_
        obtain ⟨srec_55, spol_55, slea_55, sdep_55, sinr_55, swai_55, rowf_55, talf_55, jord_55, hc55, h⟩ := bd9_some h
        refine ct_V (As := []) (rest := []) (st1 := []) (wf := [(xo, .inr (5, [.ref txto, .int xlet, .ref laio, .int xrec, .ref rulo, .ref so, .ref oso, .ref ajo, .ref aso])), (laio, .inr (0, [.ref laiv])), (laiv, .inl (cA, 96, .inl laif)), (rulo, .inr (0, [.ref rulv])), (rulv, .inl (cA, 4, .inl rulf_51)), (so, .inr (3, [.ref rowo, .ref talo, .ref plao, .ref leno, .ref jo, .ref mo, .int srec_55, .int spol_55, .int slea_55, .int sdep_55, .int sinr_55, .int swai_55])), (rowo, .inr (0, [.ref rowv])), (rowv, .inl (cA, 96, .inl rowf_55)), (talo, .inr (0, [.ref talv])), (talv, .inl (cA, 12, .inl talf_55)), (jo, .inr (1, [.ref talo, .int jord_55]))]) (kX5_beginAnew l D cA F xo txto laio rulo so oso ajo aso laiv rulv rowo talo plao leno jo mo rowv talv  xlet xrec laif rulf_51 srec spol slea sdep sinr swai rowf talf jord  srec_55 spol_55 slea_55 sdep_55 sinr_55 swai_55 rowf_55 talf_55 jord_55 hc55) ⟨hx, hb, hml, hown, hts⟩ (cwV 0 hts gX5_rule_X5_beginAnew rfl rfl rfl (by decide +kernel) ⟨Nat.le_of_ble_eq_true rfl, Nat.le_of_ble_eq_true rfl⟩) hG hst hP hD hS hA 5 rfl rfl rfl [0, 1, 2, 3, 4, 5, 6, 7, 8, 9, 10] [] [0, 1, 2, 3, 4, 5, 6, 7, 8, 9, 10] rfl rfl rfl rfl rfl rfl hl.1 rfl rfl (Nat.le_of_ble_eq_true rfl) dX5_rule_55 ⟨Nat.zero_le _, Nat.zero_le _⟩ (fun H locs hP hD hS => ?_)
        refine lv_iload_n hx hb dX5_rule_58 rfl (lv_at hl 0 rfl) ?_
        cases h
        exact rt_i hx hb hr hlocks hP hD hS dX5_rule_59
      · have h := i_t c39 h
        refine lv_bipush (v := (-2 : Int32)) hx hb dX5_rule_42 (by decide) ?_
        cases h
        exact rt_i hx hb hr hlocks hP hD hS dX5_rule_44
    · have h := i_f c23 h
      refine lv_iconst (v := (-1 : Int32)) hx hb dX5_rule_26 (by decide) ?_
      cases h
      exact rt_i hx hb hr hlocks hP hD hS dX5_rule_27
set_option maxHeartbeats 4000000 in
set_option maxRecDepth 100000 in
theorem kX5_put (l : Launch) (D : va_G) (cA : ClassId) (F : Nat) (xo : Nat) (txto : Nat) (laio : Nat) (rulo : Nat) (so : Nat) (oso : Nat) (ajo : Nat) (aso : Nat) (laiv : Nat) (rulv : Nat) (rowo : Nat) (talo : Nat) (plao : Nat) (leno : Nat) (jo : Nat) (mo : Nat) (rowv : Nat) (talv : Nat) (xlet : Int32) (xrec : Int32) (laif : (Nat → Int32)) (rulf : (Nat → Int32)) (srec : Int32) (spol : Int32) (slea : Int32) (sdep : Int32) (sinr : Int32) (swai : Int32) (rowf : (Nat → Int32)) (talf : (Nat → Int32)) (jord : Int32) (a1 : Int32) (a2 : Int32) (r0 : Int32) (laif_9 : (Nat → Int32)) (srec_9 : Int32) (spol_9 : Int32) (slea_9 : Int32) (sdep_9 : Int32) (sinr_9 : Int32) (swai_9 : Int32) (rowf_9 : (Nat → Int32)) (talf_9 : (Nat → Int32)) (jord_9 : Int32) (h : mX5_put F xrec laif rulf srec spol slea sdep sinr swai rowf talf jord a1 a2 = some (r0, laif_9, srec_9, spol_9, slea_9, sdep_9, sinr_9, swai_9, rowf_9, talf_9, jord_9)) : Ct l yX5_put wsX5_put ({ frames := 4, cells := 0, slots := 0, locals := 88 }) D cA [.ref xo, .int a1, .int a2] [(xo, .inr (5, [.ref txto, .int xlet, .ref laio, .int xrec, .ref rulo, .ref so, .ref oso, .ref ajo, .ref aso])), (laio, .inr (0, [.ref laiv])), (laiv, .inl (cA, 96, .inl laif)), (rulo, .inr (0, [.ref rulv])), (rulv, .inl (cA, 4, .inl rulf)), (so, .inr (3, [.ref rowo, .ref talo, .ref plao, .ref leno, .ref jo, .ref mo, .int srec, .int spol, .int slea, .int sdep, .int sinr, .int swai])), (rowo, .inr (0, [.ref rowv])), (rowv, .inl (cA, 96, .inl rowf)), (talo, .inr (0, [.ref talv])), (talv, .inl (cA, 12, .inl talf)), (jo, .inr (1, [.ref talo, .int jord]))] [(xo, .inr (5, [.ref txto, .int xlet, .ref laio, .int xrec, .ref rulo, .ref so, .ref oso, .ref ajo, .ref aso])), (laio, .inr (0, [.ref laiv])), (laiv, .inl (cA, 96, .inl laif_9)), (rulo, .inr (0, [.ref rulv])), (rulv, .inl (cA, 4, .inl rulf)), (so, .inr (3, [.ref rowo, .ref talo, .ref plao, .ref leno, .ref jo, .ref mo, .int srec_9, .int spol_9, .int slea_9, .int sdep_9, .int sinr_9, .int swai_9])), (rowo, .inr (0, [.ref rowv])), (rowv, .inl (cA, 96, .inl rowf_9)), (talo, .inr (0, [.ref talv])), (talv, .inl (cA, 12, .inl talf_9)), (jo, .inr (1, [.ref talo, .int jord_9]))] (some (.int r0)) := by
  refine Ct.of (cc := cX5_put) (maxL := 4) (ret := (some .int)) (by decide) rfl (Nat.le_of_ble_eq_true rfl) ?_
  intro p e s m below meth c A ls hcx hG hst hA hP hD hl
  obtain ⟨hx, hb, hml, hown, hts, hr, hlocks⟩ := id hcx
  have hown : s.vm.findClass RX5 = some m.cls := hown
  have hS : va_S A s.heap s.heap [] := va_S.rf
  have hl : lv_has ls 4 [(0, .ref xo), (1, .int a1), (2, .int a2)] := hl
  have hinX5 : ∀ w ∈ u_ws RX5 TX5 9, w ∈ wsX5_put := by decide +kernel
  have fl22 := hts (.fieldLink RX5 22 "RunSorter" "laid" "LRunSorter$Cells;") (by decide +kernel)
  unfold mX5_put at h
  refine lv_aload_n hx hb dX5_put_0 rfl (lv_at hl 0 rfl) ?_
  refine lv_iload_n hx hb dX5_put_1 rfl (lv_at hl 1 rfl) ?_
  obtain ⟨r2, hc2, h⟩ := bd1_some h
  refine ct_V (As := [.int a1]) (rest := []) (st1 := [.int r2]) (wf := [(xo, .inr (5, [.ref txto, .int xlet, .ref laio, .int xrec, .ref rulo, .ref so, .ref oso, .ref ajo, .ref aso])), (laio, .inr (0, [.ref laiv])), (laiv, .inl (cA, 96, .inl laif)), (rulo, .inr (0, [.ref rulv])), (rulv, .inl (cA, 4, .inl rulf)), (so, .inr (3, [.ref rowo, .ref talo, .ref plao, .ref leno, .ref jo, .ref mo, .int srec, .int spol, .int slea, .int sdep, .int sinr, .int swai])), (rowo, .inr (0, [.ref rowv])), (rowv, .inl (cA, 96, .inl rowf)), (talo, .inr (0, [.ref talv])), (talv, .inl (cA, 12, .inl talf)), (jo, .inr (1, [.ref talo, .int jord]))]) (kX5_isNoPlace l D cA F xo txto laio rulo so oso ajo aso  xlet xrec a1 r2 hc2) ⟨hx, hb, hml, hown, hts⟩ (cwV 1 hts gX5_put_X5_isNoPlace rfl rfl rfl (by decide +kernel) ⟨Nat.le_of_ble_eq_true rfl, Nat.le_of_ble_eq_true rfl⟩) hG hst hP hD hS hA 5 rfl rfl rfl [0] [1, 2, 3, 4, 5, 6, 7, 8, 9, 10] [10, 0, 1, 2, 3, 4, 5, 6, 7, 8, 9] rfl rfl rfl rfl rfl rfl hl.1 rfl rfl (Nat.le_of_ble_eq_true rfl) dX5_put_2 ⟨Nat.zero_le _, Nat.zero_le _⟩ (fun H locs hP hD hS => ?_)
  refine lv_if_ne (tgt := 15) hx hb dX5_put_5 (by decide) (fun c5 => ?_) (fun c5 => ?_)
  · have h := i_f c5 h
    refine lv_iconst (v := (-1 : Int32)) hx hb dX5_put_15 (by decide) ?_
    cases h
    exact rt_i hx hb hr hlocks hP hD hS dX5_put_16
  · have h := i_t c5 h
    refine lv_iload_n hx hb dX5_put_8 rfl (lv_at hl 2 rfl) ?_
    obtain ⟨r9, hc9, h⟩ := bd1_some h
    refine ct_S (As := [.int a2]) (rest := []) (st1 := [.int r9]) (wf := [(xo, .inr (5, [.ref txto, .int xlet, .ref laio, .int xrec, .ref rulo, .ref so, .ref oso, .ref ajo, .ref aso])), (laio, .inr (0, [.ref laiv])), (laiv, .inl (cA, 96, .inl laif)), (rulo, .inr (0, [.ref rulv])), (rulv, .inl (cA, 4, .inl rulf)), (so, .inr (3, [.ref rowo, .ref talo, .ref plao, .ref leno, .ref jo, .ref mo, .int srec, .int spol, .int slea, .int sdep, .int sinr, .int swai])), (rowo, .inr (0, [.ref rowv])), (rowv, .inl (cA, 96, .inl rowf)), (talo, .inr (0, [.ref talv])), (talv, .inl (cA, 12, .inl talf)), (jo, .inr (1, [.ref talo, .int jord]))]) (kX5_isNoKey l D cA F    a2 r9 hc9) ⟨hx, hb, hml, hown, hts⟩ (va_cwS 1 hts gX5_put_X5_isNoKey rfl rfl rfl (by decide +kernel) ⟨Nat.le_of_ble_eq_true rfl, Nat.le_of_ble_eq_true rfl⟩) hG hst hP hD hS hA [] [0, 1, 2, 3, 4, 5, 6, 7, 8, 9, 10] [0, 1, 2, 3, 4, 5, 6, 7, 8, 9, 10] rfl rfl rfl rfl rfl rfl hl.1 rfl rfl (Nat.le_of_ble_eq_true rfl) dX5_put_9 ⟨Nat.zero_le _, Nat.zero_le _⟩ (fun H locs hP hD hS => ?_)
    refine lv_if_eq (tgt := 17) hx hb dX5_put_12 (by decide) (fun c12 => ?_) (fun c12 => ?_)
    · have h := i_t c12 h
      refine lv_aload_n hx hb dX5_put_17 rfl (lv_at hl 0 rfl) ?_
      refine va_get (D := D) (cl := vwCl) (ci := 5) (v := .ref laio) (C := RX5) (T := TX5) (N := 9) hx hb hts hinX5 hown hG.1 hP 0 rfl rfl 2 (by decide) fl22 (fun _ h9 => h9) rfl dX5_put_18 ?_
      refine lv_iload_n hx hb dX5_put_21 rfl (lv_at hl 1 rfl) ?_
      obtain ⟨r22, hc22, h⟩ := bd1_some h
      refine ct_VN (As := [.int a1]) (rest := []) (st1 := [.int r22]) (wf := [(xo, .inr (5, [.ref txto, .int xlet, .ref laio, .int xrec, .ref rulo, .ref so, .ref oso, .ref ajo, .ref aso])), (laio, .inr (0, [.ref laiv])), (laiv, .inl (cA, 96, .inl laif)), (rulo, .inr (0, [.ref rulv])), (rulv, .inl (cA, 4, .inl rulf)), (so, .inr (3, [.ref rowo, .ref talo, .ref plao, .ref leno, .ref jo, .ref mo, .int srec, .int spol, .int slea, .int sdep, .int sinr, .int swai])), (rowo, .inr (0, [.ref rowv])), (rowv, .inl (cA, 96, .inl rowf)), (talo, .inr (0, [.ref talv])), (talv, .inl (cA, 12, .inl talf)), (jo, .inr (1, [.ref talo, .int jord]))]) (kX0_look l D cA F laio laiv 96 laif a1 r22 hc22) ⟨hx, hb, hml, hown, hts⟩ ⟨va_cnB 1 hts gX5_put_X0_look_n84 rfl rfl rfl (hG.2.m 10 rfl) (hts (.initialized RX0) (by decide +kernel)) (by decide +kernel) ⟨Nat.le_of_ble_eq_true rfl, Nat.le_of_ble_eq_true rfl⟩, hts (.instanceMethod yX0_look) (by decide +kernel), hts (.selects RX0 yX0_look yX0_look) (by decide +kernel)⟩ hG hst hP hD hS hA 0 rfl rfl rfl [1, 2] [0, 3, 4, 5, 6, 7, 8, 9, 10] [0, 9, 10, 1, 2, 3, 4, 5, 6, 7, 8] rfl rfl rfl rfl rfl rfl hl.1 rfl rfl (Nat.le_of_ble_eq_true rfl) dX5_put_22 ⟨Nat.zero_le _, Nat.zero_le _⟩ (fun H locs hP hD hS => ?_)
      obtain ⟨r25, hc25, h⟩ := bd1_some h
      refine ct_S (As := [.int r22]) (rest := []) (st1 := [.int r25]) (wf := [(xo, .inr (5, [.ref txto, .int xlet, .ref laio, .int xrec, .ref rulo, .ref so, .ref oso, .ref ajo, .ref aso])), (laio, .inr (0, [.ref laiv])), (laiv, .inl (cA, 96, .inl laif)), (rulo, .inr (0, [.ref rulv])), (rulv, .inl (cA, 4, .inl rulf)), (so, .inr (3, [.ref rowo, .ref talo, .ref plao, .ref leno, .ref jo, .ref mo, .int srec, .int spol, .int slea, .int sdep, .int sinr, .int swai])), (rowo, .inr (0, [.ref rowv])), (rowv, .inl (cA, 96, .inl rowf)), (talo, .inr (0, [.ref talv])), (talv, .inl (cA, 12, .inl talf)), (jo, .inr (1, [.ref talo, .int jord]))]) (kX5_keyOf l D cA F    r22 r25 hc25) ⟨hx, hb, hml, hown, hts⟩ (va_cwS 1 hts gX5_put_X5_keyOf rfl rfl rfl (by decide +kernel) ⟨Nat.le_of_ble_eq_true rfl, Nat.le_of_ble_eq_true rfl⟩) hG hst hP hD hS hA [] [0, 1, 2, 3, 4, 5, 6, 7, 8, 9, 10] [0, 1, 2, 3, 4, 5, 6, 7, 8, 9, 10] rfl rfl rfl rfl rfl rfl hl.1 rfl rfl (Nat.le_of_ble_eq_true rfl) dX5_put_25 ⟨Nat.zero_le _, Nat.zero_le _⟩ (fun H locs hP hD hS => ?_)
      refine lv_istore_n (lv' := [(3, .int r25), (0, .ref xo), (1, .int a1), (2, .int a2)]) hx hb dX5_put_28 rfl hl (by decide) rfl (fun ls hl => ?_)
      refine lv_iload_n hx hb dX5_put_29 rfl (lv_at hl 0 rfl) ?_
      refine lv_iload_n hx hb dX5_put_30 rfl (lv_at hl 3 rfl) ?_
      refine lv_icmp_ne (tgt := 37) hx hb dX5_put_31 (by decide) (fun c31 => ?_) (fun c31 => ?_)
      · have h := i_f c31 h
        refine lv_aload_n hx hb dX5_put_37 rfl (lv_at hl 1 rfl) ?_
        refine va_get (D := D) (cl := vwCl) (ci := 5) (v := .ref laio) (C := RX5) (T := TX5) (N := 9) hx hb hts hinX5 hown hG.1 hP 0 rfl rfl 2 (by decide) fl22 (fun _ h9 => h9) rfl dX5_put_38 ?_
        refine lv_iload_n hx hb dX5_put_41 rfl (lv_at hl 2 rfl) ?_
        refine lv_iload_n hx hb dX5_put_42 rfl (lv_at hl 3 rfl) ?_
        refine lv_iload_n hx hb dX5_put_43 rfl (lv_at hl 2 rfl) ?_
        obtain ⟨r44, hc44, h⟩ := bd1_some h
        refine ct_S (As := [.int a2, .int a1]) (rest := [.int a1, .ref laio]) (st1 := [.int r44, .int a1, .ref laio]) (wf := [(xo, .inr (5, [.ref txto, .int xlet, .ref laio, .int xrec, .ref rulo, .ref so, .ref oso, .ref ajo, .ref aso])), (laio, .inr (0, [.ref laiv])), (laiv, .inl (cA, 96, .inl laif)), (rulo, .inr (0, [.ref rulv])), (rulv, .inl (cA, 4, .inl rulf)), (so, .inr (3, [.ref rowo, .ref talo, .ref plao, .ref leno, .ref jo, .ref mo, .int srec, .int spol, .int slea, .int sdep, .int sinr, .int swai])), (rowo, .inr (0, [.ref rowv])), (rowv, .inl (cA, 96, .inl rowf)), (talo, .inr (0, [.ref talv])), (talv, .inl (cA, 12, .inl talf)), (jo, .inr (1, [.ref talo, .int jord]))]) (kX5_recordOf l D cA F    a2 a1 r44 hc44) ⟨hx, hb, hml, hown, hts⟩ (va_cwS 2 hts gX5_put_X5_recordOf rfl rfl rfl (by decide +kernel) ⟨Nat.le_of_ble_eq_true rfl, Nat.le_of_ble_eq_true rfl⟩) hG hst hP hD hS hA [] [0, 1, 2, 3, 4, 5, 6, 7, 8, 9, 10] [0, 1, 2, 3, 4, 5, 6, 7, 8, 9, 10] rfl rfl rfl rfl rfl rfl hl.1 rfl rfl (Nat.le_of_ble_eq_true rfl) dX5_put_44 ⟨Nat.zero_le _, Nat.zero_le _⟩ (fun H locs hP hD hS => ?_)
        obtain ⟨laif_47, hc47, h⟩ := bd1_some h
        refine ct_VN (As := [.int a1, .int r44]) (rest := []) (st1 := []) (wf := [(xo, .inr (5, [.ref txto, .int xlet, .ref laio, .int xrec, .ref rulo, .ref so, .ref oso, .ref ajo, .ref aso])), (laio, .inr (0, [.ref laiv])), (laiv, .inl (cA, 96, .inl laif_47)), (rulo, .inr (0, [.ref rulv])), (rulv, .inl (cA, 4, .inl rulf)), (so, .inr (3, [.ref rowo, .ref talo, .ref plao, .ref leno, .ref jo, .ref mo, .int srec, .int spol, .int slea, .int sdep, .int sinr, .int swai])), (rowo, .inr (0, [.ref rowv])), (rowv, .inl (cA, 96, .inl rowf)), (talo, .inr (0, [.ref talv])), (talv, .inl (cA, 12, .inl talf)), (jo, .inr (1, [.ref talo, .int jord]))]) (kX0_fill l D cA F laio laiv 96 laif a1 r44 laif_47 hc47) ⟨hx, hb, hml, hown, hts⟩ ⟨va_cnB 2 hts gX5_put_X0_fill_n57 rfl rfl rfl (hG.2.m 9 rfl) (hts (.initialized RX0) (by decide +kernel)) (by decide +kernel) ⟨Nat.le_of_ble_eq_true rfl, Nat.le_of_ble_eq_true rfl⟩, hts (.instanceMethod yX0_fill) (by decide +kernel), hts (.selects RX0 yX0_fill yX0_fill) (by decide +kernel)⟩ hG hst hP hD hS hA 0 rfl rfl rfl [1, 2] [0, 3, 4, 5, 6, 7, 8, 9, 10] [0, 9, 10, 1, 2, 3, 4, 5, 6, 7, 8] rfl rfl rfl rfl rfl rfl hl.1 rfl rfl (Nat.le_of_ble_eq_true rfl) dX5_put_47 ⟨Nat.zero_le _, Nat.zero_le _⟩ (fun H locs hP hD hS => ?_)
        refine lv_aload_n hx hb dX5_put_50 rfl (lv_at hl 1 rfl) ?_
        obtain ⟨srec_51, spol_51, slea_51, sdep_51, sinr_51, swai_51, rowf_51, talf_51, jord_51, hc51, h⟩ := bd9_some h
        refine ct_V (As := []) (rest := []) (st1 := []) (wf := [(xo, .inr (5, [.ref txto, .int xlet, .ref laio, .int xrec, .ref rulo, .ref so, .ref oso, .ref ajo, .ref aso])), (laio, .inr (0, [.ref laiv])), (laiv, .inl (cA, 96, .inl laif_47)), (rulo, .inr (0, [.ref rulv])), (rulv, .inl (cA, 4, .inl rulf)), (so, .inr (3, [.ref rowo, .ref talo, .ref plao, .ref leno, .ref jo, .ref mo, .int srec_51, .int spol_51, .int slea_51, .int sdep_51, .int sinr_51, .int swai_51])), (rowo, .inr (0, [.ref rowv])), (rowv, .inl (cA, 96, .inl rowf_51)), (talo, .inr (0, [.ref talv])), (talv, .inl (cA, 12, .inl talf_51)), (jo, .inr (1, [.ref talo, .int jord_51]))]) (kX5_beginAnew l D cA F xo txto laio rulo so oso ajo aso laiv rulv rowo talo plao leno jo mo rowv talv  xlet xrec laif_47 rulf srec spol slea sdep sinr swai rowf talf jord  srec_51 spol_51 slea_51 sdep_51 sinr_51 swai_51 rowf_51 talf_51 jord_51 hc51) ⟨hx, hb, hml, hown, hts⟩ (cwV 0 hts gX5_put_X5_beginAnew rfl rfl rfl (by decide +kernel) ⟨Nat.le_of_ble_eq_true rfl, Nat.le_of_ble_eq_true rfl⟩) hG hst hP hD hS hA 5 rfl rfl rfl [0, 1, 2, 3, 4, 5, 6, 7, 8, 9, 10] [] [0, 1, 2, 3, 4, 5, 6, 7, 8, 9, 10] rfl rfl rfl rfl rfl rfl hl.1 rfl rfl (Nat.le_of_ble_eq_true rfl) dX5_put_51 ⟨Nat.zero_le _, Nat.zero_le _⟩ (fun H locs hP hD hS => ?_)
        refine lv_iload_n hx hb dX5_put_54 rfl (lv_at hl 0 rfl) ?_
        cases h
        exact rt_i hx hb hr hlocks hP hD hS dX5_put_55
      · have h := i_t c31 h
        refine lv_bipush (v := (-2 : Int32)) hx hb dX5_put_34 (by decide) ?_
        cases h
        exact rt_i hx hb hr hlocks hP hD hS dX5_put_36
    · have h := i_f c12 h
      refine lv_iconst (v := (-1 : Int32)) hx hb dX5_put_15 (by decide) ?_
      cases h
      exact rt_i hx hb hr hlocks hP hD hS dX5_put_16
set_option maxHeartbeats 4000000 in
set_option maxRecDepth 100000 in
theorem kX5_start (l : Launch) (D : va_G) (cA : ClassId) (F : Nat) (xo : Nat) (txto : Nat) (laio : Nat) (rulo : Nat) (so : Nat) (oso : Nat) (ajo : Nat) (aso : Nat) (laiv : Nat) (rulv : Nat) (rowo : Nat) (talo : Nat) (plao : Nat) (leno : Nat) (jo : Nat) (mo : Nat) (rowv : Nat) (talv : Nat) (xlet : Int32) (xrec : Int32) (laif : (Nat → Int32)) (rulf : (Nat → Int32)) (srec : Int32) (spol : Int32) (slea : Int32) (sdep : Int32) (sinr : Int32) (swai : Int32) (rowf : (Nat → Int32)) (talf : (Nat → Int32)) (jord : Int32) (r0 : Int32) (srec_9 : Int32) (spol_9 : Int32) (slea_9 : Int32) (sdep_9 : Int32) (sinr_9 : Int32) (swai_9 : Int32) (rowf_9 : (Nat → Int32)) (talf_9 : (Nat → Int32)) (jord_9 : Int32) (h : mX5_start F xrec laif rulf srec spol slea sdep sinr swai rowf talf jord = some (r0, srec_9, spol_9, slea_9, sdep_9, sinr_9, swai_9, rowf_9, talf_9, jord_9)) : Ct l yX5_start wsX5_start ({ frames := 4, cells := 0, slots := 0, locals := 88 }) D cA [.ref xo] [(xo, .inr (5, [.ref txto, .int xlet, .ref laio, .int xrec, .ref rulo, .ref so, .ref oso, .ref ajo, .ref aso])), (laio, .inr (0, [.ref laiv])), (laiv, .inl (cA, 96, .inl laif)), (rulo, .inr (0, [.ref rulv])), (rulv, .inl (cA, 4, .inl rulf)), (so, .inr (3, [.ref rowo, .ref talo, .ref plao, .ref leno, .ref jo, .ref mo, .int srec, .int spol, .int slea, .int sdep, .int sinr, .int swai])), (rowo, .inr (0, [.ref rowv])), (rowv, .inl (cA, 96, .inl rowf)), (talo, .inr (0, [.ref talv])), (talv, .inl (cA, 12, .inl talf)), (jo, .inr (1, [.ref talo, .int jord]))] [(xo, .inr (5, [.ref txto, .int xlet, .ref laio, .int xrec, .ref rulo, .ref so, .ref oso, .ref ajo, .ref aso])), (laio, .inr (0, [.ref laiv])), (laiv, .inl (cA, 96, .inl laif)), (rulo, .inr (0, [.ref rulv])), (rulv, .inl (cA, 4, .inl rulf)), (so, .inr (3, [.ref rowo, .ref talo, .ref plao, .ref leno, .ref jo, .ref mo, .int srec_9, .int spol_9, .int slea_9, .int sdep_9, .int sinr_9, .int swai_9])), (rowo, .inr (0, [.ref rowv])), (rowv, .inl (cA, 96, .inl rowf_9)), (talo, .inr (0, [.ref talv])), (talv, .inl (cA, 12, .inl talf_9)), (jo, .inr (1, [.ref talo, .int jord_9]))] (some (.int r0)) := by
  refine Ct.of (cc := cX5_start) (maxL := 2) (ret := (some .int)) (by decide) rfl (Nat.le_of_ble_eq_true rfl) ?_
  intro p e s m below meth c A ls hcx hG hst hA hP hD hl
  obtain ⟨hx, hb, hml, hown, hts, hr, hlocks⟩ := id hcx
  have hown : s.vm.findClass RX5 = some m.cls := hown
  have hS : va_S A s.heap s.heap [] := va_S.rf
  have hl : lv_has ls 2 [(0, .ref xo)] := hl
  have hinX3 : ∀ w ∈ u_ws RX3 TX3 12, w ∈ wsX5_start := by decide +kernel
  have hinX5 : ∀ w ∈ u_ws RX5 TX5 9, w ∈ wsX5_start := by decide +kernel
  have fl34 := hts (.fieldLink RX5 34 "RunSorter" "sorter" "LRunSorter$Sorter;") (by decide +kernel)
  unfold mX5_start at h
  refine lv_aload_n hx hb dX5_start_0 rfl (lv_at hl 0 rfl) ?_
  refine va_get (D := D) (cl := vwCl) (ci := 5) (v := .ref so) (C := RX5) (T := TX5) (N := 9) hx hb hts hinX5 hown hG.1 hP 0 rfl rfl 5 (by decide) fl34 (fun _ h9 => h9) rfl dX5_start_1 ?_
  refine va_getN (D := D) (cl := vwCl) (ci := 3) (v := .ref talo) (C := RX3) (T := TX3) (N := 12) hx hb hts hinX3 hown hG.1 hP 5 rfl rfl 1 (by decide) (hG.2.f 7 rfl) (fun _ h9 => h9) rfl dX5_start_4 ?_
  refine lv_bipush (v := (11 : Int32)) hx hb dX5_start_7 (by decide) ?_
  obtain ⟨r9, hc9, h⟩ := bd1_some h
  refine ct_VN (As := [.int (11 : Int32)]) (rest := []) (st1 := [.int r9]) (wf := [(xo, .inr (5, [.ref txto, .int xlet, .ref laio, .int xrec, .ref rulo, .ref so, .ref oso, .ref ajo, .ref aso])), (laio, .inr (0, [.ref laiv])), (laiv, .inl (cA, 96, .inl laif)), (rulo, .inr (0, [.ref rulv])), (rulv, .inl (cA, 4, .inl rulf)), (so, .inr (3, [.ref rowo, .ref talo, .ref plao, .ref leno, .ref jo, .ref mo, .int srec, .int spol, .int slea, .int sdep, .int sinr, .int swai])), (rowo, .inr (0, [.ref rowv])), (rowv, .inl (cA, 96, .inl rowf)), (talo, .inr (0, [.ref talv])), (talv, .inl (cA, 12, .inl talf)), (jo, .inr (1, [.ref talo, .int jord]))]) (kX0_look l D cA F talo talv 12 talf (11 : Int32) r9 hc9) ⟨hx, hb, hml, hown, hts⟩ ⟨va_cnB 1 hts gX5_start_X0_look_n84 rfl rfl rfl (hG.2.m 10 rfl) (hts (.initialized RX0) (by decide +kernel)) (by decide +kernel) ⟨Nat.le_of_ble_eq_true rfl, Nat.le_of_ble_eq_true rfl⟩, hts (.instanceMethod yX0_look) (by decide +kernel), hts (.selects RX0 yX0_look yX0_look) (by decide +kernel)⟩ hG hst hP hD hS hA 0 rfl rfl rfl [8, 9] [0, 1, 2, 3, 4, 5, 6, 7, 10] [0, 1, 2, 3, 4, 5, 6, 7, 9, 10, 8] rfl rfl rfl rfl rfl rfl hl.1 rfl rfl (Nat.le_of_ble_eq_true rfl) dX5_start_9 ⟨Nat.zero_le _, Nat.zero_le _⟩ (fun H locs hP hD hS => ?_)
  refine lv_istore_n (lv' := [(1, .int r9), (0, .ref xo)]) hx hb dX5_start_12 rfl hl (by decide) rfl (fun ls hl => ?_)
  refine lv_aload_n hx hb dX5_start_13 rfl (lv_at hl 1 rfl) ?_
  obtain ⟨srec_14, spol_14, slea_14, sdep_14, sinr_14, swai_14, rowf_14, talf_14, jord_14, hc14, h⟩ := bd9_some h
  refine ct_V (As := []) (rest := []) (st1 := []) (wf := [(xo, .inr (5, [.ref txto, .int xlet, .ref laio, .int xrec, .ref rulo, .ref so, .ref oso, .ref ajo, .ref aso])), (laio, .inr (0, [.ref laiv])), (laiv, .inl (cA, 96, .inl laif)), (rulo, .inr (0, [.ref rulv])), (rulv, .inl (cA, 4, .inl rulf)), (so, .inr (3, [.ref rowo, .ref talo, .ref plao, .ref leno, .ref jo, .ref mo, .int srec_14, .int spol_14, .int slea_14, .int sdep_14, .int sinr_14, .int swai_14])), (rowo, .inr (0, [.ref rowv])), (rowv, .inl (cA, 96, .inl rowf_14)), (talo, .inr (0, [.ref talv])), (talv, .inl (cA, 12, .inl talf_14)), (jo, .inr (1, [.ref talo, .int jord_14]))]) (kX5_beginAnew l D cA F xo txto laio rulo so oso ajo aso laiv rulv rowo talo plao leno jo mo rowv talv  xlet xrec laif rulf srec spol slea sdep sinr swai rowf talf jord  srec_14 spol_14 slea_14 sdep_14 sinr_14 swai_14 rowf_14 talf_14 jord_14 hc14) ⟨hx, hb, hml, hown, hts⟩ (cwV 0 hts gX5_start_X5_beginAnew rfl rfl rfl (by decide +kernel) ⟨Nat.le_of_ble_eq_true rfl, Nat.le_of_ble_eq_true rfl⟩) hG hst hP hD hS hA 5 rfl rfl rfl [0, 1, 2, 3, 4, 5, 6, 7, 8, 9, 10] [] [0, 1, 2, 3, 4, 5, 6, 7, 8, 9, 10] rfl rfl rfl rfl rfl rfl hl.1 rfl rfl (Nat.le_of_ble_eq_true rfl) dX5_start_14 ⟨Nat.zero_le _, Nat.zero_le _⟩ (fun H locs hP hD hS => ?_)
  refine lv_iload_n hx hb dX5_start_17 rfl (lv_at hl 0 rfl) ?_
  cases h
  exact rt_i hx hb hr hlocks hP hD hS dX5_start_18
