/-! contracts, by program (wip/whole/gen.py) -/
set_option maxHeartbeats 4000000 in
set_option maxRecDepth 100000 in
theorem kX3_pushWaiting (l : Launch) (D : va_G) (cA : ClassId) (F : Nat) (so : Nat) (rowo : Nat) (talo : Nat) (plao : Nat) (leno : Nat) (jo : Nat) (mo : Nat) (talv : Nat) (plav : Nat) (lenv : Nat) (srec : Int32) (spol : Int32) (slea : Int32) (sdep : Int32) (sinr : Int32) (swai : Int32) (talf : (Nat → Int32)) (plaf : (Nat → Int32)) (lenf : (Nat → Int32)) (sdep_9 : Int32) (swai_9 : Int32) (talf_9 : (Nat → Int32)) (plaf_9 : (Nat → Int32)) (lenf_9 : (Nat → Int32)) (h : mX3_pushWaiting F sdep sinr swai talf plaf lenf = some (sdep_9, swai_9, talf_9, plaf_9, lenf_9)) : Ct l yX3_pushWaiting wsX3_pushWaiting ({ frames := 1, cells := 0, slots := 0, locals := 22 }) D cA [.ref so] [(so, .inr (3, [.ref rowo, .ref talo, .ref plao, .ref leno, .ref jo, .ref mo, .int srec, .int spol, .int slea, .int sdep, .int sinr, .int swai])), (talo, .inr (0, [.ref talv])), (talv, .inl (cA, 12, .inl talf)), (plao, .inr (0, [.ref plav])), (plav, .inl (cA, 96, .inl plaf)), (leno, .inr (0, [.ref lenv])), (lenv, .inl (cA, 96, .inl lenf))] [(so, .inr (3, [.ref rowo, .ref talo, .ref plao, .ref leno, .ref jo, .ref mo, .int srec, .int spol, .int slea, .int sdep_9, .int sinr, .int swai_9])), (talo, .inr (0, [.ref talv])), (talv, .inl (cA, 12, .inl talf_9)), (plao, .inr (0, [.ref plav])), (plav, .inl (cA, 96, .inl plaf_9)), (leno, .inr (0, [.ref lenv])), (lenv, .inl (cA, 96, .inl lenf_9))] (none) := by
  refine Ct.of (cc := cX3_pushWaiting) (maxL := 1) (ret := none) (by decide) rfl (Nat.le_of_ble_eq_true rfl) ?_
  intro p e s m below meth c A ls hcx hG hst hA hP hD hl
  obtain ⟨hx, hb, hml, hown, hts, hr, hlocks⟩ := id hcx
  have hown : s.vm.findClass RX3 = some m.cls := hown
  have hS : va_S A s.heap s.heap [] := va_S.rf
  have hl : lv_has ls 1 [(0, .ref so)] := hl
  have hinX3 : ∀ w ∈ u_ws RX3 TX3 12, w ∈ wsX3_pushWaiting := by decide +kernel
  have fl23 := hts (.fieldLink RX3 23 "RunSorter$Sorter" "places" "LRunSorter$Cells;") (by decide +kernel)
  have fl57 := hts (.fieldLink RX3 57 "RunSorter$Sorter" "depth" "I") (by decide +kernel)
  have fl60 := hts (.fieldLink RX3 60 "RunSorter$Sorter" "inRuns" "I") (by decide +kernel)
  have fl63 := hts (.fieldLink RX3 63 "RunSorter$Sorter" "waitingLength" "I") (by decide +kernel)
  have fl26 := hts (.fieldLink RX3 26 "RunSorter$Sorter" "lengths" "LRunSorter$Cells;") (by decide +kernel)
  have fl20 := hts (.fieldLink RX3 20 "RunSorter$Sorter" "tally" "LRunSorter$Cells;") (by decide +kernel)
  unfold mX3_pushWaiting at h
  refine lv_aload_n hx hb dX3_pushWaiting_0 rfl (lv_at hl 0 rfl) ?_
  refine va_get (D := D) (cl := vwCl) (ci := 3) (v := .ref plao) (C := RX3) (T := TX3) (N := 12) hx hb hts hinX3 hown hG.1 hP 0 rfl rfl 2 (by decide) fl23 (fun _ h9 => h9) rfl dX3_pushWaiting_1 ?_
  refine lv_aload_n hx hb dX3_pushWaiting_4 rfl (lv_at hl 0 rfl) ?_
  refine va_get (D := D) (cl := vwCl) (ci := 3) (v := .int sdep) (C := RX3) (T := TX3) (N := 12) hx hb hts hinX3 hown hG.1 hP 0 rfl rfl 9 (by decide) fl57 (fun _ h9 => h9) rfl dX3_pushWaiting_5 ?_
  refine lv_aload_n hx hb dX3_pushWaiting_8 rfl (lv_at hl 0 rfl) ?_
  refine va_get (D := D) (cl := vwCl) (ci := 3) (v := .int sinr) (C := RX3) (T := TX3) (N := 12) hx hb hts hinX3 hown hG.1 hP 0 rfl rfl 10 (by decide) fl60 (fun _ h9 => h9) rfl dX3_pushWaiting_9 ?_
  refine lv_aload_n hx hb dX3_pushWaiting_12 rfl (lv_at hl 0 rfl) ?_
  refine va_get (D := D) (cl := vwCl) (ci := 3) (v := .int swai) (C := RX3) (T := TX3) (N := 12) hx hb hts hinX3 hown hG.1 hP 0 rfl rfl 11 (by decide) fl63 (fun _ h9 => h9) rfl dX3_pushWaiting_13 ?_
  refine lv_isub hx hb dX3_pushWaiting_16 ?_
  obtain ⟨plaf_17, hc17, h⟩ := bd1_some h
  refine ct_VN (As := [.int sdep, .int (sinr - swai)]) (rest := []) (st1 := []) (wf := [(so, .inr (3, [.ref rowo, .ref talo, .ref plao, .ref leno, .ref jo, .ref mo, .int srec, .int spol, .int slea, .int sdep, .int sinr, .int swai])), (talo, .inr (0, [.ref talv])), (talv, .inl (cA, 12, .inl talf)), (plao, .inr (0, [.ref plav])), (plav, .inl (cA, 96, .inl plaf_17)), (leno, .inr (0, [.ref lenv])), (lenv, .inl (cA, 96, .inl lenf))]) (kX0_fill l D cA F plao plav 96 plaf sdep (sinr - swai) plaf_17 hc17) ⟨hx, hb, hml, hown, hts⟩ ⟨va_cnB 2 hts gX3_pushWaiting_X0_fill_n70 rfl rfl rfl (hG.2.m 13 rfl) (hts (.initialized RX0) (by decide +kernel)) (by decide +kernel) ⟨Nat.le_of_ble_eq_true rfl, Nat.le_of_ble_eq_true rfl⟩, hts (.instanceMethod yX0_fill) (by decide +kernel), hts (.selects RX0 yX0_fill yX0_fill) (by decide +kernel)⟩ hG hst hP hD hS hA 0 rfl rfl rfl [3, 4] [0, 1, 2, 5, 6] [0, 1, 2, 5, 6, 3, 4] rfl rfl rfl rfl rfl rfl hl.1 rfl rfl (Nat.le_of_ble_eq_true rfl) dX3_pushWaiting_17 ⟨Nat.zero_le _, Nat.zero_le _⟩ (fun H locs hP hD hS => ?_)
  refine lv_aload_n hx hb dX3_pushWaiting_20 rfl (lv_at hl 0 rfl) ?_
  refine va_get (D := D) (cl := vwCl) (ci := 3) (v := .ref leno) (C := RX3) (T := TX3) (N := 12) hx hb hts hinX3 hown hG.1 hP 0 rfl rfl 3 (by decide) fl26 (fun _ h9 => h9) rfl dX3_pushWaiting_21 ?_
  refine lv_aload_n hx hb dX3_pushWaiting_24 rfl (lv_at hl 0 rfl) ?_
  refine va_get (D := D) (cl := vwCl) (ci := 3) (v := .int sdep) (C := RX3) (T := TX3) (N := 12) hx hb hts hinX3 hown hG.1 hP 0 rfl rfl 9 (by decide) fl57 (fun _ h9 => h9) rfl dX3_pushWaiting_25 ?_
  refine lv_aload_n hx hb dX3_pushWaiting_28 rfl (lv_at hl 0 rfl) ?_
  refine va_get (D := D) (cl := vwCl) (ci := 3) (v := .int swai) (C := RX3) (T := TX3) (N := 12) hx hb hts hinX3 hown hG.1 hP 0 rfl rfl 11 (by decide) fl63 (fun _ h9 => h9) rfl dX3_pushWaiting_29 ?_
  obtain ⟨lenf_32, hc32, h⟩ := bd1_some h
  refine ct_VN (As := [.int sdep, .int swai]) (rest := []) (st1 := []) (wf := [(so, .inr (3, [.ref rowo, .ref talo, .ref plao, .ref leno, .ref jo, .ref mo, .int srec, .int spol, .int slea, .int sdep, .int sinr, .int swai])), (talo, .inr (0, [.ref talv])), (talv, .inl (cA, 12, .inl talf)), (plao, .inr (0, [.ref plav])), (plav, .inl (cA, 96, .inl plaf_17)), (leno, .inr (0, [.ref lenv])), (lenv, .inl (cA, 96, .inl lenf_32))]) (kX0_fill l D cA F leno lenv 96 lenf sdep swai lenf_32 hc32) ⟨hx, hb, hml, hown, hts⟩ ⟨va_cnB 2 hts gX3_pushWaiting_X0_fill_n70 rfl rfl rfl (hG.2.m 13 rfl) (hts (.initialized RX0) (by decide +kernel)) (by decide +kernel) ⟨Nat.le_of_ble_eq_true rfl, Nat.le_of_ble_eq_true rfl⟩, hts (.instanceMethod yX0_fill) (by decide +kernel), hts (.selects RX0 yX0_fill yX0_fill) (by decide +kernel)⟩ hG hst hP hD hS hA 0 rfl rfl rfl [5, 6] [0, 1, 2, 3, 4] [0, 1, 2, 3, 4, 5, 6] rfl rfl rfl rfl rfl rfl hl.1 rfl rfl (Nat.le_of_ble_eq_true rfl) dX3_pushWaiting_32 ⟨Nat.zero_le _, Nat.zero_le _⟩ (fun H locs hP hD hS => ?_)
  refine lv_aload_n hx hb dX3_pushWaiting_35 rfl (lv_at hl 0 rfl) ?_
  refine lv_dup hx hb dX3_pushWaiting_36 rfl ?_
  refine va_get (D := D) (cl := vwCl) (ci := 3) (v := .int sdep) (C := RX3) (T := TX3) (N := 12) hx hb hts hinX3 hown hG.1 hP 0 rfl rfl 9 (by decide) fl57 (fun _ h9 => h9) rfl dX3_pushWaiting_37 ?_
  refine lv_iconst (v := (1 : Int32)) hx hb dX3_pushWaiting_40 (by decide) ?_
  refine lv_iadd hx hb dX3_pushWaiting_41 ?_
  refine va_put (D := D) (cl := vwCl) (ci := 3) (v := .int (sdep + (1 : Int32))) (ty := .int) (C := RX3) (T := TX3) (N := 12) hx hb hts hinX3 tyX3 tyX3_ok nmX3 hown hG.1 hP hD hS 0 rfl rfl 9 (by decide) fl57 (fun _ h9 => h9) rfl (by decide +kernel) rfl rfl (Nat.le_of_ble_eq_true rfl) dX3_pushWaiting_42 (fun H locs hP hD hS => ?_)
  have hP : va_P D vwCl [(so, .inr (3, [.ref rowo, .ref talo, .ref plao, .ref leno, .ref jo, .ref mo, .int srec, .int spol, .int slea, .int (sdep + (1 : Int32)), .int sinr, .int swai])), (talo, .inr (0, [.ref talv])), (talv, .inl (cA, 12, .inl talf)), (plao, .inr (0, [.ref plav])), (plav, .inl (cA, 96, .inl plaf_17)), (leno, .inr (0, [.ref lenv])), (lenv, .inl (cA, 96, .inl lenf_32))] H := hP
  have hD : va_D A [(so, .inr (3, [.ref rowo, .ref talo, .ref plao, .ref leno, .ref jo, .ref mo, .int srec, .int spol, .int slea, .int (sdep + (1 : Int32)), .int sinr, .int swai])), (talo, .inr (0, [.ref talv])), (talv, .inl (cA, 12, .inl talf)), (plao, .inr (0, [.ref plav])), (plav, .inl (cA, 96, .inl plaf_17)), (leno, .inr (0, [.ref lenv])), (lenv, .inl (cA, 96, .inl lenf_32))] := hD
  refine lv_aload_n hx hb dX3_pushWaiting_45 rfl (lv_at hl 0 rfl) ?_
  refine lv_iconst (v := (0 : Int32)) hx hb dX3_pushWaiting_46 (by decide) ?_
  refine va_put (D := D) (cl := vwCl) (ci := 3) (v := .int (0 : Int32)) (ty := .int) (C := RX3) (T := TX3) (N := 12) hx hb hts hinX3 tyX3 tyX3_ok nmX3 hown hG.1 hP hD hS 0 rfl rfl 11 (by decide) fl63 (fun _ h9 => h9) rfl (by decide +kernel) rfl rfl (Nat.le_of_ble_eq_true rfl) dX3_pushWaiting_47 (fun H locs hP hD hS => ?_)
  have hP : va_P D vwCl [(so, .inr (3, [.ref rowo, .ref talo, .ref plao, .ref leno, .ref jo, .ref mo, .int srec, .int spol, .int slea, .int (sdep + (1 : Int32)), .int sinr, .int (0 : Int32)])), (talo, .inr (0, [.ref talv])), (talv, .inl (cA, 12, .inl talf)), (plao, .inr (0, [.ref plav])), (plav, .inl (cA, 96, .inl plaf_17)), (leno, .inr (0, [.ref lenv])), (lenv, .inl (cA, 96, .inl lenf_32))] H := hP
  have hD : va_D A [(so, .inr (3, [.ref rowo, .ref talo, .ref plao, .ref leno, .ref jo, .ref mo, .int srec, .int spol, .int slea, .int (sdep + (1 : Int32)), .int sinr, .int (0 : Int32)])), (talo, .inr (0, [.ref talv])), (talv, .inl (cA, 12, .inl talf)), (plao, .inr (0, [.ref plav])), (plav, .inl (cA, 96, .inl plaf_17)), (leno, .inr (0, [.ref lenv])), (lenv, .inl (cA, 96, .inl lenf_32))] := hD
  refine lv_aload_n hx hb dX3_pushWaiting_50 rfl (lv_at hl 0 rfl) ?_
  refine va_get (D := D) (cl := vwCl) (ci := 3) (v := .ref talo) (C := RX3) (T := TX3) (N := 12) hx hb hts hinX3 hown hG.1 hP 0 rfl rfl 1 (by decide) fl20 (fun _ h9 => h9) rfl dX3_pushWaiting_51 ?_
  refine lv_bipush (v := (8 : Int32)) hx hb dX3_pushWaiting_54 (by decide) ?_
  refine lv_aload_n hx hb dX3_pushWaiting_56 rfl (lv_at hl 0 rfl) ?_
  refine va_get (D := D) (cl := vwCl) (ci := 3) (v := .int (sdep + (1 : Int32))) (C := RX3) (T := TX3) (N := 12) hx hb hts hinX3 hown hG.1 hP 0 rfl rfl 9 (by decide) fl57 (fun _ h9 => h9) rfl dX3_pushWaiting_57 ?_
  obtain ⟨talf_60, hc60, h⟩ := bd1_some h
  refine ct_VN (As := [.int (8 : Int32), .int (sdep + (1 : Int32))]) (rest := []) (st1 := []) (wf := [(so, .inr (3, [.ref rowo, .ref talo, .ref plao, .ref leno, .ref jo, .ref mo, .int srec, .int spol, .int slea, .int (sdep + (1 : Int32)), .int sinr, .int (0 : Int32)])), (talo, .inr (0, [.ref talv])), (talv, .inl (cA, 12, .inl talf_60)), (plao, .inr (0, [.ref plav])), (plav, .inl (cA, 96, .inl plaf_17)), (leno, .inr (0, [.ref lenv])), (lenv, .inl (cA, 96, .inl lenf_32))]) (kX0_raise l D cA F talo talv 12 talf (8 : Int32) (sdep + (1 : Int32)) talf_60 hc60) ⟨hx, hb, hml, hown, hts⟩ ⟨va_cnB 2 hts gX3_pushWaiting_X0_raise_n125 rfl rfl rfl (hG.2.m 16 rfl) (hts (.initialized RX0) (by decide +kernel)) (by decide +kernel) ⟨Nat.le_of_ble_eq_true rfl, Nat.le_of_ble_eq_true rfl⟩, hts (.instanceMethod yX0_raise) (by decide +kernel), hts (.selects RX0 yX0_raise yX0_raise) (by decide +kernel)⟩ hG hst hP hD hS hA 0 rfl rfl rfl [1, 2] [0, 3, 4, 5, 6] [0, 5, 6, 1, 2, 3, 4] rfl rfl rfl rfl rfl rfl hl.1 rfl rfl (Nat.le_of_ble_eq_true rfl) dX3_pushWaiting_60 ⟨Nat.zero_le _, Nat.zero_le _⟩ (fun H locs hP hD hS => ?_)
  cases h
  exact rt_v hx hb hr hlocks hP hD hS dX3_pushWaiting_63
set_option maxHeartbeats 4000000 in
set_option maxRecDepth 100000 in
theorem kX3_closeUpBehind (l : Launch) (D : va_G) (cA : ClassId) (F : Nat) (so : Nat) (rowo : Nat) (talo : Nat) (plao : Nat) (leno : Nat) (jo : Nat) (mo : Nat) (talv : Nat) (plav : Nat) (lenv : Nat) (srec : Int32) (spol : Int32) (slea : Int32) (sdep : Int32) (sinr : Int32) (swai : Int32) (talf : (Nat → Int32)) (plaf : (Nat → Int32)) (lenf : (Nat → Int32)) (a1 : Int32) (sdep_9 : Int32) (talf_9 : (Nat → Int32)) (plaf_9 : (Nat → Int32)) (lenf_9 : (Nat → Int32)) (h : mX3_closeUpBehind F sdep talf plaf lenf a1 = some (sdep_9, talf_9, plaf_9, lenf_9)) : Ct l yX3_closeUpBehind wsX3_closeUpBehind ({ frames := 1, cells := 0, slots := 0, locals := 22 }) D cA [.ref so, .int a1] [(so, .inr (3, [.ref rowo, .ref talo, .ref plao, .ref leno, .ref jo, .ref mo, .int srec, .int spol, .int slea, .int sdep, .int sinr, .int swai])), (talo, .inr (0, [.ref talv])), (talv, .inl (cA, 12, .inl talf)), (plao, .inr (0, [.ref plav])), (plav, .inl (cA, 96, .inl plaf)), (leno, .inr (0, [.ref lenv])), (lenv, .inl (cA, 96, .inl lenf))] [(so, .inr (3, [.ref rowo, .ref talo, .ref plao, .ref leno, .ref jo, .ref mo, .int srec, .int spol, .int slea, .int sdep_9, .int sinr, .int swai])), (talo, .inr (0, [.ref talv])), (talv, .inl (cA, 12, .inl talf_9)), (plao, .inr (0, [.ref plav])), (plav, .inl (cA, 96, .inl plaf_9)), (leno, .inr (0, [.ref lenv])), (lenv, .inl (cA, 96, .inl lenf_9))] (none) := by
  refine Ct.of (cc := cX3_closeUpBehind) (maxL := 4) (ret := none) (by decide) rfl (Nat.le_of_ble_eq_true rfl) ?_
  intro p e s m below meth c A ls hcx hG hst hA hP hD hl
  obtain ⟨hx, hb, hml, hown, hts, hr, hlocks⟩ := id hcx
  have hown : s.vm.findClass RX3 = some m.cls := hown
  have hS : va_S A s.heap s.heap [] := va_S.rf
  have hl : lv_has ls 4 [(0, .ref so), (1, .int a1)] := hl
  have hinX3 : ∀ w ∈ u_ws RX3 TX3 12, w ∈ wsX3_closeUpBehind := by decide +kernel
  have fl26 := hts (.fieldLink RX3 26 "RunSorter$Sorter" "lengths" "LRunSorter$Cells;") (by decide +kernel)
  have fl57 := hts (.fieldLink RX3 57 "RunSorter$Sorter" "depth" "I") (by decide +kernel)
  have fl20 := hts (.fieldLink RX3 20 "RunSorter$Sorter" "tally" "LRunSorter$Cells;") (by decide +kernel)
  have fl23 := hts (.fieldLink RX3 23 "RunSorter$Sorter" "places" "LRunSorter$Cells;") (by decide +kernel)
  have hmX3_closeUpBehind_43 : ∀ (n43 : Nat) (x2 : Int32) (x3 : Int32) (sdep : Int32) (talf : (Nat → Int32)) (plaf : (Nat → Int32)) (lenf : (Nat → Int32)) (H : Heap) (locs : List Loc) (ls : Array Slot), mX3_closeUpBehind_43 F n43 x2 x3 sdep talf plaf lenf = some (sdep_9, talf_9, plaf_9, lenf_9) → va_P D vwCl [(so, .inr (3, [.ref rowo, .ref talo, .ref plao, .ref leno, .ref jo, .ref mo, .int srec, .int spol, .int slea, .int sdep, .int sinr, .int swai])), (talo, .inr (0, [.ref talv])), (talv, .inl (cA, 12, .inl talf)), (plao, .inr (0, [.ref plav])), (plav, .inl (cA, 96, .inl plaf)), (leno, .inr (0, [.ref lenv])), (lenv, .inl (cA, 96, .inl lenf))] H → va_D A [(so, .inr (3, [.ref rowo, .ref talo, .ref plao, .ref leno, .ref jo, .ref mo, .int srec, .int spol, .int slea, .int sdep, .int sinr, .int swai])), (talo, .inr (0, [.ref talv])), (talv, .inl (cA, 12, .inl talf)), (plao, .inr (0, [.ref plav])), (plav, .inl (cA, 96, .inl plaf)), (leno, .inr (0, [.ref lenv])), (lenv, .inl (cA, 96, .inl lenf))] → va_S A s.heap H locs → lv_has ls 4 [(0, .ref so), (2, .int x2), (3, .int x3)] → W p l e ({ frames := 1, cells := 0, slots := 0, locals := 22 }) s m ([.ref so, .int a1] : List Value).toArray below meth c H locs 0 0 (MQ below (Qw D A [(so, .inr (3, [.ref rowo, .ref talo, .ref plao, .ref leno, .ref jo, .ref mo, .int srec, .int spol, .int slea, .int sdep_9, .int sinr, .int swai])), (talo, .inr (0, [.ref talv])), (talv, .inl (cA, 12, .inl talf_9)), (plao, .inr (0, [.ref plav])), (plav, .inl (cA, 96, .inl plaf_9)), (leno, .inr (0, [.ref lenv])), (lenv, .inl (cA, 96, .inl lenf_9))] (none)) ([.ref so, .int a1] : List Value).toArray s 0 0 A) (F0 m 43 ls []) := by
    intro n43
    induction n43 with
    | zero => intro x2 x3 sdep talf plaf lenf H locs ls h; exact (no_some h).elim
    | succ n43 ih43 =>
      intro x2 x3 sdep talf plaf lenf H locs ls h hP hD hS hl
      rw [mX3_closeUpBehind_43] at h
      refine lv_iload_n hx hb dX3_closeUpBehind_43 rfl (lv_at hl 2 rfl) ?_
      refine lv_aload_n hx hb dX3_closeUpBehind_44 rfl (lv_at hl 0 rfl) ?_
      refine va_get (D := D) (cl := vwCl) (ci := 3) (v := .int sdep) (C := RX3) (T := TX3) (N := 12) hx hb hts hinX3 hown hG.1 hP 0 rfl rfl 9 (by decide) fl57 (fun _ h9 => h9) rfl dX3_closeUpBehind_45 ?_
      refine lv_icmp_ge (tgt := 93) hx hb dX3_closeUpBehind_48 (by decide) (fun c48 => ?_) (fun c48 => ?_)
      · have h := i_t c48 h
        refine lv_aload_n hx hb dX3_closeUpBehind_93 rfl (lv_at hl 0 rfl) ?_
        refine va_get (D := D) (cl := vwCl) (ci := 3) (v := .ref talo) (C := RX3) (T := TX3) (N := 12) hx hb hts hinX3 hown hG.1 hP 0 rfl rfl 1 (by decide) fl20 (fun _ h9 => h9) rfl dX3_closeUpBehind_94 ?_
        refine lv_iconst (v := (5 : Int32)) hx hb dX3_closeUpBehind_97 (by decide) ?_
        refine lv_iconst (v := (1 : Int32)) hx hb dX3_closeUpBehind_98 (by decide) ?_
        obtain ⟨talf_99, hc99, h⟩ := bd1_some h
        refine ct_VN (As := [.int (5 : Int32), .int (1 : Int32)]) (rest := []) (st1 := []) (wf := [(so, .inr (3, [.ref rowo, .ref talo, .ref plao, .ref leno, .ref jo, .ref mo, .int srec, .int spol, .int slea, .int sdep, .int sinr, .int swai])), (talo, .inr (0, [.ref talv])), (talv, .inl (cA, 12, .inl talf_99)), (plao, .inr (0, [.ref plav])), (plav, .inl (cA, 96, .inl plaf)), (leno, .inr (0, [.ref lenv])), (lenv, .inl (cA, 96, .inl lenf))]) (kX0_add l D cA F talo talv 12 talf (5 : Int32) (1 : Int32) talf_99 hc99) ⟨hx, hb, hml, hown, hts⟩ ⟨va_cnB 2 hts gX3_closeUpBehind_X0_add_n100 rfl rfl rfl (hG.2.m 21 rfl) (hts (.initialized RX0) (by decide +kernel)) (by decide +kernel) ⟨Nat.le_of_ble_eq_true rfl, Nat.le_of_ble_eq_true rfl⟩, hts (.instanceMethod yX0_add) (by decide +kernel), hts (.selects RX0 yX0_add yX0_add) (by decide +kernel)⟩ hG hst hP hD hS hA 0 rfl rfl rfl [1, 2] [0, 3, 4, 5, 6] [0, 5, 6, 1, 2, 3, 4] rfl rfl rfl rfl rfl rfl hl.1 rfl rfl (Nat.le_of_ble_eq_true rfl) dX3_closeUpBehind_99 ⟨Nat.zero_le _, Nat.zero_le _⟩ (fun H locs hP hD hS => ?_)
        refine lv_aload_n hx hb dX3_closeUpBehind_102 rfl (lv_at hl 0 rfl) ?_
        refine va_get (D := D) (cl := vwCl) (ci := 3) (v := .ref talo) (C := RX3) (T := TX3) (N := 12) hx hb hts hinX3 hown hG.1 hP 0 rfl rfl 1 (by decide) fl20 (fun _ h9 => h9) rfl dX3_closeUpBehind_103 ?_
        refine lv_bipush (v := (6 : Int32)) hx hb dX3_closeUpBehind_106 (by decide) ?_
        refine lv_iload_n hx hb dX3_closeUpBehind_108 rfl (lv_at hl 1 rfl) ?_
        obtain ⟨talf_109, hc109, h⟩ := bd1_some h
        refine ct_VN (As := [.int (6 : Int32), .int x2]) (rest := []) (st1 := []) (wf := [(so, .inr (3, [.ref rowo, .ref talo, .ref plao, .ref leno, .ref jo, .ref mo, .int srec, .int spol, .int slea, .int sdep, .int sinr, .int swai])), (talo, .inr (0, [.ref talv])), (talv, .inl (cA, 12, .inl talf_109)), (plao, .inr (0, [.ref plav])), (plav, .inl (cA, 96, .inl plaf)), (leno, .inr (0, [.ref lenv])), (lenv, .inl (cA, 96, .inl lenf))]) (kX0_add l D cA F talo talv 12 talf_99 (6 : Int32) x2 talf_109 hc109) ⟨hx, hb, hml, hown, hts⟩ ⟨va_cnB 2 hts gX3_closeUpBehind_X0_add_n100 rfl rfl rfl (hG.2.m 21 rfl) (hts (.initialized RX0) (by decide +kernel)) (by decide +kernel) ⟨Nat.le_of_ble_eq_true rfl, Nat.le_of_ble_eq_true rfl⟩, hts (.instanceMethod yX0_add) (by decide +kernel), hts (.selects RX0 yX0_add yX0_add) (by decide +kernel)⟩ hG hst hP hD hS hA 0 rfl rfl rfl [1, 2] [0, 3, 4, 5, 6] [0, 5, 6, 1, 2, 3, 4] rfl rfl rfl rfl rfl rfl hl.1 rfl rfl (Nat.le_of_ble_eq_true rfl) dX3_closeUpBehind_109 ⟨Nat.zero_le _, Nat.zero_le _⟩ (fun H locs hP hD hS => ?_)
        cases h
        exact rt_v hx hb hr hlocks hP hD hS dX3_closeUpBehind_112
      · have h := i_f c48 h
        refine lv_aload_n hx hb dX3_closeUpBehind_51 rfl (lv_at hl 0 rfl) ?_
        refine va_get (D := D) (cl := vwCl) (ci := 3) (v := .ref plao) (C := RX3) (T := TX3) (N := 12) hx hb hts hinX3 hown hG.1 hP 0 rfl rfl 2 (by decide) fl23 (fun _ h9 => h9) rfl dX3_closeUpBehind_52 ?_
        refine lv_iload_n hx hb dX3_closeUpBehind_55 rfl (lv_at hl 2 rfl) ?_
        refine lv_aload_n hx hb dX3_closeUpBehind_56 rfl (lv_at hl 0 rfl) ?_
        refine va_get (D := D) (cl := vwCl) (ci := 3) (v := .ref plao) (C := RX3) (T := TX3) (N := 12) hx hb hts hinX3 hown hG.1 hP 0 rfl rfl 2 (by decide) fl23 (fun _ h9 => h9) rfl dX3_closeUpBehind_57 ?_
        refine lv_iload_n hx hb dX3_closeUpBehind_60 rfl (lv_at hl 2 rfl) ?_
        refine lv_iconst (v := (1 : Int32)) hx hb dX3_closeUpBehind_61 (by decide) ?_
        refine lv_iadd hx hb dX3_closeUpBehind_62 ?_
        obtain ⟨r63, hc63, h⟩ := bd1_some h
        refine ct_VN (As := [.int (x3 + (1 : Int32))]) (rest := [.int x3, .ref plao]) (st1 := [.int r63, .int x3, .ref plao]) (wf := [(so, .inr (3, [.ref rowo, .ref talo, .ref plao, .ref leno, .ref jo, .ref mo, .int srec, .int spol, .int slea, .int sdep, .int sinr, .int swai])), (talo, .inr (0, [.ref talv])), (talv, .inl (cA, 12, .inl talf)), (plao, .inr (0, [.ref plav])), (plav, .inl (cA, 96, .inl plaf)), (leno, .inr (0, [.ref lenv])), (lenv, .inl (cA, 96, .inl lenf))]) (kX0_look l D cA F plao plav 96 plaf (x3 + (1 : Int32)) r63 hc63) ⟨hx, hb, hml, hown, hts⟩ ⟨va_cnB 1 hts gX3_closeUpBehind_X0_look_n66 rfl rfl rfl (hG.2.m 12 rfl) (hts (.initialized RX0) (by decide +kernel)) (by decide +kernel) ⟨Nat.le_of_ble_eq_true rfl, Nat.le_of_ble_eq_true rfl⟩, hts (.instanceMethod yX0_look) (by decide +kernel), hts (.selects RX0 yX0_look yX0_look) (by decide +kernel)⟩ hG hst hP hD hS hA 0 rfl rfl rfl [3, 4] [0, 1, 2, 5, 6] [0, 1, 2, 5, 6, 3, 4] rfl rfl rfl rfl rfl rfl hl.1 rfl rfl (Nat.le_of_ble_eq_true rfl) dX3_closeUpBehind_63 ⟨Nat.zero_le _, Nat.zero_le _⟩ (fun H locs hP hD hS => ?_)
        obtain ⟨plaf_66, hc66, h⟩ := bd1_some h
        refine ct_VN (As := [.int x3, .int r63]) (rest := []) (st1 := []) (wf := [(so, .inr (3, [.ref rowo, .ref talo, .ref plao, .ref leno, .ref jo, .ref mo, .int srec, .int spol, .int slea, .int sdep, .int sinr, .int swai])), (talo, .inr (0, [.ref talv])), (talv, .inl (cA, 12, .inl talf)), (plao, .inr (0, [.ref plav])), (plav, .inl (cA, 96, .inl plaf_66)), (leno, .inr (0, [.ref lenv])), (lenv, .inl (cA, 96, .inl lenf))]) (kX0_fill l D cA F plao plav 96 plaf x3 r63 plaf_66 hc66) ⟨hx, hb, hml, hown, hts⟩ ⟨va_cnB 2 hts gX3_closeUpBehind_X0_fill_n70 rfl rfl rfl (hG.2.m 13 rfl) (hts (.initialized RX0) (by decide +kernel)) (by decide +kernel) ⟨Nat.le_of_ble_eq_true rfl, Nat.le_of_ble_eq_true rfl⟩, hts (.instanceMethod yX0_fill) (by decide +kernel), hts (.selects RX0 yX0_fill yX0_fill) (by decide +kernel)⟩ hG hst hP hD hS hA 0 rfl rfl rfl [3, 4] [0, 1, 2, 5, 6] [0, 1, 2, 5, 6, 3, 4] rfl rfl rfl rfl rfl rfl hl.1 rfl rfl (Nat.le_of_ble_eq_true rfl) dX3_closeUpBehind_66 ⟨Nat.zero_le _, Nat.zero_le _⟩ (fun H locs hP hD hS => ?_)
        refine lv_aload_n hx hb dX3_closeUpBehind_69 rfl (lv_at hl 0 rfl) ?_
        refine va_get (D := D) (cl := vwCl) (ci := 3) (v := .ref leno) (C := RX3) (T := TX3) (N := 12) hx hb hts hinX3 hown hG.1 hP 0 rfl rfl 3 (by decide) fl26 (fun _ h9 => h9) rfl dX3_closeUpBehind_70 ?_
        refine lv_iload_n hx hb dX3_closeUpBehind_73 rfl (lv_at hl 2 rfl) ?_
        refine lv_aload_n hx hb dX3_closeUpBehind_74 rfl (lv_at hl 0 rfl) ?_
        refine va_get (D := D) (cl := vwCl) (ci := 3) (v := .ref leno) (C := RX3) (T := TX3) (N := 12) hx hb hts hinX3 hown hG.1 hP 0 rfl rfl 3 (by decide) fl26 (fun _ h9 => h9) rfl dX3_closeUpBehind_75 ?_
        refine lv_iload_n hx hb dX3_closeUpBehind_78 rfl (lv_at hl 2 rfl) ?_
        refine lv_iconst (v := (1 : Int32)) hx hb dX3_closeUpBehind_79 (by decide) ?_
        refine lv_iadd hx hb dX3_closeUpBehind_80 ?_
        obtain ⟨r81, hc81, h⟩ := bd1_some h
        refine ct_VN (As := [.int (x3 + (1 : Int32))]) (rest := [.int x3, .ref leno]) (st1 := [.int r81, .int x3, .ref leno]) (wf := [(so, .inr (3, [.ref rowo, .ref talo, .ref plao, .ref leno, .ref jo, .ref mo, .int srec, .int spol, .int slea, .int sdep, .int sinr, .int swai])), (talo, .inr (0, [.ref talv])), (talv, .inl (cA, 12, .inl talf)), (plao, .inr (0, [.ref plav])), (plav, .inl (cA, 96, .inl plaf_66)), (leno, .inr (0, [.ref lenv])), (lenv, .inl (cA, 96, .inl lenf))]) (kX0_look l D cA F leno lenv 96 lenf (x3 + (1 : Int32)) r81 hc81) ⟨hx, hb, hml, hown, hts⟩ ⟨va_cnB 1 hts gX3_closeUpBehind_X0_look_n66 rfl rfl rfl (hG.2.m 12 rfl) (hts (.initialized RX0) (by decide +kernel)) (by decide +kernel) ⟨Nat.le_of_ble_eq_true rfl, Nat.le_of_ble_eq_true rfl⟩, hts (.instanceMethod yX0_look) (by decide +kernel), hts (.selects RX0 yX0_look yX0_look) (by decide +kernel)⟩ hG hst hP hD hS hA 0 rfl rfl rfl [5, 6] [0, 1, 2, 3, 4] [0, 1, 2, 3, 4, 5, 6] rfl rfl rfl rfl rfl rfl hl.1 rfl rfl (Nat.le_of_ble_eq_true rfl) dX3_closeUpBehind_81 ⟨Nat.zero_le _, Nat.zero_le _⟩ (fun H locs hP hD hS => ?_)
        obtain ⟨lenf_84, hc84, h⟩ := bd1_some h
        refine ct_VN (As := [.int x3, .int r81]) (rest := []) (st1 := []) (wf := [(so, .inr (3, [.ref rowo, .ref talo, .ref plao, .ref leno, .ref jo, .ref mo, .int srec, .int spol, .int slea, .int sdep, .int sinr, .int swai])), (talo, .inr (0, [.ref talv])), (talv, .inl (cA, 12, .inl talf)), (plao, .inr (0, [.ref plav])), (plav, .inl (cA, 96, .inl plaf_66)), (leno, .inr (0, [.ref lenv])), (lenv, .inl (cA, 96, .inl lenf_84))]) (kX0_fill l D cA F leno lenv 96 lenf x3 r81 lenf_84 hc84) ⟨hx, hb, hml, hown, hts⟩ ⟨va_cnB 2 hts gX3_closeUpBehind_X0_fill_n70 rfl rfl rfl (hG.2.m 13 rfl) (hts (.initialized RX0) (by decide +kernel)) (by decide +kernel) ⟨Nat.le_of_ble_eq_true rfl, Nat.le_of_ble_eq_true rfl⟩, hts (.instanceMethod yX0_fill) (by decide +kernel), hts (.selects RX0 yX0_fill yX0_fill) (by decide +kernel)⟩ hG hst hP hD hS hA 0 rfl rfl rfl [5, 6] [0, 1, 2, 3, 4] [0, 1, 2, 3, 4, 5, 6] rfl rfl rfl rfl rfl rfl hl.1 rfl rfl (Nat.le_of_ble_eq_true rfl) dX3_closeUpBehind_84 ⟨Nat.zero_le _, Nat.zero_le _⟩ (fun H locs hP hD hS => ?_)
        refine lv_iinc (v := x3 + (1 : Int32)) (lv' := [(3, .int (x3 + (1 : Int32))), (0, .ref so), (2, .int x2)]) hx hb dX3_closeUpBehind_87 hl (k := 2) rfl (congrArg (fun z => x3 + z) (by decide)) (by decide) rfl (fun ls hl => ?_)
        refine lv_goto (tgt := 43) hx hb dX3_closeUpBehind_90 (by decide) ?_
        exact ih43 x2 (x3 + (1 : Int32)) sdep talf plaf_66 lenf_84 _ _ _ h hP hD hS (lv_sub hl [1, 2, 0] rfl)
  unfold mX3_closeUpBehind at h
  refine lv_aload_n hx hb dX3_closeUpBehind_0 rfl (lv_at hl 0 rfl) ?_
  refine va_get (D := D) (cl := vwCl) (ci := 3) (v := .ref leno) (C := RX3) (T := TX3) (N := 12) hx hb hts hinX3 hown hG.1 hP 0 rfl rfl 3 (by decide) fl26 (fun _ h9 => h9) rfl dX3_closeUpBehind_1 ?_
  refine lv_iload_n hx hb dX3_closeUpBehind_4 rfl (lv_at hl 1 rfl) ?_
  obtain ⟨r5, hc5, h⟩ := bd1_some h
  refine ct_VN (As := [.int a1]) (rest := []) (st1 := [.int r5]) (wf := [(so, .inr (3, [.ref rowo, .ref talo, .ref plao, .ref leno, .ref jo, .ref mo, .int srec, .int spol, .int slea, .int sdep, .int sinr, .int swai])), (talo, .inr (0, [.ref talv])), (talv, .inl (cA, 12, .inl talf)), (plao, .inr (0, [.ref plav])), (plav, .inl (cA, 96, .inl plaf)), (leno, .inr (0, [.ref lenv])), (lenv, .inl (cA, 96, .inl lenf))]) (kX0_look l D cA F leno lenv 96 lenf a1 r5 hc5) ⟨hx, hb, hml, hown, hts⟩ ⟨va_cnB 1 hts gX3_closeUpBehind_X0_look_n66 rfl rfl rfl (hG.2.m 12 rfl) (hts (.initialized RX0) (by decide +kernel)) (by decide +kernel) ⟨Nat.le_of_ble_eq_true rfl, Nat.le_of_ble_eq_true rfl⟩, hts (.instanceMethod yX0_look) (by decide +kernel), hts (.selects RX0 yX0_look yX0_look) (by decide +kernel)⟩ hG hst hP hD hS hA 0 rfl rfl rfl [5, 6] [0, 1, 2, 3, 4] [0, 1, 2, 3, 4, 5, 6] rfl rfl rfl rfl rfl rfl hl.1 rfl rfl (Nat.le_of_ble_eq_true rfl) dX3_closeUpBehind_5 ⟨Nat.zero_le _, Nat.zero_le _⟩ (fun H locs hP hD hS => ?_)
  refine lv_aload_n hx hb dX3_closeUpBehind_8 rfl (lv_at hl 0 rfl) ?_
  refine va_get (D := D) (cl := vwCl) (ci := 3) (v := .ref leno) (C := RX3) (T := TX3) (N := 12) hx hb hts hinX3 hown hG.1 hP 0 rfl rfl 3 (by decide) fl26 (fun _ h9 => h9) rfl dX3_closeUpBehind_9 ?_
  refine lv_iload_n hx hb dX3_closeUpBehind_12 rfl (lv_at hl 1 rfl) ?_
  refine lv_iconst (v := (1 : Int32)) hx hb dX3_closeUpBehind_13 (by decide) ?_
  refine lv_iadd hx hb dX3_closeUpBehind_14 ?_
  obtain ⟨r15, hc15, h⟩ := bd1_some h
  refine ct_VN (As := [.int (a1 + (1 : Int32))]) (rest := [.int r5]) (st1 := [.int r15, .int r5]) (wf := [(so, .inr (3, [.ref rowo, .ref talo, .ref plao, .ref leno, .ref jo, .ref mo, .int srec, .int spol, .int slea, .int sdep, .int sinr, .int swai])), (talo, .inr (0, [.ref talv])), (talv, .inl (cA, 12, .inl talf)), (plao, .inr (0, [.ref plav])), (plav, .inl (cA, 96, .inl plaf)), (leno, .inr (0, [.ref lenv])), (lenv, .inl (cA, 96, .inl lenf))]) (kX0_look l D cA F leno lenv 96 lenf (a1 + (1 : Int32)) r15 hc15) ⟨hx, hb, hml, hown, hts⟩ ⟨va_cnB 1 hts gX3_closeUpBehind_X0_look_n66 rfl rfl rfl (hG.2.m 12 rfl) (hts (.initialized RX0) (by decide +kernel)) (by decide +kernel) ⟨Nat.le_of_ble_eq_true rfl, Nat.le_of_ble_eq_true rfl⟩, hts (.instanceMethod yX0_look) (by decide +kernel), hts (.selects RX0 yX0_look yX0_look) (by decide +kernel)⟩ hG hst hP hD hS hA 0 rfl rfl rfl [5, 6] [0, 1, 2, 3, 4] [0, 1, 2, 3, 4, 5, 6] rfl rfl rfl rfl rfl rfl hl.1 rfl rfl (Nat.le_of_ble_eq_true rfl) dX3_closeUpBehind_15 ⟨Nat.zero_le _, Nat.zero_le _⟩ (fun H locs hP hD hS => ?_)
  refine lv_iadd hx hb dX3_closeUpBehind_18 ?_
  refine lv_istore_n (lv' := [(2, .int (r5 + r15)), (0, .ref so), (1, .int a1)]) hx hb dX3_closeUpBehind_19 rfl hl (by decide) rfl (fun ls hl => ?_)
  refine lv_aload_n hx hb dX3_closeUpBehind_20 rfl (lv_at hl 1 rfl) ?_
  refine va_get (D := D) (cl := vwCl) (ci := 3) (v := .ref leno) (C := RX3) (T := TX3) (N := 12) hx hb hts hinX3 hown hG.1 hP 0 rfl rfl 3 (by decide) fl26 (fun _ h9 => h9) rfl dX3_closeUpBehind_21 ?_
  refine lv_iload_n hx hb dX3_closeUpBehind_24 rfl (lv_at hl 2 rfl) ?_
  refine lv_iload_n hx hb dX3_closeUpBehind_25 rfl (lv_at hl 0 rfl) ?_
  obtain ⟨lenf_26, hc26, h⟩ := bd1_some h
  refine ct_VN (As := [.int a1, .int (r5 + r15)]) (rest := []) (st1 := []) (wf := [(so, .inr (3, [.ref rowo, .ref talo, .ref plao, .ref leno, .ref jo, .ref mo, .int srec, .int spol, .int slea, .int sdep, .int sinr, .int swai])), (talo, .inr (0, [.ref talv])), (talv, .inl (cA, 12, .inl talf)), (plao, .inr (0, [.ref plav])), (plav, .inl (cA, 96, .inl plaf)), (leno, .inr (0, [.ref lenv])), (lenv, .inl (cA, 96, .inl lenf_26))]) (kX0_fill l D cA F leno lenv 96 lenf a1 (r5 + r15) lenf_26 hc26) ⟨hx, hb, hml, hown, hts⟩ ⟨va_cnB 2 hts gX3_closeUpBehind_X0_fill_n70 rfl rfl rfl (hG.2.m 13 rfl) (hts (.initialized RX0) (by decide +kernel)) (by decide +kernel) ⟨Nat.le_of_ble_eq_true rfl, Nat.le_of_ble_eq_true rfl⟩, hts (.instanceMethod yX0_fill) (by decide +kernel), hts (.selects RX0 yX0_fill yX0_fill) (by decide +kernel)⟩ hG hst hP hD hS hA 0 rfl rfl rfl [5, 6] [0, 1, 2, 3, 4] [0, 1, 2, 3, 4, 5, 6] rfl rfl rfl rfl rfl rfl hl.1 rfl rfl (Nat.le_of_ble_eq_true rfl) dX3_closeUpBehind_26 ⟨Nat.zero_le _, Nat.zero_le _⟩ (fun H locs hP hD hS => ?_)
  refine lv_aload_n hx hb dX3_closeUpBehind_29 rfl (lv_at hl 1 rfl) ?_
  refine lv_dup hx hb dX3_closeUpBehind_30 rfl ?_
  refine va_get (D := D) (cl := vwCl) (ci := 3) (v := .int sdep) (C := RX3) (T := TX3) (N := 12) hx hb hts hinX3 hown hG.1 hP 0 rfl rfl 9 (by decide) fl57 (fun _ h9 => h9) rfl dX3_closeUpBehind_31 ?_
  refine lv_iconst (v := (1 : Int32)) hx hb dX3_closeUpBehind_34 (by decide) ?_
  refine lv_isub hx hb dX3_closeUpBehind_35 ?_
  refine va_put (D := D) (cl := vwCl) (ci := 3) (v := .int (sdep - (1 : Int32))) (ty := .int) (C := RX3) (T := TX3) (N := 12) hx hb hts hinX3 tyX3 tyX3_ok nmX3 hown hG.1 hP hD hS 0 rfl rfl 9 (by decide) fl57 (fun _ h9 => h9) rfl (by decide +kernel) rfl rfl (Nat.le_of_ble_eq_true rfl) dX3_closeUpBehind_36 (fun H locs hP hD hS => ?_)
  have hP : va_P D vwCl [(so, .inr (3, [.ref rowo, .ref talo, .ref plao, .ref leno, .ref jo, .ref mo, .int srec, .int spol, .int slea, .int (sdep - (1 : Int32)), .int sinr, .int swai])), (talo, .inr (0, [.ref talv])), (talv, .inl (cA, 12, .inl talf)), (plao, .inr (0, [.ref plav])), (plav, .inl (cA, 96, .inl plaf)), (leno, .inr (0, [.ref lenv])), (lenv, .inl (cA, 96, .inl lenf_26))] H := hP
  have hD : va_D A [(so, .inr (3, [.ref rowo, .ref talo, .ref plao, .ref leno, .ref jo, .ref mo, .int srec, .int spol, .int slea, .int (sdep - (1 : Int32)), .int sinr, .int swai])), (talo, .inr (0, [.ref talv])), (talv, .inl (cA, 12, .inl talf)), (plao, .inr (0, [.ref plav])), (plav, .inl (cA, 96, .inl plaf)), (leno, .inr (0, [.ref lenv])), (lenv, .inl (cA, 96, .inl lenf_26))] := hD
  refine lv_iload_n hx hb dX3_closeUpBehind_39 rfl (lv_at hl 2 rfl) ?_
  refine lv_iconst (v := (1 : Int32)) hx hb dX3_closeUpBehind_40 (by decide) ?_
  refine lv_iadd hx hb dX3_closeUpBehind_41 ?_
  refine lv_istore_n (lv' := [(3, .int (a1 + (1 : Int32))), (2, .int (r5 + r15)), (0, .ref so), (1, .int a1)]) hx hb dX3_closeUpBehind_42 rfl hl (by decide) rfl (fun ls hl => ?_)
  exact hmX3_closeUpBehind_43 F (r5 + r15) (a1 + (1 : Int32)) (sdep - (1 : Int32)) talf plaf lenf_26 _ _ _ h hP hD hS (lv_sub hl [2, 1, 0] rfl)
set_option maxHeartbeats 4000000 in
set_option maxRecDepth 100000 in
theorem kX3_begin (l : Launch) (D : va_G) (cA : ClassId) (F : Nat) (so : Nat) (laio : Nat) (rulo : Nat) (rowo : Nat) (talo : Nat) (plao : Nat) (leno : Nat) (jo : Nat) (mo : Nat) (rowv : Nat) (talv : Nat) (laiv : Nat) (rulv : Nat) (srec : Int32) (spol : Int32) (slea : Int32) (sdep : Int32) (sinr : Int32) (swai : Int32) (rowf : (Nat → Int32)) (talf : (Nat → Int32)) (jord : Int32) (laif : (Nat → Int32)) (rulf : (Nat → Int32)) (a2 : Int32) (a4 : Int32) (srec_9 : Int32) (spol_9 : Int32) (slea_9 : Int32) (sdep_9 : Int32) (sinr_9 : Int32) (swai_9 : Int32) (rowf_9 : (Nat → Int32)) (talf_9 : (Nat → Int32)) (jord_9 : Int32) (h : mX3_begin F srec spol slea sdep sinr swai rowf talf jord laif rulf a2 a4 = some (srec_9, spol_9, slea_9, sdep_9, sinr_9, swai_9, rowf_9, talf_9, jord_9)) : Ct l yX3_begin wsX3_begin ({ frames := 2, cells := 0, slots := 0, locals := 43 }) D cA [.ref so, .ref laio, .int a2, .ref rulo, .int a4] [(so, .inr (3, [.ref rowo, .ref talo, .ref plao, .ref leno, .ref jo, .ref mo, .int srec, .int spol, .int slea, .int sdep, .int sinr, .int swai])), (rowo, .inr (0, [.ref rowv])), (rowv, .inl (cA, 96, .inl rowf)), (talo, .inr (0, [.ref talv])), (talv, .inl (cA, 12, .inl talf)), (jo, .inr (1, [.ref talo, .int jord])), (laio, .inr (0, [.ref laiv])), (laiv, .inl (cA, 96, .inl laif)), (rulo, .inr (0, [.ref rulv])), (rulv, .inl (cA, 4, .inl rulf))] [(so, .inr (3, [.ref rowo, .ref talo, .ref plao, .ref leno, .ref jo, .ref mo, .int srec_9, .int spol_9, .int slea_9, .int sdep_9, .int sinr_9, .int swai_9])), (rowo, .inr (0, [.ref rowv])), (rowv, .inl (cA, 96, .inl rowf_9)), (talo, .inr (0, [.ref talv])), (talv, .inl (cA, 12, .inl talf_9)), (jo, .inr (1, [.ref talo, .int jord_9])), (laio, .inr (0, [.ref laiv])), (laiv, .inl (cA, 96, .inl laif)), (rulo, .inr (0, [.ref rulv])), (rulv, .inl (cA, 4, .inl rulf))] (none) := by
  refine Ct.of (cc := cX3_begin) (maxL := 6) (ret := none) (by decide) rfl (Nat.le_of_ble_eq_true rfl) ?_
  intro p e s m below meth c A ls hcx hG hst hA hP hD hl
  obtain ⟨hx, hb, hml, hown, hts, hr, hlocks⟩ := id hcx
  have hown : s.vm.findClass RX3 = some m.cls := hown
  have hS : va_S A s.heap s.heap [] := va_S.rf
  have hl : lv_has ls 6 [(0, .ref so), (1, .ref laio), (2, .int a2), (3, .ref rulo), (4, .int a4)] := hl
  have hinX1 : ∀ w ∈ u_ws RX1 TX1 2, w ∈ wsX3_begin := by decide +kernel
  have hinX3 : ∀ w ∈ u_ws RX3 TX3 12, w ∈ wsX3_begin := by decide +kernel
  have fl47 := hts (.fieldLink RX3 47 "RunSorter$Sorter" "records" "I") (by decide +kernel)
  have fl51 := hts (.fieldLink RX3 51 "RunSorter$Sorter" "policy" "I") (by decide +kernel)
  have fl54 := hts (.fieldLink RX3 54 "RunSorter$Sorter" "least" "I") (by decide +kernel)
  have fl34 := hts (.fieldLink RX3 34 "RunSorter$Sorter" "judge" "LRunSorter$Judge;") (by decide +kernel)
  have fl57 := hts (.fieldLink RX3 57 "RunSorter$Sorter" "depth" "I") (by decide +kernel)
  have fl60 := hts (.fieldLink RX3 60 "RunSorter$Sorter" "inRuns" "I") (by decide +kernel)
  have fl63 := hts (.fieldLink RX3 63 "RunSorter$Sorter" "waitingLength" "I") (by decide +kernel)
  have fl20 := hts (.fieldLink RX3 20 "RunSorter$Sorter" "tally" "LRunSorter$Cells;") (by decide +kernel)
  have fl14 := hts (.fieldLink RX3 14 "RunSorter$Sorter" "row" "LRunSorter$Cells;") (by decide +kernel)
  have hmX3_begin_3 : ∀ (n3 : Nat) (x5 : Int32) (srec : Int32) (spol : Int32) (slea : Int32) (sdep : Int32) (sinr : Int32) (swai : Int32) (rowf : (Nat → Int32)) (talf : (Nat → Int32)) (jord : Int32) (H : Heap) (locs : List Loc) (ls : Array Slot), mX3_begin_3 F laif rulf a2 a4 n3 x5 srec spol slea sdep sinr swai rowf talf jord = some (srec_9, spol_9, slea_9, sdep_9, sinr_9, swai_9, rowf_9, talf_9, jord_9) → va_P D vwCl [(so, .inr (3, [.ref rowo, .ref talo, .ref plao, .ref leno, .ref jo, .ref mo, .int srec, .int spol, .int slea, .int sdep, .int sinr, .int swai])), (rowo, .inr (0, [.ref rowv])), (rowv, .inl (cA, 96, .inl rowf)), (talo, .inr (0, [.ref talv])), (talv, .inl (cA, 12, .inl talf)), (jo, .inr (1, [.ref talo, .int jord])), (laio, .inr (0, [.ref laiv])), (laiv, .inl (cA, 96, .inl laif)), (rulo, .inr (0, [.ref rulv])), (rulv, .inl (cA, 4, .inl rulf))] H → va_D A [(so, .inr (3, [.ref rowo, .ref talo, .ref plao, .ref leno, .ref jo, .ref mo, .int srec, .int spol, .int slea, .int sdep, .int sinr, .int swai])), (rowo, .inr (0, [.ref rowv])), (rowv, .inl (cA, 96, .inl rowf)), (talo, .inr (0, [.ref talv])), (talv, .inl (cA, 12, .inl talf)), (jo, .inr (1, [.ref talo, .int jord])), (laio, .inr (0, [.ref laiv])), (laiv, .inl (cA, 96, .inl laif)), (rulo, .inr (0, [.ref rulv])), (rulv, .inl (cA, 4, .inl rulf))] → va_S A s.heap H locs → lv_has ls 6 [(0, .ref so), (1, .ref laio), (2, .int a2), (3, .ref rulo), (4, .int a4), (5, .int x5)] → W p l e ({ frames := 2, cells := 0, slots := 0, locals := 43 }) s m ([.ref so, .ref laio, .int a2, .ref rulo, .int a4] : List Value).toArray below meth c H locs 0 0 (MQ below (Qw D A [(so, .inr (3, [.ref rowo, .ref talo, .ref plao, .ref leno, .ref jo, .ref mo, .int srec_9, .int spol_9, .int slea_9, .int sdep_9, .int sinr_9, .int swai_9])), (rowo, .inr (0, [.ref rowv])), (rowv, .inl (cA, 96, .inl rowf_9)), (talo, .inr (0, [.ref talv])), (talv, .inl (cA, 12, .inl talf_9)), (jo, .inr (1, [.ref talo, .int jord_9])), (laio, .inr (0, [.ref laiv])), (laiv, .inl (cA, 96, .inl laif)), (rulo, .inr (0, [.ref rulv])), (rulv, .inl (cA, 4, .inl rulf))] (none)) ([.ref so, .ref laio, .int a2, .ref rulo, .int a4] : List Value).toArray s 0 0 A) (F0 m 3 ls []) := by
    intro n3
    induction n3 with
    | zero => intro x5 srec spol slea sdep sinr swai rowf talf jord H locs ls h; exact (no_some h).elim
    | succ n3 ih3 =>
      intro x5 srec spol slea sdep sinr swai rowf talf jord H locs ls h hP hD hS hl
      rw [mX3_begin_3] at h
      refine lv_iload hx hb dX3_begin_3 (lv_at hl 5 rfl) ?_
      refine lv_iload_n hx hb dX3_begin_5 rfl (lv_at hl 2 rfl) ?_
      refine lv_icmp_ge (tgt := 30) hx hb dX3_begin_6 (by decide) (fun c6 => ?_) (fun c6 => ?_)
      · have h := i_t c6 h
        refine lv_aload_n hx hb dX3_begin_30 rfl (lv_at hl 0 rfl) ?_
        refine lv_iload_n hx hb dX3_begin_31 rfl (lv_at hl 2 rfl) ?_
        refine va_put (D := D) (cl := vwCl) (ci := 3) (v := .int a2) (ty := .int) (C := RX3) (T := TX3) (N := 12) hx hb hts hinX3 tyX3 tyX3_ok nmX3 hown hG.1 hP hD hS 0 rfl rfl 6 (by decide) fl47 (fun _ h9 => h9) rfl (by decide +kernel) rfl rfl (Nat.le_of_ble_eq_true rfl) dX3_begin_32 (fun H locs hP hD hS => ?_)
        have hP : va_P D vwCl [(so, .inr (3, [.ref rowo, .ref talo, .ref plao, .ref leno, .ref jo, .ref mo, .int a2, .int spol, .int slea, .int sdep, .int sinr, .int swai])), (rowo, .inr (0, [.ref rowv])), (rowv, .inl (cA, 96, .inl rowf)), (talo, .inr (0, [.ref talv])), (talv, .inl (cA, 12, .inl talf)), (jo, .inr (1, [.ref talo, .int jord])), (laio, .inr (0, [.ref laiv])), (laiv, .inl (cA, 96, .inl laif)), (rulo, .inr (0, [.ref rulv])), (rulv, .inl (cA, 4, .inl rulf))] H := hP
        have hD : va_D A [(so, .inr (3, [.ref rowo, .ref talo, .ref plao, .ref leno, .ref jo, .ref mo, .int a2, .int spol, .int slea, .int sdep, .int sinr, .int swai])), (rowo, .inr (0, [.ref rowv])), (rowv, .inl (cA, 96, .inl rowf)), (talo, .inr (0, [.ref talv])), (talv, .inl (cA, 12, .inl talf)), (jo, .inr (1, [.ref talo, .int jord])), (laio, .inr (0, [.ref laiv])), (laiv, .inl (cA, 96, .inl laif)), (rulo, .inr (0, [.ref rulv])), (rulv, .inl (cA, 4, .inl rulf))] := hD
        refine lv_aload_n hx hb dX3_begin_35 rfl (lv_at hl 0 rfl) ?_
        refine lv_iload hx hb dX3_begin_36 (lv_at hl 4 rfl) ?_
        refine va_put (D := D) (cl := vwCl) (ci := 3) (v := .int a4) (ty := .int) (C := RX3) (T := TX3) (N := 12) hx hb hts hinX3 tyX3 tyX3_ok nmX3 hown hG.1 hP hD hS 0 rfl rfl 7 (by decide) fl51 (fun _ h9 => h9) rfl (by decide +kernel) rfl rfl (Nat.le_of_ble_eq_true rfl) dX3_begin_38 (fun H locs hP hD hS => ?_)
        have hP : va_P D vwCl [(so, .inr (3, [.ref rowo, .ref talo, .ref plao, .ref leno, .ref jo, .ref mo, .int a2, .int a4, .int slea, .int sdep, .int sinr, .int swai])), (rowo, .inr (0, [.ref rowv])), (rowv, .inl (cA, 96, .inl rowf)), (talo, .inr (0, [.ref talv])), (talv, .inl (cA, 12, .inl talf)), (jo, .inr (1, [.ref talo, .int jord])), (laio, .inr (0, [.ref laiv])), (laiv, .inl (cA, 96, .inl laif)), (rulo, .inr (0, [.ref rulv])), (rulv, .inl (cA, 4, .inl rulf))] H := hP
        have hD : va_D A [(so, .inr (3, [.ref rowo, .ref talo, .ref plao, .ref leno, .ref jo, .ref mo, .int a2, .int a4, .int slea, .int sdep, .int sinr, .int swai])), (rowo, .inr (0, [.ref rowv])), (rowv, .inl (cA, 96, .inl rowf)), (talo, .inr (0, [.ref talv])), (talv, .inl (cA, 12, .inl talf)), (jo, .inr (1, [.ref talo, .int jord])), (laio, .inr (0, [.ref laiv])), (laiv, .inl (cA, 96, .inl laif)), (rulo, .inr (0, [.ref rulv])), (rulv, .inl (cA, 4, .inl rulf))] := hD
        refine lv_aload_n hx hb dX3_begin_41 rfl (lv_at hl 0 rfl) ?_
        refine lv_aload_n hx hb dX3_begin_42 rfl (lv_at hl 3 rfl) ?_
        refine lv_iconst (v := (2 : Int32)) hx hb dX3_begin_43 (by decide) ?_
        obtain ⟨r44, hc44, h⟩ := bd1_some h
        refine ct_VN (As := [.int (2 : Int32)]) (rest := [.ref so]) (st1 := [.int r44, .ref so]) (wf := [(so, .inr (3, [.ref rowo, .ref talo, .ref plao, .ref leno, .ref jo, .ref mo, .int a2, .int a4, .int slea, .int sdep, .int sinr, .int swai])), (rowo, .inr (0, [.ref rowv])), (rowv, .inl (cA, 96, .inl rowf)), (talo, .inr (0, [.ref talv])), (talv, .inl (cA, 12, .inl talf)), (jo, .inr (1, [.ref talo, .int jord])), (laio, .inr (0, [.ref laiv])), (laiv, .inl (cA, 96, .inl laif)), (rulo, .inr (0, [.ref rulv])), (rulv, .inl (cA, 4, .inl rulf))]) (kX0_look l D cA F rulo rulv 4 rulf (2 : Int32) r44 hc44) ⟨hx, hb, hml, hown, hts⟩ ⟨va_cnB 1 hts gX3_begin_X0_look_n66 rfl rfl rfl (hG.2.m 12 rfl) (hts (.initialized RX0) (by decide +kernel)) (by decide +kernel) ⟨Nat.le_of_ble_eq_true rfl, Nat.le_of_ble_eq_true rfl⟩, hts (.instanceMethod yX0_look) (by decide +kernel), hts (.selects RX0 yX0_look yX0_look) (by decide +kernel)⟩ hG hst hP hD hS hA 0 rfl rfl rfl [8, 9] [0, 1, 2, 3, 4, 5, 6, 7] [0, 1, 2, 3, 4, 5, 6, 7, 8, 9] rfl rfl rfl rfl rfl rfl hl.1 rfl rfl (Nat.le_of_ble_eq_true rfl) dX3_begin_44 ⟨Nat.zero_le _, Nat.zero_le _⟩ (fun H locs hP hD hS => ?_)
        refine va_put (D := D) (cl := vwCl) (ci := 3) (v := .int r44) (ty := .int) (C := RX3) (T := TX3) (N := 12) hx hb hts hinX3 tyX3 tyX3_ok nmX3 hown hG.1 hP hD hS 0 rfl rfl 8 (by decide) fl54 (fun _ h9 => h9) rfl (by decide +kernel) rfl rfl (Nat.le_of_ble_eq_true rfl) dX3_begin_47 (fun H locs hP hD hS => ?_)
        have hP : va_P D vwCl [(so, .inr (3, [.ref rowo, .ref talo, .ref plao, .ref leno, .ref jo, .ref mo, .int a2, .int a4, .int r44, .int sdep, .int sinr, .int swai])), (rowo, .inr (0, [.ref rowv])), (rowv, .inl (cA, 96, .inl rowf)), (talo, .inr (0, [.ref talv])), (talv, .inl (cA, 12, .inl talf)), (jo, .inr (1, [.ref talo, .int jord])), (laio, .inr (0, [.ref laiv])), (laiv, .inl (cA, 96, .inl laif)), (rulo, .inr (0, [.ref rulv])), (rulv, .inl (cA, 4, .inl rulf))] H := hP
        have hD : va_D A [(so, .inr (3, [.ref rowo, .ref talo, .ref plao, .ref leno, .ref jo, .ref mo, .int a2, .int a4, .int r44, .int sdep, .int sinr, .int swai])), (rowo, .inr (0, [.ref rowv])), (rowv, .inl (cA, 96, .inl rowf)), (talo, .inr (0, [.ref talv])), (talv, .inl (cA, 12, .inl talf)), (jo, .inr (1, [.ref talo, .int jord])), (laio, .inr (0, [.ref laiv])), (laiv, .inl (cA, 96, .inl laif)), (rulo, .inr (0, [.ref rulv])), (rulv, .inl (cA, 4, .inl rulf))] := hD
        refine lv_aload_n hx hb dX3_begin_50 rfl (lv_at hl 0 rfl) ?_
        refine va_get (D := D) (cl := vwCl) (ci := 3) (v := .ref jo) (C := RX3) (T := TX3) (N := 12) hx hb hts hinX3 hown hG.1 hP 0 rfl rfl 4 (by decide) fl34 (fun _ h9 => h9) rfl dX3_begin_51 ?_
        refine lv_aload_n hx hb dX3_begin_54 rfl (lv_at hl 3 rfl) ?_
        refine lv_iconst (v := (0 : Int32)) hx hb dX3_begin_55 (by decide) ?_
        obtain ⟨r56, hc56, h⟩ := bd1_some h
        refine ct_VN (As := [.int (0 : Int32)]) (rest := [.ref jo]) (st1 := [.int r56, .ref jo]) (wf := [(so, .inr (3, [.ref rowo, .ref talo, .ref plao, .ref leno, .ref jo, .ref mo, .int a2, .int a4, .int r44, .int sdep, .int sinr, .int swai])), (rowo, .inr (0, [.ref rowv])), (rowv, .inl (cA, 96, .inl rowf)), (talo, .inr (0, [.ref talv])), (talv, .inl (cA, 12, .inl talf)), (jo, .inr (1, [.ref talo, .int jord])), (laio, .inr (0, [.ref laiv])), (laiv, .inl (cA, 96, .inl laif)), (rulo, .inr (0, [.ref rulv])), (rulv, .inl (cA, 4, .inl rulf))]) (kX0_look l D cA F rulo rulv 4 rulf (0 : Int32) r56 hc56) ⟨hx, hb, hml, hown, hts⟩ ⟨va_cnB 1 hts gX3_begin_X0_look_n66 rfl rfl rfl (hG.2.m 12 rfl) (hts (.initialized RX0) (by decide +kernel)) (by decide +kernel) ⟨Nat.le_of_ble_eq_true rfl, Nat.le_of_ble_eq_true rfl⟩, hts (.instanceMethod yX0_look) (by decide +kernel), hts (.selects RX0 yX0_look yX0_look) (by decide +kernel)⟩ hG hst hP hD hS hA 0 rfl rfl rfl [8, 9] [0, 1, 2, 3, 4, 5, 6, 7] [0, 1, 2, 3, 4, 5, 6, 7, 8, 9] rfl rfl rfl rfl rfl rfl hl.1 rfl rfl (Nat.le_of_ble_eq_true rfl) dX3_begin_56 ⟨Nat.zero_le _, Nat.zero_le _⟩ (fun H locs hP hD hS => ?_)
        refine va_putN (D := D) (cl := vwCl) (ci := 1) (v := .int r56) (ty := .int) (C := RX1) (T := TX1) (N := 2) hx hb hts hinX1 tyX1 tyX1_ok nmX1 hown hG.1 hP hD hS 5 rfl rfl 1 (by decide) (hG.2.f 1 rfl) (fun _ h9 => h9) rfl (by decide +kernel) rfl rfl (Nat.le_of_ble_eq_true rfl) dX3_begin_59 (fun H locs hP hD hS => ?_)
        have hP : va_P D vwCl [(so, .inr (3, [.ref rowo, .ref talo, .ref plao, .ref leno, .ref jo, .ref mo, .int a2, .int a4, .int r44, .int sdep, .int sinr, .int swai])), (rowo, .inr (0, [.ref rowv])), (rowv, .inl (cA, 96, .inl rowf)), (talo, .inr (0, [.ref talv])), (talv, .inl (cA, 12, .inl talf)), (jo, .inr (1, [.ref talo, .int r56])), (laio, .inr (0, [.ref laiv])), (laiv, .inl (cA, 96, .inl laif)), (rulo, .inr (0, [.ref rulv])), (rulv, .inl (cA, 4, .inl rulf))] H := hP
        have hD : va_D A [(so, .inr (3, [.ref rowo, .ref talo, .ref plao, .ref leno, .ref jo, .ref mo, .int a2, .int a4, .int r44, .int sdep, .int sinr, .int swai])), (rowo, .inr (0, [.ref rowv])), (rowv, .inl (cA, 96, .inl rowf)), (talo, .inr (0, [.ref talv])), (talv, .inl (cA, 12, .inl talf)), (jo, .inr (1, [.ref talo, .int r56])), (laio, .inr (0, [.ref laiv])), (laiv, .inl (cA, 96, .inl laif)), (rulo, .inr (0, [.ref rulv])), (rulv, .inl (cA, 4, .inl rulf))] := hD
        refine lv_aload_n hx hb dX3_begin_62 rfl (lv_at hl 0 rfl) ?_
        refine lv_iconst (v := (0 : Int32)) hx hb dX3_begin_63 (by decide) ?_
        refine va_put (D := D) (cl := vwCl) (ci := 3) (v := .int (0 : Int32)) (ty := .int) (C := RX3) (T := TX3) (N := 12) hx hb hts hinX3 tyX3 tyX3_ok nmX3 hown hG.1 hP hD hS 0 rfl rfl 9 (by decide) fl57 (fun _ h9 => h9) rfl (by decide +kernel) rfl rfl (Nat.le_of_ble_eq_true rfl) dX3_begin_64 (fun H locs hP hD hS => ?_)
        have hP : va_P D vwCl [(so, .inr (3, [.ref rowo, .ref talo, .ref plao, .ref leno, .ref jo, .ref mo, .int a2, .int a4, .int r44, .int (0 : Int32), .int sinr, .int swai])), (rowo, .inr (0, [.ref rowv])), (rowv, .inl (cA, 96, .inl rowf)), (talo, .inr (0, [.ref talv])), (talv, .inl (cA, 12, .inl talf)), (jo, .inr (1, [.ref talo, .int r56])), (laio, .inr (0, [.ref laiv])), (laiv, .inl (cA, 96, .inl laif)), (rulo, .inr (0, [.ref rulv])), (rulv, .inl (cA, 4, .inl rulf))] H := hP
        have hD : va_D A [(so, .inr (3, [.ref rowo, .ref talo, .ref plao, .ref leno, .ref jo, .ref mo, .int a2, .int a4, .int r44, .int (0 : Int32), .int sinr, .int swai])), (rowo, .inr (0, [.ref rowv])), (rowv, .inl (cA, 96, .inl rowf)), (talo, .inr (0, [.ref talv])), (talv, .inl (cA, 12, .inl talf)), (jo, .inr (1, [.ref talo, .int r56])), (laio, .inr (0, [.ref laiv])), (laiv, .inl (cA, 96, .inl laif)), (rulo, .inr (0, [.ref rulv])), (rulv, .inl (cA, 4, .inl rulf))] := hD
        refine lv_aload_n hx hb dX3_begin_67 rfl (lv_at hl 0 rfl) ?_
        refine lv_iconst (v := (0 : Int32)) hx hb dX3_begin_68 (by decide) ?_
        refine va_put (D := D) (cl := vwCl) (ci := 3) (v := .int (0 : Int32)) (ty := .int) (C := RX3) (T := TX3) (N := 12) hx hb hts hinX3 tyX3 tyX3_ok nmX3 hown hG.1 hP hD hS 0 rfl rfl 10 (by decide) fl60 (fun _ h9 => h9) rfl (by decide +kernel) rfl rfl (Nat.le_of_ble_eq_true rfl) dX3_begin_69 (fun H locs hP hD hS => ?_)
        have hP : va_P D vwCl [(so, .inr (3, [.ref rowo, .ref talo, .ref plao, .ref leno, .ref jo, .ref mo, .int a2, .int a4, .int r44, .int (0 : Int32), .int (0 : Int32), .int swai])), (rowo, .inr (0, [.ref rowv])), (rowv, .inl (cA, 96, .inl rowf)), (talo, .inr (0, [.ref talv])), (talv, .inl (cA, 12, .inl talf)), (jo, .inr (1, [.ref talo, .int r56])), (laio, .inr (0, [.ref laiv])), (laiv, .inl (cA, 96, .inl laif)), (rulo, .inr (0, [.ref rulv])), (rulv, .inl (cA, 4, .inl rulf))] H := hP
        have hD : va_D A [(so, .inr (3, [.ref rowo, .ref talo, .ref plao, .ref leno, .ref jo, .ref mo, .int a2, .int a4, .int r44, .int (0 : Int32), .int (0 : Int32), .int swai])), (rowo, .inr (0, [.ref rowv])), (rowv, .inl (cA, 96, .inl rowf)), (talo, .inr (0, [.ref talv])), (talv, .inl (cA, 12, .inl talf)), (jo, .inr (1, [.ref talo, .int r56])), (laio, .inr (0, [.ref laiv])), (laiv, .inl (cA, 96, .inl laif)), (rulo, .inr (0, [.ref rulv])), (rulv, .inl (cA, 4, .inl rulf))] := hD
        refine lv_aload_n hx hb dX3_begin_72 rfl (lv_at hl 0 rfl) ?_
        refine lv_iconst (v := (0 : Int32)) hx hb dX3_begin_73 (by decide) ?_
        refine va_put (D := D) (cl := vwCl) (ci := 3) (v := .int (0 : Int32)) (ty := .int) (C := RX3) (T := TX3) (N := 12) hx hb hts hinX3 tyX3 tyX3_ok nmX3 hown hG.1 hP hD hS 0 rfl rfl 11 (by decide) fl63 (fun _ h9 => h9) rfl (by decide +kernel) rfl rfl (Nat.le_of_ble_eq_true rfl) dX3_begin_74 (fun H locs hP hD hS => ?_)
        have hP : va_P D vwCl [(so, .inr (3, [.ref rowo, .ref talo, .ref plao, .ref leno, .ref jo, .ref mo, .int a2, .int a4, .int r44, .int (0 : Int32), .int (0 : Int32), .int (0 : Int32)])), (rowo, .inr (0, [.ref rowv])), (rowv, .inl (cA, 96, .inl rowf)), (talo, .inr (0, [.ref talv])), (talv, .inl (cA, 12, .inl talf)), (jo, .inr (1, [.ref talo, .int r56])), (laio, .inr (0, [.ref laiv])), (laiv, .inl (cA, 96, .inl laif)), (rulo, .inr (0, [.ref rulv])), (rulv, .inl (cA, 4, .inl rulf))] H := hP
        have hD : va_D A [(so, .inr (3, [.ref rowo, .ref talo, .ref plao, .ref leno, .ref jo, .ref mo, .int a2, .int a4, .int r44, .int (0 : Int32), .int (0 : Int32), .int (0 : Int32)])), (rowo, .inr (0, [.ref rowv])), (rowv, .inl (cA, 96, .inl rowf)), (talo, .inr (0, [.ref talv])), (talv, .inl (cA, 12, .inl talf)), (jo, .inr (1, [.ref talo, .int r56])), (laio, .inr (0, [.ref laiv])), (laiv, .inl (cA, 96, .inl laif)), (rulo, .inr (0, [.ref rulv])), (rulv, .inl (cA, 4, .inl rulf))] := hD
        refine lv_aload_n hx hb dX3_begin_77 rfl (lv_at hl 0 rfl) ?_
        refine va_get (D := D) (cl := vwCl) (ci := 3) (v := .ref talo) (C := RX3) (T := TX3) (N := 12) hx hb hts hinX3 hown hG.1 hP 0 rfl rfl 1 (by decide) fl20 (fun _ h9 => h9) rfl dX3_begin_78 ?_
        obtain ⟨talf_81, hc81, h⟩ := bd1_some h
        refine ct_VN (As := []) (rest := []) (st1 := []) (wf := [(so, .inr (3, [.ref rowo, .ref talo, .ref plao, .ref leno, .ref jo, .ref mo, .int a2, .int a4, .int r44, .int (0 : Int32), .int (0 : Int32), .int (0 : Int32)])), (rowo, .inr (0, [.ref rowv])), (rowv, .inl (cA, 96, .inl rowf)), (talo, .inr (0, [.ref talv])), (talv, .inl (cA, 12, .inl talf_81)), (jo, .inr (1, [.ref talo, .int r56])), (laio, .inr (0, [.ref laiv])), (laiv, .inl (cA, 96, .inl laif)), (rulo, .inr (0, [.ref rulv])), (rulv, .inl (cA, 4, .inl rulf))]) (kX0_clearAll l D cA F talo talv 12 talf  talf_81 hc81) ⟨hx, hb, hml, hown, hts⟩ ⟨va_cnB 0 hts gX3_begin_X0_clearAll_n77 rfl rfl rfl (hG.2.m 14 rfl) (hts (.initialized RX0) (by decide +kernel)) (by decide +kernel) ⟨Nat.le_of_ble_eq_true rfl, Nat.le_of_ble_eq_true rfl⟩, hts (.instanceMethod yX0_clearAll) (by decide +kernel), hts (.selects RX0 yX0_clearAll yX0_clearAll) (by decide +kernel)⟩ hG hst hP hD hS hA 0 rfl rfl rfl [3, 4] [0, 1, 2, 5, 6, 7, 8, 9] [0, 1, 2, 8, 9, 3, 4, 5, 6, 7] rfl rfl rfl rfl rfl rfl hl.1 rfl rfl (Nat.le_of_ble_eq_true rfl) dX3_begin_81 ⟨Nat.zero_le _, Nat.zero_le _⟩ (fun H locs hP hD hS => ?_)
        refine lv_aload_n hx hb dX3_begin_84 rfl (lv_at hl 0 rfl) ?_
        refine va_get (D := D) (cl := vwCl) (ci := 3) (v := .ref talo) (C := RX3) (T := TX3) (N := 12) hx hb hts hinX3 hown hG.1 hP 0 rfl rfl 1 (by decide) fl20 (fun _ h9 => h9) rfl dX3_begin_85 ?_
        refine lv_bipush (v := (10 : Int32)) hx hb dX3_begin_88 (by decide) ?_
        refine lv_aload_n hx hb dX3_begin_90 rfl (lv_at hl 3 rfl) ?_
        refine lv_iconst (v := (3 : Int32)) hx hb dX3_begin_91 (by decide) ?_
        obtain ⟨r92, hc92, h⟩ := bd1_some h
        refine ct_VN (As := [.int (3 : Int32)]) (rest := [.int (10 : Int32), .ref talo]) (st1 := [.int r92, .int (10 : Int32), .ref talo]) (wf := [(so, .inr (3, [.ref rowo, .ref talo, .ref plao, .ref leno, .ref jo, .ref mo, .int a2, .int a4, .int r44, .int (0 : Int32), .int (0 : Int32), .int (0 : Int32)])), (rowo, .inr (0, [.ref rowv])), (rowv, .inl (cA, 96, .inl rowf)), (talo, .inr (0, [.ref talv])), (talv, .inl (cA, 12, .inl talf_81)), (jo, .inr (1, [.ref talo, .int r56])), (laio, .inr (0, [.ref laiv])), (laiv, .inl (cA, 96, .inl laif)), (rulo, .inr (0, [.ref rulv])), (rulv, .inl (cA, 4, .inl rulf))]) (kX0_look l D cA F rulo rulv 4 rulf (3 : Int32) r92 hc92) ⟨hx, hb, hml, hown, hts⟩ ⟨va_cnB 1 hts gX3_begin_X0_look_n66 rfl rfl rfl (hG.2.m 12 rfl) (hts (.initialized RX0) (by decide +kernel)) (by decide +kernel) ⟨Nat.le_of_ble_eq_true rfl, Nat.le_of_ble_eq_true rfl⟩, hts (.instanceMethod yX0_look) (by decide +kernel), hts (.selects RX0 yX0_look yX0_look) (by decide +kernel)⟩ hG hst hP hD hS hA 0 rfl rfl rfl [8, 9] [0, 1, 2, 3, 4, 5, 6, 7] [0, 1, 2, 3, 4, 5, 6, 7, 8, 9] rfl rfl rfl rfl rfl rfl hl.1 rfl rfl (Nat.le_of_ble_eq_true rfl) dX3_begin_92 ⟨Nat.zero_le _, Nat.zero_le _⟩ (fun H locs hP hD hS => ?_)
        obtain ⟨talf_95, hc95, h⟩ := bd1_some h
        refine ct_VN (As := [.int (10 : Int32), .int r92]) (rest := []) (st1 := []) (wf := [(so, .inr (3, [.ref rowo, .ref talo, .ref plao, .ref leno, .ref jo, .ref mo, .int a2, .int a4, .int r44, .int (0 : Int32), .int (0 : Int32), .int (0 : Int32)])), (rowo, .inr (0, [.ref rowv])), (rowv, .inl (cA, 96, .inl rowf)), (talo, .inr (0, [.ref talv])), (talv, .inl (cA, 12, .inl talf_95)), (jo, .inr (1, [.ref talo, .int r56])), (laio, .inr (0, [.ref laiv])), (laiv, .inl (cA, 96, .inl laif)), (rulo, .inr (0, [.ref rulv])), (rulv, .inl (cA, 4, .inl rulf))]) (kX0_fill l D cA F talo talv 12 talf_81 (10 : Int32) r92 talf_95 hc95) ⟨hx, hb, hml, hown, hts⟩ ⟨va_cnB 2 hts gX3_begin_X0_fill_n70 rfl rfl rfl (hG.2.m 13 rfl) (hts (.initialized RX0) (by decide +kernel)) (by decide +kernel) ⟨Nat.le_of_ble_eq_true rfl, Nat.le_of_ble_eq_true rfl⟩, hts (.instanceMethod yX0_fill) (by decide +kernel), hts (.selects RX0 yX0_fill yX0_fill) (by decide +kernel)⟩ hG hst hP hD hS hA 0 rfl rfl rfl [3, 4] [0, 1, 2, 5, 6, 7, 8, 9] [0, 1, 2, 8, 9, 3, 4, 5, 6, 7] rfl rfl rfl rfl rfl rfl hl.1 rfl rfl (Nat.le_of_ble_eq_true rfl) dX3_begin_95 ⟨Nat.zero_le _, Nat.zero_le _⟩ (fun H locs hP hD hS => ?_)
        cases h
        exact rt_v hx hb hr hlocks hP hD hS dX3_begin_98
      · have h := i_f c6 h
        refine lv_aload_n hx hb dX3_begin_9 rfl (lv_at hl 0 rfl) ?_
        refine va_get (D := D) (cl := vwCl) (ci := 3) (v := .ref rowo) (C := RX3) (T := TX3) (N := 12) hx hb hts hinX3 hown hG.1 hP 0 rfl rfl 0 (by decide) fl14 (fun _ h9 => h9) rfl dX3_begin_10 ?_
        refine lv_iload hx hb dX3_begin_13 (lv_at hl 5 rfl) ?_
        refine lv_aload_n hx hb dX3_begin_15 rfl (lv_at hl 1 rfl) ?_
        refine lv_iload hx hb dX3_begin_16 (lv_at hl 5 rfl) ?_
        obtain ⟨r18, hc18, h⟩ := bd1_some h
        refine ct_VN (As := [.int x5]) (rest := [.int x5, .ref rowo]) (st1 := [.int r18, .int x5, .ref rowo]) (wf := [(so, .inr (3, [.ref rowo, .ref talo, .ref plao, .ref leno, .ref jo, .ref mo, .int srec, .int spol, .int slea, .int sdep, .int sinr, .int swai])), (rowo, .inr (0, [.ref rowv])), (rowv, .inl (cA, 96, .inl rowf)), (talo, .inr (0, [.ref talv])), (talv, .inl (cA, 12, .inl talf)), (jo, .inr (1, [.ref talo, .int jord])), (laio, .inr (0, [.ref laiv])), (laiv, .inl (cA, 96, .inl laif)), (rulo, .inr (0, [.ref rulv])), (rulv, .inl (cA, 4, .inl rulf))]) (kX0_look l D cA F laio laiv 96 laif x5 r18 hc18) ⟨hx, hb, hml, hown, hts⟩ ⟨va_cnB 1 hts gX3_begin_X0_look_n66 rfl rfl rfl (hG.2.m 12 rfl) (hts (.initialized RX0) (by decide +kernel)) (by decide +kernel) ⟨Nat.le_of_ble_eq_true rfl, Nat.le_of_ble_eq_true rfl⟩, hts (.instanceMethod yX0_look) (by decide +kernel), hts (.selects RX0 yX0_look yX0_look) (by decide +kernel)⟩ hG hst hP hD hS hA 0 rfl rfl rfl [6, 7] [0, 1, 2, 3, 4, 5, 8, 9] [0, 1, 2, 3, 4, 5, 8, 9, 6, 7] rfl rfl rfl rfl rfl rfl hl.1 rfl rfl (Nat.le_of_ble_eq_true rfl) dX3_begin_18 ⟨Nat.zero_le _, Nat.zero_le _⟩ (fun H locs hP hD hS => ?_)
        obtain ⟨rowf_21, hc21, h⟩ := bd1_some h
        refine ct_VN (As := [.int x5, .int r18]) (rest := []) (st1 := []) (wf := [(so, .inr (3, [.ref rowo, .ref talo, .ref plao, .ref leno, .ref jo, .ref mo, .int srec, .int spol, .int slea, .int sdep, .int sinr, .int swai])), (rowo, .inr (0, [.ref rowv])), (rowv, .inl (cA, 96, .inl rowf_21)), (talo, .inr (0, [.ref talv])), (talv, .inl (cA, 12, .inl talf)), (jo, .inr (1, [.ref talo, .int jord])), (laio, .inr (0, [.ref laiv])), (laiv, .inl (cA, 96, .inl laif)), (rulo, .inr (0, [.ref rulv])), (rulv, .inl (cA, 4, .inl rulf))]) (kX0_fill l D cA F rowo rowv 96 rowf x5 r18 rowf_21 hc21) ⟨hx, hb, hml, hown, hts⟩ ⟨va_cnB 2 hts gX3_begin_X0_fill_n70 rfl rfl rfl (hG.2.m 13 rfl) (hts (.initialized RX0) (by decide +kernel)) (by decide +kernel) ⟨Nat.le_of_ble_eq_true rfl, Nat.le_of_ble_eq_true rfl⟩, hts (.instanceMethod yX0_fill) (by decide +kernel), hts (.selects RX0 yX0_fill yX0_fill) (by decide +kernel)⟩ hG hst hP hD hS hA 0 rfl rfl rfl [1, 2] [0, 3, 4, 5, 6, 7, 8, 9] [0, 8, 9, 1, 2, 3, 4, 5, 6, 7] rfl rfl rfl rfl rfl rfl hl.1 rfl rfl (Nat.le_of_ble_eq_true rfl) dX3_begin_21 ⟨Nat.zero_le _, Nat.zero_le _⟩ (fun H locs hP hD hS => ?_)
        refine lv_iinc (v := x5 + (1 : Int32)) (lv' := [(5, .int (x5 + (1 : Int32))), (0, .ref so), (1, .ref laio), (2, .int a2), (3, .ref rulo), (4, .int a4)]) hx hb dX3_begin_24 hl (k := 5) rfl (congrArg (fun z => x5 + z) (by decide)) (by decide) rfl (fun ls hl => ?_)
        refine lv_goto (tgt := 3) hx hb dX3_begin_27 (by decide) ?_
        exact ih3 (x5 + (1 : Int32)) srec spol slea sdep sinr swai rowf_21 talf jord _ _ _ h hP hD hS (lv_sub hl [1, 2, 3, 4, 5, 0] rfl)
  unfold mX3_begin at h
  refine lv_iconst (v := (0 : Int32)) hx hb dX3_begin_0 (by decide) ?_
  refine lv_istore (lv' := [(5, .int (0 : Int32)), (0, .ref so), (1, .ref laio), (2, .int a2), (3, .ref rulo), (4, .int a4)]) hx hb dX3_begin_1 hl (by decide) rfl (fun ls hl => ?_)
  exact hmX3_begin_3 F (0 : Int32) srec spol slea sdep sinr swai rowf talf jord _ _ _ h hP hD hS (lv_sub hl [1, 2, 3, 4, 5, 0] rfl)
set_option maxHeartbeats 4000000 in
set_option maxRecDepth 100000 in
theorem kX3_insertNext (l : Launch) (D : va_G) (cA : ClassId) (F : Nat) (so : Nat) (rowo : Nat) (talo : Nat) (plao : Nat) (leno : Nat) (jo : Nat) (mo : Nat) (rowv : Nat) (talv : Nat) (srec : Int32) (spol : Int32) (slea : Int32) (sdep : Int32) (sinr : Int32) (swai : Int32) (rowf : (Nat → Int32)) (talf : (Nat → Int32)) (jord : Int32) (a1 : Int32) (a2 : Int32) (rowf_9 : (Nat → Int32)) (talf_9 : (Nat → Int32)) (h : mX3_insertNext F rowf talf jord a1 a2 = some (rowf_9, talf_9)) : Ct l yX3_insertNext wsX3_insertNext ({ frames := 2, cells := 0, slots := 0, locals := 44 }) D cA [.ref so, .int a1, .int a2] [(so, .inr (3, [.ref rowo, .ref talo, .ref plao, .ref leno, .ref jo, .ref mo, .int srec, .int spol, .int slea, .int sdep, .int sinr, .int swai])), (rowo, .inr (0, [.ref rowv])), (rowv, .inl (cA, 96, .inl rowf)), (talo, .inr (0, [.ref talv])), (talv, .inl (cA, 12, .inl talf)), (jo, .inr (1, [.ref talo, .int jord]))] [(so, .inr (3, [.ref rowo, .ref talo, .ref plao, .ref leno, .ref jo, .ref mo, .int srec, .int spol, .int slea, .int sdep, .int sinr, .int swai])), (rowo, .inr (0, [.ref rowv])), (rowv, .inl (cA, 96, .inl rowf_9)), (talo, .inr (0, [.ref talv])), (talv, .inl (cA, 12, .inl talf_9)), (jo, .inr (1, [.ref talo, .int jord]))] (none) := by
  refine Ct.of (cc := cX3_insertNext) (maxL := 8) (ret := none) (by decide) rfl (Nat.le_of_ble_eq_true rfl) ?_
  intro p e s m below meth c A ls hcx hG hst hA hP hD hl
  obtain ⟨hx, hb, hml, hown, hts, hr, hlocks⟩ := id hcx
  have hown : s.vm.findClass RX3 = some m.cls := hown
  have hS : va_S A s.heap s.heap [] := va_S.rf
  have hl : lv_has ls 8 [(0, .ref so), (1, .int a1), (2, .int a2)] := hl
  have hinX3 : ∀ w ∈ u_ws RX3 TX3 12, w ∈ wsX3_insertNext := by decide +kernel
  have fl14 := hts (.fieldLink RX3 14 "RunSorter$Sorter" "row" "LRunSorter$Cells;") (by decide +kernel)
  have fl20 := hts (.fieldLink RX3 20 "RunSorter$Sorter" "tally" "LRunSorter$Cells;") (by decide +kernel)
  have fl34 := hts (.fieldLink RX3 34 "RunSorter$Sorter" "judge" "LRunSorter$Judge;") (by decide +kernel)
  have hmX3_insertNext_95 : ∀ (n95 : Nat) (x3 : Int32) (x4 : Int32) (x6 : Int32) (rowf : (Nat → Int32)) (talf : (Nat → Int32)) (H : Heap) (locs : List Loc) (ls : Array Slot), mX3_insertNext_95 F a1 a2 n95 x3 x4 x6 rowf talf = some (rowf_9, talf_9) → va_P D vwCl [(so, .inr (3, [.ref rowo, .ref talo, .ref plao, .ref leno, .ref jo, .ref mo, .int srec, .int spol, .int slea, .int sdep, .int sinr, .int swai])), (rowo, .inr (0, [.ref rowv])), (rowv, .inl (cA, 96, .inl rowf)), (talo, .inr (0, [.ref talv])), (talv, .inl (cA, 12, .inl talf)), (jo, .inr (1, [.ref talo, .int jord]))] H → va_D A [(so, .inr (3, [.ref rowo, .ref talo, .ref plao, .ref leno, .ref jo, .ref mo, .int srec, .int spol, .int slea, .int sdep, .int sinr, .int swai])), (rowo, .inr (0, [.ref rowv])), (rowv, .inl (cA, 96, .inl rowf)), (talo, .inr (0, [.ref talv])), (talv, .inl (cA, 12, .inl talf)), (jo, .inr (1, [.ref talo, .int jord]))] → va_S A s.heap H locs → lv_has ls 8 [(0, .ref so), (1, .int a1), (2, .int a2), (3, .int x3), (4, .int x4), (6, .int x6)] → W p l e ({ frames := 2, cells := 0, slots := 0, locals := 44 }) s m ([.ref so, .int a1, .int a2] : List Value).toArray below meth c H locs 0 0 (MQ below (Qw D A [(so, .inr (3, [.ref rowo, .ref talo, .ref plao, .ref leno, .ref jo, .ref mo, .int srec, .int spol, .int slea, .int sdep, .int sinr, .int swai])), (rowo, .inr (0, [.ref rowv])), (rowv, .inl (cA, 96, .inl rowf_9)), (talo, .inr (0, [.ref talv])), (talv, .inl (cA, 12, .inl talf_9)), (jo, .inr (1, [.ref talo, .int jord]))] (none)) ([.ref so, .int a1, .int a2] : List Value).toArray s 0 0 A) (F0 m 95 ls []) := by
    intro n95
    induction n95 with
    | zero => intro x3 x4 x6 rowf talf H locs ls h; exact (no_some h).elim
    | succ n95 ih95 =>
      intro x3 x4 x6 rowf talf H locs ls h hP hD hS hl
      rw [mX3_insertNext_95] at h
      refine lv_iload hx hb dX3_insertNext_95 (lv_at hl 5 rfl) ?_
      refine lv_iload hx hb dX3_insertNext_97 (lv_at hl 4 rfl) ?_
      refine lv_icmp_le (tgt := 132) hx hb dX3_insertNext_99 (by decide) (fun c99 => ?_) (fun c99 => ?_)
      · have h := i_t c99 h
        refine lv_aload_n hx hb dX3_insertNext_132 rfl (lv_at hl 0 rfl) ?_
        refine va_get (D := D) (cl := vwCl) (ci := 3) (v := .ref rowo) (C := RX3) (T := TX3) (N := 12) hx hb hts hinX3 hown hG.1 hP 0 rfl rfl 0 (by decide) fl14 (fun _ h9 => h9) rfl dX3_insertNext_133 ?_
        refine lv_iload_n hx hb dX3_insertNext_136 rfl (lv_at hl 1 rfl) ?_
        refine lv_iload hx hb dX3_insertNext_137 (lv_at hl 4 rfl) ?_
        refine lv_iadd hx hb dX3_insertNext_139 ?_
        refine lv_iload_n hx hb dX3_insertNext_140 rfl (lv_at hl 3 rfl) ?_
        obtain ⟨rowf_141, hc141, h⟩ := bd1_some h
        refine ct_VN (As := [.int (a1 + x4), .int x3]) (rest := []) (st1 := []) (wf := [(so, .inr (3, [.ref rowo, .ref talo, .ref plao, .ref leno, .ref jo, .ref mo, .int srec, .int spol, .int slea, .int sdep, .int sinr, .int swai])), (rowo, .inr (0, [.ref rowv])), (rowv, .inl (cA, 96, .inl rowf_141)), (talo, .inr (0, [.ref talv])), (talv, .inl (cA, 12, .inl talf)), (jo, .inr (1, [.ref talo, .int jord]))]) (kX0_fill l D cA F rowo rowv 96 rowf (a1 + x4) x3 rowf_141 hc141) ⟨hx, hb, hml, hown, hts⟩ ⟨va_cnB 2 hts gX3_insertNext_X0_fill_n70 rfl rfl rfl (hG.2.m 13 rfl) (hts (.initialized RX0) (by decide +kernel)) (by decide +kernel) ⟨Nat.le_of_ble_eq_true rfl, Nat.le_of_ble_eq_true rfl⟩, hts (.instanceMethod yX0_fill) (by decide +kernel), hts (.selects RX0 yX0_fill yX0_fill) (by decide +kernel)⟩ hG hst hP hD hS hA 0 rfl rfl rfl [1, 2] [0, 3, 4, 5] [0, 4, 5, 1, 2, 3] rfl rfl rfl rfl rfl rfl hl.1 rfl rfl (Nat.le_of_ble_eq_true rfl) dX3_insertNext_141 ⟨Nat.zero_le _, Nat.zero_le _⟩ (fun H locs hP hD hS => ?_)
        refine lv_aload_n hx hb dX3_insertNext_144 rfl (lv_at hl 0 rfl) ?_
        refine va_get (D := D) (cl := vwCl) (ci := 3) (v := .ref talo) (C := RX3) (T := TX3) (N := 12) hx hb hts hinX3 hown hG.1 hP 0 rfl rfl 1 (by decide) fl20 (fun _ h9 => h9) rfl dX3_insertNext_145 ?_
        refine lv_iconst (v := (1 : Int32)) hx hb dX3_insertNext_148 (by decide) ?_
        refine lv_iload_n hx hb dX3_insertNext_149 rfl (lv_at hl 2 rfl) ?_
        refine lv_iload hx hb dX3_insertNext_150 (lv_at hl 4 rfl) ?_
        refine lv_isub hx hb dX3_insertNext_152 ?_
        refine lv_iconst (v := (1 : Int32)) hx hb dX3_insertNext_153 (by decide) ?_
        refine lv_iadd hx hb dX3_insertNext_154 ?_
        obtain ⟨talf_155, hc155, h⟩ := bd1_some h
        refine ct_VN (As := [.int (1 : Int32), .int ((a2 - x4) + (1 : Int32))]) (rest := []) (st1 := []) (wf := [(so, .inr (3, [.ref rowo, .ref talo, .ref plao, .ref leno, .ref jo, .ref mo, .int srec, .int spol, .int slea, .int sdep, .int sinr, .int swai])), (rowo, .inr (0, [.ref rowv])), (rowv, .inl (cA, 96, .inl rowf_141)), (talo, .inr (0, [.ref talv])), (talv, .inl (cA, 12, .inl talf_155)), (jo, .inr (1, [.ref talo, .int jord]))]) (kX0_add l D cA F talo talv 12 talf (1 : Int32) ((a2 - x4) + (1 : Int32)) talf_155 hc155) ⟨hx, hb, hml, hown, hts⟩ ⟨va_cnB 2 hts gX3_insertNext_X0_add_n100 rfl rfl rfl (hG.2.m 21 rfl) (hts (.initialized RX0) (by decide +kernel)) (by decide +kernel) ⟨Nat.le_of_ble_eq_true rfl, Nat.le_of_ble_eq_true rfl⟩, hts (.instanceMethod yX0_add) (by decide +kernel), hts (.selects RX0 yX0_add yX0_add) (by decide +kernel)⟩ hG hst hP hD hS hA 0 rfl rfl rfl [3, 4] [0, 1, 2, 5] [0, 1, 2, 4, 5, 3] rfl rfl rfl rfl rfl rfl hl.1 rfl rfl (Nat.le_of_ble_eq_true rfl) dX3_insertNext_155 ⟨Nat.zero_le _, Nat.zero_le _⟩ (fun H locs hP hD hS => ?_)
        cases h
        exact rt_v hx hb hr hlocks hP hD hS dX3_insertNext_158
      · have h := i_f c99 h
        refine lv_aload_n hx hb dX3_insertNext_102 rfl (lv_at hl 0 rfl) ?_
        refine va_get (D := D) (cl := vwCl) (ci := 3) (v := .ref rowo) (C := RX3) (T := TX3) (N := 12) hx hb hts hinX3 hown hG.1 hP 0 rfl rfl 0 (by decide) fl14 (fun _ h9 => h9) rfl dX3_insertNext_103 ?_
        refine lv_iload_n hx hb dX3_insertNext_106 rfl (lv_at hl 1 rfl) ?_
        refine lv_iload hx hb dX3_insertNext_107 (lv_at hl 5 rfl) ?_
        refine lv_iadd hx hb dX3_insertNext_109 ?_
        refine lv_aload_n hx hb dX3_insertNext_110 rfl (lv_at hl 0 rfl) ?_
        refine va_get (D := D) (cl := vwCl) (ci := 3) (v := .ref rowo) (C := RX3) (T := TX3) (N := 12) hx hb hts hinX3 hown hG.1 hP 0 rfl rfl 0 (by decide) fl14 (fun _ h9 => h9) rfl dX3_insertNext_111 ?_
        refine lv_iload_n hx hb dX3_insertNext_114 rfl (lv_at hl 1 rfl) ?_
        refine lv_iload hx hb dX3_insertNext_115 (lv_at hl 5 rfl) ?_
        refine lv_iadd hx hb dX3_insertNext_117 ?_
        refine lv_iconst (v := (1 : Int32)) hx hb dX3_insertNext_118 (by decide) ?_
        refine lv_isub hx hb dX3_insertNext_119 ?_
        obtain ⟨r120, hc120, h⟩ := bd1_some h
        refine ct_VN (As := [.int ((a1 + x6) - (1 : Int32))]) (rest := [.int (a1 + x6), .ref rowo]) (st1 := [.int r120, .int (a1 + x6), .ref rowo]) (wf := [(so, .inr (3, [.ref rowo, .ref talo, .ref plao, .ref leno, .ref jo, .ref mo, .int srec, .int spol, .int slea, .int sdep, .int sinr, .int swai])), (rowo, .inr (0, [.ref rowv])), (rowv, .inl (cA, 96, .inl rowf)), (talo, .inr (0, [.ref talv])), (talv, .inl (cA, 12, .inl talf)), (jo, .inr (1, [.ref talo, .int jord]))]) (kX0_look l D cA F rowo rowv 96 rowf ((a1 + x6) - (1 : Int32)) r120 hc120) ⟨hx, hb, hml, hown, hts⟩ ⟨va_cnB 1 hts gX3_insertNext_X0_look_n66 rfl rfl rfl (hG.2.m 12 rfl) (hts (.initialized RX0) (by decide +kernel)) (by decide +kernel) ⟨Nat.le_of_ble_eq_true rfl, Nat.le_of_ble_eq_true rfl⟩, hts (.instanceMethod yX0_look) (by decide +kernel), hts (.selects RX0 yX0_look yX0_look) (by decide +kernel)⟩ hG hst hP hD hS hA 0 rfl rfl rfl [1, 2] [0, 3, 4, 5] [0, 4, 5, 1, 2, 3] rfl rfl rfl rfl rfl rfl hl.1 rfl rfl (Nat.le_of_ble_eq_true rfl) dX3_insertNext_120 ⟨Nat.zero_le _, Nat.zero_le _⟩ (fun H locs hP hD hS => ?_)
        obtain ⟨rowf_123, hc123, h⟩ := bd1_some h
        refine ct_VN (As := [.int (a1 + x6), .int r120]) (rest := []) (st1 := []) (wf := [(so, .inr (3, [.ref rowo, .ref talo, .ref plao, .ref leno, .ref jo, .ref mo, .int srec, .int spol, .int slea, .int sdep, .int sinr, .int swai])), (rowo, .inr (0, [.ref rowv])), (rowv, .inl (cA, 96, .inl rowf_123)), (talo, .inr (0, [.ref talv])), (talv, .inl (cA, 12, .inl talf)), (jo, .inr (1, [.ref talo, .int jord]))]) (kX0_fill l D cA F rowo rowv 96 rowf (a1 + x6) r120 rowf_123 hc123) ⟨hx, hb, hml, hown, hts⟩ ⟨va_cnB 2 hts gX3_insertNext_X0_fill_n70 rfl rfl rfl (hG.2.m 13 rfl) (hts (.initialized RX0) (by decide +kernel)) (by decide +kernel) ⟨Nat.le_of_ble_eq_true rfl, Nat.le_of_ble_eq_true rfl⟩, hts (.instanceMethod yX0_fill) (by decide +kernel), hts (.selects RX0 yX0_fill yX0_fill) (by decide +kernel)⟩ hG hst hP hD hS hA 0 rfl rfl rfl [1, 2] [0, 3, 4, 5] [0, 4, 5, 1, 2, 3] rfl rfl rfl rfl rfl rfl hl.1 rfl rfl (Nat.le_of_ble_eq_true rfl) dX3_insertNext_123 ⟨Nat.zero_le _, Nat.zero_le _⟩ (fun H locs hP hD hS => ?_)
        refine lv_iinc (v := x6 + (-1 : Int32)) (lv' := [(6, .int (x6 + (-1 : Int32))), (0, .ref so), (1, .int a1), (2, .int a2), (3, .int x3), (4, .int x4)]) hx hb dX3_insertNext_126 hl (k := 5) rfl (congrArg (fun z => x6 + z) (by decide)) (by decide) rfl (fun ls hl => ?_)
        refine lv_goto (tgt := 95) hx hb dX3_insertNext_129 (by decide) ?_
        exact ih95 x3 x4 (x6 + (-1 : Int32)) rowf_123 talf _ _ _ h hP hD hS (lv_sub hl [1, 2, 3, 4, 5, 0] rfl)
  have hmX3_insertNext_85 : ∀ (x3 : Int32) (x4 : Int32) (rowf : (Nat → Int32)) (talf : (Nat → Int32)) (H : Heap) (locs : List Loc) (ls : Array Slot), mX3_insertNext_85 F a1 a2 x3 x4 rowf talf = some (rowf_9, talf_9) → va_P D vwCl [(so, .inr (3, [.ref rowo, .ref talo, .ref plao, .ref leno, .ref jo, .ref mo, .int srec, .int spol, .int slea, .int sdep, .int sinr, .int swai])), (rowo, .inr (0, [.ref rowv])), (rowv, .inl (cA, 96, .inl rowf)), (talo, .inr (0, [.ref talv])), (talv, .inl (cA, 12, .inl talf)), (jo, .inr (1, [.ref talo, .int jord]))] H → va_D A [(so, .inr (3, [.ref rowo, .ref talo, .ref plao, .ref leno, .ref jo, .ref mo, .int srec, .int spol, .int slea, .int sdep, .int sinr, .int swai])), (rowo, .inr (0, [.ref rowv])), (rowv, .inl (cA, 96, .inl rowf)), (talo, .inr (0, [.ref talv])), (talv, .inl (cA, 12, .inl talf)), (jo, .inr (1, [.ref talo, .int jord]))] → va_S A s.heap H locs → lv_has ls 8 [(0, .ref so), (1, .int a1), (2, .int a2), (3, .int x3), (4, .int x4)] → W p l e ({ frames := 2, cells := 0, slots := 0, locals := 44 }) s m ([.ref so, .int a1, .int a2] : List Value).toArray below meth c H locs 0 0 (MQ below (Qw D A [(so, .inr (3, [.ref rowo, .ref talo, .ref plao, .ref leno, .ref jo, .ref mo, .int srec, .int spol, .int slea, .int sdep, .int sinr, .int swai])), (rowo, .inr (0, [.ref rowv])), (rowv, .inl (cA, 96, .inl rowf_9)), (talo, .inr (0, [.ref talv])), (talv, .inl (cA, 12, .inl talf_9)), (jo, .inr (1, [.ref talo, .int jord]))] (none)) ([.ref so, .int a1, .int a2] : List Value).toArray s 0 0 A) (F0 m 85 ls []) := by
    intro x3 x4 rowf talf H locs ls h hP hD hS hl
    unfold mX3_insertNext_85 at h
    refine lv_iload hx hb dX3_insertNext_85 (lv_at hl 4 rfl) ?_
    refine lv_iload_n hx hb dX3_insertNext_87 rfl (lv_at hl 2 rfl) ?_
    refine lv_icmp_ne (tgt := 92) hx hb dX3_insertNext_88 (by decide) (fun c88 => ?_) (fun c88 => ?_)
    · have h := i_f c88 h
      refine lv_iload_n hx hb dX3_insertNext_92 rfl (lv_at hl 2 rfl) ?_
      refine lv_istore (lv' := [(6, .int a2), (0, .ref so), (1, .int a1), (2, .int a2), (3, .int x3), (4, .int x4)]) hx hb dX3_insertNext_93 hl (by decide) rfl (fun ls hl => ?_)
      exact hmX3_insertNext_95 F x3 x4 a2 rowf talf _ _ _ h hP hD hS (lv_sub hl [1, 2, 3, 4, 5, 0] rfl)
    · have h := i_t c88 h
      cases h
      exact rt_v hx hb hr hlocks hP hD hS dX3_insertNext_91
  have hmX3_insertNext_20 : ∀ (n20 : Nat) (x3 : Int32) (x4 : Int32) (x5 : Int32) (x6 : Int32) (rowf : (Nat → Int32)) (talf : (Nat → Int32)) (H : Heap) (locs : List Loc) (ls : Array Slot), mX3_insertNext_20 F jord a1 a2 n20 x3 x4 x5 x6 rowf talf = some (rowf_9, talf_9) → va_P D vwCl [(so, .inr (3, [.ref rowo, .ref talo, .ref plao, .ref leno, .ref jo, .ref mo, .int srec, .int spol, .int slea, .int sdep, .int sinr, .int swai])), (rowo, .inr (0, [.ref rowv])), (rowv, .inl (cA, 96, .inl rowf)), (talo, .inr (0, [.ref talv])), (talv, .inl (cA, 12, .inl talf)), (jo, .inr (1, [.ref talo, .int jord]))] H → va_D A [(so, .inr (3, [.ref rowo, .ref talo, .ref plao, .ref leno, .ref jo, .ref mo, .int srec, .int spol, .int slea, .int sdep, .int sinr, .int swai])), (rowo, .inr (0, [.ref rowv])), (rowv, .inl (cA, 96, .inl rowf)), (talo, .inr (0, [.ref talv])), (talv, .inl (cA, 12, .inl talf)), (jo, .inr (1, [.ref talo, .int jord]))] → va_S A s.heap H locs → lv_has ls 8 [(0, .ref so), (1, .int a1), (2, .int a2), (3, .int x3), (4, .int x4), (5, .int x5), (6, .int x6)] → W p l e ({ frames := 2, cells := 0, slots := 0, locals := 44 }) s m ([.ref so, .int a1, .int a2] : List Value).toArray below meth c H locs 0 0 (MQ below (Qw D A [(so, .inr (3, [.ref rowo, .ref talo, .ref plao, .ref leno, .ref jo, .ref mo, .int srec, .int spol, .int slea, .int sdep, .int sinr, .int swai])), (rowo, .inr (0, [.ref rowv])), (rowv, .inl (cA, 96, .inl rowf_9)), (talo, .inr (0, [.ref talv])), (talv, .inl (cA, 12, .inl talf_9)), (jo, .inr (1, [.ref talo, .int jord]))] (none)) ([.ref so, .int a1, .int a2] : List Value).toArray s 0 0 A) (F0 m 20 ls []) := by
    intro n20
    induction n20 with
    | zero => intro x3 x4 x5 x6 rowf talf H locs ls h; exact (no_some h).elim
    | succ n20 ih20 =>
      intro x3 x4 x5 x6 rowf talf H locs ls h hP hD hS hl
      rw [mX3_insertNext_20] at h
      refine lv_iload hx hb dX3_insertNext_20 (lv_at hl 6 rfl) ?_
      refine lv_sipush (v := (1000 : Int32)) hx hb dX3_insertNext_22 (by decide) ?_
      refine lv_icmp_ge (tgt := 85) hx hb dX3_insertNext_25 (by decide) (fun c25 => ?_) (fun c25 => ?_)
      · have h := i_t c25 h
        exact hmX3_insertNext_85 x3 x4 rowf talf _ _ _ h hP hD hS (lv_sub hl [0, 1, 2, 3, 4] rfl)
      · have h := i_f c25 h
        refine lv_iload hx hb dX3_insertNext_28 (lv_at hl 4 rfl) ?_
        refine lv_iload hx hb dX3_insertNext_30 (lv_at hl 5 rfl) ?_
        refine lv_icmp_ge (tgt := 85) hx hb dX3_insertNext_32 (by decide) (fun c32 => ?_) (fun c32 => ?_)
        · have h := i_t c32 h
          exact hmX3_insertNext_85 x3 x4 rowf talf _ _ _ h hP hD hS (lv_sub hl [0, 1, 2, 3, 4] rfl)
        · have h := i_f c32 h
          refine lv_iload hx hb dX3_insertNext_35 (lv_at hl 4 rfl) ?_
          refine lv_iload hx hb dX3_insertNext_37 (lv_at hl 5 rfl) ?_
          refine lv_iadd hx hb dX3_insertNext_39 ?_
          refine lv_iconst (v := (2 : Int32)) hx hb dX3_insertNext_40 (by decide) ?_
          refine lv_idiv hx hb dX3_insertNext_41 (by decide) ?_
          refine lv_istore (lv' := [(7, .int ((x4 + x5) / (2 : Int32))), (0, .ref so), (1, .int a1), (2, .int a2), (3, .int x3), (4, .int x4), (5, .int x5), (6, .int x6)]) hx hb dX3_insertNext_42 hl (by decide) rfl (fun ls hl => ?_)
          refine lv_aload_n hx hb dX3_insertNext_44 rfl (lv_at hl 1 rfl) ?_
          refine va_get (D := D) (cl := vwCl) (ci := 3) (v := .ref jo) (C := RX3) (T := TX3) (N := 12) hx hb hts hinX3 hown hG.1 hP 0 rfl rfl 4 (by decide) fl34 (fun _ h9 => h9) rfl dX3_insertNext_45 ?_
          refine lv_iload_n hx hb dX3_insertNext_48 rfl (lv_at hl 4 rfl) ?_
          refine lv_aload_n hx hb dX3_insertNext_49 rfl (lv_at hl 1 rfl) ?_
          refine va_get (D := D) (cl := vwCl) (ci := 3) (v := .ref rowo) (C := RX3) (T := TX3) (N := 12) hx hb hts hinX3 hown hG.1 hP 0 rfl rfl 0 (by decide) fl14 (fun _ h9 => h9) rfl dX3_insertNext_50 ?_
          refine lv_iload_n hx hb dX3_insertNext_53 rfl (lv_at hl 2 rfl) ?_
          refine lv_iload hx hb dX3_insertNext_54 (lv_at hl 0 rfl) ?_
          refine lv_iadd hx hb dX3_insertNext_56 ?_
          obtain ⟨r57, hc57, h⟩ := bd1_some h
          refine ct_VN (As := [.int (a1 + ((x4 + x5) / (2 : Int32)))]) (rest := [.int x3, .ref jo]) (st1 := [.int r57, .int x3, .ref jo]) (wf := [(so, .inr (3, [.ref rowo, .ref talo, .ref plao, .ref leno, .ref jo, .ref mo, .int srec, .int spol, .int slea, .int sdep, .int sinr, .int swai])), (rowo, .inr (0, [.ref rowv])), (rowv, .inl (cA, 96, .inl rowf)), (talo, .inr (0, [.ref talv])), (talv, .inl (cA, 12, .inl talf)), (jo, .inr (1, [.ref talo, .int jord]))]) (kX0_look l D cA F rowo rowv 96 rowf (a1 + ((x4 + x5) / (2 : Int32))) r57 hc57) ⟨hx, hb, hml, hown, hts⟩ ⟨va_cnB 1 hts gX3_insertNext_X0_look_n66 rfl rfl rfl (hG.2.m 12 rfl) (hts (.initialized RX0) (by decide +kernel)) (by decide +kernel) ⟨Nat.le_of_ble_eq_true rfl, Nat.le_of_ble_eq_true rfl⟩, hts (.instanceMethod yX0_look) (by decide +kernel), hts (.selects RX0 yX0_look yX0_look) (by decide +kernel)⟩ hG hst hP hD hS hA 0 rfl rfl rfl [1, 2] [0, 3, 4, 5] [0, 4, 5, 1, 2, 3] rfl rfl rfl rfl rfl rfl hl.1 rfl rfl (Nat.le_of_ble_eq_true rfl) dX3_insertNext_57 ⟨Nat.zero_le _, Nat.zero_le _⟩ (fun H locs hP hD hS => ?_)
          obtain ⟨r60, talf_60, hc60, h⟩ := bd2_some h
          refine ct_VN (As := [.int x3, .int r57]) (rest := []) (st1 := [.int r60]) (wf := [(so, .inr (3, [.ref rowo, .ref talo, .ref plao, .ref leno, .ref jo, .ref mo, .int srec, .int spol, .int slea, .int sdep, .int sinr, .int swai])), (rowo, .inr (0, [.ref rowv])), (rowv, .inl (cA, 96, .inl rowf)), (talo, .inr (0, [.ref talv])), (talv, .inl (cA, 12, .inl talf_60)), (jo, .inr (1, [.ref talo, .int jord]))]) (kX1_isLess l D cA F jo talo talv  jord talf x3 r57 r60 talf_60 hc60) ⟨hx, hb, hml, hown, hts⟩ ⟨va_cnB 2 hts gX3_insertNext_X1_isLess_n128 rfl rfl rfl (hG.2.m 17 rfl) (hts (.initialized RX1) (by decide +kernel)) (by decide +kernel) ⟨Nat.le_of_ble_eq_true rfl, Nat.le_of_ble_eq_true rfl⟩, hts (.instanceMethod yX1_isLess) (by decide +kernel), hts (.selects RX1 yX1_isLess yX1_isLess) (by decide +kernel)⟩ hG hst hP hD hS hA 1 rfl rfl rfl [5, 3, 4] [0, 1, 2] [0, 1, 2, 4, 5, 3] rfl rfl rfl rfl rfl rfl hl.1 rfl rfl (Nat.le_of_ble_eq_true rfl) dX3_insertNext_60 ⟨Nat.zero_le _, Nat.zero_le _⟩ (fun H locs hP hD hS => ?_)
          refine lv_if_eq (tgt := 73) hx hb dX3_insertNext_63 (by decide) (fun c63 => ?_) (fun c63 => ?_)
          · have h := i_t c63 h
            refine lv_iload hx hb dX3_insertNext_73 (lv_at hl 0 rfl) ?_
            refine lv_iconst (v := (1 : Int32)) hx hb dX3_insertNext_75 (by decide) ?_
            refine lv_iadd hx hb dX3_insertNext_76 ?_
            refine lv_istore (lv' := [(4, .int (((x4 + x5) / (2 : Int32)) + (1 : Int32))), (7, .int ((x4 + x5) / (2 : Int32))), (0, .ref so), (1, .int a1), (2, .int a2), (3, .int x3), (5, .int x5), (6, .int x6)]) hx hb dX3_insertNext_77 hl (by decide) rfl (fun ls hl => ?_)
            refine lv_iinc (v := x6 + (1 : Int32)) (lv' := [(6, .int (x6 + (1 : Int32))), (4, .int (((x4 + x5) / (2 : Int32)) + (1 : Int32))), (7, .int ((x4 + x5) / (2 : Int32))), (0, .ref so), (1, .int a1), (2, .int a2), (3, .int x3), (5, .int x5)]) hx hb dX3_insertNext_79 hl (k := 7) rfl (congrArg (fun z => x6 + z) (by decide)) (by decide) rfl (fun ls hl => ?_)
            refine lv_goto (tgt := 20) hx hb dX3_insertNext_82 (by decide) ?_
            exact ih20 x3 (((x4 + x5) / (2 : Int32)) + (1 : Int32)) x5 (x6 + (1 : Int32)) rowf talf_60 _ _ _ h hP hD hS (lv_sub hl [3, 4, 5, 6, 1, 7, 0] rfl)
          · have h := i_f c63 h
            refine lv_iload hx hb dX3_insertNext_66 (lv_at hl 0 rfl) ?_
            refine lv_istore (lv' := [(5, .int ((x4 + x5) / (2 : Int32))), (7, .int ((x4 + x5) / (2 : Int32))), (0, .ref so), (1, .int a1), (2, .int a2), (3, .int x3), (4, .int x4), (6, .int x6)]) hx hb dX3_insertNext_68 hl (by decide) rfl (fun ls hl => ?_)
            refine lv_goto (tgt := 79) hx hb dX3_insertNext_70 (by decide) ?_
            refine lv_iinc (v := x6 + (1 : Int32)) (lv' := [(6, .int (x6 + (1 : Int32))), (5, .int ((x4 + x5) / (2 : Int32))), (7, .int ((x4 + x5) / (2 : Int32))), (0, .ref so), (1, .int a1), (2, .int a2), (3, .int x3), (4, .int x4)]) hx hb dX3_insertNext_79 hl (k := 7) rfl (congrArg (fun z => x6 + z) (by decide)) (by decide) rfl (fun ls hl => ?_)
            refine lv_goto (tgt := 20) hx hb dX3_insertNext_82 (by decide) ?_
            exact ih20 x3 x4 ((x4 + x5) / (2 : Int32)) (x6 + (1 : Int32)) rowf talf_60 _ _ _ h hP hD hS (lv_sub hl [3, 4, 5, 6, 7, 1, 0] rfl)
  unfold mX3_insertNext at h
  refine lv_aload_n hx hb dX3_insertNext_0 rfl (lv_at hl 0 rfl) ?_
  refine va_get (D := D) (cl := vwCl) (ci := 3) (v := .ref rowo) (C := RX3) (T := TX3) (N := 12) hx hb hts hinX3 hown hG.1 hP 0 rfl rfl 0 (by decide) fl14 (fun _ h9 => h9) rfl dX3_insertNext_1 ?_
  refine lv_iload_n hx hb dX3_insertNext_4 rfl (lv_at hl 1 rfl) ?_
  refine lv_iload_n hx hb dX3_insertNext_5 rfl (lv_at hl 2 rfl) ?_
  refine lv_iadd hx hb dX3_insertNext_6 ?_
  obtain ⟨r7, hc7, h⟩ := bd1_some h
  refine ct_VN (As := [.int (a1 + a2)]) (rest := []) (st1 := [.int r7]) (wf := [(so, .inr (3, [.ref rowo, .ref talo, .ref plao, .ref leno, .ref jo, .ref mo, .int srec, .int spol, .int slea, .int sdep, .int sinr, .int swai])), (rowo, .inr (0, [.ref rowv])), (rowv, .inl (cA, 96, .inl rowf)), (talo, .inr (0, [.ref talv])), (talv, .inl (cA, 12, .inl talf)), (jo, .inr (1, [.ref talo, .int jord]))]) (kX0_look l D cA F rowo rowv 96 rowf (a1 + a2) r7 hc7) ⟨hx, hb, hml, hown, hts⟩ ⟨va_cnB 1 hts gX3_insertNext_X0_look_n66 rfl rfl rfl (hG.2.m 12 rfl) (hts (.initialized RX0) (by decide +kernel)) (by decide +kernel) ⟨Nat.le_of_ble_eq_true rfl, Nat.le_of_ble_eq_true rfl⟩, hts (.instanceMethod yX0_look) (by decide +kernel), hts (.selects RX0 yX0_look yX0_look) (by decide +kernel)⟩ hG hst hP hD hS hA 0 rfl rfl rfl [1, 2] [0, 3, 4, 5] [0, 4, 5, 1, 2, 3] rfl rfl rfl rfl rfl rfl hl.1 rfl rfl (Nat.le_of_ble_eq_true rfl) dX3_insertNext_7 ⟨Nat.zero_le _, Nat.zero_le _⟩ (fun H locs hP hD hS => ?_)
  refine lv_istore_n (lv' := [(3, .int r7), (0, .ref so), (1, .int a1), (2, .int a2)]) hx hb dX3_insertNext_10 rfl hl (by decide) rfl (fun ls hl => ?_)
  refine lv_iconst (v := (0 : Int32)) hx hb dX3_insertNext_11 (by decide) ?_
  refine lv_istore (lv' := [(4, .int (0 : Int32)), (3, .int r7), (0, .ref so), (1, .int a1), (2, .int a2)]) hx hb dX3_insertNext_12 hl (by decide) rfl (fun ls hl => ?_)
  refine lv_iload_n hx hb dX3_insertNext_14 rfl (lv_at hl 4 rfl) ?_
  refine lv_istore (lv' := [(5, .int a2), (4, .int (0 : Int32)), (3, .int r7), (0, .ref so), (1, .int a1), (2, .int a2)]) hx hb dX3_insertNext_15 hl (by decide) rfl (fun ls hl => ?_)
  refine lv_iconst (v := (0 : Int32)) hx hb dX3_insertNext_17 (by decide) ?_
  refine lv_istore (lv' := [(6, .int (0 : Int32)), (5, .int a2), (4, .int (0 : Int32)), (3, .int r7), (0, .ref so), (1, .int a1), (2, .int a2)]) hx hb dX3_insertNext_18 hl (by decide) rfl (fun ls hl => ?_)
  exact hmX3_insertNext_20 F r7 (0 : Int32) a2 (0 : Int32) rowf talf _ _ _ h hP hD hS (lv_sub hl [4, 5, 6, 3, 2, 1, 0] rfl)
set_option maxHeartbeats 4000000 in
set_option maxRecDepth 100000 in
theorem kX3_turnRound (l : Launch) (D : va_G) (cA : ClassId) (F : Nat) (so : Nat) (rowo : Nat) (talo : Nat) (plao : Nat) (leno : Nat) (jo : Nat) (mo : Nat) (rowv : Nat) (talv : Nat) (srec : Int32) (spol : Int32) (slea : Int32) (sdep : Int32) (sinr : Int32) (swai : Int32) (rowf : (Nat → Int32)) (talf : (Nat → Int32)) (a1 : Int32) (a2 : Int32) (rowf_9 : (Nat → Int32)) (talf_9 : (Nat → Int32)) (h : mX3_turnRound F rowf talf a1 a2 = some (rowf_9, talf_9)) : Ct l yX3_turnRound wsX3_turnRound ({ frames := 1, cells := 0, slots := 0, locals := 22 }) D cA [.ref so, .int a1, .int a2] [(so, .inr (3, [.ref rowo, .ref talo, .ref plao, .ref leno, .ref jo, .ref mo, .int srec, .int spol, .int slea, .int sdep, .int sinr, .int swai])), (rowo, .inr (0, [.ref rowv])), (rowv, .inl (cA, 96, .inl rowf)), (talo, .inr (0, [.ref talv])), (talv, .inl (cA, 12, .inl talf))] [(so, .inr (3, [.ref rowo, .ref talo, .ref plao, .ref leno, .ref jo, .ref mo, .int srec, .int spol, .int slea, .int sdep, .int sinr, .int swai])), (rowo, .inr (0, [.ref rowv])), (rowv, .inl (cA, 96, .inl rowf_9)), (talo, .inr (0, [.ref talv])), (talv, .inl (cA, 12, .inl talf_9))] (none) := by
  refine Ct.of (cc := cX3_turnRound) (maxL := 6) (ret := none) (by decide) rfl (Nat.le_of_ble_eq_true rfl) ?_
  intro p e s m below meth c A ls hcx hG hst hA hP hD hl
  obtain ⟨hx, hb, hml, hown, hts, hr, hlocks⟩ := id hcx
  have hown : s.vm.findClass RX3 = some m.cls := hown
  have hS : va_S A s.heap s.heap [] := va_S.rf
  have hl : lv_has ls 6 [(0, .ref so), (1, .int a1), (2, .int a2)] := hl
  have hinX3 : ∀ w ∈ u_ws RX3 TX3 12, w ∈ wsX3_turnRound := by decide +kernel
  have fl20 := hts (.fieldLink RX3 20 "RunSorter$Sorter" "tally" "LRunSorter$Cells;") (by decide +kernel)
  have fl14 := hts (.fieldLink RX3 14 "RunSorter$Sorter" "row" "LRunSorter$Cells;") (by decide +kernel)
  have hmX3_turnRound_7 : ∀ (n7 : Nat) (x3 : Int32) (x4 : Int32) (rowf : (Nat → Int32)) (talf : (Nat → Int32)) (H : Heap) (locs : List Loc) (ls : Array Slot), mX3_turnRound_7 F a1 a2 n7 x3 x4 rowf talf = some (rowf_9, talf_9) → va_P D vwCl [(so, .inr (3, [.ref rowo, .ref talo, .ref plao, .ref leno, .ref jo, .ref mo, .int srec, .int spol, .int slea, .int sdep, .int sinr, .int swai])), (rowo, .inr (0, [.ref rowv])), (rowv, .inl (cA, 96, .inl rowf)), (talo, .inr (0, [.ref talv])), (talv, .inl (cA, 12, .inl talf))] H → va_D A [(so, .inr (3, [.ref rowo, .ref talo, .ref plao, .ref leno, .ref jo, .ref mo, .int srec, .int spol, .int slea, .int sdep, .int sinr, .int swai])), (rowo, .inr (0, [.ref rowv])), (rowv, .inl (cA, 96, .inl rowf)), (talo, .inr (0, [.ref talv])), (talv, .inl (cA, 12, .inl talf))] → va_S A s.heap H locs → lv_has ls 6 [(0, .ref so), (1, .int a1), (2, .int a2), (3, .int x3), (4, .int x4)] → W p l e ({ frames := 1, cells := 0, slots := 0, locals := 22 }) s m ([.ref so, .int a1, .int a2] : List Value).toArray below meth c H locs 0 0 (MQ below (Qw D A [(so, .inr (3, [.ref rowo, .ref talo, .ref plao, .ref leno, .ref jo, .ref mo, .int srec, .int spol, .int slea, .int sdep, .int sinr, .int swai])), (rowo, .inr (0, [.ref rowv])), (rowv, .inl (cA, 96, .inl rowf_9)), (talo, .inr (0, [.ref talv])), (talv, .inl (cA, 12, .inl talf_9))] (none)) ([.ref so, .int a1, .int a2] : List Value).toArray s 0 0 A) (F0 m 7 ls []) := by
    intro n7
    induction n7 with
    | zero => intro x3 x4 rowf talf H locs ls h; exact (no_some h).elim
    | succ n7 ih7 =>
      intro x3 x4 rowf talf H locs ls h hP hD hS hl
      rw [mX3_turnRound_7] at h
      refine lv_iload hx hb dX3_turnRound_7 (lv_at hl 4 rfl) ?_
      refine lv_iload_n hx hb dX3_turnRound_9 rfl (lv_at hl 3 rfl) ?_
      refine lv_icmp_ge (tgt := 75) hx hb dX3_turnRound_10 (by decide) (fun c10 => ?_) (fun c10 => ?_)
      · have h := i_t c10 h
        refine lv_aload_n hx hb dX3_turnRound_75 rfl (lv_at hl 0 rfl) ?_
        refine va_get (D := D) (cl := vwCl) (ci := 3) (v := .ref talo) (C := RX3) (T := TX3) (N := 12) hx hb hts hinX3 hown hG.1 hP 0 rfl rfl 1 (by decide) fl20 (fun _ h9 => h9) rfl dX3_turnRound_76 ?_
        refine lv_iconst (v := (1 : Int32)) hx hb dX3_turnRound_79 (by decide) ?_
        refine lv_iconst (v := (2 : Int32)) hx hb dX3_turnRound_80 (by decide) ?_
        refine lv_iload_n hx hb dX3_turnRound_81 rfl (lv_at hl 3 rfl) ?_
        refine lv_imul hx hb dX3_turnRound_82 ?_
        obtain ⟨talf_83, hc83, h⟩ := bd1_some h
        refine ct_VN (As := [.int (1 : Int32), .int ((2 : Int32) * x3)]) (rest := []) (st1 := []) (wf := [(so, .inr (3, [.ref rowo, .ref talo, .ref plao, .ref leno, .ref jo, .ref mo, .int srec, .int spol, .int slea, .int sdep, .int sinr, .int swai])), (rowo, .inr (0, [.ref rowv])), (rowv, .inl (cA, 96, .inl rowf)), (talo, .inr (0, [.ref talv])), (talv, .inl (cA, 12, .inl talf_83))]) (kX0_add l D cA F talo talv 12 talf (1 : Int32) ((2 : Int32) * x3) talf_83 hc83) ⟨hx, hb, hml, hown, hts⟩ ⟨va_cnB 2 hts gX3_turnRound_X0_add_n100 rfl rfl rfl (hG.2.m 21 rfl) (hts (.initialized RX0) (by decide +kernel)) (by decide +kernel) ⟨Nat.le_of_ble_eq_true rfl, Nat.le_of_ble_eq_true rfl⟩, hts (.instanceMethod yX0_add) (by decide +kernel), hts (.selects RX0 yX0_add yX0_add) (by decide +kernel)⟩ hG hst hP hD hS hA 0 rfl rfl rfl [3, 4] [0, 1, 2] [0, 1, 2, 3, 4] rfl rfl rfl rfl rfl rfl hl.1 rfl rfl (Nat.le_of_ble_eq_true rfl) dX3_turnRound_83 ⟨Nat.zero_le _, Nat.zero_le _⟩ (fun H locs hP hD hS => ?_)
        cases h
        exact rt_v hx hb hr hlocks hP hD hS dX3_turnRound_86
      · have h := i_f c10 h
        refine lv_aload_n hx hb dX3_turnRound_13 rfl (lv_at hl 0 rfl) ?_
        refine va_get (D := D) (cl := vwCl) (ci := 3) (v := .ref rowo) (C := RX3) (T := TX3) (N := 12) hx hb hts hinX3 hown hG.1 hP 0 rfl rfl 0 (by decide) fl14 (fun _ h9 => h9) rfl dX3_turnRound_14 ?_
        refine lv_iload_n hx hb dX3_turnRound_17 rfl (lv_at hl 1 rfl) ?_
        refine lv_iload hx hb dX3_turnRound_18 (lv_at hl 4 rfl) ?_
        refine lv_iadd hx hb dX3_turnRound_20 ?_
        obtain ⟨r21, hc21, h⟩ := bd1_some h
        refine ct_VN (As := [.int (a1 + x4)]) (rest := []) (st1 := [.int r21]) (wf := [(so, .inr (3, [.ref rowo, .ref talo, .ref plao, .ref leno, .ref jo, .ref mo, .int srec, .int spol, .int slea, .int sdep, .int sinr, .int swai])), (rowo, .inr (0, [.ref rowv])), (rowv, .inl (cA, 96, .inl rowf)), (talo, .inr (0, [.ref talv])), (talv, .inl (cA, 12, .inl talf))]) (kX0_look l D cA F rowo rowv 96 rowf (a1 + x4) r21 hc21) ⟨hx, hb, hml, hown, hts⟩ ⟨va_cnB 1 hts gX3_turnRound_X0_look_n66 rfl rfl rfl (hG.2.m 12 rfl) (hts (.initialized RX0) (by decide +kernel)) (by decide +kernel) ⟨Nat.le_of_ble_eq_true rfl, Nat.le_of_ble_eq_true rfl⟩, hts (.instanceMethod yX0_look) (by decide +kernel), hts (.selects RX0 yX0_look yX0_look) (by decide +kernel)⟩ hG hst hP hD hS hA 0 rfl rfl rfl [1, 2] [0, 3, 4] [0, 3, 4, 1, 2] rfl rfl rfl rfl rfl rfl hl.1 rfl rfl (Nat.le_of_ble_eq_true rfl) dX3_turnRound_21 ⟨Nat.zero_le _, Nat.zero_le _⟩ (fun H locs hP hD hS => ?_)
        refine lv_istore (lv' := [(5, .int r21), (0, .ref so), (1, .int a1), (2, .int a2), (3, .int x3), (4, .int x4)]) hx hb dX3_turnRound_24 hl (by decide) rfl (fun ls hl => ?_)
        refine lv_aload_n hx hb dX3_turnRound_26 rfl (lv_at hl 1 rfl) ?_
        refine va_get (D := D) (cl := vwCl) (ci := 3) (v := .ref rowo) (C := RX3) (T := TX3) (N := 12) hx hb hts hinX3 hown hG.1 hP 0 rfl rfl 0 (by decide) fl14 (fun _ h9 => h9) rfl dX3_turnRound_27 ?_
        refine lv_iload_n hx hb dX3_turnRound_30 rfl (lv_at hl 2 rfl) ?_
        refine lv_iload hx hb dX3_turnRound_31 (lv_at hl 5 rfl) ?_
        refine lv_iadd hx hb dX3_turnRound_33 ?_
        refine lv_aload_n hx hb dX3_turnRound_34 rfl (lv_at hl 1 rfl) ?_
        refine va_get (D := D) (cl := vwCl) (ci := 3) (v := .ref rowo) (C := RX3) (T := TX3) (N := 12) hx hb hts hinX3 hown hG.1 hP 0 rfl rfl 0 (by decide) fl14 (fun _ h9 => h9) rfl dX3_turnRound_35 ?_
        refine lv_iload_n hx hb dX3_turnRound_38 rfl (lv_at hl 2 rfl) ?_
        refine lv_iload_n hx hb dX3_turnRound_39 rfl (lv_at hl 3 rfl) ?_
        refine lv_iadd hx hb dX3_turnRound_40 ?_
        refine lv_iconst (v := (1 : Int32)) hx hb dX3_turnRound_41 (by decide) ?_
        refine lv_isub hx hb dX3_turnRound_42 ?_
        refine lv_iload hx hb dX3_turnRound_43 (lv_at hl 5 rfl) ?_
        refine lv_isub hx hb dX3_turnRound_45 ?_
        obtain ⟨r46, hc46, h⟩ := bd1_some h
        refine ct_VN (As := [.int (((a1 + a2) - (1 : Int32)) - x4)]) (rest := [.int (a1 + x4), .ref rowo]) (st1 := [.int r46, .int (a1 + x4), .ref rowo]) (wf := [(so, .inr (3, [.ref rowo, .ref talo, .ref plao, .ref leno, .ref jo, .ref mo, .int srec, .int spol, .int slea, .int sdep, .int sinr, .int swai])), (rowo, .inr (0, [.ref rowv])), (rowv, .inl (cA, 96, .inl rowf)), (talo, .inr (0, [.ref talv])), (talv, .inl (cA, 12, .inl talf))]) (kX0_look l D cA F rowo rowv 96 rowf (((a1 + a2) - (1 : Int32)) - x4) r46 hc46) ⟨hx, hb, hml, hown, hts⟩ ⟨va_cnB 1 hts gX3_turnRound_X0_look_n66 rfl rfl rfl (hG.2.m 12 rfl) (hts (.initialized RX0) (by decide +kernel)) (by decide +kernel) ⟨Nat.le_of_ble_eq_true rfl, Nat.le_of_ble_eq_true rfl⟩, hts (.instanceMethod yX0_look) (by decide +kernel), hts (.selects RX0 yX0_look yX0_look) (by decide +kernel)⟩ hG hst hP hD hS hA 0 rfl rfl rfl [1, 2] [0, 3, 4] [0, 3, 4, 1, 2] rfl rfl rfl rfl rfl rfl hl.1 rfl rfl (Nat.le_of_ble_eq_true rfl) dX3_turnRound_46 ⟨Nat.zero_le _, Nat.zero_le _⟩ (fun H locs hP hD hS => ?_)
        obtain ⟨rowf_49, hc49, h⟩ := bd1_some h
        refine ct_VN (As := [.int (a1 + x4), .int r46]) (rest := []) (st1 := []) (wf := [(so, .inr (3, [.ref rowo, .ref talo, .ref plao, .ref leno, .ref jo, .ref mo, .int srec, .int spol, .int slea, .int sdep, .int sinr, .int swai])), (rowo, .inr (0, [.ref rowv])), (rowv, .inl (cA, 96, .inl rowf_49)), (talo, .inr (0, [.ref talv])), (talv, .inl (cA, 12, .inl talf))]) (kX0_fill l D cA F rowo rowv 96 rowf (a1 + x4) r46 rowf_49 hc49) ⟨hx, hb, hml, hown, hts⟩ ⟨va_cnB 2 hts gX3_turnRound_X0_fill_n70 rfl rfl rfl (hG.2.m 13 rfl) (hts (.initialized RX0) (by decide +kernel)) (by decide +kernel) ⟨Nat.le_of_ble_eq_true rfl, Nat.le_of_ble_eq_true rfl⟩, hts (.instanceMethod yX0_fill) (by decide +kernel), hts (.selects RX0 yX0_fill yX0_fill) (by decide +kernel)⟩ hG hst hP hD hS hA 0 rfl rfl rfl [1, 2] [0, 3, 4] [0, 3, 4, 1, 2] rfl rfl rfl rfl rfl rfl hl.1 rfl rfl (Nat.le_of_ble_eq_true rfl) dX3_turnRound_49 ⟨Nat.zero_le _, Nat.zero_le _⟩ (fun H locs hP hD hS => ?_)
        refine lv_aload_n hx hb dX3_turnRound_52 rfl (lv_at hl 1 rfl) ?_
        refine va_get (D := D) (cl := vwCl) (ci := 3) (v := .ref rowo) (C := RX3) (T := TX3) (N := 12) hx hb hts hinX3 hown hG.1 hP 0 rfl rfl 0 (by decide) fl14 (fun _ h9 => h9) rfl dX3_turnRound_53 ?_
        refine lv_iload_n hx hb dX3_turnRound_56 rfl (lv_at hl 2 rfl) ?_
        refine lv_iload_n hx hb dX3_turnRound_57 rfl (lv_at hl 3 rfl) ?_
        refine lv_iadd hx hb dX3_turnRound_58 ?_
        refine lv_iconst (v := (1 : Int32)) hx hb dX3_turnRound_59 (by decide) ?_
        refine lv_isub hx hb dX3_turnRound_60 ?_
        refine lv_iload hx hb dX3_turnRound_61 (lv_at hl 5 rfl) ?_
        refine lv_isub hx hb dX3_turnRound_63 ?_
        refine lv_iload hx hb dX3_turnRound_64 (lv_at hl 0 rfl) ?_
        obtain ⟨rowf_66, hc66, h⟩ := bd1_some h
        refine ct_VN (As := [.int (((a1 + a2) - (1 : Int32)) - x4), .int r21]) (rest := []) (st1 := []) (wf := [(so, .inr (3, [.ref rowo, .ref talo, .ref plao, .ref leno, .ref jo, .ref mo, .int srec, .int spol, .int slea, .int sdep, .int sinr, .int swai])), (rowo, .inr (0, [.ref rowv])), (rowv, .inl (cA, 96, .inl rowf_66)), (talo, .inr (0, [.ref talv])), (talv, .inl (cA, 12, .inl talf))]) (kX0_fill l D cA F rowo rowv 96 rowf_49 (((a1 + a2) - (1 : Int32)) - x4) r21 rowf_66 hc66) ⟨hx, hb, hml, hown, hts⟩ ⟨va_cnB 2 hts gX3_turnRound_X0_fill_n70 rfl rfl rfl (hG.2.m 13 rfl) (hts (.initialized RX0) (by decide +kernel)) (by decide +kernel) ⟨Nat.le_of_ble_eq_true rfl, Nat.le_of_ble_eq_true rfl⟩, hts (.instanceMethod yX0_fill) (by decide +kernel), hts (.selects RX0 yX0_fill yX0_fill) (by decide +kernel)⟩ hG hst hP hD hS hA 0 rfl rfl rfl [1, 2] [0, 3, 4] [0, 3, 4, 1, 2] rfl rfl rfl rfl rfl rfl hl.1 rfl rfl (Nat.le_of_ble_eq_true rfl) dX3_turnRound_66 ⟨Nat.zero_le _, Nat.zero_le _⟩ (fun H locs hP hD hS => ?_)
        refine lv_iinc (v := x4 + (1 : Int32)) (lv' := [(4, .int (x4 + (1 : Int32))), (5, .int r21), (0, .ref so), (1, .int a1), (2, .int a2), (3, .int x3)]) hx hb dX3_turnRound_69 hl (k := 5) rfl (congrArg (fun z => x4 + z) (by decide)) (by decide) rfl (fun ls hl => ?_)
        refine lv_goto (tgt := 7) hx hb dX3_turnRound_72 (by decide) ?_
        exact ih7 x3 (x4 + (1 : Int32)) rowf_66 talf _ _ _ h hP hD hS (lv_sub hl [2, 3, 4, 5, 0] rfl)
  unfold mX3_turnRound at h
  refine lv_iload_n hx hb dX3_turnRound_0 rfl (lv_at hl 2 rfl) ?_
  refine lv_iconst (v := (2 : Int32)) hx hb dX3_turnRound_1 (by decide) ?_
  refine lv_idiv hx hb dX3_turnRound_2 (by decide) ?_
  refine lv_istore_n (lv' := [(3, .int (a2 / (2 : Int32))), (0, .ref so), (1, .int a1), (2, .int a2)]) hx hb dX3_turnRound_3 rfl hl (by decide) rfl (fun ls hl => ?_)
  refine lv_iconst (v := (0 : Int32)) hx hb dX3_turnRound_4 (by decide) ?_
  refine lv_istore (lv' := [(4, .int (0 : Int32)), (3, .int (a2 / (2 : Int32))), (0, .ref so), (1, .int a1), (2, .int a2)]) hx hb dX3_turnRound_5 hl (by decide) rfl (fun ls hl => ?_)
  exact hmX3_turnRound_7 F (a2 / (2 : Int32)) (0 : Int32) rowf talf _ _ _ h hP hD hS (lv_sub hl [2, 3, 4, 1, 0] rfl)
set_option maxHeartbeats 4000000 in
set_option maxRecDepth 100000 in
theorem kX3_lengthAsItLies (l : Launch) (D : va_G) (cA : ClassId) (F : Nat) (so : Nat) (rowo : Nat) (talo : Nat) (plao : Nat) (leno : Nat) (jo : Nat) (mo : Nat) (rowv : Nat) (talv : Nat) (srec : Int32) (spol : Int32) (slea : Int32) (sdep : Int32) (sinr : Int32) (swai : Int32) (rowf : (Nat → Int32)) (talf : (Nat → Int32)) (jord : Int32) (a1 : Int32) (a2 : Int32) (r0 : Int32) (talf_9 : (Nat → Int32)) (h : mX3_lengthAsItLies F srec rowf talf jord a1 a2 = some (r0, talf_9)) : Ct l yX3_lengthAsItLies wsX3_lengthAsItLies ({ frames := 2, cells := 0, slots := 0, locals := 44 }) D cA [.ref so, .int a1, .int a2] [(so, .inr (3, [.ref rowo, .ref talo, .ref plao, .ref leno, .ref jo, .ref mo, .int srec, .int spol, .int slea, .int sdep, .int sinr, .int swai])), (rowo, .inr (0, [.ref rowv])), (rowv, .inl (cA, 96, .inl rowf)), (talo, .inr (0, [.ref talv])), (talv, .inl (cA, 12, .inl talf)), (jo, .inr (1, [.ref talo, .int jord]))] [(so, .inr (3, [.ref rowo, .ref talo, .ref plao, .ref leno, .ref jo, .ref mo, .int srec, .int spol, .int slea, .int sdep, .int sinr, .int swai])), (rowo, .inr (0, [.ref rowv])), (rowv, .inl (cA, 96, .inl rowf)), (talo, .inr (0, [.ref talv])), (talv, .inl (cA, 12, .inl talf_9)), (jo, .inr (1, [.ref talo, .int jord]))] (some (.int r0)) := by
  refine Ct.of (cc := cX3_lengthAsItLies) (maxL := 4) (ret := (some .int)) (by decide) rfl (Nat.le_of_ble_eq_true rfl) ?_
  intro p e s m below meth c A ls hcx hG hst hA hP hD hl
  obtain ⟨hx, hb, hml, hown, hts, hr, hlocks⟩ := id hcx
  have hown : s.vm.findClass RX3 = some m.cls := hown
  have hS : va_S A s.heap s.heap [] := va_S.rf
  have hl : lv_has ls 4 [(0, .ref so), (1, .int a1), (2, .int a2)] := hl
  have hinX3 : ∀ w ∈ u_ws RX3 TX3 12, w ∈ wsX3_lengthAsItLies := by decide +kernel
  have fl47 := hts (.fieldLink RX3 47 "RunSorter$Sorter" "records" "I") (by decide +kernel)
  have fl34 := hts (.fieldLink RX3 34 "RunSorter$Sorter" "judge" "LRunSorter$Judge;") (by decide +kernel)
  have fl14 := hts (.fieldLink RX3 14 "RunSorter$Sorter" "row" "LRunSorter$Cells;") (by decide +kernel)
  have hmX3_lengthAsItLies_11 : ∀ (n11 : Nat) (x3 : Int32) (talf : (Nat → Int32)) (H : Heap) (locs : List Loc) (ls : Array Slot), mX3_lengthAsItLies_11 F srec rowf jord a1 a2 n11 x3 talf = some (r0, talf_9) → va_P D vwCl [(so, .inr (3, [.ref rowo, .ref talo, .ref plao, .ref leno, .ref jo, .ref mo, .int srec, .int spol, .int slea, .int sdep, .int sinr, .int swai])), (rowo, .inr (0, [.ref rowv])), (rowv, .inl (cA, 96, .inl rowf)), (talo, .inr (0, [.ref talv])), (talv, .inl (cA, 12, .inl talf)), (jo, .inr (1, [.ref talo, .int jord]))] H → va_D A [(so, .inr (3, [.ref rowo, .ref talo, .ref plao, .ref leno, .ref jo, .ref mo, .int srec, .int spol, .int slea, .int sdep, .int sinr, .int swai])), (rowo, .inr (0, [.ref rowv])), (rowv, .inl (cA, 96, .inl rowf)), (talo, .inr (0, [.ref talv])), (talv, .inl (cA, 12, .inl talf)), (jo, .inr (1, [.ref talo, .int jord]))] → va_S A s.heap H locs → lv_has ls 4 [(0, .ref so), (1, .int a1), (2, .int a2), (3, .int x3)] → W p l e ({ frames := 2, cells := 0, slots := 0, locals := 44 }) s m ([.ref so, .int a1, .int a2] : List Value).toArray below meth c H locs 0 0 (MQ below (Qw D A [(so, .inr (3, [.ref rowo, .ref talo, .ref plao, .ref leno, .ref jo, .ref mo, .int srec, .int spol, .int slea, .int sdep, .int sinr, .int swai])), (rowo, .inr (0, [.ref rowv])), (rowv, .inl (cA, 96, .inl rowf)), (talo, .inr (0, [.ref talv])), (talv, .inl (cA, 12, .inl talf_9)), (jo, .inr (1, [.ref talo, .int jord]))] (some (.int r0))) ([.ref so, .int a1, .int a2] : List Value).toArray s 0 0 A) (F0 m 11 ls []) := by
    intro n11
    induction n11 with
    | zero => intro x3 talf H locs ls h; exact (no_some h).elim
    | succ n11 ih11 =>
      intro x3 talf H locs ls h hP hD hS hl
      rw [mX3_lengthAsItLies_11] at h
      refine lv_iload_n hx hb dX3_lengthAsItLies_11 rfl (lv_at hl 3 rfl) ?_
      refine lv_aload_n hx hb dX3_lengthAsItLies_12 rfl (lv_at hl 0 rfl) ?_
      refine va_get (D := D) (cl := vwCl) (ci := 3) (v := .int srec) (C := RX3) (T := TX3) (N := 12) hx hb hts hinX3 hown hG.1 hP 0 rfl rfl 6 (by decide) fl47 (fun _ h9 => h9) rfl dX3_lengthAsItLies_13 ?_
      refine lv_icmp_ge (tgt := 54) hx hb dX3_lengthAsItLies_16 (by decide) (fun c16 => ?_) (fun c16 => ?_)
      · have h := i_t c16 h
        refine lv_iload_n hx hb dX3_lengthAsItLies_54 rfl (lv_at hl 3 rfl) ?_
        refine lv_iload_n hx hb dX3_lengthAsItLies_55 rfl (lv_at hl 1 rfl) ?_
        refine lv_isub hx hb dX3_lengthAsItLies_56 ?_
        cases h
        exact rt_i hx hb hr hlocks hP hD hS dX3_lengthAsItLies_57
      · have h := i_f c16 h
        refine lv_aload_n hx hb dX3_lengthAsItLies_19 rfl (lv_at hl 0 rfl) ?_
        refine va_get (D := D) (cl := vwCl) (ci := 3) (v := .ref jo) (C := RX3) (T := TX3) (N := 12) hx hb hts hinX3 hown hG.1 hP 0 rfl rfl 4 (by decide) fl34 (fun _ h9 => h9) rfl dX3_lengthAsItLies_20 ?_
        refine lv_aload_n hx hb dX3_lengthAsItLies_23 rfl (lv_at hl 0 rfl) ?_
        refine va_get (D := D) (cl := vwCl) (ci := 3) (v := .ref rowo) (C := RX3) (T := TX3) (N := 12) hx hb hts hinX3 hown hG.1 hP 0 rfl rfl 0 (by decide) fl14 (fun _ h9 => h9) rfl dX3_lengthAsItLies_24 ?_
        refine lv_iload_n hx hb dX3_lengthAsItLies_27 rfl (lv_at hl 3 rfl) ?_
        obtain ⟨r28, hc28, h⟩ := bd1_some h
        refine ct_VN (As := [.int x3]) (rest := [.ref jo]) (st1 := [.int r28, .ref jo]) (wf := [(so, .inr (3, [.ref rowo, .ref talo, .ref plao, .ref leno, .ref jo, .ref mo, .int srec, .int spol, .int slea, .int sdep, .int sinr, .int swai])), (rowo, .inr (0, [.ref rowv])), (rowv, .inl (cA, 96, .inl rowf)), (talo, .inr (0, [.ref talv])), (talv, .inl (cA, 12, .inl talf)), (jo, .inr (1, [.ref talo, .int jord]))]) (kX0_look l D cA F rowo rowv 96 rowf x3 r28 hc28) ⟨hx, hb, hml, hown, hts⟩ ⟨va_cnB 1 hts gX3_lengthAsItLies_X0_look_n66 rfl rfl rfl (hG.2.m 12 rfl) (hts (.initialized RX0) (by decide +kernel)) (by decide +kernel) ⟨Nat.le_of_ble_eq_true rfl, Nat.le_of_ble_eq_true rfl⟩, hts (.instanceMethod yX0_look) (by decide +kernel), hts (.selects RX0 yX0_look yX0_look) (by decide +kernel)⟩ hG hst hP hD hS hA 0 rfl rfl rfl [1, 2] [0, 3, 4, 5] [0, 4, 5, 1, 2, 3] rfl rfl rfl rfl rfl rfl hl.1 rfl rfl (Nat.le_of_ble_eq_true rfl) dX3_lengthAsItLies_28 ⟨Nat.zero_le _, Nat.zero_le _⟩ (fun H locs hP hD hS => ?_)
        refine lv_aload_n hx hb dX3_lengthAsItLies_31 rfl (lv_at hl 0 rfl) ?_
        refine va_get (D := D) (cl := vwCl) (ci := 3) (v := .ref rowo) (C := RX3) (T := TX3) (N := 12) hx hb hts hinX3 hown hG.1 hP 0 rfl rfl 0 (by decide) fl14 (fun _ h9 => h9) rfl dX3_lengthAsItLies_32 ?_
        refine lv_iload_n hx hb dX3_lengthAsItLies_35 rfl (lv_at hl 3 rfl) ?_
        refine lv_iconst (v := (1 : Int32)) hx hb dX3_lengthAsItLies_36 (by decide) ?_
        refine lv_isub hx hb dX3_lengthAsItLies_37 ?_
        obtain ⟨r38, hc38, h⟩ := bd1_some h
        refine ct_VN (As := [.int (x3 - (1 : Int32))]) (rest := [.int r28, .ref jo]) (st1 := [.int r38, .int r28, .ref jo]) (wf := [(so, .inr (3, [.ref rowo, .ref talo, .ref plao, .ref leno, .ref jo, .ref mo, .int srec, .int spol, .int slea, .int sdep, .int sinr, .int swai])), (rowo, .inr (0, [.ref rowv])), (rowv, .inl (cA, 96, .inl rowf)), (talo, .inr (0, [.ref talv])), (talv, .inl (cA, 12, .inl talf)), (jo, .inr (1, [.ref talo, .int jord]))]) (kX0_look l D cA F rowo rowv 96 rowf (x3 - (1 : Int32)) r38 hc38) ⟨hx, hb, hml, hown, hts⟩ ⟨va_cnB 1 hts gX3_lengthAsItLies_X0_look_n66 rfl rfl rfl (hG.2.m 12 rfl) (hts (.initialized RX0) (by decide +kernel)) (by decide +kernel) ⟨Nat.le_of_ble_eq_true rfl, Nat.le_of_ble_eq_true rfl⟩, hts (.instanceMethod yX0_look) (by decide +kernel), hts (.selects RX0 yX0_look yX0_look) (by decide +kernel)⟩ hG hst hP hD hS hA 0 rfl rfl rfl [1, 2] [0, 3, 4, 5] [0, 4, 5, 1, 2, 3] rfl rfl rfl rfl rfl rfl hl.1 rfl rfl (Nat.le_of_ble_eq_true rfl) dX3_lengthAsItLies_38 ⟨Nat.zero_le _, Nat.zero_le _⟩ (fun H locs hP hD hS => ?_)
        obtain ⟨r41, talf_41, hc41, h⟩ := bd2_some h
        refine ct_VN (As := [.int r28, .int r38]) (rest := []) (st1 := [.int r41]) (wf := [(so, .inr (3, [.ref rowo, .ref talo, .ref plao, .ref leno, .ref jo, .ref mo, .int srec, .int spol, .int slea, .int sdep, .int sinr, .int swai])), (rowo, .inr (0, [.ref rowv])), (rowv, .inl (cA, 96, .inl rowf)), (talo, .inr (0, [.ref talv])), (talv, .inl (cA, 12, .inl talf_41)), (jo, .inr (1, [.ref talo, .int jord]))]) (kX1_isLess l D cA F jo talo talv  jord talf r28 r38 r41 talf_41 hc41) ⟨hx, hb, hml, hown, hts⟩ ⟨va_cnB 2 hts gX3_lengthAsItLies_X1_isLess_n128 rfl rfl rfl (hG.2.m 17 rfl) (hts (.initialized RX1) (by decide +kernel)) (by decide +kernel) ⟨Nat.le_of_ble_eq_true rfl, Nat.le_of_ble_eq_true rfl⟩, hts (.instanceMethod yX1_isLess) (by decide +kernel), hts (.selects RX1 yX1_isLess yX1_isLess) (by decide +kernel)⟩ hG hst hP hD hS hA 1 rfl rfl rfl [5, 3, 4] [0, 1, 2] [0, 1, 2, 4, 5, 3] rfl rfl rfl rfl rfl rfl hl.1 rfl rfl (Nat.le_of_ble_eq_true rfl) dX3_lengthAsItLies_41 ⟨Nat.zero_le _, Nat.zero_le _⟩ (fun H locs hP hD hS => ?_)
        refine lv_iload_n hx hb dX3_lengthAsItLies_44 rfl (lv_at hl 2 rfl) ?_
        refine lv_icmp_ne (tgt := 54) hx hb dX3_lengthAsItLies_45 (by decide) (fun c45 => ?_) (fun c45 => ?_)
        · have h := i_f c45 h
          refine lv_iload_n hx hb dX3_lengthAsItLies_54 rfl (lv_at hl 3 rfl) ?_
          refine lv_iload_n hx hb dX3_lengthAsItLies_55 rfl (lv_at hl 1 rfl) ?_
          refine lv_isub hx hb dX3_lengthAsItLies_56 ?_
          cases h
          exact rt_i hx hb hr hlocks hP hD hS dX3_lengthAsItLies_57
        · have h := i_t c45 h
          refine lv_iinc (v := x3 + (1 : Int32)) (lv' := [(3, .int (x3 + (1 : Int32))), (0, .ref so), (1, .int a1), (2, .int a2)]) hx hb dX3_lengthAsItLies_48 hl (k := 3) rfl (congrArg (fun z => x3 + z) (by decide)) (by decide) rfl (fun ls hl => ?_)
          refine lv_goto (tgt := 11) hx hb dX3_lengthAsItLies_51 (by decide) ?_
          exact ih11 (x3 + (1 : Int32)) talf_41 _ _ _ h hP hD hS (lv_sub hl [1, 2, 3, 0] rfl)
  unfold mX3_lengthAsItLies at h
  refine lv_iload_n hx hb dX3_lengthAsItLies_0 rfl (lv_at hl 1 rfl) ?_
  refine lv_iconst (v := (2 : Int32)) hx hb dX3_lengthAsItLies_1 (by decide) ?_
  refine lv_iadd hx hb dX3_lengthAsItLies_2 ?_
  refine lv_aload_n hx hb dX3_lengthAsItLies_3 rfl (lv_at hl 0 rfl) ?_
  refine va_get (D := D) (cl := vwCl) (ci := 3) (v := .int srec) (C := RX3) (T := TX3) (N := 12) hx hb hts hinX3 hown hG.1 hP 0 rfl rfl 6 (by decide) fl47 (fun _ h9 => h9) rfl dX3_lengthAsItLies_4 ?_
  refine va_mmin hx hb (hml.trans hl.1.symm) hown (hts (.methodLink RX3 139 Lib.Math.min.name) (by decide +kernel)) (hts (.static Lib.Math.min.name) (by decide +kernel)) (hts (.initialized "java/lang/Math") (by decide +kernel)) (hts (.code Lib.Math.min.name Lib.Math.min.code 2 (some .int)) (by decide +kernel)) (Nat.le_of_ble_eq_true rfl) (Nat.le_of_ble_eq_true rfl) (Nat.zero_le _) (Nat.zero_le _) dX3_lengthAsItLies_7 ?_
  refine lv_istore_n (lv' := [(3, .int (if srec < (a1 + (2 : Int32)) then srec else (a1 + (2 : Int32)))), (0, .ref so), (1, .int a1), (2, .int a2)]) hx hb dX3_lengthAsItLies_10 rfl hl (by decide) rfl (fun ls hl => ?_)
  exact hmX3_lengthAsItLies_11 F (if srec < (a1 + (2 : Int32)) then srec else (a1 + (2 : Int32))) talf _ _ _ h hP hD hS (lv_sub hl [1, 2, 3, 0] rfl)
set_option maxHeartbeats 4000000 in
set_option maxRecDepth 100000 in
theorem kX3_findRun (l : Launch) (D : va_G) (cA : ClassId) (F : Nat) (so : Nat) (rowo : Nat) (talo : Nat) (plao : Nat) (leno : Nat) (jo : Nat) (mo : Nat) (rowv : Nat) (talv : Nat) (srec : Int32) (spol : Int32) (slea : Int32) (sdep : Int32) (sinr : Int32) (swai : Int32) (rowf : (Nat → Int32)) (talf : (Nat → Int32)) (jord : Int32) (sinr_9 : Int32) (swai_9 : Int32) (rowf_9 : (Nat → Int32)) (talf_9 : (Nat → Int32)) (h : mX3_findRun F srec slea sinr swai rowf talf jord = some (sinr_9, swai_9, rowf_9, talf_9)) : Ct l yX3_findRun wsX3_findRun ({ frames := 3, cells := 0, slots := 0, locals := 71 }) D cA [.ref so] [(so, .inr (3, [.ref rowo, .ref talo, .ref plao, .ref leno, .ref jo, .ref mo, .int srec, .int spol, .int slea, .int sdep, .int sinr, .int swai])), (rowo, .inr (0, [.ref rowv])), (rowv, .inl (cA, 96, .inl rowf)), (talo, .inr (0, [.ref talv])), (talv, .inl (cA, 12, .inl talf)), (jo, .inr (1, [.ref talo, .int jord]))] [(so, .inr (3, [.ref rowo, .ref talo, .ref plao, .ref leno, .ref jo, .ref mo, .int srec, .int spol, .int slea, .int sdep, .int sinr_9, .int swai_9])), (rowo, .inr (0, [.ref rowv])), (rowv, .inl (cA, 96, .inl rowf_9)), (talo, .inr (0, [.ref talv])), (talv, .inl (cA, 12, .inl talf_9)), (jo, .inr (1, [.ref talo, .int jord]))] (none) := by
  refine Ct.of (cc := cX3_findRun) (maxL := 5) (ret := none) (by decide) rfl (Nat.le_of_ble_eq_true rfl) ?_
  intro p e s m below meth c A ls hcx hG hst hA hP hD hl
  obtain ⟨hx, hb, hml, hown, hts, hr, hlocks⟩ := id hcx
  have hown : s.vm.findClass RX3 = some m.cls := hown
  have hS : va_S A s.heap s.heap [] := va_S.rf
  have hl : lv_has ls 5 [(0, .ref so)] := hl
  have hinX3 : ∀ w ∈ u_ws RX3 TX3 12, w ∈ wsX3_findRun := by decide +kernel
  have fl60 := hts (.fieldLink RX3 60 "RunSorter$Sorter" "inRuns" "I") (by decide +kernel)
  have fl47 := hts (.fieldLink RX3 47 "RunSorter$Sorter" "records" "I") (by decide +kernel)
  have fl34 := hts (.fieldLink RX3 34 "RunSorter$Sorter" "judge" "LRunSorter$Judge;") (by decide +kernel)
  have fl14 := hts (.fieldLink RX3 14 "RunSorter$Sorter" "row" "LRunSorter$Cells;") (by decide +kernel)
  have fl63 := hts (.fieldLink RX3 63 "RunSorter$Sorter" "waitingLength" "I") (by decide +kernel)
  have fl20 := hts (.fieldLink RX3 20 "RunSorter$Sorter" "tally" "LRunSorter$Cells;") (by decide +kernel)
  have fl54 := hts (.fieldLink RX3 54 "RunSorter$Sorter" "least" "I") (by decide +kernel)
  have hmX3_findRun_105 : ∀ (n105 : Nat) (x1 : Int32) (x3 : Int32) (x4 : Int32) (sinr : Int32) (swai : Int32) (rowf : (Nat → Int32)) (talf : (Nat → Int32)) (H : Heap) (locs : List Loc) (ls : Array Slot), mX3_findRun_105 F jord n105 x1 x3 x4 sinr swai rowf talf = some (sinr_9, swai_9, rowf_9, talf_9) → va_P D vwCl [(so, .inr (3, [.ref rowo, .ref talo, .ref plao, .ref leno, .ref jo, .ref mo, .int srec, .int spol, .int slea, .int sdep, .int sinr, .int swai])), (rowo, .inr (0, [.ref rowv])), (rowv, .inl (cA, 96, .inl rowf)), (talo, .inr (0, [.ref talv])), (talv, .inl (cA, 12, .inl talf)), (jo, .inr (1, [.ref talo, .int jord]))] H → va_D A [(so, .inr (3, [.ref rowo, .ref talo, .ref plao, .ref leno, .ref jo, .ref mo, .int srec, .int spol, .int slea, .int sdep, .int sinr, .int swai])), (rowo, .inr (0, [.ref rowv])), (rowv, .inl (cA, 96, .inl rowf)), (talo, .inr (0, [.ref talv])), (talv, .inl (cA, 12, .inl talf)), (jo, .inr (1, [.ref talo, .int jord]))] → va_S A s.heap H locs → lv_has ls 5 [(0, .ref so), (1, .int x1), (3, .int x3), (4, .int x4)] → W p l e ({ frames := 3, cells := 0, slots := 0, locals := 71 }) s m ([.ref so] : List Value).toArray below meth c H locs 0 0 (MQ below (Qw D A [(so, .inr (3, [.ref rowo, .ref talo, .ref plao, .ref leno, .ref jo, .ref mo, .int srec, .int spol, .int slea, .int sdep, .int sinr_9, .int swai_9])), (rowo, .inr (0, [.ref rowv])), (rowv, .inl (cA, 96, .inl rowf_9)), (talo, .inr (0, [.ref talv])), (talv, .inl (cA, 12, .inl talf_9)), (jo, .inr (1, [.ref talo, .int jord]))] (none)) ([.ref so] : List Value).toArray s 0 0 A) (F0 m 105 ls []) := by
    intro n105
    induction n105 with
    | zero => intro x1 x3 x4 sinr swai rowf talf H locs ls h; exact (no_some h).elim
    | succ n105 ih105 =>
      intro x1 x3 x4 sinr swai rowf talf H locs ls h hP hD hS hl
      rw [mX3_findRun_105] at h
      refine lv_iload_n hx hb dX3_findRun_105 rfl (lv_at hl 2 rfl) ?_
      refine lv_iload hx hb dX3_findRun_106 (lv_at hl 3 rfl) ?_
      refine lv_icmp_ge (tgt := 123) hx hb dX3_findRun_108 (by decide) (fun c108 => ?_) (fun c108 => ?_)
      · have h := i_t c108 h
        refine lv_aload_n hx hb dX3_findRun_123 rfl (lv_at hl 0 rfl) ?_
        refine lv_iload_n hx hb dX3_findRun_124 rfl (lv_at hl 2 rfl) ?_
        refine va_put (D := D) (cl := vwCl) (ci := 3) (v := .int x3) (ty := .int) (C := RX3) (T := TX3) (N := 12) hx hb hts hinX3 tyX3 tyX3_ok nmX3 hown hG.1 hP hD hS 0 rfl rfl 11 (by decide) fl63 (fun _ h9 => h9) rfl (by decide +kernel) rfl rfl (Nat.le_of_ble_eq_true rfl) dX3_findRun_125 (fun H locs hP hD hS => ?_)
        have hP : va_P D vwCl [(so, .inr (3, [.ref rowo, .ref talo, .ref plao, .ref leno, .ref jo, .ref mo, .int srec, .int spol, .int slea, .int sdep, .int sinr, .int x3])), (rowo, .inr (0, [.ref rowv])), (rowv, .inl (cA, 96, .inl rowf)), (talo, .inr (0, [.ref talv])), (talv, .inl (cA, 12, .inl talf)), (jo, .inr (1, [.ref talo, .int jord]))] H := hP
        have hD : va_D A [(so, .inr (3, [.ref rowo, .ref talo, .ref plao, .ref leno, .ref jo, .ref mo, .int srec, .int spol, .int slea, .int sdep, .int sinr, .int x3])), (rowo, .inr (0, [.ref rowv])), (rowv, .inl (cA, 96, .inl rowf)), (talo, .inr (0, [.ref talv])), (talv, .inl (cA, 12, .inl talf)), (jo, .inr (1, [.ref talo, .int jord]))] := hD
        refine lv_aload_n hx hb dX3_findRun_128 rfl (lv_at hl 0 rfl) ?_
        refine lv_iload_n hx hb dX3_findRun_129 rfl (lv_at hl 1 rfl) ?_
        refine lv_iload_n hx hb dX3_findRun_130 rfl (lv_at hl 2 rfl) ?_
        refine lv_iadd hx hb dX3_findRun_131 ?_
        refine va_put (D := D) (cl := vwCl) (ci := 3) (v := .int (x1 + x3)) (ty := .int) (C := RX3) (T := TX3) (N := 12) hx hb hts hinX3 tyX3 tyX3_ok nmX3 hown hG.1 hP hD hS 0 rfl rfl 10 (by decide) fl60 (fun _ h9 => h9) rfl (by decide +kernel) rfl rfl (Nat.le_of_ble_eq_true rfl) dX3_findRun_132 (fun H locs hP hD hS => ?_)
        have hP : va_P D vwCl [(so, .inr (3, [.ref rowo, .ref talo, .ref plao, .ref leno, .ref jo, .ref mo, .int srec, .int spol, .int slea, .int sdep, .int (x1 + x3), .int x3])), (rowo, .inr (0, [.ref rowv])), (rowv, .inl (cA, 96, .inl rowf)), (talo, .inr (0, [.ref talv])), (talv, .inl (cA, 12, .inl talf)), (jo, .inr (1, [.ref talo, .int jord]))] H := hP
        have hD : va_D A [(so, .inr (3, [.ref rowo, .ref talo, .ref plao, .ref leno, .ref jo, .ref mo, .int srec, .int spol, .int slea, .int sdep, .int (x1 + x3), .int x3])), (rowo, .inr (0, [.ref rowv])), (rowv, .inl (cA, 96, .inl rowf)), (talo, .inr (0, [.ref talv])), (talv, .inl (cA, 12, .inl talf)), (jo, .inr (1, [.ref talo, .int jord]))] := hD
        refine lv_aload_n hx hb dX3_findRun_135 rfl (lv_at hl 0 rfl) ?_
        refine va_get (D := D) (cl := vwCl) (ci := 3) (v := .ref talo) (C := RX3) (T := TX3) (N := 12) hx hb hts hinX3 hown hG.1 hP 0 rfl rfl 1 (by decide) fl20 (fun _ h9 => h9) rfl dX3_findRun_136 ?_
        refine lv_iconst (v := (2 : Int32)) hx hb dX3_findRun_139 (by decide) ?_
        refine lv_iconst (v := (1 : Int32)) hx hb dX3_findRun_140 (by decide) ?_
        obtain ⟨talf_141, hc141, h⟩ := bd1_some h
        refine ct_VN (As := [.int (2 : Int32), .int (1 : Int32)]) (rest := []) (st1 := []) (wf := [(so, .inr (3, [.ref rowo, .ref talo, .ref plao, .ref leno, .ref jo, .ref mo, .int srec, .int spol, .int slea, .int sdep, .int (x1 + x3), .int x3])), (rowo, .inr (0, [.ref rowv])), (rowv, .inl (cA, 96, .inl rowf)), (talo, .inr (0, [.ref talv])), (talv, .inl (cA, 12, .inl talf_141)), (jo, .inr (1, [.ref talo, .int jord]))]) (kX0_add l D cA F talo talv 12 talf (2 : Int32) (1 : Int32) talf_141 hc141) ⟨hx, hb, hml, hown, hts⟩ ⟨va_cnB 2 hts gX3_findRun_X0_add_n100 rfl rfl rfl (hG.2.m 21 rfl) (hts (.initialized RX0) (by decide +kernel)) (by decide +kernel) ⟨Nat.le_of_ble_eq_true rfl, Nat.le_of_ble_eq_true rfl⟩, hts (.instanceMethod yX0_add) (by decide +kernel), hts (.selects RX0 yX0_add yX0_add) (by decide +kernel)⟩ hG hst hP hD hS hA 0 rfl rfl rfl [3, 4] [0, 1, 2, 5] [0, 1, 2, 4, 5, 3] rfl rfl rfl rfl rfl rfl hl.1 rfl rfl (Nat.le_of_ble_eq_true rfl) dX3_findRun_141 ⟨Nat.zero_le _, Nat.zero_le _⟩ (fun H locs hP hD hS => ?_)
        cases h
        exact rt_v hx hb hr hlocks hP hD hS dX3_findRun_144
      · have h := i_f c108 h
        refine lv_aload_n hx hb dX3_findRun_111 rfl (lv_at hl 0 rfl) ?_
        refine lv_iload_n hx hb dX3_findRun_112 rfl (lv_at hl 1 rfl) ?_
        refine lv_iload_n hx hb dX3_findRun_113 rfl (lv_at hl 2 rfl) ?_
        obtain ⟨rowf_114, talf_114, hc114, h⟩ := bd2_some h
        refine ct_V (As := [.int x1, .int x3]) (rest := []) (st1 := []) (wf := [(so, .inr (3, [.ref rowo, .ref talo, .ref plao, .ref leno, .ref jo, .ref mo, .int srec, .int spol, .int slea, .int sdep, .int sinr, .int swai])), (rowo, .inr (0, [.ref rowv])), (rowv, .inl (cA, 96, .inl rowf_114)), (talo, .inr (0, [.ref talv])), (talv, .inl (cA, 12, .inl talf_114)), (jo, .inr (1, [.ref talo, .int jord]))]) (kX3_insertNext l D cA F so rowo talo plao leno jo mo rowv talv  srec spol slea sdep sinr swai rowf talf jord x1 x3 rowf_114 talf_114 hc114) ⟨hx, hb, hml, hown, hts⟩ (cwV 2 hts gX3_findRun_X3_insertNext rfl rfl rfl (by decide +kernel) ⟨Nat.le_of_ble_eq_true rfl, Nat.le_of_ble_eq_true rfl⟩) hG hst hP hD hS hA 3 rfl rfl rfl [0, 1, 2, 3, 4, 5] [] [0, 1, 2, 3, 4, 5] rfl rfl rfl rfl rfl rfl hl.1 rfl rfl (Nat.le_of_ble_eq_true rfl) dX3_findRun_114 ⟨Nat.zero_le _, Nat.zero_le _⟩ (fun H locs hP hD hS => ?_)
        refine lv_iinc (v := x3 + (1 : Int32)) (lv' := [(3, .int (x3 + (1 : Int32))), (0, .ref so), (1, .int x1), (4, .int x4)]) hx hb dX3_findRun_117 hl (k := 2) rfl (congrArg (fun z => x3 + z) (by decide)) (by decide) rfl (fun ls hl => ?_)
        refine lv_goto (tgt := 105) hx hb dX3_findRun_120 (by decide) ?_
        exact ih105 x1 (x3 + (1 : Int32)) x4 sinr swai rowf_114 talf_114 _ _ _ h hP hD hS (lv_sub hl [1, 2, 0, 3] rfl)
  have hmX3_findRun_75 : ∀ (x1 : Int32) (x3 : Int32) (sinr : Int32) (swai : Int32) (rowf : (Nat → Int32)) (talf : (Nat → Int32)) (H : Heap) (locs : List Loc) (ls : Array Slot), mX3_findRun_75 F srec slea jord x1 x3 sinr swai rowf talf = some (sinr_9, swai_9, rowf_9, talf_9) → va_P D vwCl [(so, .inr (3, [.ref rowo, .ref talo, .ref plao, .ref leno, .ref jo, .ref mo, .int srec, .int spol, .int slea, .int sdep, .int sinr, .int swai])), (rowo, .inr (0, [.ref rowv])), (rowv, .inl (cA, 96, .inl rowf)), (talo, .inr (0, [.ref talv])), (talv, .inl (cA, 12, .inl talf)), (jo, .inr (1, [.ref talo, .int jord]))] H → va_D A [(so, .inr (3, [.ref rowo, .ref talo, .ref plao, .ref leno, .ref jo, .ref mo, .int srec, .int spol, .int slea, .int sdep, .int sinr, .int swai])), (rowo, .inr (0, [.ref rowv])), (rowv, .inl (cA, 96, .inl rowf)), (talo, .inr (0, [.ref talv])), (talv, .inl (cA, 12, .inl talf)), (jo, .inr (1, [.ref talo, .int jord]))] → va_S A s.heap H locs → lv_has ls 5 [(0, .ref so), (1, .int x1), (3, .int x3)] → W p l e ({ frames := 3, cells := 0, slots := 0, locals := 71 }) s m ([.ref so] : List Value).toArray below meth c H locs 0 0 (MQ below (Qw D A [(so, .inr (3, [.ref rowo, .ref talo, .ref plao, .ref leno, .ref jo, .ref mo, .int srec, .int spol, .int slea, .int sdep, .int sinr_9, .int swai_9])), (rowo, .inr (0, [.ref rowv])), (rowv, .inl (cA, 96, .inl rowf_9)), (talo, .inr (0, [.ref talv])), (talv, .inl (cA, 12, .inl talf_9)), (jo, .inr (1, [.ref talo, .int jord]))] (none)) ([.ref so] : List Value).toArray s 0 0 A) (F0 m 75 ls []) := by
    intro x1 x3 sinr swai rowf talf H locs ls h hP hD hS hl
    unfold mX3_findRun_75 at h
    refine lv_aload_n hx hb dX3_findRun_75 rfl (lv_at hl 0 rfl) ?_
    refine va_get (D := D) (cl := vwCl) (ci := 3) (v := .int slea) (C := RX3) (T := TX3) (N := 12) hx hb hts hinX3 hown hG.1 hP 0 rfl rfl 8 (by decide) fl54 (fun _ h9 => h9) rfl dX3_findRun_76 ?_
    refine lv_aload_n hx hb dX3_findRun_79 rfl (lv_at hl 0 rfl) ?_
    refine va_get (D := D) (cl := vwCl) (ci := 3) (v := .int srec) (C := RX3) (T := TX3) (N := 12) hx hb hts hinX3 hown hG.1 hP 0 rfl rfl 6 (by decide) fl47 (fun _ h9 => h9) rfl dX3_findRun_80 ?_
    refine lv_iload_n hx hb dX3_findRun_83 rfl (lv_at hl 1 rfl) ?_
    refine lv_isub hx hb dX3_findRun_84 ?_
    refine va_mmin hx hb (hml.trans hl.1.symm) hown (hts (.methodLink RX3 139 Lib.Math.min.name) (by decide +kernel)) (hts (.static Lib.Math.min.name) (by decide +kernel)) (hts (.initialized "java/lang/Math") (by decide +kernel)) (hts (.code Lib.Math.min.name Lib.Math.min.code 2 (some .int)) (by decide +kernel)) (Nat.le_of_ble_eq_true rfl) (Nat.le_of_ble_eq_true rfl) (Nat.zero_le _) (Nat.zero_le _) dX3_findRun_85 ?_
    refine lv_istore (lv' := [(4, .int (if (srec - x1) < slea then (srec - x1) else slea)), (0, .ref so), (1, .int x1), (3, .int x3)]) hx hb dX3_findRun_88 hl (by decide) rfl (fun ls hl => ?_)
    refine lv_iload_n hx hb dX3_findRun_90 rfl (lv_at hl 3 rfl) ?_
    refine lv_iload hx hb dX3_findRun_91 (lv_at hl 0 rfl) ?_
    refine lv_icmp_ge (tgt := 105) hx hb dX3_findRun_93 (by decide) (fun c93 => ?_) (fun c93 => ?_)
    · have h := i_t c93 h
      exact hmX3_findRun_105 F x1 x3 (if (srec - x1) < slea then (srec - x1) else slea) sinr swai rowf talf _ _ _ h hP hD hS (lv_sub hl [1, 2, 3, 0] rfl)
    · have h := i_f c93 h
      refine lv_aload_n hx hb dX3_findRun_96 rfl (lv_at hl 1 rfl) ?_
      refine va_get (D := D) (cl := vwCl) (ci := 3) (v := .ref talo) (C := RX3) (T := TX3) (N := 12) hx hb hts hinX3 hown hG.1 hP 0 rfl rfl 1 (by decide) fl20 (fun _ h9 => h9) rfl dX3_findRun_97 ?_
      refine lv_iconst (v := (4 : Int32)) hx hb dX3_findRun_100 (by decide) ?_
      refine lv_iconst (v := (1 : Int32)) hx hb dX3_findRun_101 (by decide) ?_
      obtain ⟨talf_102, hc102, h⟩ := bd1_some h
      refine ct_VN (As := [.int (4 : Int32), .int (1 : Int32)]) (rest := []) (st1 := []) (wf := [(so, .inr (3, [.ref rowo, .ref talo, .ref plao, .ref leno, .ref jo, .ref mo, .int srec, .int spol, .int slea, .int sdep, .int sinr, .int swai])), (rowo, .inr (0, [.ref rowv])), (rowv, .inl (cA, 96, .inl rowf)), (talo, .inr (0, [.ref talv])), (talv, .inl (cA, 12, .inl talf_102)), (jo, .inr (1, [.ref talo, .int jord]))]) (kX0_add l D cA F talo talv 12 talf (4 : Int32) (1 : Int32) talf_102 hc102) ⟨hx, hb, hml, hown, hts⟩ ⟨va_cnB 2 hts gX3_findRun_X0_add_n100 rfl rfl rfl (hG.2.m 21 rfl) (hts (.initialized RX0) (by decide +kernel)) (by decide +kernel) ⟨Nat.le_of_ble_eq_true rfl, Nat.le_of_ble_eq_true rfl⟩, hts (.instanceMethod yX0_add) (by decide +kernel), hts (.selects RX0 yX0_add yX0_add) (by decide +kernel)⟩ hG hst hP hD hS hA 0 rfl rfl rfl [3, 4] [0, 1, 2, 5] [0, 1, 2, 4, 5, 3] rfl rfl rfl rfl rfl rfl hl.1 rfl rfl (Nat.le_of_ble_eq_true rfl) dX3_findRun_102 ⟨Nat.zero_le _, Nat.zero_le _⟩ (fun H locs hP hD hS => ?_)
      exact hmX3_findRun_105 F x1 x3 (if (srec - x1) < slea then (srec - x1) else slea) sinr swai rowf talf_102 _ _ _ h hP hD hS (lv_sub hl [1, 2, 3, 0] rfl)
  have hmX3_findRun_48 : ∀ (x1 : Int32) (s0 : Int32) (sinr : Int32) (swai : Int32) (rowf : (Nat → Int32)) (talf : (Nat → Int32)) (H : Heap) (locs : List Loc) (ls : Array Slot), mX3_findRun_48 F srec slea jord x1 s0 sinr swai rowf talf = some (sinr_9, swai_9, rowf_9, talf_9) → va_P D vwCl [(so, .inr (3, [.ref rowo, .ref talo, .ref plao, .ref leno, .ref jo, .ref mo, .int srec, .int spol, .int slea, .int sdep, .int sinr, .int swai])), (rowo, .inr (0, [.ref rowv])), (rowv, .inl (cA, 96, .inl rowf)), (talo, .inr (0, [.ref talv])), (talv, .inl (cA, 12, .inl talf)), (jo, .inr (1, [.ref talo, .int jord]))] H → va_D A [(so, .inr (3, [.ref rowo, .ref talo, .ref plao, .ref leno, .ref jo, .ref mo, .int srec, .int spol, .int slea, .int sdep, .int sinr, .int swai])), (rowo, .inr (0, [.ref rowv])), (rowv, .inl (cA, 96, .inl rowf)), (talo, .inr (0, [.ref talv])), (talv, .inl (cA, 12, .inl talf)), (jo, .inr (1, [.ref talo, .int jord]))] → va_S A s.heap H locs → lv_has ls 5 [(0, .ref so), (1, .int x1)] → W p l e ({ frames := 3, cells := 0, slots := 0, locals := 71 }) s m ([.ref so] : List Value).toArray below meth c H locs 0 0 (MQ below (Qw D A [(so, .inr (3, [.ref rowo, .ref talo, .ref plao, .ref leno, .ref jo, .ref mo, .int srec, .int spol, .int slea, .int sdep, .int sinr_9, .int swai_9])), (rowo, .inr (0, [.ref rowv])), (rowv, .inl (cA, 96, .inl rowf_9)), (talo, .inr (0, [.ref talv])), (talv, .inl (cA, 12, .inl talf_9)), (jo, .inr (1, [.ref talo, .int jord]))] (none)) ([.ref so] : List Value).toArray s 0 0 A) (F0 m 48 ls [.int s0]) := by
    intro x1 s0 sinr swai rowf talf H locs ls h hP hD hS hl
    unfold mX3_findRun_48 at h
    refine lv_istore_n (lv' := [(2, .int s0), (0, .ref so), (1, .int x1)]) hx hb dX3_findRun_48 rfl hl (by decide) rfl (fun ls hl => ?_)
    refine lv_aload_n hx hb dX3_findRun_49 rfl (lv_at hl 1 rfl) ?_
    refine lv_iload_n hx hb dX3_findRun_50 rfl (lv_at hl 2 rfl) ?_
    refine lv_iload_n hx hb dX3_findRun_51 rfl (lv_at hl 0 rfl) ?_
    obtain ⟨r52, talf_52, hc52, h⟩ := bd2_some h
    refine ct_V (As := [.int x1, .int s0]) (rest := []) (st1 := [.int r52]) (wf := [(so, .inr (3, [.ref rowo, .ref talo, .ref plao, .ref leno, .ref jo, .ref mo, .int srec, .int spol, .int slea, .int sdep, .int sinr, .int swai])), (rowo, .inr (0, [.ref rowv])), (rowv, .inl (cA, 96, .inl rowf)), (talo, .inr (0, [.ref talv])), (talv, .inl (cA, 12, .inl talf_52)), (jo, .inr (1, [.ref talo, .int jord]))]) (kX3_lengthAsItLies l D cA F so rowo talo plao leno jo mo rowv talv  srec spol slea sdep sinr swai rowf talf jord x1 s0 r52 talf_52 hc52) ⟨hx, hb, hml, hown, hts⟩ (cwV 2 hts gX3_findRun_X3_lengthAsItLies rfl rfl rfl (by decide +kernel) ⟨Nat.le_of_ble_eq_true rfl, Nat.le_of_ble_eq_true rfl⟩) hG hst hP hD hS hA 3 rfl rfl rfl [0, 1, 2, 3, 4, 5] [] [0, 1, 2, 3, 4, 5] rfl rfl rfl rfl rfl rfl hl.1 rfl rfl (Nat.le_of_ble_eq_true rfl) dX3_findRun_52 ⟨Nat.zero_le _, Nat.zero_le _⟩ (fun H locs hP hD hS => ?_)
    refine lv_istore_n (lv' := [(3, .int r52), (2, .int s0), (0, .ref so), (1, .int x1)]) hx hb dX3_findRun_55 rfl hl (by decide) rfl (fun ls hl => ?_)
    refine lv_iload_n hx hb dX3_findRun_56 rfl (lv_at hl 1 rfl) ?_
    refine lv_if_eq (tgt := 75) hx hb dX3_findRun_57 (by decide) (fun c57 => ?_) (fun c57 => ?_)
    · have h := i_t c57 h
      exact hmX3_findRun_75 x1 r52 sinr swai rowf talf_52 _ _ _ h hP hD hS (lv_sub hl [2, 3, 0] rfl)
    · have h := i_f c57 h
      refine lv_aload_n hx hb dX3_findRun_60 rfl (lv_at hl 2 rfl) ?_
      refine lv_iload_n hx hb dX3_findRun_61 rfl (lv_at hl 3 rfl) ?_
      refine lv_iload_n hx hb dX3_findRun_62 rfl (lv_at hl 0 rfl) ?_
      obtain ⟨rowf_63, talf_63, hc63, h⟩ := bd2_some h
      refine ct_V (As := [.int x1, .int r52]) (rest := []) (st1 := []) (wf := [(so, .inr (3, [.ref rowo, .ref talo, .ref plao, .ref leno, .ref jo, .ref mo, .int srec, .int spol, .int slea, .int sdep, .int sinr, .int swai])), (rowo, .inr (0, [.ref rowv])), (rowv, .inl (cA, 96, .inl rowf_63)), (talo, .inr (0, [.ref talv])), (talv, .inl (cA, 12, .inl talf_63)), (jo, .inr (1, [.ref talo, .int jord]))]) (kX3_turnRound l D cA F so rowo talo plao leno jo mo rowv talv  srec spol slea sdep sinr swai rowf talf_52 x1 r52 rowf_63 talf_63 hc63) ⟨hx, hb, hml, hown, hts⟩ (cwV 2 hts gX3_findRun_X3_turnRound rfl rfl rfl (by decide +kernel) ⟨Nat.le_of_ble_eq_true rfl, Nat.le_of_ble_eq_true rfl⟩) hG hst hP hD hS hA 3 rfl rfl rfl [0, 1, 2, 3, 4] [5] [1, 2, 3, 4, 5, 0] rfl rfl rfl rfl rfl rfl hl.1 rfl rfl (Nat.le_of_ble_eq_true rfl) dX3_findRun_63 ⟨Nat.zero_le _, Nat.zero_le _⟩ (fun H locs hP hD hS => ?_)
      refine lv_aload_n hx hb dX3_findRun_66 rfl (lv_at hl 2 rfl) ?_
      refine va_get (D := D) (cl := vwCl) (ci := 3) (v := .ref talo) (C := RX3) (T := TX3) (N := 12) hx hb hts hinX3 hown hG.1 hP 0 rfl rfl 1 (by decide) fl20 (fun _ h9 => h9) rfl dX3_findRun_67 ?_
      refine lv_iconst (v := (3 : Int32)) hx hb dX3_findRun_70 (by decide) ?_
      refine lv_iconst (v := (1 : Int32)) hx hb dX3_findRun_71 (by decide) ?_
      obtain ⟨talf_72, hc72, h⟩ := bd1_some h
      refine ct_VN (As := [.int (3 : Int32), .int (1 : Int32)]) (rest := []) (st1 := []) (wf := [(so, .inr (3, [.ref rowo, .ref talo, .ref plao, .ref leno, .ref jo, .ref mo, .int srec, .int spol, .int slea, .int sdep, .int sinr, .int swai])), (rowo, .inr (0, [.ref rowv])), (rowv, .inl (cA, 96, .inl rowf_63)), (talo, .inr (0, [.ref talv])), (talv, .inl (cA, 12, .inl talf_72)), (jo, .inr (1, [.ref talo, .int jord]))]) (kX0_add l D cA F talo talv 12 talf_63 (3 : Int32) (1 : Int32) talf_72 hc72) ⟨hx, hb, hml, hown, hts⟩ ⟨va_cnB 2 hts gX3_findRun_X0_add_n100 rfl rfl rfl (hG.2.m 21 rfl) (hts (.initialized RX0) (by decide +kernel)) (by decide +kernel) ⟨Nat.le_of_ble_eq_true rfl, Nat.le_of_ble_eq_true rfl⟩, hts (.instanceMethod yX0_add) (by decide +kernel), hts (.selects RX0 yX0_add yX0_add) (by decide +kernel)⟩ hG hst hP hD hS hA 0 rfl rfl rfl [3, 4] [0, 1, 2, 5] [0, 1, 2, 4, 5, 3] rfl rfl rfl rfl rfl rfl hl.1 rfl rfl (Nat.le_of_ble_eq_true rfl) dX3_findRun_72 ⟨Nat.zero_le _, Nat.zero_le _⟩ (fun H locs hP hD hS => ?_)
      exact hmX3_findRun_75 x1 r52 sinr swai rowf_63 talf_72 _ _ _ h hP hD hS (lv_sub hl [2, 3, 0] rfl)
  unfold mX3_findRun at h
  refine lv_aload_n hx hb dX3_findRun_0 rfl (lv_at hl 0 rfl) ?_
  refine va_get (D := D) (cl := vwCl) (ci := 3) (v := .int sinr) (C := RX3) (T := TX3) (N := 12) hx hb hts hinX3 hown hG.1 hP 0 rfl rfl 10 (by decide) fl60 (fun _ h9 => h9) rfl dX3_findRun_1 ?_
  refine lv_istore_n (lv' := [(1, .int sinr), (0, .ref so)]) hx hb dX3_findRun_4 rfl hl (by decide) rfl (fun ls hl => ?_)
  refine lv_aload_n hx hb dX3_findRun_5 rfl (lv_at hl 1 rfl) ?_
  refine va_get (D := D) (cl := vwCl) (ci := 3) (v := .int srec) (C := RX3) (T := TX3) (N := 12) hx hb hts hinX3 hown hG.1 hP 0 rfl rfl 6 (by decide) fl47 (fun _ h9 => h9) rfl dX3_findRun_6 ?_
  refine lv_iload_n hx hb dX3_findRun_9 rfl (lv_at hl 0 rfl) ?_
  refine lv_isub hx hb dX3_findRun_10 ?_
  refine lv_iconst (v := (1 : Int32)) hx hb dX3_findRun_11 (by decide) ?_
  refine lv_icmp_le (tgt := 47) hx hb dX3_findRun_12 (by decide) (fun c12 => ?_) (fun c12 => ?_)
  · have h := i_t c12 h
    refine lv_iconst (v := (0 : Int32)) hx hb dX3_findRun_47 (by decide) ?_
    exact hmX3_findRun_48 sinr (0 : Int32) sinr swai rowf talf _ _ _ h hP hD hS (lv_sub hl [1, 0] rfl)
  · have h := i_f c12 h
    refine lv_aload_n hx hb dX3_findRun_15 rfl (lv_at hl 1 rfl) ?_
    refine va_get (D := D) (cl := vwCl) (ci := 3) (v := .ref jo) (C := RX3) (T := TX3) (N := 12) hx hb hts hinX3 hown hG.1 hP 0 rfl rfl 4 (by decide) fl34 (fun _ h9 => h9) rfl dX3_findRun_16 ?_
    refine lv_aload_n hx hb dX3_findRun_19 rfl (lv_at hl 1 rfl) ?_
    refine va_get (D := D) (cl := vwCl) (ci := 3) (v := .ref rowo) (C := RX3) (T := TX3) (N := 12) hx hb hts hinX3 hown hG.1 hP 0 rfl rfl 0 (by decide) fl14 (fun _ h9 => h9) rfl dX3_findRun_20 ?_
    refine lv_iload_n hx hb dX3_findRun_23 rfl (lv_at hl 0 rfl) ?_
    refine lv_iconst (v := (1 : Int32)) hx hb dX3_findRun_24 (by decide) ?_
    refine lv_iadd hx hb dX3_findRun_25 ?_
    obtain ⟨r26, hc26, h⟩ := bd1_some h
    refine ct_VN (As := [.int (sinr + (1 : Int32))]) (rest := [.ref jo]) (st1 := [.int r26, .ref jo]) (wf := [(so, .inr (3, [.ref rowo, .ref talo, .ref plao, .ref leno, .ref jo, .ref mo, .int srec, .int spol, .int slea, .int sdep, .int sinr, .int swai])), (rowo, .inr (0, [.ref rowv])), (rowv, .inl (cA, 96, .inl rowf)), (talo, .inr (0, [.ref talv])), (talv, .inl (cA, 12, .inl talf)), (jo, .inr (1, [.ref talo, .int jord]))]) (kX0_look l D cA F rowo rowv 96 rowf (sinr + (1 : Int32)) r26 hc26) ⟨hx, hb, hml, hown, hts⟩ ⟨va_cnB 1 hts gX3_findRun_X0_look_n66 rfl rfl rfl (hG.2.m 12 rfl) (hts (.initialized RX0) (by decide +kernel)) (by decide +kernel) ⟨Nat.le_of_ble_eq_true rfl, Nat.le_of_ble_eq_true rfl⟩, hts (.instanceMethod yX0_look) (by decide +kernel), hts (.selects RX0 yX0_look yX0_look) (by decide +kernel)⟩ hG hst hP hD hS hA 0 rfl rfl rfl [1, 2] [0, 3, 4, 5] [0, 4, 5, 1, 2, 3] rfl rfl rfl rfl rfl rfl hl.1 rfl rfl (Nat.le_of_ble_eq_true rfl) dX3_findRun_26 ⟨Nat.zero_le _, Nat.zero_le _⟩ (fun H locs hP hD hS => ?_)
    refine lv_aload_n hx hb dX3_findRun_29 rfl (lv_at hl 1 rfl) ?_
    refine va_get (D := D) (cl := vwCl) (ci := 3) (v := .ref rowo) (C := RX3) (T := TX3) (N := 12) hx hb hts hinX3 hown hG.1 hP 0 rfl rfl 0 (by decide) fl14 (fun _ h9 => h9) rfl dX3_findRun_30 ?_
    refine lv_iload_n hx hb dX3_findRun_33 rfl (lv_at hl 0 rfl) ?_
    obtain ⟨r34, hc34, h⟩ := bd1_some h
    refine ct_VN (As := [.int sinr]) (rest := [.int r26, .ref jo]) (st1 := [.int r34, .int r26, .ref jo]) (wf := [(so, .inr (3, [.ref rowo, .ref talo, .ref plao, .ref leno, .ref jo, .ref mo, .int srec, .int spol, .int slea, .int sdep, .int sinr, .int swai])), (rowo, .inr (0, [.ref rowv])), (rowv, .inl (cA, 96, .inl rowf)), (talo, .inr (0, [.ref talv])), (talv, .inl (cA, 12, .inl talf)), (jo, .inr (1, [.ref talo, .int jord]))]) (kX0_look l D cA F rowo rowv 96 rowf sinr r34 hc34) ⟨hx, hb, hml, hown, hts⟩ ⟨va_cnB 1 hts gX3_findRun_X0_look_n66 rfl rfl rfl (hG.2.m 12 rfl) (hts (.initialized RX0) (by decide +kernel)) (by decide +kernel) ⟨Nat.le_of_ble_eq_true rfl, Nat.le_of_ble_eq_true rfl⟩, hts (.instanceMethod yX0_look) (by decide +kernel), hts (.selects RX0 yX0_look yX0_look) (by decide +kernel)⟩ hG hst hP hD hS hA 0 rfl rfl rfl [1, 2] [0, 3, 4, 5] [0, 4, 5, 1, 2, 3] rfl rfl rfl rfl rfl rfl hl.1 rfl rfl (Nat.le_of_ble_eq_true rfl) dX3_findRun_34 ⟨Nat.zero_le _, Nat.zero_le _⟩ (fun H locs hP hD hS => ?_)
    obtain ⟨r37, talf_37, hc37, h⟩ := bd2_some h
    refine ct_VN (As := [.int r26, .int r34]) (rest := []) (st1 := [.int r37]) (wf := [(so, .inr (3, [.ref rowo, .ref talo, .ref plao, .ref leno, .ref jo, .ref mo, .int srec, .int spol, .int slea, .int sdep, .int sinr, .int swai])), (rowo, .inr (0, [.ref rowv])), (rowv, .inl (cA, 96, .inl rowf)), (talo, .inr (0, [.ref talv])), (talv, .inl (cA, 12, .inl talf_37)), (jo, .inr (1, [.ref talo, .int jord]))]) (kX1_isLess l D cA F jo talo talv  jord talf r26 r34 r37 talf_37 hc37) ⟨hx, hb, hml, hown, hts⟩ ⟨va_cnB 2 hts gX3_findRun_X1_isLess_n128 rfl rfl rfl (hG.2.m 17 rfl) (hts (.initialized RX1) (by decide +kernel)) (by decide +kernel) ⟨Nat.le_of_ble_eq_true rfl, Nat.le_of_ble_eq_true rfl⟩, hts (.instanceMethod yX1_isLess) (by decide +kernel), hts (.selects RX1 yX1_isLess yX1_isLess) (by decide +kernel)⟩ hG hst hP hD hS hA 1 rfl rfl rfl [5, 3, 4] [0, 1, 2] [0, 1, 2, 4, 5, 3] rfl rfl rfl rfl rfl rfl hl.1 rfl rfl (Nat.le_of_ble_eq_true rfl) dX3_findRun_37 ⟨Nat.zero_le _, Nat.zero_le _⟩ (fun H locs hP hD hS => ?_)
    refine lv_if_eq (tgt := 47) hx hb dX3_findRun_40 (by decide) (fun c40 => ?_) (fun c40 => ?_)
    · have h := i_t c40 h
      refine lv_iconst (v := (0 : Int32)) hx hb dX3_findRun_47 (by decide) ?_
      exact hmX3_findRun_48 sinr (0 : Int32) sinr swai rowf talf_37 _ _ _ h hP hD hS (lv_sub hl [1, 0] rfl)
    · have h := i_f c40 h
      refine lv_iconst (v := (1 : Int32)) hx hb dX3_findRun_43 (by decide) ?_
      refine lv_goto (tgt := 48) hx hb dX3_findRun_44 (by decide) ?_
      exact hmX3_findRun_48 sinr (1 : Int32) sinr swai rowf talf_37 _ _ _ h hP hD hS (lv_sub hl [1, 0] rfl)
