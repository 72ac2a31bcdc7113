/-! contracts, by program (wip/whole/gen.py) -/
set_option maxHeartbeats 4000000 in
set_option maxRecDepth 100000 in
theorem kX5_standsLess (l : Launch) (D : va_G) (cA : ClassId) (F : Nat) (xo : Nat) (txto : Nat) (laio : Nat) (rulo : Nat) (so : Nat) (oso : Nat) (ajo : Nat) (aso : Nat) (rulv : Nat) (rowo : Nat) (talo : Nat) (plao : Nat) (leno : Nat) (jo : Nat) (mo : Nat) (rowv : Nat) (xlet : Int32) (xrec : Int32) (rulf : (Nat → Int32)) (srec : Int32) (spol : Int32) (slea : Int32) (sdep : Int32) (sinr : Int32) (swai : Int32) (rowf : (Nat → Int32)) (a1 : Int32) (a2 : Int32) (r0 : Int32) (h : mX5_standsLess F rulf rowf a1 a2 = some r0) : Ct l yX5_standsLess wsX5_standsLess ({ frames := 1, cells := 0, slots := 0, locals := 21 }) D cA [.ref xo, .int a1, .int a2] [(xo, .inr (5, [.ref txto, .int xlet, .ref laio, .int xrec, .ref rulo, .ref so, .ref oso, .ref ajo, .ref aso])), (rulo, .inr (0, [.ref rulv])), (rulv, .inl (cA, 4, .inl rulf)), (so, .inr (3, [.ref rowo, .ref talo, .ref plao, .ref leno, .ref jo, .ref mo, .int srec, .int spol, .int slea, .int sdep, .int sinr, .int swai])), (rowo, .inr (0, [.ref rowv])), (rowv, .inl (cA, 96, .inl rowf))] [(xo, .inr (5, [.ref txto, .int xlet, .ref laio, .int xrec, .ref rulo, .ref so, .ref oso, .ref ajo, .ref aso])), (rulo, .inr (0, [.ref rulv])), (rulv, .inl (cA, 4, .inl rulf)), (so, .inr (3, [.ref rowo, .ref talo, .ref plao, .ref leno, .ref jo, .ref mo, .int srec, .int spol, .int slea, .int sdep, .int sinr, .int swai])), (rowo, .inr (0, [.ref rowv])), (rowv, .inl (cA, 96, .inl rowf))] (some (.int r0)) := by
  refine Ct.of (cc := cX5_standsLess) (maxL := 4) (ret := (some .boolean)) (by decide) rfl (Nat.le_of_ble_eq_true rfl) ?_
  intro p e s m below meth c A ls hcx hG hst hA hP hD hl
  obtain ⟨hx, hb, hml, hown, hts, hr, hlocks⟩ := id hcx
  have hown : s.vm.findClass RX5 = some m.cls := hown
  have hS : va_S A s.heap s.heap [] := va_S.rf
  have hl : lv_has ls 4 [(0, .ref xo), (1, .int a1), (2, .int a2)] := hl
  have hinX3 : ∀ w ∈ u_ws RX3 TX3 12, w ∈ wsX5_standsLess := by decide +kernel
  have hinX5 : ∀ w ∈ u_ws RX5 TX5 9, w ∈ wsX5_standsLess := by decide +kernel
  have fl28 := hts (.fieldLink RX5 28 "RunSorter" "rules" "LRunSorter$Cells;") (by decide +kernel)
  have fl34 := hts (.fieldLink RX5 34 "RunSorter" "sorter" "LRunSorter$Sorter;") (by decide +kernel)
  unfold mX5_standsLess at h
  refine lv_aload_n hx hb dX5_standsLess_0 rfl (lv_at hl 0 rfl) ?_
  refine va_get (D := D) (cl := vwCl) (ci := 5) (v := .ref rulo) (C := RX5) (T := TX5) (N := 9) hx hb hts hinX5 hown hG.1 hP 0 rfl rfl 4 (by decide) fl28 (fun _ h9 => h9) rfl dX5_standsLess_1 ?_
  refine lv_iconst (v := (0 : Int32)) hx hb dX5_standsLess_4 (by decide) ?_
  obtain ⟨r5, hc5, h⟩ := bd1_some h
  refine ct_VN (As := [.int (0 : Int32)]) (rest := []) (st1 := [.int r5]) (wf := [(xo, .inr (5, [.ref txto, .int xlet, .ref laio, .int xrec, .ref rulo, .ref so, .ref oso, .ref ajo, .ref aso])), (rulo, .inr (0, [.ref rulv])), (rulv, .inl (cA, 4, .inl rulf)), (so, .inr (3, [.ref rowo, .ref talo, .ref plao, .ref leno, .ref jo, .ref mo, .int srec, .int spol, .int slea, .int sdep, .int sinr, .int swai])), (rowo, .inr (0, [.ref rowv])), (rowv, .inl (cA, 96, .inl rowf))]) (kX0_look l D cA F rulo rulv 4 rulf (0 : Int32) r5 hc5) ⟨hx, hb, hml, hown, hts⟩ ⟨va_cnB 1 hts gX5_standsLess_X0_look_n84 rfl rfl rfl (hG.2.m 10 rfl) (hts (.initialized RX0) (by decide +kernel)) (by decide +kernel) ⟨Nat.le_of_ble_eq_true rfl, Nat.le_of_ble_eq_true rfl⟩, hts (.instanceMethod yX0_look) (by decide +kernel), hts (.selects RX0 yX0_look yX0_look) (by decide +kernel)⟩ hG hst hP hD hS hA 0 rfl rfl rfl [1, 2] [0, 3, 4, 5] [0, 4, 5, 1, 2, 3] rfl rfl rfl rfl rfl rfl hl.1 rfl rfl (Nat.le_of_ble_eq_true rfl) dX5_standsLess_5 ⟨Nat.zero_le _, Nat.zero_le _⟩ (fun H locs hP hD hS => ?_)
  refine lv_istore_n (lv' := [(3, .int r5), (0, .ref xo), (1, .int a1), (2, .int a2)]) hx hb dX5_standsLess_8 rfl hl (by decide) rfl (fun ls hl => ?_)
  refine lv_iload_n hx hb dX5_standsLess_9 rfl (lv_at hl 0 rfl) ?_
  refine lv_aload_n hx hb dX5_standsLess_10 rfl (lv_at hl 1 rfl) ?_
  refine va_get (D := D) (cl := vwCl) (ci := 5) (v := .ref so) (C := RX5) (T := TX5) (N := 9) hx hb hts hinX5 hown hG.1 hP 0 rfl rfl 5 (by decide) fl34 (fun _ h9 => h9) rfl dX5_standsLess_11 ?_
  refine va_getN (D := D) (cl := vwCl) (ci := 3) (v := .ref rowo) (C := RX3) (T := TX3) (N := 12) hx hb hts hinX3 hown hG.1 hP 3 rfl rfl 0 (by decide) (hG.2.f 6 rfl) (fun _ h9 => h9) rfl dX5_standsLess_14 ?_
  refine lv_iload_n hx hb dX5_standsLess_17 rfl (lv_at hl 2 rfl) ?_
  obtain ⟨r18, hc18, h⟩ := bd1_some h
  refine ct_VN (As := [.int a1]) (rest := [.int r5]) (st1 := [.int r18, .int r5]) (wf := [(xo, .inr (5, [.ref txto, .int xlet, .ref laio, .int xrec, .ref rulo, .ref so, .ref oso, .ref ajo, .ref aso])), (rulo, .inr (0, [.ref rulv])), (rulv, .inl (cA, 4, .inl rulf)), (so, .inr (3, [.ref rowo, .ref talo, .ref plao, .ref leno, .ref jo, .ref mo, .int srec, .int spol, .int slea, .int sdep, .int sinr, .int swai])), (rowo, .inr (0, [.ref rowv])), (rowv, .inl (cA, 96, .inl rowf))]) (kX0_look l D cA F rowo rowv 96 rowf a1 r18 hc18) ⟨hx, hb, hml, hown, hts⟩ ⟨va_cnB 1 hts gX5_standsLess_X0_look_n84 rfl rfl rfl (hG.2.m 10 rfl) (hts (.initialized RX0) (by decide +kernel)) (by decide +kernel) ⟨Nat.le_of_ble_eq_true rfl, Nat.le_of_ble_eq_true rfl⟩, hts (.instanceMethod yX0_look) (by decide +kernel), hts (.selects RX0 yX0_look yX0_look) (by decide +kernel)⟩ hG hst hP hD hS hA 0 rfl rfl rfl [4, 5] [0, 1, 2, 3] [0, 1, 2, 3, 4, 5] rfl rfl rfl rfl rfl rfl hl.1 rfl rfl (Nat.le_of_ble_eq_true rfl) dX5_standsLess_18 ⟨Nat.zero_le _, Nat.zero_le _⟩ (fun H locs hP hD hS => ?_)
  obtain ⟨r21, hc21, h⟩ := bd1_some h
  refine ct_S (As := [.int r18]) (rest := [.int r5]) (st1 := [.int r21, .int r5]) (wf := [(xo, .inr (5, [.ref txto, .int xlet, .ref laio, .int xrec, .ref rulo, .ref so, .ref oso, .ref ajo, .ref aso])), (rulo, .inr (0, [.ref rulv])), (rulv, .inl (cA, 4, .inl rulf)), (so, .inr (3, [.ref rowo, .ref talo, .ref plao, .ref leno, .ref jo, .ref mo, .int srec, .int spol, .int slea, .int sdep, .int sinr, .int swai])), (rowo, .inr (0, [.ref rowv])), (rowv, .inl (cA, 96, .inl rowf))]) (kX5_keyOf l D cA F    r18 r21 hc21) ⟨hx, hb, hml, hown, hts⟩ (va_cwS 1 hts gX5_standsLess_X5_keyOf rfl rfl rfl (by decide +kernel) ⟨Nat.le_of_ble_eq_true rfl, Nat.le_of_ble_eq_true rfl⟩) hG hst hP hD hS hA [] [0, 1, 2, 3, 4, 5] [0, 1, 2, 3, 4, 5] rfl rfl rfl rfl rfl rfl hl.1 rfl rfl (Nat.le_of_ble_eq_true rfl) dX5_standsLess_21 ⟨Nat.zero_le _, Nat.zero_le _⟩ (fun H locs hP hD hS => ?_)
  obtain ⟨r24, hc24, h⟩ := bd1_some h
  refine ct_S (As := [.int r5, .int r21]) (rest := []) (st1 := [.int r24]) (wf := [(xo, .inr (5, [.ref txto, .int xlet, .ref laio, .int xrec, .ref rulo, .ref so, .ref oso, .ref ajo, .ref aso])), (rulo, .inr (0, [.ref rulv])), (rulv, .inl (cA, 4, .inl rulf)), (so, .inr (3, [.ref rowo, .ref talo, .ref plao, .ref leno, .ref jo, .ref mo, .int srec, .int spol, .int slea, .int sdep, .int sinr, .int swai])), (rowo, .inr (0, [.ref rowv])), (rowv, .inl (cA, 96, .inl rowf))]) (kX5_rankOf l D cA F    r5 r21 r24 hc24) ⟨hx, hb, hml, hown, hts⟩ (va_cwS 2 hts gX5_standsLess_X5_rankOf rfl rfl rfl (by decide +kernel) ⟨Nat.le_of_ble_eq_true rfl, Nat.le_of_ble_eq_true rfl⟩) hG hst hP hD hS hA [] [0, 1, 2, 3, 4, 5] [0, 1, 2, 3, 4, 5] rfl rfl rfl rfl rfl rfl hl.1 rfl rfl (Nat.le_of_ble_eq_true rfl) dX5_standsLess_24 ⟨Nat.zero_le _, Nat.zero_le _⟩ (fun H locs hP hD hS => ?_)
  refine lv_iload_n hx hb dX5_standsLess_27 rfl (lv_at hl 0 rfl) ?_
  refine lv_aload_n hx hb dX5_standsLess_28 rfl (lv_at hl 1 rfl) ?_
  refine va_get (D := D) (cl := vwCl) (ci := 5) (v := .ref so) (C := RX5) (T := TX5) (N := 9) hx hb hts hinX5 hown hG.1 hP 0 rfl rfl 5 (by decide) fl34 (fun _ h9 => h9) rfl dX5_standsLess_29 ?_
  refine va_getN (D := D) (cl := vwCl) (ci := 3) (v := .ref rowo) (C := RX3) (T := TX3) (N := 12) hx hb hts hinX3 hown hG.1 hP 3 rfl rfl 0 (by decide) (hG.2.f 6 rfl) (fun _ h9 => h9) rfl dX5_standsLess_32 ?_
  refine lv_iload_n hx hb dX5_standsLess_35 rfl (lv_at hl 3 rfl) ?_
  obtain ⟨r36, hc36, h⟩ := bd1_some h
  refine ct_VN (As := [.int a2]) (rest := [.int r5, .int r24]) (st1 := [.int r36, .int r5, .int r24]) (wf := [(xo, .inr (5, [.ref txto, .int xlet, .ref laio, .int xrec, .ref rulo, .ref so, .ref oso, .ref ajo, .ref aso])), (rulo, .inr (0, [.ref rulv])), (rulv, .inl (cA, 4, .inl rulf)), (so, .inr (3, [.ref rowo, .ref talo, .ref plao, .ref leno, .ref jo, .ref mo, .int srec, .int spol, .int slea, .int sdep, .int sinr, .int swai])), (rowo, .inr (0, [.ref rowv])), (rowv, .inl (cA, 96, .inl rowf))]) (kX0_look l D cA F rowo rowv 96 rowf a2 r36 hc36) ⟨hx, hb, hml, hown, hts⟩ ⟨va_cnB 1 hts gX5_standsLess_X0_look_n84 rfl rfl rfl (hG.2.m 10 rfl) (hts (.initialized RX0) (by decide +kernel)) (by decide +kernel) ⟨Nat.le_of_ble_eq_true rfl, Nat.le_of_ble_eq_true rfl⟩, hts (.instanceMethod yX0_look) (by decide +kernel), hts (.selects RX0 yX0_look yX0_look) (by decide +kernel)⟩ hG hst hP hD hS hA 0 rfl rfl rfl [4, 5] [0, 1, 2, 3] [0, 1, 2, 3, 4, 5] rfl rfl rfl rfl rfl rfl hl.1 rfl rfl (Nat.le_of_ble_eq_true rfl) dX5_standsLess_36 ⟨Nat.zero_le _, Nat.zero_le _⟩ (fun H locs hP hD hS => ?_)
  obtain ⟨r39, hc39, h⟩ := bd1_some h
  refine ct_S (As := [.int r36]) (rest := [.int r5, .int r24]) (st1 := [.int r39, .int r5, .int r24]) (wf := [(xo, .inr (5, [.ref txto, .int xlet, .ref laio, .int xrec, .ref rulo, .ref so, .ref oso, .ref ajo, .ref aso])), (rulo, .inr (0, [.ref rulv])), (rulv, .inl (cA, 4, .inl rulf)), (so, .inr (3, [.ref rowo, .ref talo, .ref plao, .ref leno, .ref jo, .ref mo, .int srec, .int spol, .int slea, .int sdep, .int sinr, .int swai])), (rowo, .inr (0, [.ref rowv])), (rowv, .inl (cA, 96, .inl rowf))]) (kX5_keyOf l D cA F    r36 r39 hc39) ⟨hx, hb, hml, hown, hts⟩ (va_cwS 1 hts gX5_standsLess_X5_keyOf rfl rfl rfl (by decide +kernel) ⟨Nat.le_of_ble_eq_true rfl, Nat.le_of_ble_eq_true rfl⟩) hG hst hP hD hS hA [] [0, 1, 2, 3, 4, 5] [0, 1, 2, 3, 4, 5] rfl rfl rfl rfl rfl rfl hl.1 rfl rfl (Nat.le_of_ble_eq_true rfl) dX5_standsLess_39 ⟨Nat.zero_le _, Nat.zero_le _⟩ (fun H locs hP hD hS => ?_)
  obtain ⟨r42, hc42, h⟩ := bd1_some h
  refine ct_S (As := [.int r5, .int r39]) (rest := [.int r24]) (st1 := [.int r42, .int r24]) (wf := [(xo, .inr (5, [.ref txto, .int xlet, .ref laio, .int xrec, .ref rulo, .ref so, .ref oso, .ref ajo, .ref aso])), (rulo, .inr (0, [.ref rulv])), (rulv, .inl (cA, 4, .inl rulf)), (so, .inr (3, [.ref rowo, .ref talo, .ref plao, .ref leno, .ref jo, .ref mo, .int srec, .int spol, .int slea, .int sdep, .int sinr, .int swai])), (rowo, .inr (0, [.ref rowv])), (rowv, .inl (cA, 96, .inl rowf))]) (kX5_rankOf l D cA F    r5 r39 r42 hc42) ⟨hx, hb, hml, hown, hts⟩ (va_cwS 2 hts gX5_standsLess_X5_rankOf rfl rfl rfl (by decide +kernel) ⟨Nat.le_of_ble_eq_true rfl, Nat.le_of_ble_eq_true rfl⟩) hG hst hP hD hS hA [] [0, 1, 2, 3, 4, 5] [0, 1, 2, 3, 4, 5] rfl rfl rfl rfl rfl rfl hl.1 rfl rfl (Nat.le_of_ble_eq_true rfl) dX5_standsLess_42 ⟨Nat.zero_le _, Nat.zero_le _⟩ (fun H locs hP hD hS => ?_)
  refine lv_icmp_ge (tgt := 52) hx hb dX5_standsLess_45 (by decide) (fun c45 => ?_) (fun c45 => ?_)
  · have h := i_t c45 h
    refine lv_iconst (v := (0 : Int32)) hx hb dX5_standsLess_52 (by decide) ?_
    obtain ⟨hz53, h⟩ := bz_some h
    cases h
    exact rt_z hx hb hr hlocks hz53 hP hD hS dX5_standsLess_53
  · have h := i_f c45 h
    refine lv_iconst (v := (1 : Int32)) hx hb dX5_standsLess_48 (by decide) ?_
    refine lv_goto (tgt := 53) hx hb dX5_standsLess_49 (by decide) ?_
    obtain ⟨hz53, h⟩ := bz_some h
    cases h
    exact rt_z hx hb hr hlocks hz53 hP hD hS dX5_standsLess_53
set_option maxHeartbeats 4000000 in
set_option maxRecDepth 100000 in
theorem kX5_descentsBetween (l : Launch) (D : va_G) (cA : ClassId) (F : Nat) (xo : Nat) (txto : Nat) (laio : Nat) (rulo : Nat) (so : Nat) (oso : Nat) (ajo : Nat) (aso : Nat) (rulv : Nat) (rowo : Nat) (talo : Nat) (plao : Nat) (leno : Nat) (jo : Nat) (mo : Nat) (rowv : Nat) (xlet : Int32) (xrec : Int32) (rulf : (Nat → Int32)) (srec : Int32) (spol : Int32) (slea : Int32) (sdep : Int32) (sinr : Int32) (swai : Int32) (rowf : (Nat → Int32)) (a1 : Int32) (a2 : Int32) (r0 : Int32) (h : mX5_descentsBetween F rulf rowf a1 a2 = some r0) : Ct l yX5_descentsBetween wsX5_descentsBetween ({ frames := 2, cells := 0, slots := 0, locals := 44 }) D cA [.ref xo, .int a1, .int a2] [(xo, .inr (5, [.ref txto, .int xlet, .ref laio, .int xrec, .ref rulo, .ref so, .ref oso, .ref ajo, .ref aso])), (rulo, .inr (0, [.ref rulv])), (rulv, .inl (cA, 4, .inl rulf)), (so, .inr (3, [.ref rowo, .ref talo, .ref plao, .ref leno, .ref jo, .ref mo, .int srec, .int spol, .int slea, .int sdep, .int sinr, .int swai])), (rowo, .inr (0, [.ref rowv])), (rowv, .inl (cA, 96, .inl rowf))] [(xo, .inr (5, [.ref txto, .int xlet, .ref laio, .int xrec, .ref rulo, .ref so, .ref oso, .ref ajo, .ref aso])), (rulo, .inr (0, [.ref rulv])), (rulv, .inl (cA, 4, .inl rulf)), (so, .inr (3, [.ref rowo, .ref talo, .ref plao, .ref leno, .ref jo, .ref mo, .int srec, .int spol, .int slea, .int sdep, .int sinr, .int swai])), (rowo, .inr (0, [.ref rowv])), (rowv, .inl (cA, 96, .inl rowf))] (some (.int r0)) := by
  refine Ct.of (cc := cX5_descentsBetween) (maxL := 5) (ret := (some .int)) (by decide) rfl (Nat.le_of_ble_eq_true rfl) ?_
  intro p e s m below meth c A ls hcx hG hst hA hP hD hl
  obtain ⟨hx, hb, hml, hown, hts, hr, hlocks⟩ := id hcx
  have hown : s.vm.findClass RX5 = some m.cls := hown
  have hS : va_S A s.heap s.heap [] := va_S.rf
  have hl : lv_has ls 5 [(0, .ref xo), (1, .int a1), (2, .int a2)] := hl
  have hmX5_descentsBetween_7 : ∀ (n7 : Nat) (x3 : Int32) (x4 : Int32) (H : Heap) (locs : List Loc) (ls : Array Slot), mX5_descentsBetween_7 F rulf rowf a2 n7 x3 x4 = some r0 → va_P D vwCl [(xo, .inr (5, [.ref txto, .int xlet, .ref laio, .int xrec, .ref rulo, .ref so, .ref oso, .ref ajo, .ref aso])), (rulo, .inr (0, [.ref rulv])), (rulv, .inl (cA, 4, .inl rulf)), (so, .inr (3, [.ref rowo, .ref talo, .ref plao, .ref leno, .ref jo, .ref mo, .int srec, .int spol, .int slea, .int sdep, .int sinr, .int swai])), (rowo, .inr (0, [.ref rowv])), (rowv, .inl (cA, 96, .inl rowf))] H → va_D A [(xo, .inr (5, [.ref txto, .int xlet, .ref laio, .int xrec, .ref rulo, .ref so, .ref oso, .ref ajo, .ref aso])), (rulo, .inr (0, [.ref rulv])), (rulv, .inl (cA, 4, .inl rulf)), (so, .inr (3, [.ref rowo, .ref talo, .ref plao, .ref leno, .ref jo, .ref mo, .int srec, .int spol, .int slea, .int sdep, .int sinr, .int swai])), (rowo, .inr (0, [.ref rowv])), (rowv, .inl (cA, 96, .inl rowf))] → va_S A s.heap H locs → lv_has ls 5 [(0, .ref xo), (2, .int a2), (3, .int x3), (4, .int x4)] → W p l e ({ frames := 2, cells := 0, slots := 0, locals := 44 }) s m ([.ref xo, .int a1, .int a2] : List Value).toArray below meth c H locs 0 0 (MQ below (Qw D A [(xo, .inr (5, [.ref txto, .int xlet, .ref laio, .int xrec, .ref rulo, .ref so, .ref oso, .ref ajo, .ref aso])), (rulo, .inr (0, [.ref rulv])), (rulv, .inl (cA, 4, .inl rulf)), (so, .inr (3, [.ref rowo, .ref talo, .ref plao, .ref leno, .ref jo, .ref mo, .int srec, .int spol, .int slea, .int sdep, .int sinr, .int swai])), (rowo, .inr (0, [.ref rowv])), (rowv, .inl (cA, 96, .inl rowf))] (some (.int r0))) ([.ref xo, .int a1, .int a2] : List Value).toArray s 0 0 A) (F0 m 7 ls []) := by
    intro n7
    induction n7 with
    | zero => intro x3 x4 H locs ls h; exact (no_some h).elim
    | succ n7 ih7 =>
      intro x3 x4 H locs ls h hP hD hS hl
      rw [mX5_descentsBetween_7] at h
      refine lv_iload hx hb dX5_descentsBetween_7 (lv_at hl 3 rfl) ?_
      refine lv_iload_n hx hb dX5_descentsBetween_9 rfl (lv_at hl 1 rfl) ?_
      refine lv_icmp_ge (tgt := 35) hx hb dX5_descentsBetween_10 (by decide) (fun c10 => ?_) (fun c10 => ?_)
      · have h := i_t c10 h
        refine lv_iload_n hx hb dX5_descentsBetween_35 rfl (lv_at hl 2 rfl) ?_
        cases h
        exact rt_i hx hb hr hlocks hP hD hS dX5_descentsBetween_36
      · have h := i_f c10 h
        refine lv_aload_n hx hb dX5_descentsBetween_13 rfl (lv_at hl 0 rfl) ?_
        refine lv_iload hx hb dX5_descentsBetween_14 (lv_at hl 3 rfl) ?_
        refine lv_iload hx hb dX5_descentsBetween_16 (lv_at hl 3 rfl) ?_
        refine lv_iconst (v := (1 : Int32)) hx hb dX5_descentsBetween_18 (by decide) ?_
        refine lv_isub hx hb dX5_descentsBetween_19 ?_
        obtain ⟨r20, hc20, h⟩ := bd1_some h
        refine ct_V (As := [.int x4, .int (x4 - (1 : Int32))]) (rest := []) (st1 := [.int r20]) (wf := [(xo, .inr (5, [.ref txto, .int xlet, .ref laio, .int xrec, .ref rulo, .ref so, .ref oso, .ref ajo, .ref aso])), (rulo, .inr (0, [.ref rulv])), (rulv, .inl (cA, 4, .inl rulf)), (so, .inr (3, [.ref rowo, .ref talo, .ref plao, .ref leno, .ref jo, .ref mo, .int srec, .int spol, .int slea, .int sdep, .int sinr, .int swai])), (rowo, .inr (0, [.ref rowv])), (rowv, .inl (cA, 96, .inl rowf))]) (kX5_standsLess l D cA F xo txto laio rulo so oso ajo aso rulv rowo talo plao leno jo mo rowv  xlet xrec rulf srec spol slea sdep sinr swai rowf x4 (x4 - (1 : Int32)) r20 hc20) ⟨hx, hb, hml, hown, hts⟩ (cwV 2 hts gX5_descentsBetween_X5_standsLess rfl rfl rfl (by decide +kernel) ⟨Nat.le_of_ble_eq_true rfl, Nat.le_of_ble_eq_true rfl⟩) hG hst hP hD hS hA 5 rfl rfl rfl [0, 1, 2, 3, 4, 5] [] [0, 1, 2, 3, 4, 5] rfl rfl rfl rfl rfl rfl hl.1 rfl rfl (Nat.le_of_ble_eq_true rfl) dX5_descentsBetween_20 ⟨Nat.zero_le _, Nat.zero_le _⟩ (fun H locs hP hD hS => ?_)
        refine lv_if_eq (tgt := 29) hx hb dX5_descentsBetween_23 (by decide) (fun c23 => ?_) (fun c23 => ?_)
        · have h := i_t c23 h
          refine lv_iinc (v := x4 + (1 : Int32)) (lv' := [(4, .int (x4 + (1 : Int32))), (0, .ref xo), (2, .int a2), (3, .int x3)]) hx hb dX5_descentsBetween_29 hl (k := 3) rfl (congrArg (fun z => x4 + z) (by decide)) (by decide) rfl (fun ls hl => ?_)
          refine lv_goto (tgt := 7) hx hb dX5_descentsBetween_32 (by decide) ?_
          exact ih7 x3 (x4 + (1 : Int32)) _ _ _ h hP hD hS (lv_sub hl [1, 2, 3, 0] rfl)
        · have h := i_f c23 h
          refine lv_iinc (v := x3 + (1 : Int32)) (lv' := [(3, .int (x3 + (1 : Int32))), (0, .ref xo), (2, .int a2), (4, .int x4)]) hx hb dX5_descentsBetween_26 hl (k := 2) rfl (congrArg (fun z => x3 + z) (by decide)) (by decide) rfl (fun ls hl => ?_)
          refine lv_iinc (v := x4 + (1 : Int32)) (lv' := [(4, .int (x4 + (1 : Int32))), (3, .int (x3 + (1 : Int32))), (0, .ref xo), (2, .int a2)]) hx hb dX5_descentsBetween_29 hl (k := 3) rfl (congrArg (fun z => x4 + z) (by decide)) (by decide) rfl (fun ls hl => ?_)
          refine lv_goto (tgt := 7) hx hb dX5_descentsBetween_32 (by decide) ?_
          exact ih7 (x3 + (1 : Int32)) (x4 + (1 : Int32)) _ _ _ h hP hD hS (lv_sub hl [2, 3, 1, 0] rfl)
  unfold mX5_descentsBetween at h
  refine lv_iconst (v := (0 : Int32)) hx hb dX5_descentsBetween_0 (by decide) ?_
  refine lv_istore_n (lv' := [(3, .int (0 : Int32)), (0, .ref xo), (1, .int a1), (2, .int a2)]) hx hb dX5_descentsBetween_1 rfl hl (by decide) rfl (fun ls hl => ?_)
  refine lv_iload_n hx hb dX5_descentsBetween_2 rfl (lv_at hl 2 rfl) ?_
  refine lv_iconst (v := (1 : Int32)) hx hb dX5_descentsBetween_3 (by decide) ?_
  refine lv_iadd hx hb dX5_descentsBetween_4 ?_
  refine lv_istore (lv' := [(4, .int (a1 + (1 : Int32))), (3, .int (0 : Int32)), (0, .ref xo), (1, .int a1), (2, .int a2)]) hx hb dX5_descentsBetween_5 hl (by decide) rfl (fun ls hl => ?_)
  exact hmX5_descentsBetween_7 F (0 : Int32) (a1 + (1 : Int32)) _ _ _ h hP hD hS (lv_sub hl [2, 4, 1, 0] rfl)
set_option maxHeartbeats 4000000 in
set_option maxRecDepth 100000 in
theorem kX5_descents (l : Launch) (D : va_G) (cA : ClassId) (F : Nat) (xo : Nat) (txto : Nat) (laio : Nat) (rulo : Nat) (so : Nat) (oso : Nat) (ajo : Nat) (aso : Nat) (rulv : Nat) (rowo : Nat) (talo : Nat) (plao : Nat) (leno : Nat) (jo : Nat) (mo : Nat) (rowv : Nat) (xlet : Int32) (xrec : Int32) (rulf : (Nat → Int32)) (srec : Int32) (spol : Int32) (slea : Int32) (sdep : Int32) (sinr : Int32) (swai : Int32) (rowf : (Nat → Int32)) (r0 : Int32) (h : mX5_descents F xrec rulf rowf = some r0) : Ct l yX5_descents wsX5_descents ({ frames := 3, cells := 0, slots := 0, locals := 68 }) D cA [.ref xo] [(xo, .inr (5, [.ref txto, .int xlet, .ref laio, .int xrec, .ref rulo, .ref so, .ref oso, .ref ajo, .ref aso])), (rulo, .inr (0, [.ref rulv])), (rulv, .inl (cA, 4, .inl rulf)), (so, .inr (3, [.ref rowo, .ref talo, .ref plao, .ref leno, .ref jo, .ref mo, .int srec, .int spol, .int slea, .int sdep, .int sinr, .int swai])), (rowo, .inr (0, [.ref rowv])), (rowv, .inl (cA, 96, .inl rowf))] [(xo, .inr (5, [.ref txto, .int xlet, .ref laio, .int xrec, .ref rulo, .ref so, .ref oso, .ref ajo, .ref aso])), (rulo, .inr (0, [.ref rulv])), (rulv, .inl (cA, 4, .inl rulf)), (so, .inr (3, [.ref rowo, .ref talo, .ref plao, .ref leno, .ref jo, .ref mo, .int srec, .int spol, .int slea, .int sdep, .int sinr, .int swai])), (rowo, .inr (0, [.ref rowv])), (rowv, .inl (cA, 96, .inl rowf))] (some (.int r0)) := by
  refine Ct.of (cc := cX5_descents) (maxL := 1) (ret := (some .int)) (by decide) rfl (Nat.le_of_ble_eq_true rfl) ?_
  intro p e s m below meth c A ls hcx hG hst hA hP hD hl
  obtain ⟨hx, hb, hml, hown, hts, hr, hlocks⟩ := id hcx
  have hown : s.vm.findClass RX5 = some m.cls := hown
  have hS : va_S A s.heap s.heap [] := va_S.rf
  have hl : lv_has ls 1 [(0, .ref xo)] := hl
  have hinX5 : ∀ w ∈ u_ws RX5 TX5 9, w ∈ wsX5_descents := by decide +kernel
  have fl25 := hts (.fieldLink RX5 25 "RunSorter" "records" "I") (by decide +kernel)
  unfold mX5_descents at h
  refine lv_aload_n hx hb dX5_descents_0 rfl (lv_at hl 0 rfl) ?_
  refine lv_iconst (v := (0 : Int32)) hx hb dX5_descents_1 (by decide) ?_
  refine lv_aload_n hx hb dX5_descents_2 rfl (lv_at hl 0 rfl) ?_
  refine va_get (D := D) (cl := vwCl) (ci := 5) (v := .int xrec) (C := RX5) (T := TX5) (N := 9) hx hb hts hinX5 hown hG.1 hP 0 rfl rfl 3 (by decide) fl25 (fun _ h9 => h9) rfl dX5_descents_3 ?_
  obtain ⟨r6, hc6, h⟩ := bd1_some h
  refine ct_V (As := [.int (0 : Int32), .int xrec]) (rest := []) (st1 := [.int r6]) (wf := [(xo, .inr (5, [.ref txto, .int xlet, .ref laio, .int xrec, .ref rulo, .ref so, .ref oso, .ref ajo, .ref aso])), (rulo, .inr (0, [.ref rulv])), (rulv, .inl (cA, 4, .inl rulf)), (so, .inr (3, [.ref rowo, .ref talo, .ref plao, .ref leno, .ref jo, .ref mo, .int srec, .int spol, .int slea, .int sdep, .int sinr, .int swai])), (rowo, .inr (0, [.ref rowv])), (rowv, .inl (cA, 96, .inl rowf))]) (kX5_descentsBetween l D cA F xo txto laio rulo so oso ajo aso rulv rowo talo plao leno jo mo rowv  xlet xrec rulf srec spol slea sdep sinr swai rowf (0 : Int32) xrec r6 hc6) ⟨hx, hb, hml, hown, hts⟩ (cwV 2 hts gX5_descents_X5_descentsBetween rfl rfl rfl (by decide +kernel) ⟨Nat.le_of_ble_eq_true rfl, Nat.le_of_ble_eq_true rfl⟩) hG hst hP hD hS hA 5 rfl rfl rfl [0, 1, 2, 3, 4, 5] [] [0, 1, 2, 3, 4, 5] rfl rfl rfl rfl rfl rfl hl.1 rfl rfl (Nat.le_of_ble_eq_true rfl) dX5_descents_6 ⟨Nat.zero_le _, Nat.zero_le _⟩ (fun H locs hP hD hS => ?_)
  cases h
  exact rt_i hx hb hr hlocks hP hD hS dX5_descents_9
set_option maxHeartbeats 4000000 in
set_option maxRecDepth 100000 in
theorem kX5_inversions (l : Launch) (D : va_G) (cA : ClassId) (F : Nat) (xo : Nat) (txto : Nat) (laio : Nat) (rulo : Nat) (so : Nat) (oso : Nat) (ajo : Nat) (aso : Nat) (rulv : Nat) (rowo : Nat) (talo : Nat) (plao : Nat) (leno : Nat) (jo : Nat) (mo : Nat) (rowv : Nat) (xlet : Int32) (xrec : Int32) (rulf : (Nat → Int32)) (srec : Int32) (spol : Int32) (slea : Int32) (sdep : Int32) (sinr : Int32) (swai : Int32) (rowf : (Nat → Int32)) (r0 : Int32) (h : mX5_inversions F xrec rulf rowf = some r0) : Ct l yX5_inversions wsX5_inversions ({ frames := 2, cells := 0, slots := 0, locals := 44 }) D cA [.ref xo] [(xo, .inr (5, [.ref txto, .int xlet, .ref laio, .int xrec, .ref rulo, .ref so, .ref oso, .ref ajo, .ref aso])), (rulo, .inr (0, [.ref rulv])), (rulv, .inl (cA, 4, .inl rulf)), (so, .inr (3, [.ref rowo, .ref talo, .ref plao, .ref leno, .ref jo, .ref mo, .int srec, .int spol, .int slea, .int sdep, .int sinr, .int swai])), (rowo, .inr (0, [.ref rowv])), (rowv, .inl (cA, 96, .inl rowf))] [(xo, .inr (5, [.ref txto, .int xlet, .ref laio, .int xrec, .ref rulo, .ref so, .ref oso, .ref ajo, .ref aso])), (rulo, .inr (0, [.ref rulv])), (rulv, .inl (cA, 4, .inl rulf)), (so, .inr (3, [.ref rowo, .ref talo, .ref plao, .ref leno, .ref jo, .ref mo, .int srec, .int spol, .int slea, .int sdep, .int sinr, .int swai])), (rowo, .inr (0, [.ref rowv])), (rowv, .inl (cA, 96, .inl rowf))] (some (.int r0)) := by
  refine Ct.of (cc := cX5_inversions) (maxL := 4) (ret := (some .int)) (by decide) rfl (Nat.le_of_ble_eq_true rfl) ?_
  intro p e s m below meth c A ls hcx hG hst hA hP hD hl
  obtain ⟨hx, hb, hml, hown, hts, hr, hlocks⟩ := id hcx
  have hown : s.vm.findClass RX5 = some m.cls := hown
  have hS : va_S A s.heap s.heap [] := va_S.rf
  have hl : lv_has ls 4 [(0, .ref xo)] := hl
  have hinX5 : ∀ w ∈ u_ws RX5 TX5 9, w ∈ wsX5_inversions := by decide +kernel
  have fl25 := hts (.fieldLink RX5 25 "RunSorter" "records" "I") (by decide +kernel)
  have hmX5_inversions_4 : ∀ (n4 : Nat) (x1 : Int32) (x2 : Int32) (H : Heap) (locs : List Loc) (ls : Array Slot), mX5_inversions_4 F xrec rulf rowf n4 x1 x2 = some r0 → va_P D vwCl [(xo, .inr (5, [.ref txto, .int xlet, .ref laio, .int xrec, .ref rulo, .ref so, .ref oso, .ref ajo, .ref aso])), (rulo, .inr (0, [.ref rulv])), (rulv, .inl (cA, 4, .inl rulf)), (so, .inr (3, [.ref rowo, .ref talo, .ref plao, .ref leno, .ref jo, .ref mo, .int srec, .int spol, .int slea, .int sdep, .int sinr, .int swai])), (rowo, .inr (0, [.ref rowv])), (rowv, .inl (cA, 96, .inl rowf))] H → va_D A [(xo, .inr (5, [.ref txto, .int xlet, .ref laio, .int xrec, .ref rulo, .ref so, .ref oso, .ref ajo, .ref aso])), (rulo, .inr (0, [.ref rulv])), (rulv, .inl (cA, 4, .inl rulf)), (so, .inr (3, [.ref rowo, .ref talo, .ref plao, .ref leno, .ref jo, .ref mo, .int srec, .int spol, .int slea, .int sdep, .int sinr, .int swai])), (rowo, .inr (0, [.ref rowv])), (rowv, .inl (cA, 96, .inl rowf))] → va_S A s.heap H locs → lv_has ls 4 [(0, .ref xo), (1, .int x1), (2, .int x2)] → W p l e ({ frames := 2, cells := 0, slots := 0, locals := 44 }) s m ([.ref xo] : List Value).toArray below meth c H locs 0 0 (MQ below (Qw D A [(xo, .inr (5, [.ref txto, .int xlet, .ref laio, .int xrec, .ref rulo, .ref so, .ref oso, .ref ajo, .ref aso])), (rulo, .inr (0, [.ref rulv])), (rulv, .inl (cA, 4, .inl rulf)), (so, .inr (3, [.ref rowo, .ref talo, .ref plao, .ref leno, .ref jo, .ref mo, .int srec, .int spol, .int slea, .int sdep, .int sinr, .int swai])), (rowo, .inr (0, [.ref rowv])), (rowv, .inl (cA, 96, .inl rowf))] (some (.int r0))) ([.ref xo] : List Value).toArray s 0 0 A) (F0 m 4 ls []) := by
    intro n4
    induction n4 with
    | zero => intro x1 x2 H locs ls h; exact (no_some h).elim
    | succ n4 ih4 =>
      have hmX5_inversions_14 : ∀ (n14 : Nat) (x1 : Int32) (x2 : Int32) (x3 : Int32) (H : Heap) (locs : List Loc) (ls : Array Slot), mX5_inversions_14 F rulf rowf (fun p0 p1 => mX5_inversions_4 F xrec rulf rowf  n4 p0 p1) n14 x1 x2 x3 = some r0 → va_P D vwCl [(xo, .inr (5, [.ref txto, .int xlet, .ref laio, .int xrec, .ref rulo, .ref so, .ref oso, .ref ajo, .ref aso])), (rulo, .inr (0, [.ref rulv])), (rulv, .inl (cA, 4, .inl rulf)), (so, .inr (3, [.ref rowo, .ref talo, .ref plao, .ref leno, .ref jo, .ref mo, .int srec, .int spol, .int slea, .int sdep, .int sinr, .int swai])), (rowo, .inr (0, [.ref rowv])), (rowv, .inl (cA, 96, .inl rowf))] H → va_D A [(xo, .inr (5, [.ref txto, .int xlet, .ref laio, .int xrec, .ref rulo, .ref so, .ref oso, .ref ajo, .ref aso])), (rulo, .inr (0, [.ref rulv])), (rulv, .inl (cA, 4, .inl rulf)), (so, .inr (3, [.ref rowo, .ref talo, .ref plao, .ref leno, .ref jo, .ref mo, .int srec, .int spol, .int slea, .int sdep, .int sinr, .int swai])), (rowo, .inr (0, [.ref rowv])), (rowv, .inl (cA, 96, .inl rowf))] → va_S A s.heap H locs → lv_has ls 4 [(0, .ref xo), (1, .int x1), (2, .int x2), (3, .int x3)] → W p l e ({ frames := 2, cells := 0, slots := 0, locals := 44 }) s m ([.ref xo] : List Value).toArray below meth c H locs 0 0 (MQ below (Qw D A [(xo, .inr (5, [.ref txto, .int xlet, .ref laio, .int xrec, .ref rulo, .ref so, .ref oso, .ref ajo, .ref aso])), (rulo, .inr (0, [.ref rulv])), (rulv, .inl (cA, 4, .inl rulf)), (so, .inr (3, [.ref rowo, .ref talo, .ref plao, .ref leno, .ref jo, .ref mo, .int srec, .int spol, .int slea, .int sdep, .int sinr, .int swai])), (rowo, .inr (0, [.ref rowv])), (rowv, .inl (cA, 96, .inl rowf))] (some (.int r0))) ([.ref xo] : List Value).toArray s 0 0 A) (F0 m 14 ls []) := by
        intro n14
        induction n14 with
        | zero => intro x1 x2 x3 H locs ls h; exact (no_some h).elim
        | succ n14 ih14 =>
          intro x1 x2 x3 H locs ls h hP hD hS hl
          rw [mX5_inversions_14] at h
          refine lv_iload_n hx hb dX5_inversions_14 rfl (lv_at hl 3 rfl) ?_
          refine lv_iload_n hx hb dX5_inversions_15 rfl (lv_at hl 2 rfl) ?_
          refine lv_icmp_ge (tgt := 37) hx hb dX5_inversions_16 (by decide) (fun c16 => ?_) (fun c16 => ?_)
          · have h := i_t c16 h
            refine lv_iinc (v := x2 + (1 : Int32)) (lv' := [(2, .int (x2 + (1 : Int32))), (0, .ref xo), (1, .int x1), (3, .int x3)]) hx hb dX5_inversions_37 hl (k := 2) rfl (congrArg (fun z => x2 + z) (by decide)) (by decide) rfl (fun ls hl => ?_)
            refine lv_goto (tgt := 4) hx hb dX5_inversions_40 (by decide) ?_
            exact ih4 x1 (x2 + (1 : Int32)) _ _ _ h hP hD hS (lv_sub hl [1, 2, 0] rfl)
          · have h := i_f c16 h
            refine lv_aload_n hx hb dX5_inversions_19 rfl (lv_at hl 0 rfl) ?_
            refine lv_iload_n hx hb dX5_inversions_20 rfl (lv_at hl 2 rfl) ?_
            refine lv_iload_n hx hb dX5_inversions_21 rfl (lv_at hl 3 rfl) ?_
            obtain ⟨r22, hc22, h⟩ := bd1_some h
            refine ct_V (As := [.int x2, .int x3]) (rest := []) (st1 := [.int r22]) (wf := [(xo, .inr (5, [.ref txto, .int xlet, .ref laio, .int xrec, .ref rulo, .ref so, .ref oso, .ref ajo, .ref aso])), (rulo, .inr (0, [.ref rulv])), (rulv, .inl (cA, 4, .inl rulf)), (so, .inr (3, [.ref rowo, .ref talo, .ref plao, .ref leno, .ref jo, .ref mo, .int srec, .int spol, .int slea, .int sdep, .int sinr, .int swai])), (rowo, .inr (0, [.ref rowv])), (rowv, .inl (cA, 96, .inl rowf))]) (kX5_standsLess l D cA F xo txto laio rulo so oso ajo aso rulv rowo talo plao leno jo mo rowv  xlet xrec rulf srec spol slea sdep sinr swai rowf x2 x3 r22 hc22) ⟨hx, hb, hml, hown, hts⟩ (cwV 2 hts gX5_inversions_X5_standsLess rfl rfl rfl (by decide +kernel) ⟨Nat.le_of_ble_eq_true rfl, Nat.le_of_ble_eq_true rfl⟩) hG hst hP hD hS hA 5 rfl rfl rfl [0, 1, 2, 3, 4, 5] [] [0, 1, 2, 3, 4, 5] rfl rfl rfl rfl rfl rfl hl.1 rfl rfl (Nat.le_of_ble_eq_true rfl) dX5_inversions_22 ⟨Nat.zero_le _, Nat.zero_le _⟩ (fun H locs hP hD hS => ?_)
            refine lv_if_eq (tgt := 31) hx hb dX5_inversions_25 (by decide) (fun c25 => ?_) (fun c25 => ?_)
            · have h := i_t c25 h
              refine lv_iinc (v := x3 + (1 : Int32)) (lv' := [(3, .int (x3 + (1 : Int32))), (0, .ref xo), (1, .int x1), (2, .int x2)]) hx hb dX5_inversions_31 hl (k := 3) rfl (congrArg (fun z => x3 + z) (by decide)) (by decide) rfl (fun ls hl => ?_)
              refine lv_goto (tgt := 14) hx hb dX5_inversions_34 (by decide) ?_
              exact ih14 x1 x2 (x3 + (1 : Int32)) _ _ _ h hP hD hS (lv_sub hl [1, 2, 3, 0] rfl)
            · have h := i_f c25 h
              refine lv_iinc (v := x1 + (1 : Int32)) (lv' := [(1, .int (x1 + (1 : Int32))), (0, .ref xo), (2, .int x2), (3, .int x3)]) hx hb dX5_inversions_28 hl (k := 1) rfl (congrArg (fun z => x1 + z) (by decide)) (by decide) rfl (fun ls hl => ?_)
              refine lv_iinc (v := x3 + (1 : Int32)) (lv' := [(3, .int (x3 + (1 : Int32))), (1, .int (x1 + (1 : Int32))), (0, .ref xo), (2, .int x2)]) hx hb dX5_inversions_31 hl (k := 3) rfl (congrArg (fun z => x3 + z) (by decide)) (by decide) rfl (fun ls hl => ?_)
              refine lv_goto (tgt := 14) hx hb dX5_inversions_34 (by decide) ?_
              exact ih14 (x1 + (1 : Int32)) x2 (x3 + (1 : Int32)) _ _ _ h hP hD hS (lv_sub hl [2, 1, 3, 0] rfl)
      intro x1 x2 H locs ls h hP hD hS hl
      rw [mX5_inversions_4] at h
      refine lv_iload_n hx hb dX5_inversions_4 rfl (lv_at hl 2 rfl) ?_
      refine lv_aload_n hx hb dX5_inversions_5 rfl (lv_at hl 0 rfl) ?_
      refine va_get (D := D) (cl := vwCl) (ci := 5) (v := .int xrec) (C := RX5) (T := TX5) (N := 9) hx hb hts hinX5 hown hG.1 hP 0 rfl rfl 3 (by decide) fl25 (fun _ h9 => h9) rfl dX5_inversions_6 ?_
      refine lv_icmp_ge (tgt := 43) hx hb dX5_inversions_9 (by decide) (fun c9 => ?_) (fun c9 => ?_)
      · have h := i_t c9 h
        refine lv_iload_n hx hb dX5_inversions_43 rfl (lv_at hl 1 rfl) ?_
        cases h
        exact rt_i hx hb hr hlocks hP hD hS dX5_inversions_44
      · have h := i_f c9 h
        refine lv_iconst (v := (0 : Int32)) hx hb dX5_inversions_12 (by decide) ?_
        refine lv_istore_n (lv' := [(3, .int (0 : Int32)), (0, .ref xo), (1, .int x1), (2, .int x2)]) hx hb dX5_inversions_13 rfl hl (by decide) rfl (fun ls hl => ?_)
        exact hmX5_inversions_14 F x1 x2 (0 : Int32) _ _ _ h hP hD hS (lv_sub hl [1, 2, 3, 0] rfl)
  unfold mX5_inversions at h
  refine lv_iconst (v := (0 : Int32)) hx hb dX5_inversions_0 (by decide) ?_
  refine lv_istore_n (lv' := [(1, .int (0 : Int32)), (0, .ref xo)]) hx hb dX5_inversions_1 rfl hl (by decide) rfl (fun ls hl => ?_)
  refine lv_iconst (v := (1 : Int32)) hx hb dX5_inversions_2 (by decide) ?_
  refine lv_istore_n (lv' := [(2, .int (1 : Int32)), (1, .int (0 : Int32)), (0, .ref xo)]) hx hb dX5_inversions_3 rfl hl (by decide) rfl (fun ls hl => ?_)
  exact hmX5_inversions_4 F (0 : Int32) (1 : Int32) _ _ _ h hP hD hS (lv_sub hl [2, 1, 0] rfl)
set_option maxHeartbeats 4000000 in
set_option maxRecDepth 100000 in
theorem kX5_seek (l : Launch) (D : va_G) (cA : ClassId) (F : Nat) (xo : Nat) (txto : Nat) (laio : Nat) (rulo : Nat) (so : Nat) (oso : Nat) (ajo : Nat) (aso : Nat) (rulv : Nat) (rowo : Nat) (talo : Nat) (plao : Nat) (leno : Nat) (jo : Nat) (mo : Nat) (rowv : Nat) (ato : Nat) (atv : Nat) (ras : Nat) (xlet : Int32) (xrec : Int32) (rulf : (Nat → Int32)) (srec : Int32) (spol : Int32) (slea : Int32) (sdep : Int32) (sinr : Int32) (swai : Int32) (rowf : (Nat → Int32)) (aord : Int32) (atf : (Nat → Int32)) (eas : Int32) (das : Int32) (las : Int32) (a1 : Int32) (a2 : Int32) (a3 : Int32) (a4 : Int32) (r0 : Int32) (aord_9 : Int32) (atf_9 : (Nat → Int32)) (ras_9 : Nat) (eas_9 : Int32) (das_9 : Int32) (las_9 : Int32) (h : mX5_seek F rowo ras xrec rulf rowf aord atf eas das las a1 a2 a3 a4 = some (r0, aord_9, atf_9, ras_9, eas_9, das_9, las_9)) : Ct l yX5_seek wsX5_seek ({ frames := 3, cells := 0, slots := 0, locals := 75 }) D cA [.ref xo, .int a1, .int a2, .int a3, .int a4] [(xo, .inr (5, [.ref txto, .int xlet, .ref laio, .int xrec, .ref rulo, .ref so, .ref oso, .ref ajo, .ref aso])), (rulo, .inr (0, [.ref rulv])), (rulv, .inl (cA, 4, .inl rulf)), (so, .inr (3, [.ref rowo, .ref talo, .ref plao, .ref leno, .ref jo, .ref mo, .int srec, .int spol, .int slea, .int sdep, .int sinr, .int swai])), (rowo, .inr (0, [.ref rowv])), (rowv, .inl (cA, 96, .inl rowf)), (ajo, .inr (1, [.ref ato, .int aord])), (ato, .inr (0, [.ref atv])), (atv, .inl (cA, 12, .inl atf)), (aso, .inr (4, [.ref ras, .int eas, .int das, .int las]))] [(xo, .inr (5, [.ref txto, .int xlet, .ref laio, .int xrec, .ref rulo, .ref so, .ref oso, .ref ajo, .ref aso])), (rulo, .inr (0, [.ref rulv])), (rulv, .inl (cA, 4, .inl rulf)), (so, .inr (3, [.ref rowo, .ref talo, .ref plao, .ref leno, .ref jo, .ref mo, .int srec, .int spol, .int slea, .int sdep, .int sinr, .int swai])), (rowo, .inr (0, [.ref rowv])), (rowv, .inl (cA, 96, .inl rowf)), (ajo, .inr (1, [.ref ato, .int aord_9])), (ato, .inr (0, [.ref atv])), (atv, .inl (cA, 12, .inl atf_9)), (aso, .inr (4, [.ref ras_9, .int eas_9, .int das_9, .int las_9]))] (some (.int r0)) := by
  refine Ct.of (cc := cX5_seek) (maxL := 6) (ret := (some .int)) (by decide) rfl (Nat.le_of_ble_eq_true rfl) ?_
  intro p e s m below meth c A ls hcx hG hst hA hP hD hl
  obtain ⟨hx, hb, hml, hown, hts, hr, hlocks⟩ := id hcx
  have hown : s.vm.findClass RX5 = some m.cls := hown
  have hS : va_S A s.heap s.heap [] := va_S.rf
  have hl : lv_has ls 6 [(0, .ref xo), (1, .int a1), (2, .int a2), (3, .int a3), (4, .int a4)] := hl
  have hinX1 : ∀ w ∈ u_ws RX1 TX1 2, w ∈ wsX5_seek := by decide +kernel
  have hinX3 : ∀ w ∈ u_ws RX3 TX3 12, w ∈ wsX5_seek := by decide +kernel
  have hinX5 : ∀ w ∈ u_ws RX5 TX5 9, w ∈ wsX5_seek := by decide +kernel
  have fl25 := hts (.fieldLink RX5 25 "RunSorter" "records" "I") (by decide +kernel)
  have fl46 := hts (.fieldLink RX5 46 "RunSorter" "asideJudge" "LRunSorter$Judge;") (by decide +kernel)
  have fl28 := hts (.fieldLink RX5 28 "RunSorter" "rules" "LRunSorter$Cells;") (by decide +kernel)
  have fl53 := hts (.fieldLink RX5 53 "RunSorter" "asideSpan" "LRunSorter$Span;") (by decide +kernel)
  have fl34 := hts (.fieldLink RX5 34 "RunSorter" "sorter" "LRunSorter$Sorter;") (by decide +kernel)
  unfold mX5_seek at h
  refine lv_iload_n hx hb dX5_seek_0 rfl (lv_at hl 1 rfl) ?_
  refine lv_if_lt (tgt := 34) hx hb dX5_seek_1 (by decide) (fun c1 => ?_) (fun c1 => ?_)
  · have h := i_t c1 h
    refine lv_iconst (v := (-1 : Int32)) hx hb dX5_seek_34 (by decide) ?_
    cases h
    exact rt_i hx hb hr hlocks hP hD hS dX5_seek_35
  · have h := i_f c1 h
    refine lv_iload_n hx hb dX5_seek_4 rfl (lv_at hl 1 rfl) ?_
    refine lv_iload_n hx hb dX5_seek_5 rfl (lv_at hl 2 rfl) ?_
    refine lv_icmp_gt (tgt := 34) hx hb dX5_seek_6 (by decide) (fun c6 => ?_) (fun c6 => ?_)
    · have h := i_t c6 h
      refine lv_iconst (v := (-1 : Int32)) hx hb dX5_seek_34 (by decide) ?_
      cases h
      exact rt_i hx hb hr hlocks hP hD hS dX5_seek_35
    · have h := i_f c6 h
      refine lv_iload_n hx hb dX5_seek_9 rfl (lv_at hl 2 rfl) ?_
      refine lv_aload_n hx hb dX5_seek_10 rfl (lv_at hl 0 rfl) ?_
      refine va_get (D := D) (cl := vwCl) (ci := 5) (v := .int xrec) (C := RX5) (T := TX5) (N := 9) hx hb hts hinX5 hown hG.1 hP 0 rfl rfl 3 (by decide) fl25 (fun _ h9 => h9) rfl dX5_seek_11 ?_
      refine lv_icmp_gt (tgt := 34) hx hb dX5_seek_14 (by decide) (fun c14 => ?_) (fun c14 => ?_)
      · have h := i_t c14 h
        refine lv_iconst (v := (-1 : Int32)) hx hb dX5_seek_34 (by decide) ?_
        cases h
        exact rt_i hx hb hr hlocks hP hD hS dX5_seek_35
      · have h := i_f c14 h
        refine lv_iload_n hx hb dX5_seek_17 rfl (lv_at hl 3 rfl) ?_
        obtain ⟨r18, hc18, h⟩ := bd1_some h
        refine ct_S (As := [.int a3]) (rest := []) (st1 := [.int r18]) (wf := [(xo, .inr (5, [.ref txto, .int xlet, .ref laio, .int xrec, .ref rulo, .ref so, .ref oso, .ref ajo, .ref aso])), (rulo, .inr (0, [.ref rulv])), (rulv, .inl (cA, 4, .inl rulf)), (so, .inr (3, [.ref rowo, .ref talo, .ref plao, .ref leno, .ref jo, .ref mo, .int srec, .int spol, .int slea, .int sdep, .int sinr, .int swai])), (rowo, .inr (0, [.ref rowv])), (rowv, .inl (cA, 96, .inl rowf)), (ajo, .inr (1, [.ref ato, .int aord])), (ato, .inr (0, [.ref atv])), (atv, .inl (cA, 12, .inl atf)), (aso, .inr (4, [.ref ras, .int eas, .int das, .int las]))]) (kX5_isNoKey l D cA F    a3 r18 hc18) ⟨hx, hb, hml, hown, hts⟩ (va_cwS 1 hts gX5_seek_X5_isNoKey rfl rfl rfl (by decide +kernel) ⟨Nat.le_of_ble_eq_true rfl, Nat.le_of_ble_eq_true rfl⟩) hG hst hP hD hS hA [] [0, 1, 2, 3, 4, 5, 6, 7, 8, 9] [0, 1, 2, 3, 4, 5, 6, 7, 8, 9] rfl rfl rfl rfl rfl rfl hl.1 rfl rfl (Nat.le_of_ble_eq_true rfl) dX5_seek_18 ⟨Nat.zero_le _, Nat.zero_le _⟩ (fun H locs hP hD hS => ?_)
        refine lv_if_ne (tgt := 34) hx hb dX5_seek_21 (by decide) (fun c21 => ?_) (fun c21 => ?_)
        · have h := i_f c21 h
          refine lv_iconst (v := (-1 : Int32)) hx hb dX5_seek_34 (by decide) ?_
          cases h
          exact rt_i hx hb hr hlocks hP hD hS dX5_seek_35
        · have h := i_t c21 h
          refine lv_iload hx hb dX5_seek_24 (lv_at hl 4 rfl) ?_
          refine lv_iconst (v := (0 : Int32)) hx hb dX5_seek_26 (by decide) ?_
          refine lv_iconst (v := (1 : Int32)) hx hb dX5_seek_27 (by decide) ?_
          obtain ⟨r28, hc28, h⟩ := bd1_some h
          refine ct_S (As := [.int a4, .int (0 : Int32), .int (1 : Int32)]) (rest := []) (st1 := [.int r28]) (wf := [(xo, .inr (5, [.ref txto, .int xlet, .ref laio, .int xrec, .ref rulo, .ref so, .ref oso, .ref ajo, .ref aso])), (rulo, .inr (0, [.ref rulv])), (rulv, .inl (cA, 4, .inl rulf)), (so, .inr (3, [.ref rowo, .ref talo, .ref plao, .ref leno, .ref jo, .ref mo, .int srec, .int spol, .int slea, .int sdep, .int sinr, .int swai])), (rowo, .inr (0, [.ref rowv])), (rowv, .inl (cA, 96, .inl rowf)), (ajo, .inr (1, [.ref ato, .int aord])), (ato, .inr (0, [.ref atv])), (atv, .inl (cA, 12, .inl atf)), (aso, .inr (4, [.ref ras, .int eas, .int das, .int las]))]) (kX5_isOutside l D cA F    a4 (0 : Int32) (1 : Int32) r28 hc28) ⟨hx, hb, hml, hown, hts⟩ (va_cwS 3 hts gX5_seek_X5_isOutside rfl rfl rfl (by decide +kernel) ⟨Nat.le_of_ble_eq_true rfl, Nat.le_of_ble_eq_true rfl⟩) hG hst hP hD hS hA [] [0, 1, 2, 3, 4, 5, 6, 7, 8, 9] [0, 1, 2, 3, 4, 5, 6, 7, 8, 9] rfl rfl rfl rfl rfl rfl hl.1 rfl rfl (Nat.le_of_ble_eq_true rfl) dX5_seek_28 ⟨Nat.zero_le _, Nat.zero_le _⟩ (fun H locs hP hD hS => ?_)
          refine lv_if_eq (tgt := 36) hx hb dX5_seek_31 (by decide) (fun c31 => ?_) (fun c31 => ?_)
          · have h := i_t c31 h
            refine lv_aload_n hx hb dX5_seek_36 rfl (lv_at hl 0 rfl) ?_
            refine lv_iload_n hx hb dX5_seek_37 rfl (lv_at hl 1 rfl) ?_
            refine lv_iload_n hx hb dX5_seek_38 rfl (lv_at hl 2 rfl) ?_
            obtain ⟨r39, hc39, h⟩ := bd1_some h
            refine ct_V (As := [.int a1, .int a2]) (rest := []) (st1 := [.int r39]) (wf := [(xo, .inr (5, [.ref txto, .int xlet, .ref laio, .int xrec, .ref rulo, .ref so, .ref oso, .ref ajo, .ref aso])), (rulo, .inr (0, [.ref rulv])), (rulv, .inl (cA, 4, .inl rulf)), (so, .inr (3, [.ref rowo, .ref talo, .ref plao, .ref leno, .ref jo, .ref mo, .int srec, .int spol, .int slea, .int sdep, .int sinr, .int swai])), (rowo, .inr (0, [.ref rowv])), (rowv, .inl (cA, 96, .inl rowf)), (ajo, .inr (1, [.ref ato, .int aord])), (ato, .inr (0, [.ref atv])), (atv, .inl (cA, 12, .inl atf)), (aso, .inr (4, [.ref ras, .int eas, .int das, .int las]))]) (kX5_descentsBetween l D cA F xo txto laio rulo so oso ajo aso rulv rowo talo plao leno jo mo rowv  xlet xrec rulf srec spol slea sdep sinr swai rowf a1 a2 r39 hc39) ⟨hx, hb, hml, hown, hts⟩ (cwV 2 hts gX5_seek_X5_descentsBetween rfl rfl rfl (by decide +kernel) ⟨Nat.le_of_ble_eq_true rfl, Nat.le_of_ble_eq_true rfl⟩) hG hst hP hD hS hA 5 rfl rfl rfl [0, 1, 2, 3, 4, 5] [6, 7, 8, 9] [4, 5, 6, 7, 8, 9, 0, 1, 2, 3] rfl rfl rfl rfl rfl rfl hl.1 rfl rfl (Nat.le_of_ble_eq_true rfl) dX5_seek_39 ⟨Nat.zero_le _, Nat.zero_le _⟩ (fun H locs hP hD hS => ?_)
            refine lv_if_le (tgt := 48) hx hb dX5_seek_42 (by decide) (fun c42 => ?_) (fun c42 => ?_)
            · have h := i_t c42 h
              refine lv_aload_n hx hb dX5_seek_48 rfl (lv_at hl 0 rfl) ?_
              refine va_get (D := D) (cl := vwCl) (ci := 5) (v := .ref ajo) (C := RX5) (T := TX5) (N := 9) hx hb hts hinX5 hown hG.1 hP 0 rfl rfl 7 (by decide) fl46 (fun _ h9 => h9) rfl dX5_seek_49 ?_
              refine lv_aload_n hx hb dX5_seek_52 rfl (lv_at hl 0 rfl) ?_
              refine va_get (D := D) (cl := vwCl) (ci := 5) (v := .ref rulo) (C := RX5) (T := TX5) (N := 9) hx hb hts hinX5 hown hG.1 hP 0 rfl rfl 4 (by decide) fl28 (fun _ h9 => h9) rfl dX5_seek_53 ?_
              refine lv_iconst (v := (0 : Int32)) hx hb dX5_seek_56 (by decide) ?_
              obtain ⟨r57, hc57, h⟩ := bd1_some h
              refine ct_VN (As := [.int (0 : Int32)]) (rest := [.ref ajo]) (st1 := [.int r57, .ref ajo]) (wf := [(xo, .inr (5, [.ref txto, .int xlet, .ref laio, .int xrec, .ref rulo, .ref so, .ref oso, .ref ajo, .ref aso])), (rulo, .inr (0, [.ref rulv])), (rulv, .inl (cA, 4, .inl rulf)), (so, .inr (3, [.ref rowo, .ref talo, .ref plao, .ref leno, .ref jo, .ref mo, .int srec, .int spol, .int slea, .int sdep, .int sinr, .int swai])), (rowo, .inr (0, [.ref rowv])), (rowv, .inl (cA, 96, .inl rowf)), (ajo, .inr (1, [.ref ato, .int aord])), (ato, .inr (0, [.ref atv])), (atv, .inl (cA, 12, .inl atf)), (aso, .inr (4, [.ref ras, .int eas, .int das, .int las]))]) (kX0_look l D cA F rulo rulv 4 rulf (0 : Int32) r57 hc57) ⟨hx, hb, hml, hown, hts⟩ ⟨va_cnB 1 hts gX5_seek_X0_look_n84 rfl rfl rfl (hG.2.m 10 rfl) (hts (.initialized RX0) (by decide +kernel)) (by decide +kernel) ⟨Nat.le_of_ble_eq_true rfl, Nat.le_of_ble_eq_true rfl⟩, hts (.instanceMethod yX0_look) (by decide +kernel), hts (.selects RX0 yX0_look yX0_look) (by decide +kernel)⟩ hG hst hP hD hS hA 0 rfl rfl rfl [1, 2] [0, 3, 4, 5, 6, 7, 8, 9] [0, 8, 9, 1, 2, 3, 4, 5, 6, 7] rfl rfl rfl rfl rfl rfl hl.1 rfl rfl (Nat.le_of_ble_eq_true rfl) dX5_seek_57 ⟨Nat.zero_le _, Nat.zero_le _⟩ (fun H locs hP hD hS => ?_)
              refine va_putN (D := D) (cl := vwCl) (ci := 1) (v := .int r57) (ty := .int) (C := RX1) (T := TX1) (N := 2) hx hb hts hinX1 tyX1 tyX1_ok nmX1 hown hG.1 hP hD hS 6 rfl rfl 1 (by decide) (hG.2.f 2 rfl) (fun _ h9 => h9) rfl (by decide +kernel) rfl rfl (Nat.le_of_ble_eq_true rfl) dX5_seek_60 (fun H locs hP hD hS => ?_)
              have hP : va_P D vwCl [(xo, .inr (5, [.ref txto, .int xlet, .ref laio, .int xrec, .ref rulo, .ref so, .ref oso, .ref ajo, .ref aso])), (rulo, .inr (0, [.ref rulv])), (rulv, .inl (cA, 4, .inl rulf)), (so, .inr (3, [.ref rowo, .ref talo, .ref plao, .ref leno, .ref jo, .ref mo, .int srec, .int spol, .int slea, .int sdep, .int sinr, .int swai])), (rowo, .inr (0, [.ref rowv])), (rowv, .inl (cA, 96, .inl rowf)), (ajo, .inr (1, [.ref ato, .int r57])), (ato, .inr (0, [.ref atv])), (atv, .inl (cA, 12, .inl atf)), (aso, .inr (4, [.ref ras, .int eas, .int das, .int las]))] H := hP
              have hD : va_D A [(xo, .inr (5, [.ref txto, .int xlet, .ref laio, .int xrec, .ref rulo, .ref so, .ref oso, .ref ajo, .ref aso])), (rulo, .inr (0, [.ref rulv])), (rulv, .inl (cA, 4, .inl rulf)), (so, .inr (3, [.ref rowo, .ref talo, .ref plao, .ref leno, .ref jo, .ref mo, .int srec, .int spol, .int slea, .int sdep, .int sinr, .int swai])), (rowo, .inr (0, [.ref rowv])), (rowv, .inl (cA, 96, .inl rowf)), (ajo, .inr (1, [.ref ato, .int r57])), (ato, .inr (0, [.ref atv])), (atv, .inl (cA, 12, .inl atf)), (aso, .inr (4, [.ref ras, .int eas, .int das, .int las]))] := hD
              refine lv_aload_n hx hb dX5_seek_63 rfl (lv_at hl 0 rfl) ?_
              refine va_get (D := D) (cl := vwCl) (ci := 5) (v := .ref ajo) (C := RX5) (T := TX5) (N := 9) hx hb hts hinX5 hown hG.1 hP 0 rfl rfl 7 (by decide) fl46 (fun _ h9 => h9) rfl dX5_seek_64 ?_
              refine va_getN (D := D) (cl := vwCl) (ci := 1) (v := .ref ato) (C := RX1) (T := TX1) (N := 2) hx hb hts hinX1 hown hG.1 hP 6 rfl rfl 0 (by decide) (hG.2.f 0 rfl) (fun _ h9 => h9) rfl dX5_seek_67 ?_
              refine lv_iconst (v := (0 : Int32)) hx hb dX5_seek_70 (by decide) ?_
              refine lv_iconst (v := (0 : Int32)) hx hb dX5_seek_71 (by decide) ?_
              obtain ⟨atf_72, hc72, h⟩ := bd1_some h
              refine ct_VN (As := [.int (0 : Int32), .int (0 : Int32)]) (rest := []) (st1 := []) (wf := [(xo, .inr (5, [.ref txto, .int xlet, .ref laio, .int xrec, .ref rulo, .ref so, .ref oso, .ref ajo, .ref aso])), (rulo, .inr (0, [.ref rulv])), (rulv, .inl (cA, 4, .inl rulf)), (so, .inr (3, [.ref rowo, .ref talo, .ref plao, .ref leno, .ref jo, .ref mo, .int srec, .int spol, .int slea, .int sdep, .int sinr, .int swai])), (rowo, .inr (0, [.ref rowv])), (rowv, .inl (cA, 96, .inl rowf)), (ajo, .inr (1, [.ref ato, .int r57])), (ato, .inr (0, [.ref atv])), (atv, .inl (cA, 12, .inl atf_72)), (aso, .inr (4, [.ref ras, .int eas, .int das, .int las]))]) (kX0_fill l D cA F ato atv 12 atf (0 : Int32) (0 : Int32) atf_72 hc72) ⟨hx, hb, hml, hown, hts⟩ ⟨va_cnB 2 hts gX5_seek_X0_fill_n57 rfl rfl rfl (hG.2.m 9 rfl) (hts (.initialized RX0) (by decide +kernel)) (by decide +kernel) ⟨Nat.le_of_ble_eq_true rfl, Nat.le_of_ble_eq_true rfl⟩, hts (.instanceMethod yX0_fill) (by decide +kernel), hts (.selects RX0 yX0_fill yX0_fill) (by decide +kernel)⟩ hG hst hP hD hS hA 0 rfl rfl rfl [7, 8] [0, 1, 2, 3, 4, 5, 6, 9] [0, 1, 2, 3, 4, 5, 6, 8, 9, 7] rfl rfl rfl rfl rfl rfl hl.1 rfl rfl (Nat.le_of_ble_eq_true rfl) dX5_seek_72 ⟨Nat.zero_le _, Nat.zero_le _⟩ (fun H locs hP hD hS => ?_)
              refine lv_aload_n hx hb dX5_seek_75 rfl (lv_at hl 0 rfl) ?_
              refine va_get (D := D) (cl := vwCl) (ci := 5) (v := .ref aso) (C := RX5) (T := TX5) (N := 9) hx hb hts hinX5 hown hG.1 hP 0 rfl rfl 8 (by decide) fl53 (fun _ h9 => h9) rfl dX5_seek_76 ?_
              refine lv_aload_n hx hb dX5_seek_79 rfl (lv_at hl 0 rfl) ?_
              refine va_get (D := D) (cl := vwCl) (ci := 5) (v := .ref so) (C := RX5) (T := TX5) (N := 9) hx hb hts hinX5 hown hG.1 hP 0 rfl rfl 5 (by decide) fl34 (fun _ h9 => h9) rfl dX5_seek_80 ?_
              refine va_getN (D := D) (cl := vwCl) (ci := 3) (v := .ref rowo) (C := RX3) (T := TX3) (N := 12) hx hb hts hinX3 hown hG.1 hP 3 rfl rfl 0 (by decide) (hG.2.f 6 rfl) (fun _ h9 => h9) rfl dX5_seek_83 ?_
              refine lv_iload_n hx hb dX5_seek_86 rfl (lv_at hl 1 rfl) ?_
              refine lv_iconst (v := (1 : Int32)) hx hb dX5_seek_87 (by decide) ?_
              refine lv_iload_n hx hb dX5_seek_88 rfl (lv_at hl 2 rfl) ?_
              refine lv_iload_n hx hb dX5_seek_89 rfl (lv_at hl 1 rfl) ?_
              refine lv_isub hx hb dX5_seek_90 ?_
              obtain ⟨eas_91, das_91, las_91, hc91, h⟩ := bd3_some h
              refine ct_VN (As := [.ref rowo, .int a1, .int (1 : Int32), .int (a2 - a1)]) (rest := []) (st1 := []) (wf := [(xo, .inr (5, [.ref txto, .int xlet, .ref laio, .int xrec, .ref rulo, .ref so, .ref oso, .ref ajo, .ref aso])), (rulo, .inr (0, [.ref rulv])), (rulv, .inl (cA, 4, .inl rulf)), (so, .inr (3, [.ref rowo, .ref talo, .ref plao, .ref leno, .ref jo, .ref mo, .int srec, .int spol, .int slea, .int sdep, .int sinr, .int swai])), (rowo, .inr (0, [.ref rowv])), (rowv, .inl (cA, 96, .inl rowf)), (ajo, .inr (1, [.ref ato, .int r57])), (ato, .inr (0, [.ref atv])), (atv, .inl (cA, 12, .inl atf_72)), (aso, .inr (4, [.ref rowo, .int eas_91, .int das_91, .int las_91]))]) (kX4_aim l D cA F aso rowo ras  eas das las a1 (1 : Int32) (a2 - a1) eas_91 das_91 las_91 hc91) ⟨hx, hb, hml, hown, hts⟩ ⟨va_cnB 4 hts gX5_seek_X4_aim_n156 rfl rfl rfl (hG.2.m 37 rfl) (hts (.initialized RX4) (by decide +kernel)) (by decide +kernel) ⟨Nat.le_of_ble_eq_true rfl, Nat.le_of_ble_eq_true rfl⟩, hts (.instanceMethod yX4_aim) (by decide +kernel), hts (.selects RX4 yX4_aim yX4_aim) (by decide +kernel)⟩ hG hst hP hD hS hA 4 rfl rfl rfl [9] [0, 1, 2, 3, 4, 5, 6, 7, 8] [0, 1, 2, 3, 4, 5, 6, 7, 8, 9] rfl rfl rfl rfl rfl rfl hl.1 rfl rfl (Nat.le_of_ble_eq_true rfl) dX5_seek_91 ⟨Nat.zero_le _, Nat.zero_le _⟩ (fun H locs hP hD hS => ?_)
              refine lv_aload_n hx hb dX5_seek_94 rfl (lv_at hl 0 rfl) ?_
              refine va_get (D := D) (cl := vwCl) (ci := 5) (v := .ref ajo) (C := RX5) (T := TX5) (N := 9) hx hb hts hinX5 hown hG.1 hP 0 rfl rfl 7 (by decide) fl46 (fun _ h9 => h9) rfl dX5_seek_95 ?_
              refine lv_aload_n hx hb dX5_seek_98 rfl (lv_at hl 0 rfl) ?_
              refine va_get (D := D) (cl := vwCl) (ci := 5) (v := .ref aso) (C := RX5) (T := TX5) (N := 9) hx hb hts hinX5 hown hG.1 hP 0 rfl rfl 8 (by decide) fl53 (fun _ h9 => h9) rfl dX5_seek_99 ?_
              refine lv_iload_n hx hb dX5_seek_102 rfl (lv_at hl 3 rfl) ?_
              refine lv_iconst (v := (0 : Int32)) hx hb dX5_seek_103 (by decide) ?_
              obtain ⟨r104, hc104, h⟩ := bd1_some h
              refine ct_S (As := [.int a3, .int (0 : Int32)]) (rest := [.ref aso, .ref ajo]) (st1 := [.int r104, .ref aso, .ref ajo]) (wf := [(xo, .inr (5, [.ref txto, .int xlet, .ref laio, .int xrec, .ref rulo, .ref so, .ref oso, .ref ajo, .ref aso])), (rulo, .inr (0, [.ref rulv])), (rulv, .inl (cA, 4, .inl rulf)), (so, .inr (3, [.ref rowo, .ref talo, .ref plao, .ref leno, .ref jo, .ref mo, .int srec, .int spol, .int slea, .int sdep, .int sinr, .int swai])), (rowo, .inr (0, [.ref rowv])), (rowv, .inl (cA, 96, .inl rowf)), (ajo, .inr (1, [.ref ato, .int r57])), (ato, .inr (0, [.ref atv])), (atv, .inl (cA, 12, .inl atf_72)), (aso, .inr (4, [.ref rowo, .int eas_91, .int das_91, .int las_91]))]) (kX5_recordOf l D cA F    a3 (0 : Int32) r104 hc104) ⟨hx, hb, hml, hown, hts⟩ (va_cwS 2 hts gX5_seek_X5_recordOf rfl rfl rfl (by decide +kernel) ⟨Nat.le_of_ble_eq_true rfl, Nat.le_of_ble_eq_true rfl⟩) hG hst hP hD hS hA [] [0, 1, 2, 3, 4, 5, 6, 7, 8, 9] [0, 1, 2, 3, 4, 5, 6, 7, 8, 9] rfl rfl rfl rfl rfl rfl hl.1 rfl rfl (Nat.le_of_ble_eq_true rfl) dX5_seek_104 ⟨Nat.zero_le _, Nat.zero_le _⟩ (fun H locs hP hD hS => ?_)
              refine lv_iconst (v := (0 : Int32)) hx hb dX5_seek_107 (by decide) ?_
              refine lv_iconst (v := (1 : Int32)) hx hb dX5_seek_108 (by decide) ?_
              obtain ⟨r109, atf_109, hc109, h⟩ := bd2_some h
              refine ct_VN (As := [.ref aso, .int r104, .int (0 : Int32), .int (1 : Int32)]) (rest := []) (st1 := [.int r109]) (wf := [(xo, .inr (5, [.ref txto, .int xlet, .ref laio, .int xrec, .ref rulo, .ref so, .ref oso, .ref ajo, .ref aso])), (rulo, .inr (0, [.ref rulv])), (rulv, .inl (cA, 4, .inl rulf)), (so, .inr (3, [.ref rowo, .ref talo, .ref plao, .ref leno, .ref jo, .ref mo, .int srec, .int spol, .int slea, .int sdep, .int sinr, .int swai])), (rowo, .inr (0, [.ref rowv])), (rowv, .inl (cA, 96, .inl rowf)), (ajo, .inr (1, [.ref ato, .int r57])), (ato, .inr (0, [.ref atv])), (atv, .inl (cA, 12, .inl atf_109)), (aso, .inr (4, [.ref rowo, .int eas_91, .int das_91, .int las_91]))]) (kX1_passing l D cA F ajo aso ato atv rowo rowv 96 r57 atf_72 eas_91 das_91 las_91 rowf r104 (0 : Int32) (1 : Int32) r109 atf_109 hc109) ⟨hx, hb, hml, hown, hts⟩ ⟨va_cnB 4 hts gX5_seek_X1_passing_n160 rfl rfl rfl (hG.2.m 38 rfl) (hts (.initialized RX1) (by decide +kernel)) (by decide +kernel) ⟨Nat.le_of_ble_eq_true rfl, Nat.le_of_ble_eq_true rfl⟩, hts (.instanceMethod yX1_passing) (by decide +kernel), hts (.selects RX1 yX1_passing yX1_passing) (by decide +kernel)⟩ hG hst hP hD hS hA 1 rfl rfl rfl [6, 7, 8, 9, 4, 5] [0, 1, 2, 3] [0, 1, 2, 3, 8, 9, 4, 5, 6, 7] rfl rfl rfl rfl rfl rfl hl.1 rfl rfl (Nat.le_of_ble_eq_true rfl) dX5_seek_109 ⟨Nat.zero_le _, Nat.zero_le _⟩ (fun H locs hP hD hS => ?_)
              refine lv_istore (lv' := [(5, .int r109), (0, .ref xo), (1, .int a1), (2, .int a2), (3, .int a3), (4, .int a4)]) hx hb dX5_seek_112 hl (by decide) rfl (fun ls hl => ?_)
              refine lv_iload hx hb dX5_seek_114 (lv_at hl 5 rfl) ?_
              refine lv_if_ne (tgt := 124) hx hb dX5_seek_116 (by decide) (fun c116 => ?_) (fun c116 => ?_)
              · have h := i_f c116 h
                refine lv_aload_n hx hb dX5_seek_124 rfl (lv_at hl 1 rfl) ?_
                refine va_get (D := D) (cl := vwCl) (ci := 5) (v := .ref ajo) (C := RX5) (T := TX5) (N := 9) hx hb hts hinX5 hown hG.1 hP 0 rfl rfl 7 (by decide) fl46 (fun _ h9 => h9) rfl dX5_seek_125 ?_
                refine va_getN (D := D) (cl := vwCl) (ci := 1) (v := .ref ato) (C := RX1) (T := TX1) (N := 2) hx hb hts hinX1 hown hG.1 hP 6 rfl rfl 0 (by decide) (hG.2.f 0 rfl) (fun _ h9 => h9) rfl dX5_seek_128 ?_
                refine lv_iconst (v := (0 : Int32)) hx hb dX5_seek_131 (by decide) ?_
                obtain ⟨r132, hc132, h⟩ := bd1_some h
                refine ct_VN (As := [.int (0 : Int32)]) (rest := []) (st1 := [.int r132]) (wf := [(xo, .inr (5, [.ref txto, .int xlet, .ref laio, .int xrec, .ref rulo, .ref so, .ref oso, .ref ajo, .ref aso])), (rulo, .inr (0, [.ref rulv])), (rulv, .inl (cA, 4, .inl rulf)), (so, .inr (3, [.ref rowo, .ref talo, .ref plao, .ref leno, .ref jo, .ref mo, .int srec, .int spol, .int slea, .int sdep, .int sinr, .int swai])), (rowo, .inr (0, [.ref rowv])), (rowv, .inl (cA, 96, .inl rowf)), (ajo, .inr (1, [.ref ato, .int r57])), (ato, .inr (0, [.ref atv])), (atv, .inl (cA, 12, .inl atf_109)), (aso, .inr (4, [.ref rowo, .int eas_91, .int das_91, .int las_91]))]) (kX0_look l D cA F ato atv 12 atf_109 (0 : Int32) r132 hc132) ⟨hx, hb, hml, hown, hts⟩ ⟨va_cnB 1 hts gX5_seek_X0_look_n84 rfl rfl rfl (hG.2.m 10 rfl) (hts (.initialized RX0) (by decide +kernel)) (by decide +kernel) ⟨Nat.le_of_ble_eq_true rfl, Nat.le_of_ble_eq_true rfl⟩, hts (.instanceMethod yX0_look) (by decide +kernel), hts (.selects RX0 yX0_look yX0_look) (by decide +kernel)⟩ hG hst hP hD hS hA 0 rfl rfl rfl [7, 8] [0, 1, 2, 3, 4, 5, 6, 9] [0, 1, 2, 3, 4, 5, 6, 8, 9, 7] rfl rfl rfl rfl rfl rfl hl.1 rfl rfl (Nat.le_of_ble_eq_true rfl) dX5_seek_132 ⟨Nat.zero_le _, Nat.zero_le _⟩ (fun H locs hP hD hS => ?_)
                cases h
                exact rt_i hx hb hr hlocks hP hD hS dX5_seek_135
              · have h := i_t c116 h
                refine lv_iload hx hb dX5_seek_119 (lv_at hl 0 rfl) ?_
                refine lv_goto (tgt := 135) hx hb dX5_seek_121 (by decide) ?_
                cases h
                exact rt_i hx hb hr hlocks hP hD hS dX5_seek_135
            · have h := i_f c42 h
              refine lv_bipush (v := (-2 : Int32)) hx hb dX5_seek_45 (by decide) ?_
              cases h
              exact rt_i hx hb hr hlocks hP hD hS dX5_seek_47
          · have h := i_f c31 h
            refine lv_iconst (v := (-1 : Int32)) hx hb dX5_seek_34 (by decide) ?_
            cases h
            exact rt_i hx hb hr hlocks hP hD hS dX5_seek_35
set_option maxHeartbeats 4000000 in
set_option maxRecDepth 100000 in
theorem kX5_less (l : Launch) (D : va_G) (cA : ClassId) (F : Nat) (xo : Nat) (txto : Nat) (laio : Nat) (rulo : Nat) (so : Nat) (oso : Nat) (ajo : Nat) (aso : Nat) (rulv : Nat) (xlet : Int32) (xrec : Int32) (rulf : (Nat → Int32)) (a1 : Int32) (a2 : Int32) (r0 : Int32) (h : mX5_less F rulf a1 a2 = some r0) : Ct l yX5_less wsX5_less ({ frames := 2, cells := 0, slots := 0, locals := 42 }) D cA [.ref xo, .int a1, .int a2] [(xo, .inr (5, [.ref txto, .int xlet, .ref laio, .int xrec, .ref rulo, .ref so, .ref oso, .ref ajo, .ref aso])), (rulo, .inr (0, [.ref rulv])), (rulv, .inl (cA, 4, .inl rulf))] [(xo, .inr (5, [.ref txto, .int xlet, .ref laio, .int xrec, .ref rulo, .ref so, .ref oso, .ref ajo, .ref aso])), (rulo, .inr (0, [.ref rulv])), (rulv, .inl (cA, 4, .inl rulf))] (some (.int r0)) := by
  refine Ct.of (cc := cX5_less) (maxL := 4) (ret := (some .int)) (by decide) rfl (Nat.le_of_ble_eq_true rfl) ?_
  intro p e s m below meth c A ls hcx hG hst hA hP hD hl
  obtain ⟨hx, hb, hml, hown, hts, hr, hlocks⟩ := id hcx
  have hown : s.vm.findClass RX5 = some m.cls := hown
  have hS : va_S A s.heap s.heap [] := va_S.rf
  have hl : lv_has ls 4 [(0, .ref xo), (1, .int a1), (2, .int a2)] := hl
  have hinX5 : ∀ w ∈ u_ws RX5 TX5 9, w ∈ wsX5_less := by decide +kernel
  have fl28 := hts (.fieldLink RX5 28 "RunSorter" "rules" "LRunSorter$Cells;") (by decide +kernel)
  unfold mX5_less at h
  refine lv_iload_n hx hb dX5_less_0 rfl (lv_at hl 1 rfl) ?_
  obtain ⟨r1, hc1, h⟩ := bd1_some h
  refine ct_S (As := [.int a1]) (rest := []) (st1 := [.int r1]) (wf := [(xo, .inr (5, [.ref txto, .int xlet, .ref laio, .int xrec, .ref rulo, .ref so, .ref oso, .ref ajo, .ref aso])), (rulo, .inr (0, [.ref rulv])), (rulv, .inl (cA, 4, .inl rulf))]) (kX5_isNoKey l D cA F    a1 r1 hc1) ⟨hx, hb, hml, hown, hts⟩ (va_cwS 1 hts gX5_less_X5_isNoKey rfl rfl rfl (by decide +kernel) ⟨Nat.le_of_ble_eq_true rfl, Nat.le_of_ble_eq_true rfl⟩) hG hst hP hD hS hA [] [0, 1, 2] [0, 1, 2] rfl rfl rfl rfl rfl rfl hl.1 rfl rfl (Nat.le_of_ble_eq_true rfl) dX5_less_1 ⟨Nat.zero_le _, Nat.zero_le _⟩ (fun H locs hP hD hS => ?_)
  refine lv_if_ne (tgt := 14) hx hb dX5_less_4 (by decide) (fun c4 => ?_) (fun c4 => ?_)
  · have h := i_f c4 h
    refine lv_iconst (v := (-1 : Int32)) hx hb dX5_less_14 (by decide) ?_
    cases h
    exact rt_i hx hb hr hlocks hP hD hS dX5_less_15
  · have h := i_t c4 h
    refine lv_iload_n hx hb dX5_less_7 rfl (lv_at hl 2 rfl) ?_
    obtain ⟨r8, hc8, h⟩ := bd1_some h
    refine ct_S (As := [.int a2]) (rest := []) (st1 := [.int r8]) (wf := [(xo, .inr (5, [.ref txto, .int xlet, .ref laio, .int xrec, .ref rulo, .ref so, .ref oso, .ref ajo, .ref aso])), (rulo, .inr (0, [.ref rulv])), (rulv, .inl (cA, 4, .inl rulf))]) (kX5_isNoKey l D cA F    a2 r8 hc8) ⟨hx, hb, hml, hown, hts⟩ (va_cwS 1 hts gX5_less_X5_isNoKey rfl rfl rfl (by decide +kernel) ⟨Nat.le_of_ble_eq_true rfl, Nat.le_of_ble_eq_true rfl⟩) hG hst hP hD hS hA [] [0, 1, 2] [0, 1, 2] rfl rfl rfl rfl rfl rfl hl.1 rfl rfl (Nat.le_of_ble_eq_true rfl) dX5_less_8 ⟨Nat.zero_le _, Nat.zero_le _⟩ (fun H locs hP hD hS => ?_)
    refine lv_if_eq (tgt := 16) hx hb dX5_less_11 (by decide) (fun c11 => ?_) (fun c11 => ?_)
    · have h := i_t c11 h
      refine lv_aload_n hx hb dX5_less_16 rfl (lv_at hl 0 rfl) ?_
      refine va_get (D := D) (cl := vwCl) (ci := 5) (v := .ref rulo) (C := RX5) (T := TX5) (N := 9) hx hb hts hinX5 hown hG.1 hP 0 rfl rfl 4 (by decide) fl28 (fun _ h9 => h9) rfl dX5_less_17 ?_
      refine lv_iconst (v := (0 : Int32)) hx hb dX5_less_20 (by decide) ?_
      obtain ⟨r21, hc21, h⟩ := bd1_some h
      refine ct_VN (As := [.int (0 : Int32)]) (rest := []) (st1 := [.int r21]) (wf := [(xo, .inr (5, [.ref txto, .int xlet, .ref laio, .int xrec, .ref rulo, .ref so, .ref oso, .ref ajo, .ref aso])), (rulo, .inr (0, [.ref rulv])), (rulv, .inl (cA, 4, .inl rulf))]) (kX0_look l D cA F rulo rulv 4 rulf (0 : Int32) r21 hc21) ⟨hx, hb, hml, hown, hts⟩ ⟨va_cnB 1 hts gX5_less_X0_look_n84 rfl rfl rfl (hG.2.m 10 rfl) (hts (.initialized RX0) (by decide +kernel)) (by decide +kernel) ⟨Nat.le_of_ble_eq_true rfl, Nat.le_of_ble_eq_true rfl⟩, hts (.instanceMethod yX0_look) (by decide +kernel), hts (.selects RX0 yX0_look yX0_look) (by decide +kernel)⟩ hG hst hP hD hS hA 0 rfl rfl rfl [1, 2] [0] [0, 1, 2] rfl rfl rfl rfl rfl rfl hl.1 rfl rfl (Nat.le_of_ble_eq_true rfl) dX5_less_21 ⟨Nat.zero_le _, Nat.zero_le _⟩ (fun H locs hP hD hS => ?_)
      refine lv_istore_n (lv' := [(3, .int r21), (0, .ref xo), (1, .int a1), (2, .int a2)]) hx hb dX5_less_24 rfl hl (by decide) rfl (fun ls hl => ?_)
      refine lv_iload_n hx hb dX5_less_25 rfl (lv_at hl 0 rfl) ?_
      refine lv_iload_n hx hb dX5_less_26 rfl (lv_at hl 2 rfl) ?_
      obtain ⟨r27, hc27, h⟩ := bd1_some h
      refine ct_S (As := [.int r21, .int a1]) (rest := []) (st1 := [.int r27]) (wf := [(xo, .inr (5, [.ref txto, .int xlet, .ref laio, .int xrec, .ref rulo, .ref so, .ref oso, .ref ajo, .ref aso])), (rulo, .inr (0, [.ref rulv])), (rulv, .inl (cA, 4, .inl rulf))]) (kX5_rankOf l D cA F    r21 a1 r27 hc27) ⟨hx, hb, hml, hown, hts⟩ (va_cwS 2 hts gX5_less_X5_rankOf rfl rfl rfl (by decide +kernel) ⟨Nat.le_of_ble_eq_true rfl, Nat.le_of_ble_eq_true rfl⟩) hG hst hP hD hS hA [] [0, 1, 2] [0, 1, 2] rfl rfl rfl rfl rfl rfl hl.1 rfl rfl (Nat.le_of_ble_eq_true rfl) dX5_less_27 ⟨Nat.zero_le _, Nat.zero_le _⟩ (fun H locs hP hD hS => ?_)
      refine lv_iload_n hx hb dX5_less_30 rfl (lv_at hl 0 rfl) ?_
      refine lv_iload_n hx hb dX5_less_31 rfl (lv_at hl 3 rfl) ?_
      obtain ⟨r32, hc32, h⟩ := bd1_some h
      refine ct_S (As := [.int r21, .int a2]) (rest := [.int r27]) (st1 := [.int r32, .int r27]) (wf := [(xo, .inr (5, [.ref txto, .int xlet, .ref laio, .int xrec, .ref rulo, .ref so, .ref oso, .ref ajo, .ref aso])), (rulo, .inr (0, [.ref rulv])), (rulv, .inl (cA, 4, .inl rulf))]) (kX5_rankOf l D cA F    r21 a2 r32 hc32) ⟨hx, hb, hml, hown, hts⟩ (va_cwS 2 hts gX5_less_X5_rankOf rfl rfl rfl (by decide +kernel) ⟨Nat.le_of_ble_eq_true rfl, Nat.le_of_ble_eq_true rfl⟩) hG hst hP hD hS hA [] [0, 1, 2] [0, 1, 2] rfl rfl rfl rfl rfl rfl hl.1 rfl rfl (Nat.le_of_ble_eq_true rfl) dX5_less_32 ⟨Nat.zero_le _, Nat.zero_le _⟩ (fun H locs hP hD hS => ?_)
      refine lv_icmp_ge (tgt := 42) hx hb dX5_less_35 (by decide) (fun c35 => ?_) (fun c35 => ?_)
      · have h := i_t c35 h
        refine lv_iconst (v := (0 : Int32)) hx hb dX5_less_42 (by decide) ?_
        cases h
        exact rt_i hx hb hr hlocks hP hD hS dX5_less_43
      · have h := i_f c35 h
        refine lv_iconst (v := (1 : Int32)) hx hb dX5_less_38 (by decide) ?_
        refine lv_goto (tgt := 43) hx hb dX5_less_39 (by decide) ?_
        cases h
        exact rt_i hx hb hr hlocks hP hD hS dX5_less_43
    · have h := i_f c11 h
      refine lv_iconst (v := (-1 : Int32)) hx hb dX5_less_14 (by decide) ?_
      cases h
      exact rt_i hx hb hr hlocks hP hD hS dX5_less_15
set_option maxHeartbeats 4000000 in
set_option maxRecDepth 100000 in
theorem kX5_count (l : Launch) (D : va_G) (cA : ClassId) (F : Nat) (xo : Nat) (txto : Nat) (laio : Nat) (rulo : Nat) (so : Nat) (oso : Nat) (ajo : Nat) (aso : Nat) (rulv : Nat) (rowo : Nat) (talo : Nat) (plao : Nat) (leno : Nat) (jo : Nat) (mo : Nat) (plav : Nat) (lenv : Nat) (xlet : Int32) (xrec : Int32) (rulf : (Nat → Int32)) (srec : Int32) (spol : Int32) (slea : Int32) (sdep : Int32) (sinr : Int32) (swai : Int32) (plaf : (Nat → Int32)) (lenf : (Nat → Int32)) (a1 : Int32) (r0 : Int32) (h : mX5_count F xlet xrec rulf srec spol sdep sinr swai plaf lenf a1 = some r0) : Ct l yX5_count wsX5_count ({ frames := 6, cells := 0, slots := 0, locals := 124 }) D cA [.ref xo, .int a1] [(xo, .inr (5, [.ref txto, .int xlet, .ref laio, .int xrec, .ref rulo, .ref so, .ref oso, .ref ajo, .ref aso])), (rulo, .inr (0, [.ref rulv])), (rulv, .inl (cA, 4, .inl rulf)), (so, .inr (3, [.ref rowo, .ref talo, .ref plao, .ref leno, .ref jo, .ref mo, .int srec, .int spol, .int slea, .int sdep, .int sinr, .int swai])), (plao, .inr (0, [.ref plav])), (plav, .inl (cA, 96, .inl plaf)), (leno, .inr (0, [.ref lenv])), (lenv, .inl (cA, 96, .inl lenf))] [(xo, .inr (5, [.ref txto, .int xlet, .ref laio, .int xrec, .ref rulo, .ref so, .ref oso, .ref ajo, .ref aso])), (rulo, .inr (0, [.ref rulv])), (rulv, .inl (cA, 4, .inl rulf)), (so, .inr (3, [.ref rowo, .ref talo, .ref plao, .ref leno, .ref jo, .ref mo, .int srec, .int spol, .int slea, .int sdep, .int sinr, .int swai])), (plao, .inr (0, [.ref plav])), (plav, .inl (cA, 96, .inl plaf)), (leno, .inr (0, [.ref lenv])), (lenv, .inl (cA, 96, .inl lenf))] (some (.int r0)) := by
  refine Ct.of (cc := cX5_count) (maxL := 2) (ret := (some .int)) (by decide) rfl (Nat.le_of_ble_eq_true rfl) ?_
  intro p e s m below meth c A ls hcx hG hst hA hP hD hl
  obtain ⟨hx, hb, hml, hown, hts, hr, hlocks⟩ := id hcx
  have hown : s.vm.findClass RX5 = some m.cls := hown
  have hS : va_S A s.heap s.heap [] := va_S.rf
  have hl : lv_has ls 2 [(0, .ref xo), (1, .int a1)] := hl
  have hinX3 : ∀ w ∈ u_ws RX3 TX3 12, w ∈ wsX5_count := by decide +kernel
  have hinX5 : ∀ w ∈ u_ws RX5 TX5 9, w ∈ wsX5_count := by decide +kernel
  have fl25 := hts (.fieldLink RX5 25 "RunSorter" "records" "I") (by decide +kernel)
  have fl28 := hts (.fieldLink RX5 28 "RunSorter" "rules" "LRunSorter$Cells;") (by decide +kernel)
  have fl18 := hts (.fieldLink RX5 18 "RunSorter" "letters" "I") (by decide +kernel)
  have fl34 := hts (.fieldLink RX5 34 "RunSorter" "sorter" "LRunSorter$Sorter;") (by decide +kernel)
  unfold mX5_count at h
  refine lv_iload_n hx hb dX5_count_0 rfl (lv_at hl 1 rfl) ?_
  by_cases c1_0 : a1 = (0 : Int32)
  · have h := i_t c1_0 h
    refine lv_tableIn (tgt := 48) hx hb dX5_count_1 (by rw [c1_0]; decide) (by rw [c1_0]; decide) (by rw [c1_0]; rfl) (by decide) ?_
    refine lv_aload_n hx hb dX5_count_48 rfl (lv_at hl 0 rfl) ?_
    refine va_get (D := D) (cl := vwCl) (ci := 5) (v := .int xrec) (C := RX5) (T := TX5) (N := 9) hx hb hts hinX5 hown hG.1 hP 0 rfl rfl 3 (by decide) fl25 (fun _ h9 => h9) rfl dX5_count_49 ?_
    cases h
    exact rt_i hx hb hr hlocks hP hD hS dX5_count_52
  have h := i_f c1_0 h
  by_cases c1_1 : a1 = (1 : Int32)
  · have h := i_t c1_1 h
    refine lv_tableIn (tgt := 53) hx hb dX5_count_1 (by rw [c1_1]; decide) (by rw [c1_1]; decide) (by rw [c1_1]; rfl) (by decide) ?_
    refine lv_aload_n hx hb dX5_count_53 rfl (lv_at hl 0 rfl) ?_
    refine va_get (D := D) (cl := vwCl) (ci := 5) (v := .ref rulo) (C := RX5) (T := TX5) (N := 9) hx hb hts hinX5 hown hG.1 hP 0 rfl rfl 4 (by decide) fl28 (fun _ h9 => h9) rfl dX5_count_54 ?_
    refine lv_iconst (v := (0 : Int32)) hx hb dX5_count_57 (by decide) ?_
    obtain ⟨r58, hc58, h⟩ := bd1_some h
    refine ct_VN (As := [.int (0 : Int32)]) (rest := []) (st1 := [.int r58]) (wf := [(xo, .inr (5, [.ref txto, .int xlet, .ref laio, .int xrec, .ref rulo, .ref so, .ref oso, .ref ajo, .ref aso])), (rulo, .inr (0, [.ref rulv])), (rulv, .inl (cA, 4, .inl rulf)), (so, .inr (3, [.ref rowo, .ref talo, .ref plao, .ref leno, .ref jo, .ref mo, .int srec, .int spol, .int slea, .int sdep, .int sinr, .int swai])), (plao, .inr (0, [.ref plav])), (plav, .inl (cA, 96, .inl plaf)), (leno, .inr (0, [.ref lenv])), (lenv, .inl (cA, 96, .inl lenf))]) (kX0_look l D cA F rulo rulv 4 rulf (0 : Int32) r58 hc58) ⟨hx, hb, hml, hown, hts⟩ ⟨va_cnB 1 hts gX5_count_X0_look_n84 rfl rfl rfl (hG.2.m 10 rfl) (hts (.initialized RX0) (by decide +kernel)) (by decide +kernel) ⟨Nat.le_of_ble_eq_true rfl, Nat.le_of_ble_eq_true rfl⟩, hts (.instanceMethod yX0_look) (by decide +kernel), hts (.selects RX0 yX0_look yX0_look) (by decide +kernel)⟩ hG hst hP hD hS hA 0 rfl rfl rfl [1, 2] [0, 3, 4, 5, 6, 7] [0, 6, 7, 1, 2, 3, 4, 5] rfl rfl rfl rfl rfl rfl hl.1 rfl rfl (Nat.le_of_ble_eq_true rfl) dX5_count_58 ⟨Nat.zero_le _, Nat.zero_le _⟩ (fun H locs hP hD hS => ?_)
    cases h
    exact rt_i hx hb hr hlocks hP hD hS dX5_count_61
  have h := i_f c1_1 h
  by_cases c1_2 : a1 = (2 : Int32)
  · have h := i_t c1_2 h
    refine lv_tableIn (tgt := 62) hx hb dX5_count_1 (by rw [c1_2]; decide) (by rw [c1_2]; decide) (by rw [c1_2]; rfl) (by decide) ?_
    refine lv_aload_n hx hb dX5_count_62 rfl (lv_at hl 0 rfl) ?_
    refine va_get (D := D) (cl := vwCl) (ci := 5) (v := .ref rulo) (C := RX5) (T := TX5) (N := 9) hx hb hts hinX5 hown hG.1 hP 0 rfl rfl 4 (by decide) fl28 (fun _ h9 => h9) rfl dX5_count_63 ?_
    refine lv_iconst (v := (1 : Int32)) hx hb dX5_count_66 (by decide) ?_
    obtain ⟨r67, hc67, h⟩ := bd1_some h
    refine ct_VN (As := [.int (1 : Int32)]) (rest := []) (st1 := [.int r67]) (wf := [(xo, .inr (5, [.ref txto, .int xlet, .ref laio, .int xrec, .ref rulo, .ref so, .ref oso, .ref ajo, .ref aso])), (rulo, .inr (0, [.ref rulv])), (rulv, .inl (cA, 4, .inl rulf)), (so, .inr (3, [.ref rowo, .ref talo, .ref plao, .ref leno, .ref jo, .ref mo, .int srec, .int spol, .int slea, .int sdep, .int sinr, .int swai])), (plao, .inr (0, [.ref plav])), (plav, .inl (cA, 96, .inl plaf)), (leno, .inr (0, [.ref lenv])), (lenv, .inl (cA, 96, .inl lenf))]) (kX0_look l D cA F rulo rulv 4 rulf (1 : Int32) r67 hc67) ⟨hx, hb, hml, hown, hts⟩ ⟨va_cnB 1 hts gX5_count_X0_look_n84 rfl rfl rfl (hG.2.m 10 rfl) (hts (.initialized RX0) (by decide +kernel)) (by decide +kernel) ⟨Nat.le_of_ble_eq_true rfl, Nat.le_of_ble_eq_true rfl⟩, hts (.instanceMethod yX0_look) (by decide +kernel), hts (.selects RX0 yX0_look yX0_look) (by decide +kernel)⟩ hG hst hP hD hS hA 0 rfl rfl rfl [1, 2] [0, 3, 4, 5, 6, 7] [0, 6, 7, 1, 2, 3, 4, 5] rfl rfl rfl rfl rfl rfl hl.1 rfl rfl (Nat.le_of_ble_eq_true rfl) dX5_count_67 ⟨Nat.zero_le _, Nat.zero_le _⟩ (fun H locs hP hD hS => ?_)
    cases h
    exact rt_i hx hb hr hlocks hP hD hS dX5_count_70
  have h := i_f c1_2 h
  by_cases c1_3 : a1 = (3 : Int32)
  · have h := i_t c1_3 h
    refine lv_tableIn (tgt := 71) hx hb dX5_count_1 (by rw [c1_3]; decide) (by rw [c1_3]; decide) (by rw [c1_3]; rfl) (by decide) ?_
    refine lv_aload_n hx hb dX5_count_71 rfl (lv_at hl 0 rfl) ?_
    refine va_get (D := D) (cl := vwCl) (ci := 5) (v := .ref rulo) (C := RX5) (T := TX5) (N := 9) hx hb hts hinX5 hown hG.1 hP 0 rfl rfl 4 (by decide) fl28 (fun _ h9 => h9) rfl dX5_count_72 ?_
    refine lv_iconst (v := (2 : Int32)) hx hb dX5_count_75 (by decide) ?_
    obtain ⟨r76, hc76, h⟩ := bd1_some h
    refine ct_VN (As := [.int (2 : Int32)]) (rest := []) (st1 := [.int r76]) (wf := [(xo, .inr (5, [.ref txto, .int xlet, .ref laio, .int xrec, .ref rulo, .ref so, .ref oso, .ref ajo, .ref aso])), (rulo, .inr (0, [.ref rulv])), (rulv, .inl (cA, 4, .inl rulf)), (so, .inr (3, [.ref rowo, .ref talo, .ref plao, .ref leno, .ref jo, .ref mo, .int srec, .int spol, .int slea, .int sdep, .int sinr, .int swai])), (plao, .inr (0, [.ref plav])), (plav, .inl (cA, 96, .inl plaf)), (leno, .inr (0, [.ref lenv])), (lenv, .inl (cA, 96, .inl lenf))]) (kX0_look l D cA F rulo rulv 4 rulf (2 : Int32) r76 hc76) ⟨hx, hb, hml, hown, hts⟩ ⟨va_cnB 1 hts gX5_count_X0_look_n84 rfl rfl rfl (hG.2.m 10 rfl) (hts (.initialized RX0) (by decide +kernel)) (by decide +kernel) ⟨Nat.le_of_ble_eq_true rfl, Nat.le_of_ble_eq_true rfl⟩, hts (.instanceMethod yX0_look) (by decide +kernel), hts (.selects RX0 yX0_look yX0_look) (by decide +kernel)⟩ hG hst hP hD hS hA 0 rfl rfl rfl [1, 2] [0, 3, 4, 5, 6, 7] [0, 6, 7, 1, 2, 3, 4, 5] rfl rfl rfl rfl rfl rfl hl.1 rfl rfl (Nat.le_of_ble_eq_true rfl) dX5_count_76 ⟨Nat.zero_le _, Nat.zero_le _⟩ (fun H locs hP hD hS => ?_)
    cases h
    exact rt_i hx hb hr hlocks hP hD hS dX5_count_79
  have h := i_f c1_3 h
  by_cases c1_4 : a1 = (4 : Int32)
  · have h := i_t c1_4 h
    refine lv_tableIn (tgt := 80) hx hb dX5_count_1 (by rw [c1_4]; decide) (by rw [c1_4]; decide) (by rw [c1_4]; rfl) (by decide) ?_
    refine lv_aload_n hx hb dX5_count_80 rfl (lv_at hl 0 rfl) ?_
    refine va_get (D := D) (cl := vwCl) (ci := 5) (v := .ref rulo) (C := RX5) (T := TX5) (N := 9) hx hb hts hinX5 hown hG.1 hP 0 rfl rfl 4 (by decide) fl28 (fun _ h9 => h9) rfl dX5_count_81 ?_
    refine lv_iconst (v := (3 : Int32)) hx hb dX5_count_84 (by decide) ?_
    obtain ⟨r85, hc85, h⟩ := bd1_some h
    refine ct_VN (As := [.int (3 : Int32)]) (rest := []) (st1 := [.int r85]) (wf := [(xo, .inr (5, [.ref txto, .int xlet, .ref laio, .int xrec, .ref rulo, .ref so, .ref oso, .ref ajo, .ref aso])), (rulo, .inr (0, [.ref rulv])), (rulv, .inl (cA, 4, .inl rulf)), (so, .inr (3, [.ref rowo, .ref talo, .ref plao, .ref leno, .ref jo, .ref mo, .int srec, .int spol, .int slea, .int sdep, .int sinr, .int swai])), (plao, .inr (0, [.ref plav])), (plav, .inl (cA, 96, .inl plaf)), (leno, .inr (0, [.ref lenv])), (lenv, .inl (cA, 96, .inl lenf))]) (kX0_look l D cA F rulo rulv 4 rulf (3 : Int32) r85 hc85) ⟨hx, hb, hml, hown, hts⟩ ⟨va_cnB 1 hts gX5_count_X0_look_n84 rfl rfl rfl (hG.2.m 10 rfl) (hts (.initialized RX0) (by decide +kernel)) (by decide +kernel) ⟨Nat.le_of_ble_eq_true rfl, Nat.le_of_ble_eq_true rfl⟩, hts (.instanceMethod yX0_look) (by decide +kernel), hts (.selects RX0 yX0_look yX0_look) (by decide +kernel)⟩ hG hst hP hD hS hA 0 rfl rfl rfl [1, 2] [0, 3, 4, 5, 6, 7] [0, 6, 7, 1, 2, 3, 4, 5] rfl rfl rfl rfl rfl rfl hl.1 rfl rfl (Nat.le_of_ble_eq_true rfl) dX5_count_85 ⟨Nat.zero_le _, Nat.zero_le _⟩ (fun H locs hP hD hS => ?_)
    cases h
    exact rt_i hx hb hr hlocks hP hD hS dX5_count_88
  have h := i_f c1_4 h
  by_cases c1_5 : a1 = (5 : Int32)
  · have h := i_t c1_5 h
    refine lv_tableIn (tgt := 89) hx hb dX5_count_1 (by rw [c1_5]; decide) (by rw [c1_5]; decide) (by rw [c1_5]; rfl) (by decide) ?_
    refine lv_aload_n hx hb dX5_count_89 rfl (lv_at hl 0 rfl) ?_
    refine va_get (D := D) (cl := vwCl) (ci := 5) (v := .int xlet) (C := RX5) (T := TX5) (N := 9) hx hb hts hinX5 hown hG.1 hP 0 rfl rfl 1 (by decide) fl18 (fun _ h9 => h9) rfl dX5_count_90 ?_
    cases h
    exact rt_i hx hb hr hlocks hP hD hS dX5_count_93
  have h := i_f c1_5 h
  by_cases c1_6 : a1 = (6 : Int32)
  · have h := i_t c1_6 h
    refine lv_tableIn (tgt := 94) hx hb dX5_count_1 (by rw [c1_6]; decide) (by rw [c1_6]; decide) (by rw [c1_6]; rfl) (by decide) ?_
    refine lv_aload_n hx hb dX5_count_94 rfl (lv_at hl 0 rfl) ?_
    refine va_get (D := D) (cl := vwCl) (ci := 5) (v := .ref so) (C := RX5) (T := TX5) (N := 9) hx hb hts hinX5 hown hG.1 hP 0 rfl rfl 5 (by decide) fl34 (fun _ h9 => h9) rfl dX5_count_95 ?_
    refine va_getN (D := D) (cl := vwCl) (ci := 3) (v := .int sinr) (C := RX3) (T := TX3) (N := 12) hx hb hts hinX3 hown hG.1 hP 3 rfl rfl 10 (by decide) (hG.2.f 11 rfl) (fun _ h9 => h9) rfl dX5_count_98 ?_
    cases h
    exact rt_i hx hb hr hlocks hP hD hS dX5_count_101
  have h := i_f c1_6 h
  by_cases c1_7 : a1 = (7 : Int32)
  · have h := i_t c1_7 h
    refine lv_tableIn (tgt := 102) hx hb dX5_count_1 (by rw [c1_7]; decide) (by rw [c1_7]; decide) (by rw [c1_7]; rfl) (by decide) ?_
    refine lv_aload_n hx hb dX5_count_102 rfl (lv_at hl 0 rfl) ?_
    refine va_get (D := D) (cl := vwCl) (ci := 5) (v := .ref so) (C := RX5) (T := TX5) (N := 9) hx hb hts hinX5 hown hG.1 hP 0 rfl rfl 5 (by decide) fl34 (fun _ h9 => h9) rfl dX5_count_103 ?_
    obtain ⟨r106, hc106, h⟩ := bd1_some h
    refine ct_VN (As := []) (rest := []) (st1 := [.int r106]) (wf := [(xo, .inr (5, [.ref txto, .int xlet, .ref laio, .int xrec, .ref rulo, .ref so, .ref oso, .ref ajo, .ref aso])), (rulo, .inr (0, [.ref rulv])), (rulv, .inl (cA, 4, .inl rulf)), (so, .inr (3, [.ref rowo, .ref talo, .ref plao, .ref leno, .ref jo, .ref mo, .int srec, .int spol, .int slea, .int sdep, .int sinr, .int swai])), (plao, .inr (0, [.ref plav])), (plav, .inl (cA, 96, .inl plaf)), (leno, .inr (0, [.ref lenv])), (lenv, .inl (cA, 96, .inl lenf))]) (kX3_kindOfNext l D cA F so rowo talo plao leno jo mo plav lenv  srec spol slea sdep sinr swai plaf lenf  r106 hc106) ⟨hx, hb, hml, hown, hts⟩ ⟨va_cnB 0 hts gX5_count_X3_kindOfNext_n114 rfl rfl rfl (hG.2.m 34 rfl) (hts (.initialized RX3) (by decide +kernel)) (by decide +kernel) ⟨Nat.le_of_ble_eq_true rfl, Nat.le_of_ble_eq_true rfl⟩, hts (.instanceMethod yX3_kindOfNext) (by decide +kernel), hts (.selects RX3 yX3_kindOfNext yX3_kindOfNext) (by decide +kernel)⟩ hG hst hP hD hS hA 3 rfl rfl rfl [3, 4, 5, 6, 7] [0, 1, 2] [0, 1, 2, 3, 4, 5, 6, 7] rfl rfl rfl rfl rfl rfl hl.1 rfl rfl (Nat.le_of_ble_eq_true rfl) dX5_count_106 ⟨Nat.zero_le _, Nat.zero_le _⟩ (fun H locs hP hD hS => ?_)
    refine lv_if_ne (tgt := 116) hx hb dX5_count_109 (by decide) (fun c109 => ?_) (fun c109 => ?_)
    · have h := i_f c109 h
      refine lv_iconst (v := (0 : Int32)) hx hb dX5_count_116 (by decide) ?_
      cases h
      exact rt_i hx hb hr hlocks hP hD hS dX5_count_117
    · have h := i_t c109 h
      refine lv_iconst (v := (1 : Int32)) hx hb dX5_count_112 (by decide) ?_
      refine lv_goto (tgt := 117) hx hb dX5_count_113 (by decide) ?_
      cases h
      exact rt_i hx hb hr hlocks hP hD hS dX5_count_117
  have h := i_f c1_7 h
  have q1_0 := lv_neT c1_0 (a := 0) (by decide)
  have q1_1 := lv_neT c1_1 (a := 1) (by decide)
  have q1_2 := lv_neT c1_2 (a := 2) (by decide)
  have q1_3 := lv_neT c1_3 (a := 3) (by decide)
  have q1_4 := lv_neT c1_4 (a := 4) (by decide)
  have q1_5 := lv_neT c1_5 (a := 5) (by decide)
  have q1_6 := lv_neT c1_6 (a := 6) (by decide)
  have q1_7 := lv_neT c1_7 (a := 7) (by decide)
  refine lv_tableOut (tgt := 118) hx hb dX5_count_1 (by omega) (by decide) ?_
  refine lv_iconst (v := (-1 : Int32)) hx hb dX5_count_118 (by decide) ?_
  cases h
  exact rt_i hx hb hr hlocks hP hD hS dX5_count_119
