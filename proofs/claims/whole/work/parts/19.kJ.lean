/-! contracts, by program (wip/whole/gen.py) -/
set_option maxHeartbeats 4000000 in
set_option maxRecDepth 100000 in
theorem kX5_step (l : Launch) (D : va_G) (cA : ClassId) (F : Nat) (xo : Nat) (txto : Nat) (laio : Nat) (rulo : Nat) (so : Nat) (oso : Nat) (ajo : Nat) (aso : Nat) (rowo : Nat) (talo : Nat) (plao : Nat) (leno : Nat) (jo : Nat) (mo : Nat) (rowv : Nat) (talv : Nat) (plav : Nat) (lenv : Nat) (roomo : Nat) (ao : Nat) (bo : Nat) (roomv : Nat) (ra : Nat) (rb : Nat) (xlet : Int32) (xrec : Int32) (srec : Int32) (spol : Int32) (slea : Int32) (sdep : Int32) (sinr : Int32) (swai : Int32) (rowf : (Nat → Int32)) (talf : (Nat → Int32)) (plaf : (Nat → Int32)) (lenf : (Nat → Int32)) (jord : Int32) (mtar : Int32) (mdir : Int32) (roomf : (Nat → Int32)) (ea : Int32) (da : Int32) (la : Int32) (eb : Int32) (db : Int32) (lb : Int32) (a1 : Int32) (r0 : Int32) (sdep_9 : Int32) (sinr_9 : Int32) (swai_9 : Int32) (rowf_9 : (Nat → Int32)) (talf_9 : (Nat → Int32)) (plaf_9 : (Nat → Int32)) (lenf_9 : (Nat → Int32)) (mtar_9 : Int32) (mdir_9 : Int32) (roomf_9 : (Nat → Int32)) (ra_9 : Nat) (ea_9 : Int32) (da_9 : Int32) (la_9 : Int32) (rb_9 : Nat) (eb_9 : Int32) (db_9 : Int32) (lb_9 : Int32) (h : mX5_step F rowo roomo ra rb srec spol slea sdep sinr swai rowf talf plaf lenf jord mtar mdir roomf ea da la eb db lb a1 = some (r0, sdep_9, sinr_9, swai_9, rowf_9, talf_9, plaf_9, lenf_9, mtar_9, mdir_9, roomf_9, ra_9, ea_9, da_9, la_9, rb_9, eb_9, db_9, lb_9)) : Ct l yX5_step wsX5_step ({ frames := 7, cells := 0, slots := 0, locals := 148 }) D cA [.ref xo, .int a1] [(xo, .inr (5, [.ref txto, .int xlet, .ref laio, .int xrec, .ref rulo, .ref so, .ref oso, .ref ajo, .ref aso])), (so, .inr (3, [.ref rowo, .ref talo, .ref plao, .ref leno, .ref jo, .ref mo, .int srec, .int spol, .int slea, .int sdep, .int sinr, .int swai])), (rowo, .inr (0, [.ref rowv])), (rowv, .inl (cA, 96, .inl rowf)), (talo, .inr (0, [.ref talv])), (talv, .inl (cA, 12, .inl talf)), (plao, .inr (0, [.ref plav])), (plav, .inl (cA, 96, .inl plaf)), (leno, .inr (0, [.ref lenv])), (lenv, .inl (cA, 96, .inl lenf)), (jo, .inr (1, [.ref talo, .int jord])), (mo, .inr (2, [.ref rowo, .ref roomo, .ref talo, .ref jo, .ref ao, .ref bo, .int mtar, .int mdir])), (roomo, .inr (0, [.ref roomv])), (roomv, .inl (cA, 48, .inl roomf)), (ao, .inr (4, [.ref ra, .int ea, .int da, .int la])), (bo, .inr (4, [.ref rb, .int eb, .int db, .int lb]))] [(xo, .inr (5, [.ref txto, .int xlet, .ref laio, .int xrec, .ref rulo, .ref so, .ref oso, .ref ajo, .ref aso])), (so, .inr (3, [.ref rowo, .ref talo, .ref plao, .ref leno, .ref jo, .ref mo, .int srec, .int spol, .int slea, .int sdep_9, .int sinr_9, .int swai_9])), (rowo, .inr (0, [.ref rowv])), (rowv, .inl (cA, 96, .inl rowf_9)), (talo, .inr (0, [.ref talv])), (talv, .inl (cA, 12, .inl talf_9)), (plao, .inr (0, [.ref plav])), (plav, .inl (cA, 96, .inl plaf_9)), (leno, .inr (0, [.ref lenv])), (lenv, .inl (cA, 96, .inl lenf_9)), (jo, .inr (1, [.ref talo, .int jord])), (mo, .inr (2, [.ref rowo, .ref roomo, .ref talo, .ref jo, .ref ao, .ref bo, .int mtar_9, .int mdir_9])), (roomo, .inr (0, [.ref roomv])), (roomv, .inl (cA, 48, .inl roomf_9)), (ao, .inr (4, [.ref ra_9, .int ea_9, .int da_9, .int la_9])), (bo, .inr (4, [.ref rb_9, .int eb_9, .int db_9, .int lb_9]))] (some (.int r0)) := by
  refine Ct.of (cc := cX5_step) (maxL := 2) (ret := (some .int)) (by decide) rfl (Nat.le_of_ble_eq_true rfl) ?_
  intro p e s m below meth c A ls hcx hG hst hA hP hD hl
  obtain ⟨hx, hb, hml, hown, hts, hr, hlocks⟩ := id hcx
  have hown : s.vm.findClass RX5 = some m.cls := hown
  have hS : va_S A s.heap s.heap [] := va_S.rf
  have hl : lv_has ls 2 [(0, .ref xo), (1, .int a1)] := hl
  have hinX5 : ∀ w ∈ u_ws RX5 TX5 9, w ∈ wsX5_step := by decide +kernel
  have fl34 := hts (.fieldLink RX5 34 "RunSorter" "sorter" "LRunSorter$Sorter;") (by decide +kernel)
  unfold mX5_step at h
  refine lv_iload_n hx hb dX5_step_0 rfl (lv_at hl 1 rfl) ?_
  refine lv_iconst (v := (1 : Int32)) hx hb dX5_step_1 (by decide) ?_
  refine lv_sipush (v := (400 : Int32)) hx hb dX5_step_2 (by decide) ?_
  obtain ⟨r5, hc5, h⟩ := bd1_some h
  refine ct_S (As := [.int a1, .int (1 : Int32), .int (400 : Int32)]) (rest := []) (st1 := [.int r5]) (wf := [(xo, .inr (5, [.ref txto, .int xlet, .ref laio, .int xrec, .ref rulo, .ref so, .ref oso, .ref ajo, .ref aso])), (so, .inr (3, [.ref rowo, .ref talo, .ref plao, .ref leno, .ref jo, .ref mo, .int srec, .int spol, .int slea, .int sdep, .int sinr, .int swai])), (rowo, .inr (0, [.ref rowv])), (rowv, .inl (cA, 96, .inl rowf)), (talo, .inr (0, [.ref talv])), (talv, .inl (cA, 12, .inl talf)), (plao, .inr (0, [.ref plav])), (plav, .inl (cA, 96, .inl plaf)), (leno, .inr (0, [.ref lenv])), (lenv, .inl (cA, 96, .inl lenf)), (jo, .inr (1, [.ref talo, .int jord])), (mo, .inr (2, [.ref rowo, .ref roomo, .ref talo, .ref jo, .ref ao, .ref bo, .int mtar, .int mdir])), (roomo, .inr (0, [.ref roomv])), (roomv, .inl (cA, 48, .inl roomf)), (ao, .inr (4, [.ref ra, .int ea, .int da, .int la])), (bo, .inr (4, [.ref rb, .int eb, .int db, .int lb]))]) (kX5_isOutside l D cA F    a1 (1 : Int32) (400 : Int32) r5 hc5) ⟨hx, hb, hml, hown, hts⟩ (va_cwS 3 hts gX5_step_X5_isOutside rfl rfl rfl (by decide +kernel) ⟨Nat.le_of_ble_eq_true rfl, Nat.le_of_ble_eq_true rfl⟩) hG hst hP hD hS hA [] [0, 1, 2, 3, 4, 5, 6, 7, 8, 9, 10, 11, 12, 13, 14, 15] [0, 1, 2, 3, 4, 5, 6, 7, 8, 9, 10, 11, 12, 13, 14, 15] rfl rfl rfl rfl rfl rfl hl.1 rfl rfl (Nat.le_of_ble_eq_true rfl) dX5_step_5 ⟨Nat.zero_le _, Nat.zero_le _⟩ (fun H locs hP hD hS => ?_)
  refine lv_if_eq (tgt := 13) hx hb dX5_step_8 (by decide) (fun c8 => ?_) (fun c8 => ?_)
  · have h := i_t c8 h
    refine lv_aload_n hx hb dX5_step_13 rfl (lv_at hl 0 rfl) ?_
    refine va_get (D := D) (cl := vwCl) (ci := 5) (v := .ref so) (C := RX5) (T := TX5) (N := 9) hx hb hts hinX5 hown hG.1 hP 0 rfl rfl 5 (by decide) fl34 (fun _ h9 => h9) rfl dX5_step_14 ?_
    refine lv_iload_n hx hb dX5_step_17 rfl (lv_at hl 1 rfl) ?_
    obtain ⟨r18, sdep_18, sinr_18, swai_18, rowf_18, talf_18, plaf_18, lenf_18, mtar_18, mdir_18, roomf_18, ra_18, ea_18, da_18, la_18, rb_18, eb_18, db_18, lb_18, hc18, h⟩ := bd19_some h
    refine ct_VN (As := [.int a1]) (rest := []) (st1 := [.int r18]) (wf := [(xo, .inr (5, [.ref txto, .int xlet, .ref laio, .int xrec, .ref rulo, .ref so, .ref oso, .ref ajo, .ref aso])), (so, .inr (3, [.ref rowo, .ref talo, .ref plao, .ref leno, .ref jo, .ref mo, .int srec, .int spol, .int slea, .int sdep_18, .int sinr_18, .int swai_18])), (rowo, .inr (0, [.ref rowv])), (rowv, .inl (cA, 96, .inl rowf_18)), (talo, .inr (0, [.ref talv])), (talv, .inl (cA, 12, .inl talf_18)), (plao, .inr (0, [.ref plav])), (plav, .inl (cA, 96, .inl plaf_18)), (leno, .inr (0, [.ref lenv])), (lenv, .inl (cA, 96, .inl lenf_18)), (jo, .inr (1, [.ref talo, .int jord])), (mo, .inr (2, [.ref rowo, .ref roomo, .ref talo, .ref jo, .ref ao, .ref bo, .int mtar_18, .int mdir_18])), (roomo, .inr (0, [.ref roomv])), (roomv, .inl (cA, 48, .inl roomf_18)), (ao, .inr (4, [.ref ra_18, .int ea_18, .int da_18, .int la_18])), (bo, .inr (4, [.ref rb_18, .int eb_18, .int db_18, .int lb_18]))]) (kX3_advance l D cA F so rowo talo plao leno jo mo rowv talv plav lenv roomo ao bo roomv ra rb  srec spol slea sdep sinr swai rowf talf plaf lenf jord mtar mdir roomf ea da la eb db lb a1 r18 sdep_18 sinr_18 swai_18 rowf_18 talf_18 plaf_18 lenf_18 mtar_18 mdir_18 roomf_18 ra_18 ea_18 da_18 la_18 rb_18 eb_18 db_18 lb_18 hc18) ⟨hx, hb, hml, hown, hts⟩ ⟨va_cnB 1 hts gX5_step_X3_advance_n111 rfl rfl rfl (hG.2.m 15 rfl) (hts (.initialized RX3) (by decide +kernel)) (by decide +kernel) ⟨Nat.le_of_ble_eq_true rfl, Nat.le_of_ble_eq_true rfl⟩, hts (.instanceMethod yX3_advance) (by decide +kernel), hts (.selects RX3 yX3_advance yX3_advance) (by decide +kernel)⟩ hG hst hP hD hS hA 3 rfl rfl rfl [1, 2, 3, 4, 5, 6, 7, 8, 9, 10, 11, 12, 13, 14, 15] [0] [0, 1, 2, 3, 4, 5, 6, 7, 8, 9, 10, 11, 12, 13, 14, 15] rfl rfl rfl rfl rfl rfl hl.1 rfl rfl (Nat.le_of_ble_eq_true rfl) dX5_step_18 ⟨Nat.zero_le _, Nat.zero_le _⟩ (fun H locs hP hD hS => ?_)
    cases h
    exact rt_i hx hb hr hlocks hP hD hS dX5_step_21
  · have h := i_f c8 h
    refine lv_iconst (v := (-1 : Int32)) hx hb dX5_step_11 (by decide) ?_
    cases h
    exact rt_i hx hb hr hlocks hP hD hS dX5_step_12
set_option maxHeartbeats 4000000 in
set_option maxRecDepth 100000 in
theorem kX5_next (l : Launch) (D : va_G) (cA : ClassId) (F : Nat) (xo : Nat) (txto : Nat) (laio : Nat) (rulo : Nat) (so : Nat) (oso : Nat) (ajo : Nat) (aso : Nat) (rowo : Nat) (talo : Nat) (plao : Nat) (leno : Nat) (jo : Nat) (mo : Nat) (plav : Nat) (lenv : Nat) (xlet : Int32) (xrec : Int32) (srec : Int32) (spol : Int32) (slea : Int32) (sdep : Int32) (sinr : Int32) (swai : Int32) (plaf : (Nat → Int32)) (lenf : (Nat → Int32)) (r0 : Int32) (h : mX5_next F srec spol sdep sinr swai plaf lenf = some r0) : Ct l yX5_next wsX5_next ({ frames := 6, cells := 0, slots := 0, locals := 124 }) D cA [.ref xo] [(xo, .inr (5, [.ref txto, .int xlet, .ref laio, .int xrec, .ref rulo, .ref so, .ref oso, .ref ajo, .ref aso])), (so, .inr (3, [.ref rowo, .ref talo, .ref plao, .ref leno, .ref jo, .ref mo, .int srec, .int spol, .int slea, .int sdep, .int sinr, .int swai])), (plao, .inr (0, [.ref plav])), (plav, .inl (cA, 96, .inl plaf)), (leno, .inr (0, [.ref lenv])), (lenv, .inl (cA, 96, .inl lenf))] [(xo, .inr (5, [.ref txto, .int xlet, .ref laio, .int xrec, .ref rulo, .ref so, .ref oso, .ref ajo, .ref aso])), (so, .inr (3, [.ref rowo, .ref talo, .ref plao, .ref leno, .ref jo, .ref mo, .int srec, .int spol, .int slea, .int sdep, .int sinr, .int swai])), (plao, .inr (0, [.ref plav])), (plav, .inl (cA, 96, .inl plaf)), (leno, .inr (0, [.ref lenv])), (lenv, .inl (cA, 96, .inl lenf))] (some (.int r0)) := by
  refine Ct.of (cc := cX5_next) (maxL := 1) (ret := (some .int)) (by decide) rfl (Nat.le_of_ble_eq_true rfl) ?_
  intro p e s m below meth c A ls hcx hG hst hA hP hD hl
  obtain ⟨hx, hb, hml, hown, hts, hr, hlocks⟩ := id hcx
  have hown : s.vm.findClass RX5 = some m.cls := hown
  have hS : va_S A s.heap s.heap [] := va_S.rf
  have hl : lv_has ls 1 [(0, .ref xo)] := hl
  have hinX5 : ∀ w ∈ u_ws RX5 TX5 9, w ∈ wsX5_next := by decide +kernel
  have fl34 := hts (.fieldLink RX5 34 "RunSorter" "sorter" "LRunSorter$Sorter;") (by decide +kernel)
  unfold mX5_next at h
  refine lv_aload_n hx hb dX5_next_0 rfl (lv_at hl 0 rfl) ?_
  refine va_get (D := D) (cl := vwCl) (ci := 5) (v := .ref so) (C := RX5) (T := TX5) (N := 9) hx hb hts hinX5 hown hG.1 hP 0 rfl rfl 5 (by decide) fl34 (fun _ h9 => h9) rfl dX5_next_1 ?_
  obtain ⟨r4, hc4, h⟩ := bd1_some h
  refine ct_VN (As := []) (rest := []) (st1 := [.int r4]) (wf := [(xo, .inr (5, [.ref txto, .int xlet, .ref laio, .int xrec, .ref rulo, .ref so, .ref oso, .ref ajo, .ref aso])), (so, .inr (3, [.ref rowo, .ref talo, .ref plao, .ref leno, .ref jo, .ref mo, .int srec, .int spol, .int slea, .int sdep, .int sinr, .int swai])), (plao, .inr (0, [.ref plav])), (plav, .inl (cA, 96, .inl plaf)), (leno, .inr (0, [.ref lenv])), (lenv, .inl (cA, 96, .inl lenf))]) (kX3_kindOfNext l D cA F so rowo talo plao leno jo mo plav lenv  srec spol slea sdep sinr swai plaf lenf  r4 hc4) ⟨hx, hb, hml, hown, hts⟩ ⟨va_cnB 0 hts gX5_next_X3_kindOfNext_n114 rfl rfl rfl (hG.2.m 34 rfl) (hts (.initialized RX3) (by decide +kernel)) (by decide +kernel) ⟨Nat.le_of_ble_eq_true rfl, Nat.le_of_ble_eq_true rfl⟩, hts (.instanceMethod yX3_kindOfNext) (by decide +kernel), hts (.selects RX3 yX3_kindOfNext yX3_kindOfNext) (by decide +kernel)⟩ hG hst hP hD hS hA 3 rfl rfl rfl [1, 2, 3, 4, 5] [0] [0, 1, 2, 3, 4, 5] rfl rfl rfl rfl rfl rfl hl.1 rfl rfl (Nat.le_of_ble_eq_true rfl) dX5_next_4 ⟨Nat.zero_le _, Nat.zero_le _⟩ (fun H locs hP hD hS => ?_)
  cases h
  exact rt_i hx hb hr hlocks hP hD hS dX5_next_7
set_option maxHeartbeats 4000000 in
set_option maxRecDepth 100000 in
theorem kX5_at (l : Launch) (D : va_G) (cA : ClassId) (F : Nat) (xo : Nat) (txto : Nat) (laio : Nat) (rulo : Nat) (so : Nat) (oso : Nat) (ajo : Nat) (aso : Nat) (rowo : Nat) (talo : Nat) (plao : Nat) (leno : Nat) (jo : Nat) (mo : Nat) (rowv : Nat) (xlet : Int32) (xrec : Int32) (srec : Int32) (spol : Int32) (slea : Int32) (sdep : Int32) (sinr : Int32) (swai : Int32) (rowf : (Nat → Int32)) (a1 : Int32) (a2 : Int32) (r0 : Int32) (h : mX5_at F xrec rowf a1 a2 = some r0) : Ct l yX5_at wsX5_at ({ frames := 2, cells := 0, slots := 0, locals := 43 }) D cA [.ref xo, .int a1, .int a2] [(xo, .inr (5, [.ref txto, .int xlet, .ref laio, .int xrec, .ref rulo, .ref so, .ref oso, .ref ajo, .ref aso])), (so, .inr (3, [.ref rowo, .ref talo, .ref plao, .ref leno, .ref jo, .ref mo, .int srec, .int spol, .int slea, .int sdep, .int sinr, .int swai])), (rowo, .inr (0, [.ref rowv])), (rowv, .inl (cA, 96, .inl rowf))] [(xo, .inr (5, [.ref txto, .int xlet, .ref laio, .int xrec, .ref rulo, .ref so, .ref oso, .ref ajo, .ref aso])), (so, .inr (3, [.ref rowo, .ref talo, .ref plao, .ref leno, .ref jo, .ref mo, .int srec, .int spol, .int slea, .int sdep, .int sinr, .int swai])), (rowo, .inr (0, [.ref rowv])), (rowv, .inl (cA, 96, .inl rowf))] (some (.int r0)) := by
  refine Ct.of (cc := cX5_at) (maxL := 4) (ret := (some .int)) (by decide) rfl (Nat.le_of_ble_eq_true rfl) ?_
  intro p e s m below meth c A ls hcx hG hst hA hP hD hl
  obtain ⟨hx, hb, hml, hown, hts, hr, hlocks⟩ := id hcx
  have hown : s.vm.findClass RX5 = some m.cls := hown
  have hS : va_S A s.heap s.heap [] := va_S.rf
  have hl : lv_has ls 4 [(0, .ref xo), (1, .int a1), (2, .int a2)] := hl
  have hinX3 : ∀ w ∈ u_ws RX3 TX3 12, w ∈ wsX5_at := by decide +kernel
  have hinX5 : ∀ w ∈ u_ws RX5 TX5 9, w ∈ wsX5_at := by decide +kernel
  have fl34 := hts (.fieldLink RX5 34 "RunSorter" "sorter" "LRunSorter$Sorter;") (by decide +kernel)
  unfold mX5_at at h
  refine lv_aload_n hx hb dX5_at_0 rfl (lv_at hl 0 rfl) ?_
  refine lv_iload_n hx hb dX5_at_1 rfl (lv_at hl 1 rfl) ?_
  obtain ⟨r2, hc2, h⟩ := bd1_some h
  refine ct_V (As := [.int a1]) (rest := []) (st1 := [.int r2]) (wf := [(xo, .inr (5, [.ref txto, .int xlet, .ref laio, .int xrec, .ref rulo, .ref so, .ref oso, .ref ajo, .ref aso])), (so, .inr (3, [.ref rowo, .ref talo, .ref plao, .ref leno, .ref jo, .ref mo, .int srec, .int spol, .int slea, .int sdep, .int sinr, .int swai])), (rowo, .inr (0, [.ref rowv])), (rowv, .inl (cA, 96, .inl rowf))]) (kX5_isNoPlace l D cA F xo txto laio rulo so oso ajo aso  xlet xrec a1 r2 hc2) ⟨hx, hb, hml, hown, hts⟩ (cwV 1 hts gX5_at_X5_isNoPlace rfl rfl rfl (by decide +kernel) ⟨Nat.le_of_ble_eq_true rfl, Nat.le_of_ble_eq_true rfl⟩) hG hst hP hD hS hA 5 rfl rfl rfl [0] [1, 2, 3] [3, 0, 1, 2] rfl rfl rfl rfl rfl rfl hl.1 rfl rfl (Nat.le_of_ble_eq_true rfl) dX5_at_2 ⟨Nat.zero_le _, Nat.zero_le _⟩ (fun H locs hP hD hS => ?_)
  refine lv_if_ne (tgt := 17) hx hb dX5_at_5 (by decide) (fun c5 => ?_) (fun c5 => ?_)
  · have h := i_f c5 h
    refine lv_iconst (v := (-1 : Int32)) hx hb dX5_at_17 (by decide) ?_
    cases h
    exact rt_i hx hb hr hlocks hP hD hS dX5_at_18
  · have h := i_t c5 h
    refine lv_iload_n hx hb dX5_at_8 rfl (lv_at hl 2 rfl) ?_
    refine lv_iconst (v := (0 : Int32)) hx hb dX5_at_9 (by decide) ?_
    refine lv_iconst (v := (1 : Int32)) hx hb dX5_at_10 (by decide) ?_
    obtain ⟨r11, hc11, h⟩ := bd1_some h
    refine ct_S (As := [.int a2, .int (0 : Int32), .int (1 : Int32)]) (rest := []) (st1 := [.int r11]) (wf := [(xo, .inr (5, [.ref txto, .int xlet, .ref laio, .int xrec, .ref rulo, .ref so, .ref oso, .ref ajo, .ref aso])), (so, .inr (3, [.ref rowo, .ref talo, .ref plao, .ref leno, .ref jo, .ref mo, .int srec, .int spol, .int slea, .int sdep, .int sinr, .int swai])), (rowo, .inr (0, [.ref rowv])), (rowv, .inl (cA, 96, .inl rowf))]) (kX5_isOutside l D cA F    a2 (0 : Int32) (1 : Int32) r11 hc11) ⟨hx, hb, hml, hown, hts⟩ (va_cwS 3 hts gX5_at_X5_isOutside rfl rfl rfl (by decide +kernel) ⟨Nat.le_of_ble_eq_true rfl, Nat.le_of_ble_eq_true rfl⟩) hG hst hP hD hS hA [] [0, 1, 2, 3] [0, 1, 2, 3] rfl rfl rfl rfl rfl rfl hl.1 rfl rfl (Nat.le_of_ble_eq_true rfl) dX5_at_11 ⟨Nat.zero_le _, Nat.zero_le _⟩ (fun H locs hP hD hS => ?_)
    refine lv_if_eq (tgt := 19) hx hb dX5_at_14 (by decide) (fun c14 => ?_) (fun c14 => ?_)
    · have h := i_t c14 h
      refine lv_aload_n hx hb dX5_at_19 rfl (lv_at hl 0 rfl) ?_
      refine va_get (D := D) (cl := vwCl) (ci := 5) (v := .ref so) (C := RX5) (T := TX5) (N := 9) hx hb hts hinX5 hown hG.1 hP 0 rfl rfl 5 (by decide) fl34 (fun _ h9 => h9) rfl dX5_at_20 ?_
      refine va_getN (D := D) (cl := vwCl) (ci := 3) (v := .ref rowo) (C := RX3) (T := TX3) (N := 12) hx hb hts hinX3 hown hG.1 hP 1 rfl rfl 0 (by decide) (hG.2.f 6 rfl) (fun _ h9 => h9) rfl dX5_at_23 ?_
      refine lv_iload_n hx hb dX5_at_26 rfl (lv_at hl 1 rfl) ?_
      obtain ⟨r27, hc27, h⟩ := bd1_some h
      refine ct_VN (As := [.int a1]) (rest := []) (st1 := [.int r27]) (wf := [(xo, .inr (5, [.ref txto, .int xlet, .ref laio, .int xrec, .ref rulo, .ref so, .ref oso, .ref ajo, .ref aso])), (so, .inr (3, [.ref rowo, .ref talo, .ref plao, .ref leno, .ref jo, .ref mo, .int srec, .int spol, .int slea, .int sdep, .int sinr, .int swai])), (rowo, .inr (0, [.ref rowv])), (rowv, .inl (cA, 96, .inl rowf))]) (kX0_look l D cA F rowo rowv 96 rowf a1 r27 hc27) ⟨hx, hb, hml, hown, hts⟩ ⟨va_cnB 1 hts gX5_at_X0_look_n84 rfl rfl rfl (hG.2.m 10 rfl) (hts (.initialized RX0) (by decide +kernel)) (by decide +kernel) ⟨Nat.le_of_ble_eq_true rfl, Nat.le_of_ble_eq_true rfl⟩, hts (.instanceMethod yX0_look) (by decide +kernel), hts (.selects RX0 yX0_look yX0_look) (by decide +kernel)⟩ hG hst hP hD hS hA 0 rfl rfl rfl [2, 3] [0, 1] [0, 1, 2, 3] rfl rfl rfl rfl rfl rfl hl.1 rfl rfl (Nat.le_of_ble_eq_true rfl) dX5_at_27 ⟨Nat.zero_le _, Nat.zero_le _⟩ (fun H locs hP hD hS => ?_)
      refine lv_istore_n (lv' := [(3, .int r27), (0, .ref xo), (1, .int a1), (2, .int a2)]) hx hb dX5_at_30 rfl hl (by decide) rfl (fun ls hl => ?_)
      refine lv_iload_n hx hb dX5_at_31 rfl (lv_at hl 3 rfl) ?_
      refine lv_if_ne (tgt := 42) hx hb dX5_at_32 (by decide) (fun c32 => ?_) (fun c32 => ?_)
      · have h := i_f c32 h
        refine lv_iload_n hx hb dX5_at_42 rfl (lv_at hl 0 rfl) ?_
        obtain ⟨r43, hc43, h⟩ := bd1_some h
        refine ct_S (As := [.int r27]) (rest := []) (st1 := [.int r43]) (wf := [(xo, .inr (5, [.ref txto, .int xlet, .ref laio, .int xrec, .ref rulo, .ref so, .ref oso, .ref ajo, .ref aso])), (so, .inr (3, [.ref rowo, .ref talo, .ref plao, .ref leno, .ref jo, .ref mo, .int srec, .int spol, .int slea, .int sdep, .int sinr, .int swai])), (rowo, .inr (0, [.ref rowv])), (rowv, .inl (cA, 96, .inl rowf))]) (kX5_tagOf l D cA F    r27 r43 hc43) ⟨hx, hb, hml, hown, hts⟩ (va_cwS 1 hts gX5_at_X5_tagOf rfl rfl rfl (by decide +kernel) ⟨Nat.le_of_ble_eq_true rfl, Nat.le_of_ble_eq_true rfl⟩) hG hst hP hD hS hA [] [0, 1, 2, 3] [0, 1, 2, 3] rfl rfl rfl rfl rfl rfl hl.1 rfl rfl (Nat.le_of_ble_eq_true rfl) dX5_at_43 ⟨Nat.zero_le _, Nat.zero_le _⟩ (fun H locs hP hD hS => ?_)
        cases h
        exact rt_i hx hb hr hlocks hP hD hS dX5_at_46
      · have h := i_t c32 h
        refine lv_iload_n hx hb dX5_at_35 rfl (lv_at hl 0 rfl) ?_
        obtain ⟨r36, hc36, h⟩ := bd1_some h
        refine ct_S (As := [.int r27]) (rest := []) (st1 := [.int r36]) (wf := [(xo, .inr (5, [.ref txto, .int xlet, .ref laio, .int xrec, .ref rulo, .ref so, .ref oso, .ref ajo, .ref aso])), (so, .inr (3, [.ref rowo, .ref talo, .ref plao, .ref leno, .ref jo, .ref mo, .int srec, .int spol, .int slea, .int sdep, .int sinr, .int swai])), (rowo, .inr (0, [.ref rowv])), (rowv, .inl (cA, 96, .inl rowf))]) (kX5_keyOf l D cA F    r27 r36 hc36) ⟨hx, hb, hml, hown, hts⟩ (va_cwS 1 hts gX5_at_X5_keyOf rfl rfl rfl (by decide +kernel) ⟨Nat.le_of_ble_eq_true rfl, Nat.le_of_ble_eq_true rfl⟩) hG hst hP hD hS hA [] [0, 1, 2, 3] [0, 1, 2, 3] rfl rfl rfl rfl rfl rfl hl.1 rfl rfl (Nat.le_of_ble_eq_true rfl) dX5_at_36 ⟨Nat.zero_le _, Nat.zero_le _⟩ (fun H locs hP hD hS => ?_)
        refine lv_goto (tgt := 46) hx hb dX5_at_39 (by decide) ?_
        cases h
        exact rt_i hx hb hr hlocks hP hD hS dX5_at_46
    · have h := i_f c14 h
      refine lv_iconst (v := (-1 : Int32)) hx hb dX5_at_17 (by decide) ?_
      cases h
      exact rt_i hx hb hr hlocks hP hD hS dX5_at_18
set_option maxHeartbeats 4000000 in
set_option maxRecDepth 100000 in
theorem kX5_place (l : Launch) (D : va_G) (cA : ClassId) (F : Nat) (xo : Nat) (txto : Nat) (laio : Nat) (rulo : Nat) (so : Nat) (oso : Nat) (ajo : Nat) (aso : Nat) (rowo : Nat) (talo : Nat) (plao : Nat) (leno : Nat) (jo : Nat) (mo : Nat) (rowv : Nat) (xlet : Int32) (xrec : Int32) (srec : Int32) (spol : Int32) (slea : Int32) (sdep : Int32) (sinr : Int32) (swai : Int32) (rowf : (Nat → Int32)) (a1 : Int32) (r0 : Int32) (h : mX5_place F xrec rowf a1 = some r0) : Ct l yX5_place wsX5_place ({ frames := 1, cells := 0, slots := 0, locals := 21 }) D cA [.ref xo, .int a1] [(xo, .inr (5, [.ref txto, .int xlet, .ref laio, .int xrec, .ref rulo, .ref so, .ref oso, .ref ajo, .ref aso])), (so, .inr (3, [.ref rowo, .ref talo, .ref plao, .ref leno, .ref jo, .ref mo, .int srec, .int spol, .int slea, .int sdep, .int sinr, .int swai])), (rowo, .inr (0, [.ref rowv])), (rowv, .inl (cA, 96, .inl rowf))] [(xo, .inr (5, [.ref txto, .int xlet, .ref laio, .int xrec, .ref rulo, .ref so, .ref oso, .ref ajo, .ref aso])), (so, .inr (3, [.ref rowo, .ref talo, .ref plao, .ref leno, .ref jo, .ref mo, .int srec, .int spol, .int slea, .int sdep, .int sinr, .int swai])), (rowo, .inr (0, [.ref rowv])), (rowv, .inl (cA, 96, .inl rowf))] (some (.int r0)) := by
  refine Ct.of (cc := cX5_place) (maxL := 3) (ret := (some .int)) (by decide) rfl (Nat.le_of_ble_eq_true rfl) ?_
  intro p e s m below meth c A ls hcx hG hst hA hP hD hl
  obtain ⟨hx, hb, hml, hown, hts, hr, hlocks⟩ := id hcx
  have hown : s.vm.findClass RX5 = some m.cls := hown
  have hS : va_S A s.heap s.heap [] := va_S.rf
  have hl : lv_has ls 3 [(0, .ref xo), (1, .int a1)] := hl
  have hinX3 : ∀ w ∈ u_ws RX3 TX3 12, w ∈ wsX5_place := by decide +kernel
  have hinX5 : ∀ w ∈ u_ws RX5 TX5 9, w ∈ wsX5_place := by decide +kernel
  have fl25 := hts (.fieldLink RX5 25 "RunSorter" "records" "I") (by decide +kernel)
  have fl34 := hts (.fieldLink RX5 34 "RunSorter" "sorter" "LRunSorter$Sorter;") (by decide +kernel)
  have hmX5_place_2 : ∀ (n2 : Nat) (x2 : Int32) (H : Heap) (locs : List Loc) (ls : Array Slot), mX5_place_2 F xrec rowf a1 n2 x2 = some r0 → va_P D vwCl [(xo, .inr (5, [.ref txto, .int xlet, .ref laio, .int xrec, .ref rulo, .ref so, .ref oso, .ref ajo, .ref aso])), (so, .inr (3, [.ref rowo, .ref talo, .ref plao, .ref leno, .ref jo, .ref mo, .int srec, .int spol, .int slea, .int sdep, .int sinr, .int swai])), (rowo, .inr (0, [.ref rowv])), (rowv, .inl (cA, 96, .inl rowf))] H → va_D A [(xo, .inr (5, [.ref txto, .int xlet, .ref laio, .int xrec, .ref rulo, .ref so, .ref oso, .ref ajo, .ref aso])), (so, .inr (3, [.ref rowo, .ref talo, .ref plao, .ref leno, .ref jo, .ref mo, .int srec, .int spol, .int slea, .int sdep, .int sinr, .int swai])), (rowo, .inr (0, [.ref rowv])), (rowv, .inl (cA, 96, .inl rowf))] → va_S A s.heap H locs → lv_has ls 3 [(0, .ref xo), (1, .int a1), (2, .int x2)] → W p l e ({ frames := 1, cells := 0, slots := 0, locals := 21 }) s m ([.ref xo, .int a1] : List Value).toArray below meth c H locs 0 0 (MQ below (Qw D A [(xo, .inr (5, [.ref txto, .int xlet, .ref laio, .int xrec, .ref rulo, .ref so, .ref oso, .ref ajo, .ref aso])), (so, .inr (3, [.ref rowo, .ref talo, .ref plao, .ref leno, .ref jo, .ref mo, .int srec, .int spol, .int slea, .int sdep, .int sinr, .int swai])), (rowo, .inr (0, [.ref rowv])), (rowv, .inl (cA, 96, .inl rowf))] (some (.int r0))) ([.ref xo, .int a1] : List Value).toArray s 0 0 A) (F0 m 2 ls []) := by
    intro n2
    induction n2 with
    | zero => intro x2 H locs ls h; exact (no_some h).elim
    | succ n2 ih2 =>
      intro x2 H locs ls h hP hD hS hl
      rw [mX5_place_2] at h
      refine lv_iload_n hx hb dX5_place_2 rfl (lv_at hl 2 rfl) ?_
      refine lv_aload_n hx hb dX5_place_3 rfl (lv_at hl 0 rfl) ?_
      refine va_get (D := D) (cl := vwCl) (ci := 5) (v := .int xrec) (C := RX5) (T := TX5) (N := 9) hx hb hts hinX5 hown hG.1 hP 0 rfl rfl 3 (by decide) fl25 (fun _ h9 => h9) rfl dX5_place_4 ?_
      refine lv_icmp_ge (tgt := 36) hx hb dX5_place_7 (by decide) (fun c7 => ?_) (fun c7 => ?_)
      · have h := i_t c7 h
        refine lv_iconst (v := (-1 : Int32)) hx hb dX5_place_36 (by decide) ?_
        cases h
        exact rt_i hx hb hr hlocks hP hD hS dX5_place_37
      · have h := i_f c7 h
        refine lv_aload_n hx hb dX5_place_10 rfl (lv_at hl 0 rfl) ?_
        refine va_get (D := D) (cl := vwCl) (ci := 5) (v := .ref so) (C := RX5) (T := TX5) (N := 9) hx hb hts hinX5 hown hG.1 hP 0 rfl rfl 5 (by decide) fl34 (fun _ h9 => h9) rfl dX5_place_11 ?_
        refine va_getN (D := D) (cl := vwCl) (ci := 3) (v := .ref rowo) (C := RX3) (T := TX3) (N := 12) hx hb hts hinX3 hown hG.1 hP 1 rfl rfl 0 (by decide) (hG.2.f 6 rfl) (fun _ h9 => h9) rfl dX5_place_14 ?_
        refine lv_iload_n hx hb dX5_place_17 rfl (lv_at hl 2 rfl) ?_
        obtain ⟨r18, hc18, h⟩ := bd1_some h
        refine ct_VN (As := [.int x2]) (rest := []) (st1 := [.int r18]) (wf := [(xo, .inr (5, [.ref txto, .int xlet, .ref laio, .int xrec, .ref rulo, .ref so, .ref oso, .ref ajo, .ref aso])), (so, .inr (3, [.ref rowo, .ref talo, .ref plao, .ref leno, .ref jo, .ref mo, .int srec, .int spol, .int slea, .int sdep, .int sinr, .int swai])), (rowo, .inr (0, [.ref rowv])), (rowv, .inl (cA, 96, .inl rowf))]) (kX0_look l D cA F rowo rowv 96 rowf x2 r18 hc18) ⟨hx, hb, hml, hown, hts⟩ ⟨va_cnB 1 hts gX5_place_X0_look_n84 rfl rfl rfl (hG.2.m 10 rfl) (hts (.initialized RX0) (by decide +kernel)) (by decide +kernel) ⟨Nat.le_of_ble_eq_true rfl, Nat.le_of_ble_eq_true rfl⟩, hts (.instanceMethod yX0_look) (by decide +kernel), hts (.selects RX0 yX0_look yX0_look) (by decide +kernel)⟩ hG hst hP hD hS hA 0 rfl rfl rfl [2, 3] [0, 1] [0, 1, 2, 3] rfl rfl rfl rfl rfl rfl hl.1 rfl rfl (Nat.le_of_ble_eq_true rfl) dX5_place_18 ⟨Nat.zero_le _, Nat.zero_le _⟩ (fun H locs hP hD hS => ?_)
        obtain ⟨r21, hc21, h⟩ := bd1_some h
        refine ct_S (As := [.int r18]) (rest := []) (st1 := [.int r21]) (wf := [(xo, .inr (5, [.ref txto, .int xlet, .ref laio, .int xrec, .ref rulo, .ref so, .ref oso, .ref ajo, .ref aso])), (so, .inr (3, [.ref rowo, .ref talo, .ref plao, .ref leno, .ref jo, .ref mo, .int srec, .int spol, .int slea, .int sdep, .int sinr, .int swai])), (rowo, .inr (0, [.ref rowv])), (rowv, .inl (cA, 96, .inl rowf))]) (kX5_tagOf l D cA F    r18 r21 hc21) ⟨hx, hb, hml, hown, hts⟩ (va_cwS 1 hts gX5_place_X5_tagOf rfl rfl rfl (by decide +kernel) ⟨Nat.le_of_ble_eq_true rfl, Nat.le_of_ble_eq_true rfl⟩) hG hst hP hD hS hA [] [0, 1, 2, 3] [0, 1, 2, 3] rfl rfl rfl rfl rfl rfl hl.1 rfl rfl (Nat.le_of_ble_eq_true rfl) dX5_place_21 ⟨Nat.zero_le _, Nat.zero_le _⟩ (fun H locs hP hD hS => ?_)
        refine lv_iload_n hx hb dX5_place_24 rfl (lv_at hl 1 rfl) ?_
        refine lv_icmp_ne (tgt := 30) hx hb dX5_place_25 (by decide) (fun c25 => ?_) (fun c25 => ?_)
        · have h := i_f c25 h
          refine lv_iinc (v := x2 + (1 : Int32)) (lv' := [(2, .int (x2 + (1 : Int32))), (0, .ref xo), (1, .int a1)]) hx hb dX5_place_30 hl (k := 2) rfl (congrArg (fun z => x2 + z) (by decide)) (by decide) rfl (fun ls hl => ?_)
          refine lv_goto (tgt := 2) hx hb dX5_place_33 (by decide) ?_
          exact ih2 (x2 + (1 : Int32)) _ _ _ h hP hD hS (lv_sub hl [1, 2, 0] rfl)
        · have h := i_t c25 h
          refine lv_iload_n hx hb dX5_place_28 rfl (lv_at hl 2 rfl) ?_
          cases h
          exact rt_i hx hb hr hlocks hP hD hS dX5_place_29
  unfold mX5_place at h
  refine lv_iconst (v := (0 : Int32)) hx hb dX5_place_0 (by decide) ?_
  refine lv_istore_n (lv' := [(2, .int (0 : Int32)), (0, .ref xo), (1, .int a1)]) hx hb dX5_place_1 rfl hl (by decide) rfl (fun ls hl => ?_)
  exact hmX5_place_2 F (0 : Int32) _ _ _ h hP hD hS (lv_sub hl [1, 2, 0] rfl)
set_option maxHeartbeats 4000000 in
set_option maxRecDepth 100000 in
theorem kX5_run (l : Launch) (D : va_G) (cA : ClassId) (F : Nat) (xo : Nat) (txto : Nat) (laio : Nat) (rulo : Nat) (so : Nat) (oso : Nat) (ajo : Nat) (aso : Nat) (rowo : Nat) (talo : Nat) (plao : Nat) (leno : Nat) (jo : Nat) (mo : Nat) (plav : Nat) (lenv : Nat) (xlet : Int32) (xrec : Int32) (srec : Int32) (spol : Int32) (slea : Int32) (sdep : Int32) (sinr : Int32) (swai : Int32) (plaf : (Nat → Int32)) (lenf : (Nat → Int32)) (a1 : Int32) (a2 : Int32) (r0 : Int32) (h : mX5_run F srec sdep swai plaf lenf a1 a2 = some r0) : Ct l yX5_run wsX5_run ({ frames := 2, cells := 0, slots := 0, locals := 48 }) D cA [.ref xo, .int a1, .int a2] [(xo, .inr (5, [.ref txto, .int xlet, .ref laio, .int xrec, .ref rulo, .ref so, .ref oso, .ref ajo, .ref aso])), (so, .inr (3, [.ref rowo, .ref talo, .ref plao, .ref leno, .ref jo, .ref mo, .int srec, .int spol, .int slea, .int sdep, .int sinr, .int swai])), (plao, .inr (0, [.ref plav])), (plav, .inl (cA, 96, .inl plaf)), (leno, .inr (0, [.ref lenv])), (lenv, .inl (cA, 96, .inl lenf))] [(xo, .inr (5, [.ref txto, .int xlet, .ref laio, .int xrec, .ref rulo, .ref so, .ref oso, .ref ajo, .ref aso])), (so, .inr (3, [.ref rowo, .ref talo, .ref plao, .ref leno, .ref jo, .ref mo, .int srec, .int spol, .int slea, .int sdep, .int sinr, .int swai])), (plao, .inr (0, [.ref plav])), (plav, .inl (cA, 96, .inl plaf)), (leno, .inr (0, [.ref lenv])), (lenv, .inl (cA, 96, .inl lenf))] (some (.int r0)) := by
  refine Ct.of (cc := cX5_run) (maxL := 3) (ret := (some .int)) (by decide) rfl (Nat.le_of_ble_eq_true rfl) ?_
  intro p e s m below meth c A ls hcx hG hst hA hP hD hl
  obtain ⟨hx, hb, hml, hown, hts, hr, hlocks⟩ := id hcx
  have hown : s.vm.findClass RX5 = some m.cls := hown
  have hS : va_S A s.heap s.heap [] := va_S.rf
  have hl : lv_has ls 3 [(0, .ref xo), (1, .int a1), (2, .int a2)] := hl
  have hinX3 : ∀ w ∈ u_ws RX3 TX3 12, w ∈ wsX5_run := by decide +kernel
  have hinX5 : ∀ w ∈ u_ws RX5 TX5 9, w ∈ wsX5_run := by decide +kernel
  have fl34 := hts (.fieldLink RX5 34 "RunSorter" "sorter" "LRunSorter$Sorter;") (by decide +kernel)
  unfold mX5_run at h
  refine lv_iload_n hx hb dX5_run_0 rfl (lv_at hl 1 rfl) ?_
  refine lv_iconst (v := (-1 : Int32)) hx hb dX5_run_1 (by decide) ?_
  refine lv_icmp_lt (tgt := 14) hx hb dX5_run_2 (by decide) (fun c2 => ?_) (fun c2 => ?_)
  · have h := i_t c2 h
    refine lv_iconst (v := (-1 : Int32)) hx hb dX5_run_14 (by decide) ?_
    cases h
    exact rt_i hx hb hr hlocks hP hD hS dX5_run_15
  · have h := i_f c2 h
    refine lv_iload_n hx hb dX5_run_5 rfl (lv_at hl 2 rfl) ?_
    refine lv_iconst (v := (0 : Int32)) hx hb dX5_run_6 (by decide) ?_
    refine lv_iconst (v := (2 : Int32)) hx hb dX5_run_7 (by decide) ?_
    obtain ⟨r8, hc8, h⟩ := bd1_some h
    refine ct_S (As := [.int a2, .int (0 : Int32), .int (2 : Int32)]) (rest := []) (st1 := [.int r8]) (wf := [(xo, .inr (5, [.ref txto, .int xlet, .ref laio, .int xrec, .ref rulo, .ref so, .ref oso, .ref ajo, .ref aso])), (so, .inr (3, [.ref rowo, .ref talo, .ref plao, .ref leno, .ref jo, .ref mo, .int srec, .int spol, .int slea, .int sdep, .int sinr, .int swai])), (plao, .inr (0, [.ref plav])), (plav, .inl (cA, 96, .inl plaf)), (leno, .inr (0, [.ref lenv])), (lenv, .inl (cA, 96, .inl lenf))]) (kX5_isOutside l D cA F    a2 (0 : Int32) (2 : Int32) r8 hc8) ⟨hx, hb, hml, hown, hts⟩ (va_cwS 3 hts gX5_run_X5_isOutside rfl rfl rfl (by decide +kernel) ⟨Nat.le_of_ble_eq_true rfl, Nat.le_of_ble_eq_true rfl⟩) hG hst hP hD hS hA [] [0, 1, 2, 3, 4, 5] [0, 1, 2, 3, 4, 5] rfl rfl rfl rfl rfl rfl hl.1 rfl rfl (Nat.le_of_ble_eq_true rfl) dX5_run_8 ⟨Nat.zero_le _, Nat.zero_le _⟩ (fun H locs hP hD hS => ?_)
    refine lv_if_eq (tgt := 16) hx hb dX5_run_11 (by decide) (fun c11 => ?_) (fun c11 => ?_)
    · have h := i_t c11 h
      refine lv_iload_n hx hb dX5_run_16 rfl (lv_at hl 1 rfl) ?_
      refine lv_iconst (v := (-1 : Int32)) hx hb dX5_run_17 (by decide) ?_
      refine lv_icmp_ne (tgt := 29) hx hb dX5_run_18 (by decide) (fun c18 => ?_) (fun c18 => ?_)
      · have h := i_f c18 h
        refine lv_iload_n hx hb dX5_run_29 rfl (lv_at hl 1 rfl) ?_
        refine lv_aload_n hx hb dX5_run_30 rfl (lv_at hl 0 rfl) ?_
        refine va_get (D := D) (cl := vwCl) (ci := 5) (v := .ref so) (C := RX5) (T := TX5) (N := 9) hx hb hts hinX5 hown hG.1 hP 0 rfl rfl 5 (by decide) fl34 (fun _ h9 => h9) rfl dX5_run_31 ?_
        refine va_getN (D := D) (cl := vwCl) (ci := 3) (v := .int sdep) (C := RX3) (T := TX3) (N := 12) hx hb hts hinX3 hown hG.1 hP 1 rfl rfl 9 (by decide) (hG.2.f 10 rfl) (fun _ h9 => h9) rfl dX5_run_34 ?_
        refine lv_icmp_lt (tgt := 43) hx hb dX5_run_37 (by decide) (fun c37 => ?_) (fun c37 => ?_)
        · have h := i_t c37 h
          refine lv_iload_n hx hb dX5_run_43 rfl (lv_at hl 2 rfl) ?_
          refine lv_iconst (v := (2 : Int32)) hx hb dX5_run_44 (by decide) ?_
          refine lv_icmp_ne (tgt := 57) hx hb dX5_run_45 (by decide) (fun c45 => ?_) (fun c45 => ?_)
          · have h := i_f c45 h
            refine lv_iload_n hx hb dX5_run_57 rfl (lv_at hl 2 rfl) ?_
            refine lv_if_ne (tgt := 75) hx hb dX5_run_58 (by decide) (fun c58 => ?_) (fun c58 => ?_)
            · have h := i_f c58 h
              refine lv_aload_n hx hb dX5_run_75 rfl (lv_at hl 0 rfl) ?_
              refine va_get (D := D) (cl := vwCl) (ci := 5) (v := .ref so) (C := RX5) (T := TX5) (N := 9) hx hb hts hinX5 hown hG.1 hP 0 rfl rfl 5 (by decide) fl34 (fun _ h9 => h9) rfl dX5_run_76 ?_
              refine va_getN (D := D) (cl := vwCl) (ci := 3) (v := .ref leno) (C := RX3) (T := TX3) (N := 12) hx hb hts hinX3 hown hG.1 hP 1 rfl rfl 3 (by decide) (hG.2.f 9 rfl) (fun _ h9 => h9) rfl dX5_run_79 ?_
              refine lv_iload_n hx hb dX5_run_82 rfl (lv_at hl 1 rfl) ?_
              obtain ⟨r83, hc83, h⟩ := bd1_some h
              refine ct_VN (As := [.int a1]) (rest := []) (st1 := [.int r83]) (wf := [(xo, .inr (5, [.ref txto, .int xlet, .ref laio, .int xrec, .ref rulo, .ref so, .ref oso, .ref ajo, .ref aso])), (so, .inr (3, [.ref rowo, .ref talo, .ref plao, .ref leno, .ref jo, .ref mo, .int srec, .int spol, .int slea, .int sdep, .int sinr, .int swai])), (plao, .inr (0, [.ref plav])), (plav, .inl (cA, 96, .inl plaf)), (leno, .inr (0, [.ref lenv])), (lenv, .inl (cA, 96, .inl lenf))]) (kX0_look l D cA F leno lenv 96 lenf a1 r83 hc83) ⟨hx, hb, hml, hown, hts⟩ ⟨va_cnB 1 hts gX5_run_X0_look_n84 rfl rfl rfl (hG.2.m 10 rfl) (hts (.initialized RX0) (by decide +kernel)) (by decide +kernel) ⟨Nat.le_of_ble_eq_true rfl, Nat.le_of_ble_eq_true rfl⟩, hts (.instanceMethod yX0_look) (by decide +kernel), hts (.selects RX0 yX0_look yX0_look) (by decide +kernel)⟩ hG hst hP hD hS hA 0 rfl rfl rfl [4, 5] [0, 1, 2, 3] [0, 1, 2, 3, 4, 5] rfl rfl rfl rfl rfl rfl hl.1 rfl rfl (Nat.le_of_ble_eq_true rfl) dX5_run_83 ⟨Nat.zero_le _, Nat.zero_le _⟩ (fun H locs hP hD hS => ?_)
              cases h
              exact rt_i hx hb hr hlocks hP hD hS dX5_run_86
            · have h := i_t c58 h
              refine lv_aload_n hx hb dX5_run_61 rfl (lv_at hl 0 rfl) ?_
              refine va_get (D := D) (cl := vwCl) (ci := 5) (v := .ref so) (C := RX5) (T := TX5) (N := 9) hx hb hts hinX5 hown hG.1 hP 0 rfl rfl 5 (by decide) fl34 (fun _ h9 => h9) rfl dX5_run_62 ?_
              refine va_getN (D := D) (cl := vwCl) (ci := 3) (v := .ref plao) (C := RX3) (T := TX3) (N := 12) hx hb hts hinX3 hown hG.1 hP 1 rfl rfl 2 (by decide) (hG.2.f 8 rfl) (fun _ h9 => h9) rfl dX5_run_65 ?_
              refine lv_iload_n hx hb dX5_run_68 rfl (lv_at hl 1 rfl) ?_
              obtain ⟨r69, hc69, h⟩ := bd1_some h
              refine ct_VN (As := [.int a1]) (rest := []) (st1 := [.int r69]) (wf := [(xo, .inr (5, [.ref txto, .int xlet, .ref laio, .int xrec, .ref rulo, .ref so, .ref oso, .ref ajo, .ref aso])), (so, .inr (3, [.ref rowo, .ref talo, .ref plao, .ref leno, .ref jo, .ref mo, .int srec, .int spol, .int slea, .int sdep, .int sinr, .int swai])), (plao, .inr (0, [.ref plav])), (plav, .inl (cA, 96, .inl plaf)), (leno, .inr (0, [.ref lenv])), (lenv, .inl (cA, 96, .inl lenf))]) (kX0_look l D cA F plao plav 96 plaf a1 r69 hc69) ⟨hx, hb, hml, hown, hts⟩ ⟨va_cnB 1 hts gX5_run_X0_look_n84 rfl rfl rfl (hG.2.m 10 rfl) (hts (.initialized RX0) (by decide +kernel)) (by decide +kernel) ⟨Nat.le_of_ble_eq_true rfl, Nat.le_of_ble_eq_true rfl⟩, hts (.instanceMethod yX0_look) (by decide +kernel), hts (.selects RX0 yX0_look yX0_look) (by decide +kernel)⟩ hG hst hP hD hS hA 0 rfl rfl rfl [2, 3] [0, 1, 4, 5] [0, 1, 4, 5, 2, 3] rfl rfl rfl rfl rfl rfl hl.1 rfl rfl (Nat.le_of_ble_eq_true rfl) dX5_run_69 ⟨Nat.zero_le _, Nat.zero_le _⟩ (fun H locs hP hD hS => ?_)
              refine lv_goto (tgt := 86) hx hb dX5_run_72 (by decide) ?_
              cases h
              exact rt_i hx hb hr hlocks hP hD hS dX5_run_86
          · have h := i_t c45 h
            refine lv_aload_n hx hb dX5_run_48 rfl (lv_at hl 0 rfl) ?_
            refine va_get (D := D) (cl := vwCl) (ci := 5) (v := .ref so) (C := RX5) (T := TX5) (N := 9) hx hb hts hinX5 hown hG.1 hP 0 rfl rfl 5 (by decide) fl34 (fun _ h9 => h9) rfl dX5_run_49 ?_
            refine lv_iload_n hx hb dX5_run_52 rfl (lv_at hl 1 rfl) ?_
            obtain ⟨r53, hc53, h⟩ := bd1_some h
            refine ct_VN (As := [.int a1]) (rest := []) (st1 := [.int r53]) (wf := [(xo, .inr (5, [.ref txto, .int xlet, .ref laio, .int xrec, .ref rulo, .ref so, .ref oso, .ref ajo, .ref aso])), (so, .inr (3, [.ref rowo, .ref talo, .ref plao, .ref leno, .ref jo, .ref mo, .int srec, .int spol, .int slea, .int sdep, .int sinr, .int swai])), (plao, .inr (0, [.ref plav])), (plav, .inl (cA, 96, .inl plaf)), (leno, .inr (0, [.ref lenv])), (lenv, .inl (cA, 96, .inl lenf))]) (kX3_powerBehind l D cA F so rowo talo plao leno jo mo plav lenv  srec spol slea sdep sinr swai plaf lenf a1 r53 hc53) ⟨hx, hb, hml, hown, hts⟩ ⟨va_cnB 1 hts gX5_run_X3_powerBehind_n126 rfl rfl rfl (hG.2.m 35 rfl) (hts (.initialized RX3) (by decide +kernel)) (by decide +kernel) ⟨Nat.le_of_ble_eq_true rfl, Nat.le_of_ble_eq_true rfl⟩, hts (.instanceMethod yX3_powerBehind) (by decide +kernel), hts (.selects RX3 yX3_powerBehind yX3_powerBehind) (by decide +kernel)⟩ hG hst hP hD hS hA 3 rfl rfl rfl [1, 2, 3, 4, 5] [0] [0, 1, 2, 3, 4, 5] rfl rfl rfl rfl rfl rfl hl.1 rfl rfl (Nat.le_of_ble_eq_true rfl) dX5_run_53 ⟨Nat.zero_le _, Nat.zero_le _⟩ (fun H locs hP hD hS => ?_)
            cases h
            exact rt_i hx hb hr hlocks hP hD hS dX5_run_56
        · have h := i_f c37 h
          refine lv_bipush (v := (-4 : Int32)) hx hb dX5_run_40 (by decide) ?_
          cases h
          exact rt_i hx hb hr hlocks hP hD hS dX5_run_42
      · have h := i_t c18 h
        refine lv_aload_n hx hb dX5_run_21 rfl (lv_at hl 0 rfl) ?_
        refine va_get (D := D) (cl := vwCl) (ci := 5) (v := .ref so) (C := RX5) (T := TX5) (N := 9) hx hb hts hinX5 hown hG.1 hP 0 rfl rfl 5 (by decide) fl34 (fun _ h9 => h9) rfl dX5_run_22 ?_
        refine va_getN (D := D) (cl := vwCl) (ci := 3) (v := .int sdep) (C := RX3) (T := TX3) (N := 12) hx hb hts hinX3 hown hG.1 hP 1 rfl rfl 9 (by decide) (hG.2.f 10 rfl) (fun _ h9 => h9) rfl dX5_run_25 ?_
        cases h
        exact rt_i hx hb hr hlocks hP hD hS dX5_run_28
    · have h := i_f c11 h
      refine lv_iconst (v := (-1 : Int32)) hx hb dX5_run_14 (by decide) ?_
      cases h
      exact rt_i hx hb hr hlocks hP hD hS dX5_run_15
set_option maxHeartbeats 4000000 in
set_option maxRecDepth 100000 in
theorem kX5_waiting (l : Launch) (D : va_G) (cA : ClassId) (F : Nat) (xo : Nat) (txto : Nat) (laio : Nat) (rulo : Nat) (so : Nat) (oso : Nat) (ajo : Nat) (aso : Nat) (rowo : Nat) (talo : Nat) (plao : Nat) (leno : Nat) (jo : Nat) (mo : Nat) (xlet : Int32) (xrec : Int32) (srec : Int32) (spol : Int32) (slea : Int32) (sdep : Int32) (sinr : Int32) (swai : Int32) (r0 : Int32) (h : mX5_waiting F swai = some r0) : Ct l yX5_waiting wsX5_waiting ({ frames := 0, cells := 0, slots := 0, locals := 0 }) D cA [.ref xo] [(xo, .inr (5, [.ref txto, .int xlet, .ref laio, .int xrec, .ref rulo, .ref so, .ref oso, .ref ajo, .ref aso])), (so, .inr (3, [.ref rowo, .ref talo, .ref plao, .ref leno, .ref jo, .ref mo, .int srec, .int spol, .int slea, .int sdep, .int sinr, .int swai]))] [(xo, .inr (5, [.ref txto, .int xlet, .ref laio, .int xrec, .ref rulo, .ref so, .ref oso, .ref ajo, .ref aso])), (so, .inr (3, [.ref rowo, .ref talo, .ref plao, .ref leno, .ref jo, .ref mo, .int srec, .int spol, .int slea, .int sdep, .int sinr, .int swai]))] (some (.int r0)) := by
  refine Ct.of (cc := cX5_waiting) (maxL := 1) (ret := (some .int)) (by decide) rfl (Nat.le_of_ble_eq_true rfl) ?_
  intro p e s m below meth c A ls hcx hG hst hA hP hD hl
  obtain ⟨hx, hb, hml, hown, hts, hr, hlocks⟩ := id hcx
  have hown : s.vm.findClass RX5 = some m.cls := hown
  have hS : va_S A s.heap s.heap [] := va_S.rf
  have hl : lv_has ls 1 [(0, .ref xo)] := hl
  have hinX3 : ∀ w ∈ u_ws RX3 TX3 12, w ∈ wsX5_waiting := by decide +kernel
  have hinX5 : ∀ w ∈ u_ws RX5 TX5 9, w ∈ wsX5_waiting := by decide +kernel
  have fl34 := hts (.fieldLink RX5 34 "RunSorter" "sorter" "LRunSorter$Sorter;") (by decide +kernel)
  unfold mX5_waiting at h
  refine lv_aload_n hx hb dX5_waiting_0 rfl (lv_at hl 0 rfl) ?_
  refine va_get (D := D) (cl := vwCl) (ci := 5) (v := .ref so) (C := RX5) (T := TX5) (N := 9) hx hb hts hinX5 hown hG.1 hP 0 rfl rfl 5 (by decide) fl34 (fun _ h9 => h9) rfl dX5_waiting_1 ?_
  refine va_getN (D := D) (cl := vwCl) (ci := 3) (v := .int swai) (C := RX3) (T := TX3) (N := 12) hx hb hts hinX3 hown hG.1 hP 1 rfl rfl 11 (by decide) (hG.2.f 12 rfl) (fun _ h9 => h9) rfl dX5_waiting_4 ?_
  refine lv_if_le (tgt := 20) hx hb dX5_waiting_7 (by decide) (fun c7 => ?_) (fun c7 => ?_)
  · have h := i_t c7 h
    refine lv_bipush (v := (-4 : Int32)) hx hb dX5_waiting_20 (by decide) ?_
    cases h
    exact rt_i hx hb hr hlocks hP hD hS dX5_waiting_22
  · have h := i_f c7 h
    refine lv_aload_n hx hb dX5_waiting_10 rfl (lv_at hl 0 rfl) ?_
    refine va_get (D := D) (cl := vwCl) (ci := 5) (v := .ref so) (C := RX5) (T := TX5) (N := 9) hx hb hts hinX5 hown hG.1 hP 0 rfl rfl 5 (by decide) fl34 (fun _ h9 => h9) rfl dX5_waiting_11 ?_
    refine va_getN (D := D) (cl := vwCl) (ci := 3) (v := .int swai) (C := RX3) (T := TX3) (N := 12) hx hb hts hinX3 hown hG.1 hP 1 rfl rfl 11 (by decide) (hG.2.f 12 rfl) (fun _ h9 => h9) rfl dX5_waiting_14 ?_
    refine lv_goto (tgt := 22) hx hb dX5_waiting_17 (by decide) ?_
    cases h
    exact rt_i hx hb hr hlocks hP hD hS dX5_waiting_22
set_option maxHeartbeats 4000000 in
set_option maxRecDepth 100000 in
theorem kX5_due (l : Launch) (D : va_G) (cA : ClassId) (F : Nat) (xo : Nat) (txto : Nat) (laio : Nat) (rulo : Nat) (so : Nat) (oso : Nat) (ajo : Nat) (aso : Nat) (rowo : Nat) (talo : Nat) (plao : Nat) (leno : Nat) (jo : Nat) (mo : Nat) (plav : Nat) (lenv : Nat) (xlet : Int32) (xrec : Int32) (srec : Int32) (spol : Int32) (slea : Int32) (sdep : Int32) (sinr : Int32) (swai : Int32) (plaf : (Nat → Int32)) (lenf : (Nat → Int32)) (r0 : Int32) (h : mX5_due F srec spol sdep sinr swai plaf lenf = some r0) : Ct l yX5_due wsX5_due ({ frames := 5, cells := 0, slots := 0, locals := 104 }) D cA [.ref xo] [(xo, .inr (5, [.ref txto, .int xlet, .ref laio, .int xrec, .ref rulo, .ref so, .ref oso, .ref ajo, .ref aso])), (so, .inr (3, [.ref rowo, .ref talo, .ref plao, .ref leno, .ref jo, .ref mo, .int srec, .int spol, .int slea, .int sdep, .int sinr, .int swai])), (plao, .inr (0, [.ref plav])), (plav, .inl (cA, 96, .inl plaf)), (leno, .inr (0, [.ref lenv])), (lenv, .inl (cA, 96, .inl lenf))] [(xo, .inr (5, [.ref txto, .int xlet, .ref laio, .int xrec, .ref rulo, .ref so, .ref oso, .ref ajo, .ref aso])), (so, .inr (3, [.ref rowo, .ref talo, .ref plao, .ref leno, .ref jo, .ref mo, .int srec, .int spol, .int slea, .int sdep, .int sinr, .int swai])), (plao, .inr (0, [.ref plav])), (plav, .inl (cA, 96, .inl plaf)), (leno, .inr (0, [.ref lenv])), (lenv, .inl (cA, 96, .inl lenf))] (some (.int r0)) := by
  refine Ct.of (cc := cX5_due) (maxL := 1) (ret := (some .int)) (by decide) rfl (Nat.le_of_ble_eq_true rfl) ?_
  intro p e s m below meth c A ls hcx hG hst hA hP hD hl
  obtain ⟨hx, hb, hml, hown, hts, hr, hlocks⟩ := id hcx
  have hown : s.vm.findClass RX5 = some m.cls := hown
  have hS : va_S A s.heap s.heap [] := va_S.rf
  have hl : lv_has ls 1 [(0, .ref xo)] := hl
  have hinX5 : ∀ w ∈ u_ws RX5 TX5 9, w ∈ wsX5_due := by decide +kernel
  have fl34 := hts (.fieldLink RX5 34 "RunSorter" "sorter" "LRunSorter$Sorter;") (by decide +kernel)
  unfold mX5_due at h
  refine lv_aload_n hx hb dX5_due_0 rfl (lv_at hl 0 rfl) ?_
  refine va_get (D := D) (cl := vwCl) (ci := 5) (v := .ref so) (C := RX5) (T := TX5) (N := 9) hx hb hts hinX5 hown hG.1 hP 0 rfl rfl 5 (by decide) fl34 (fun _ h9 => h9) rfl dX5_due_1 ?_
  obtain ⟨r4, hc4, h⟩ := bd1_some h
  refine ct_VN (As := []) (rest := []) (st1 := [.int r4]) (wf := [(xo, .inr (5, [.ref txto, .int xlet, .ref laio, .int xrec, .ref rulo, .ref so, .ref oso, .ref ajo, .ref aso])), (so, .inr (3, [.ref rowo, .ref talo, .ref plao, .ref leno, .ref jo, .ref mo, .int srec, .int spol, .int slea, .int sdep, .int sinr, .int swai])), (plao, .inr (0, [.ref plav])), (plav, .inl (cA, 96, .inl plaf)), (leno, .inr (0, [.ref lenv])), (lenv, .inl (cA, 96, .inl lenf))]) (kX3_firstToMerge l D cA F so rowo talo plao leno jo mo plav lenv  srec spol slea sdep sinr swai plaf lenf  r4 hc4) ⟨hx, hb, hml, hown, hts⟩ ⟨va_cnB 0 hts gX5_due_X3_firstToMerge_n138 rfl rfl rfl (hG.2.m 36 rfl) (hts (.initialized RX3) (by decide +kernel)) (by decide +kernel) ⟨Nat.le_of_ble_eq_true rfl, Nat.le_of_ble_eq_true rfl⟩, hts (.instanceMethod yX3_firstToMerge) (by decide +kernel), hts (.selects RX3 yX3_firstToMerge yX3_firstToMerge) (by decide +kernel)⟩ hG hst hP hD hS hA 3 rfl rfl rfl [1, 2, 3, 4, 5] [0] [0, 1, 2, 3, 4, 5] rfl rfl rfl rfl rfl rfl hl.1 rfl rfl (Nat.le_of_ble_eq_true rfl) dX5_due_4 ⟨Nat.zero_le _, Nat.zero_le _⟩ (fun H locs hP hD hS => ?_)
  cases h
  exact rt_i hx hb hr hlocks hP hD hS dX5_due_7
set_option maxHeartbeats 4000000 in
set_option maxRecDepth 100000 in
theorem kX5_cost (l : Launch) (D : va_G) (cA : ClassId) (F : Nat) (xo : Nat) (txto : Nat) (laio : Nat) (rulo : Nat) (so : Nat) (oso : Nat) (ajo : Nat) (aso : Nat) (rowo : Nat) (talo : Nat) (plao : Nat) (leno : Nat) (jo : Nat) (mo : Nat) (talv : Nat) (xlet : Int32) (xrec : Int32) (srec : Int32) (spol : Int32) (slea : Int32) (sdep : Int32) (sinr : Int32) (swai : Int32) (talf : (Nat → Int32)) (a1 : Int32) (r0 : Int32) (h : mX5_cost F talf a1 = some r0) : Ct l yX5_cost wsX5_cost ({ frames := 1, cells := 0, slots := 0, locals := 22 }) D cA [.ref xo, .int a1] [(xo, .inr (5, [.ref txto, .int xlet, .ref laio, .int xrec, .ref rulo, .ref so, .ref oso, .ref ajo, .ref aso])), (so, .inr (3, [.ref rowo, .ref talo, .ref plao, .ref leno, .ref jo, .ref mo, .int srec, .int spol, .int slea, .int sdep, .int sinr, .int swai])), (talo, .inr (0, [.ref talv])), (talv, .inl (cA, 12, .inl talf))] [(xo, .inr (5, [.ref txto, .int xlet, .ref laio, .int xrec, .ref rulo, .ref so, .ref oso, .ref ajo, .ref aso])), (so, .inr (3, [.ref rowo, .ref talo, .ref plao, .ref leno, .ref jo, .ref mo, .int srec, .int spol, .int slea, .int sdep, .int sinr, .int swai])), (talo, .inr (0, [.ref talv])), (talv, .inl (cA, 12, .inl talf))] (some (.int r0)) := by
  refine Ct.of (cc := cX5_cost) (maxL := 2) (ret := (some .int)) (by decide) rfl (Nat.le_of_ble_eq_true rfl) ?_
  intro p e s m below meth c A ls hcx hG hst hA hP hD hl
  obtain ⟨hx, hb, hml, hown, hts, hr, hlocks⟩ := id hcx
  have hown : s.vm.findClass RX5 = some m.cls := hown
  have hS : va_S A s.heap s.heap [] := va_S.rf
  have hl : lv_has ls 2 [(0, .ref xo), (1, .int a1)] := hl
  have hinX3 : ∀ w ∈ u_ws RX3 TX3 12, w ∈ wsX5_cost := by decide +kernel
  have hinX5 : ∀ w ∈ u_ws RX5 TX5 9, w ∈ wsX5_cost := by decide +kernel
  have fl34 := hts (.fieldLink RX5 34 "RunSorter" "sorter" "LRunSorter$Sorter;") (by decide +kernel)
  unfold mX5_cost at h
  refine lv_iload_n hx hb dX5_cost_0 rfl (lv_at hl 1 rfl) ?_
  refine lv_iconst (v := (0 : Int32)) hx hb dX5_cost_1 (by decide) ?_
  refine lv_bipush (v := (11 : Int32)) hx hb dX5_cost_2 (by decide) ?_
  obtain ⟨r4, hc4, h⟩ := bd1_some h
  refine ct_S (As := [.int a1, .int (0 : Int32), .int (11 : Int32)]) (rest := []) (st1 := [.int r4]) (wf := [(xo, .inr (5, [.ref txto, .int xlet, .ref laio, .int xrec, .ref rulo, .ref so, .ref oso, .ref ajo, .ref aso])), (so, .inr (3, [.ref rowo, .ref talo, .ref plao, .ref leno, .ref jo, .ref mo, .int srec, .int spol, .int slea, .int sdep, .int sinr, .int swai])), (talo, .inr (0, [.ref talv])), (talv, .inl (cA, 12, .inl talf))]) (kX5_isOutside l D cA F    a1 (0 : Int32) (11 : Int32) r4 hc4) ⟨hx, hb, hml, hown, hts⟩ (va_cwS 3 hts gX5_cost_X5_isOutside rfl rfl rfl (by decide +kernel) ⟨Nat.le_of_ble_eq_true rfl, Nat.le_of_ble_eq_true rfl⟩) hG hst hP hD hS hA [] [0, 1, 2, 3] [0, 1, 2, 3] rfl rfl rfl rfl rfl rfl hl.1 rfl rfl (Nat.le_of_ble_eq_true rfl) dX5_cost_4 ⟨Nat.zero_le _, Nat.zero_le _⟩ (fun H locs hP hD hS => ?_)
  refine lv_if_eq (tgt := 14) hx hb dX5_cost_7 (by decide) (fun c7 => ?_) (fun c7 => ?_)
  · have h := i_t c7 h
    refine lv_aload_n hx hb dX5_cost_14 rfl (lv_at hl 0 rfl) ?_
    refine va_get (D := D) (cl := vwCl) (ci := 5) (v := .ref so) (C := RX5) (T := TX5) (N := 9) hx hb hts hinX5 hown hG.1 hP 0 rfl rfl 5 (by decide) fl34 (fun _ h9 => h9) rfl dX5_cost_15 ?_
    refine va_getN (D := D) (cl := vwCl) (ci := 3) (v := .ref talo) (C := RX3) (T := TX3) (N := 12) hx hb hts hinX3 hown hG.1 hP 1 rfl rfl 1 (by decide) (hG.2.f 7 rfl) (fun _ h9 => h9) rfl dX5_cost_18 ?_
    refine lv_iload_n hx hb dX5_cost_21 rfl (lv_at hl 1 rfl) ?_
    obtain ⟨r22, hc22, h⟩ := bd1_some h
    refine ct_VN (As := [.int a1]) (rest := []) (st1 := [.int r22]) (wf := [(xo, .inr (5, [.ref txto, .int xlet, .ref laio, .int xrec, .ref rulo, .ref so, .ref oso, .ref ajo, .ref aso])), (so, .inr (3, [.ref rowo, .ref talo, .ref plao, .ref leno, .ref jo, .ref mo, .int srec, .int spol, .int slea, .int sdep, .int sinr, .int swai])), (talo, .inr (0, [.ref talv])), (talv, .inl (cA, 12, .inl talf))]) (kX0_look l D cA F talo talv 12 talf a1 r22 hc22) ⟨hx, hb, hml, hown, hts⟩ ⟨va_cnB 1 hts gX5_cost_X0_look_n84 rfl rfl rfl (hG.2.m 10 rfl) (hts (.initialized RX0) (by decide +kernel)) (by decide +kernel) ⟨Nat.le_of_ble_eq_true rfl, Nat.le_of_ble_eq_true rfl⟩, hts (.instanceMethod yX0_look) (by decide +kernel), hts (.selects RX0 yX0_look yX0_look) (by decide +kernel)⟩ hG hst hP hD hS hA 0 rfl rfl rfl [2, 3] [0, 1] [0, 1, 2, 3] rfl rfl rfl rfl rfl rfl hl.1 rfl rfl (Nat.le_of_ble_eq_true rfl) dX5_cost_22 ⟨Nat.zero_le _, Nat.zero_le _⟩ (fun H locs hP hD hS => ?_)
    cases h
    exact rt_i hx hb hr hlocks hP hD hS dX5_cost_25
  · have h := i_f c7 h
    refine lv_iconst (v := (-1 : Int32)) hx hb dX5_cost_10 (by decide) ?_
    refine lv_goto (tgt := 25) hx hb dX5_cost_11 (by decide) ?_
    cases h
    exact rt_i hx hb hr hlocks hP hD hS dX5_cost_25
