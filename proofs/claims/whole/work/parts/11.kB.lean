/-! contracts, by program (wip/whole/gen.py) -/
set_option maxHeartbeats 4000000 in
set_option maxRecDepth 100000 in
theorem kX2_bothAreLeft (l : Launch) (D : va_G) (cA : ClassId) (F : Nat) (mo : Nat) (rowo : Nat) (roomo : Nat) (talo : Nat) (jo : Nat) (ao : Nat) (bo : Nat) (ra : Nat) (rb : Nat) (mtar : Int32) (mdir : Int32) (ea : Int32) (da : Int32) (la : Int32) (eb : Int32) (db : Int32) (lb : Int32) (r0 : Int32) (h : mX2_bothAreLeft F la lb = some r0) : Ct l yX2_bothAreLeft wsX2_bothAreLeft ({ frames := 0, cells := 0, slots := 0, locals := 0 }) D cA [.ref mo] [(mo, .inr (2, [.ref rowo, .ref roomo, .ref talo, .ref jo, .ref ao, .ref bo, .int mtar, .int mdir])), (ao, .inr (4, [.ref ra, .int ea, .int da, .int la])), (bo, .inr (4, [.ref rb, .int eb, .int db, .int lb]))] [(mo, .inr (2, [.ref rowo, .ref roomo, .ref talo, .ref jo, .ref ao, .ref bo, .int mtar, .int mdir])), (ao, .inr (4, [.ref ra, .int ea, .int da, .int la])), (bo, .inr (4, [.ref rb, .int eb, .int db, .int lb]))] (some (.int r0)) := by
  refine Ct.of (cc := cX2_bothAreLeft) (maxL := 1) (ret := (some .boolean)) (by decide) rfl (Nat.le_of_ble_eq_true rfl) ?_
  intro p e s m below meth c A ls hcx hG hst hA hP hD hl
  obtain ⟨hx, hb, hml, hown, hts, hr, hlocks⟩ := id hcx
  have hown : s.vm.findClass RX2 = some m.cls := hown
  have hS : va_S A s.heap s.heap [] := va_S.rf
  have hl : lv_has ls 1 [(0, .ref mo)] := hl
  have hinX2 : ∀ w ∈ u_ws RX2 TX2 8, w ∈ wsX2_bothAreLeft := by decide +kernel
  have hinX4 : ∀ w ∈ u_ws RX4 TX4 4, w ∈ wsX2_bothAreLeft := by decide +kernel
  have fl42 := hts (.fieldLink RX2 42 "RunSorter$Merger" "a" "LRunSorter$Span;") (by decide +kernel)
  have fl46 := hts (.fieldLink RX2 46 "RunSorter$Merger" "b" "LRunSorter$Span;") (by decide +kernel)
  unfold mX2_bothAreLeft at h
  refine lv_aload_n hx hb dX2_bothAreLeft_0 rfl (lv_at hl 0 rfl) ?_
  refine va_get (D := D) (cl := vwCl) (ci := 2) (v := .ref ao) (C := RX2) (T := TX2) (N := 8) hx hb hts hinX2 hown hG.1 hP 0 rfl rfl 4 (by decide) fl42 (fun _ h9 => h9) rfl dX2_bothAreLeft_1 ?_
  refine va_getN (D := D) (cl := vwCl) (ci := 4) (v := .int la) (C := RX4) (T := TX4) (N := 4) hx hb hts hinX4 hown hG.1 hP 1 rfl rfl 3 (by decide) (hG.2.f 4 rfl) (fun _ h9 => h9) rfl dX2_bothAreLeft_4 ?_
  refine lv_if_le (tgt := 24) hx hb dX2_bothAreLeft_7 (by decide) (fun c7 => ?_) (fun c7 => ?_)
  · have h := i_t c7 h
    refine lv_iconst (v := (0 : Int32)) hx hb dX2_bothAreLeft_24 (by decide) ?_
    obtain ⟨hz25, h⟩ := bz_some h
    cases h
    exact rt_z hx hb hr hlocks hz25 hP hD hS dX2_bothAreLeft_25
  · have h := i_f c7 h
    refine lv_aload_n hx hb dX2_bothAreLeft_10 rfl (lv_at hl 0 rfl) ?_
    refine va_get (D := D) (cl := vwCl) (ci := 2) (v := .ref bo) (C := RX2) (T := TX2) (N := 8) hx hb hts hinX2 hown hG.1 hP 0 rfl rfl 5 (by decide) fl46 (fun _ h9 => h9) rfl dX2_bothAreLeft_11 ?_
    refine va_getN (D := D) (cl := vwCl) (ci := 4) (v := .int lb) (C := RX4) (T := TX4) (N := 4) hx hb hts hinX4 hown hG.1 hP 2 rfl rfl 3 (by decide) (hG.2.f 4 rfl) (fun _ h9 => h9) rfl dX2_bothAreLeft_14 ?_
    refine lv_if_le (tgt := 24) hx hb dX2_bothAreLeft_17 (by decide) (fun c17 => ?_) (fun c17 => ?_)
    · have h := i_t c17 h
      refine lv_iconst (v := (0 : Int32)) hx hb dX2_bothAreLeft_24 (by decide) ?_
      obtain ⟨hz25, h⟩ := bz_some h
      cases h
      exact rt_z hx hb hr hlocks hz25 hP hD hS dX2_bothAreLeft_25
    · have h := i_f c17 h
      refine lv_iconst (v := (1 : Int32)) hx hb dX2_bothAreLeft_20 (by decide) ?_
      refine lv_goto (tgt := 25) hx hb dX2_bothAreLeft_21 (by decide) ?_
      obtain ⟨hz25, h⟩ := bz_some h
      cases h
      exact rt_z hx hb hr hlocks hz25 hP hD hS dX2_bothAreLeft_25
set_option maxHeartbeats 4000000 in
set_option maxRecDepth 100000 in
theorem kX2_bringIntoRoom (l : Launch) (D : va_G) (cA : ClassId) (F : Nat) (mo : Nat) (po : Nat) (rowo : Nat) (roomo : Nat) (talo : Nat) (jo : Nat) (ao : Nat) (bo : Nat) (roomv : Nat) (talv : Nat) (rowv : Nat) (mtar : Int32) (mdir : Int32) (roomf : (Nat → Int32)) (talf : (Nat → Int32)) (pe : Int32) (pd : Int32) (pl : Int32) (rowf : (Nat → Int32)) (roomf_9 : (Nat → Int32)) (talf_9 : (Nat → Int32)) (h : mX2_bringIntoRoom F roomf talf pe pd pl rowf = some (roomf_9, talf_9)) : Ct l yX2_bringIntoRoom wsX2_bringIntoRoom ({ frames := 2, cells := 0, slots := 0, locals := 42 }) D cA [.ref mo, .ref po] [(mo, .inr (2, [.ref rowo, .ref roomo, .ref talo, .ref jo, .ref ao, .ref bo, .int mtar, .int mdir])), (roomo, .inr (0, [.ref roomv])), (roomv, .inl (cA, 48, .inl roomf)), (talo, .inr (0, [.ref talv])), (talv, .inl (cA, 12, .inl talf)), (po, .inr (4, [.ref rowo, .int pe, .int pd, .int pl])), (rowo, .inr (0, [.ref rowv])), (rowv, .inl (cA, 96, .inl rowf))] [(mo, .inr (2, [.ref rowo, .ref roomo, .ref talo, .ref jo, .ref ao, .ref bo, .int mtar, .int mdir])), (roomo, .inr (0, [.ref roomv])), (roomv, .inl (cA, 48, .inl roomf_9)), (talo, .inr (0, [.ref talv])), (talv, .inl (cA, 12, .inl talf_9)), (po, .inr (4, [.ref rowo, .int pe, .int pd, .int pl])), (rowo, .inr (0, [.ref rowv])), (rowv, .inl (cA, 96, .inl rowf))] (none) := by
  refine Ct.of (cc := cX2_bringIntoRoom) (maxL := 3) (ret := none) (by decide) rfl (Nat.le_of_ble_eq_true rfl) ?_
  intro p e s m below meth c A ls hcx hG hst hA hP hD hl
  obtain ⟨hx, hb, hml, hown, hts, hr, hlocks⟩ := id hcx
  have hown : s.vm.findClass RX2 = some m.cls := hown
  have hS : va_S A s.heap s.heap [] := va_S.rf
  have hl : lv_has ls 3 [(0, .ref mo), (1, .ref po)] := hl
  have hinX2 : ∀ w ∈ u_ws RX2 TX2 8, w ∈ wsX2_bringIntoRoom := by decide +kernel
  have hinX4 : ∀ w ∈ u_ws RX4 TX4 4, w ∈ wsX2_bringIntoRoom := by decide +kernel
  have fl30 := hts (.fieldLink RX2 30 "RunSorter$Merger" "tally" "LRunSorter$Cells;") (by decide +kernel)
  have fl14 := hts (.fieldLink RX2 14 "RunSorter$Merger" "room" "LRunSorter$Cells;") (by decide +kernel)
  have hmX2_bringIntoRoom_2 : ∀ (n2 : Nat) (x2 : Int32) (roomf : (Nat → Int32)) (talf : (Nat → Int32)) (H : Heap) (locs : List Loc) (ls : Array Slot), mX2_bringIntoRoom_2 F pe pd pl rowf n2 x2 roomf talf = some (roomf_9, talf_9) → va_P D vwCl [(mo, .inr (2, [.ref rowo, .ref roomo, .ref talo, .ref jo, .ref ao, .ref bo, .int mtar, .int mdir])), (roomo, .inr (0, [.ref roomv])), (roomv, .inl (cA, 48, .inl roomf)), (talo, .inr (0, [.ref talv])), (talv, .inl (cA, 12, .inl talf)), (po, .inr (4, [.ref rowo, .int pe, .int pd, .int pl])), (rowo, .inr (0, [.ref rowv])), (rowv, .inl (cA, 96, .inl rowf))] H → va_D A [(mo, .inr (2, [.ref rowo, .ref roomo, .ref talo, .ref jo, .ref ao, .ref bo, .int mtar, .int mdir])), (roomo, .inr (0, [.ref roomv])), (roomv, .inl (cA, 48, .inl roomf)), (talo, .inr (0, [.ref talv])), (talv, .inl (cA, 12, .inl talf)), (po, .inr (4, [.ref rowo, .int pe, .int pd, .int pl])), (rowo, .inr (0, [.ref rowv])), (rowv, .inl (cA, 96, .inl rowf))] → va_S A s.heap H locs → lv_has ls 3 [(0, .ref mo), (1, .ref po), (2, .int x2)] → W p l e ({ frames := 2, cells := 0, slots := 0, locals := 42 }) s m ([.ref mo, .ref po] : List Value).toArray below meth c H locs 0 0 (MQ below (Qw D A [(mo, .inr (2, [.ref rowo, .ref roomo, .ref talo, .ref jo, .ref ao, .ref bo, .int mtar, .int mdir])), (roomo, .inr (0, [.ref roomv])), (roomv, .inl (cA, 48, .inl roomf_9)), (talo, .inr (0, [.ref talv])), (talv, .inl (cA, 12, .inl talf_9)), (po, .inr (4, [.ref rowo, .int pe, .int pd, .int pl])), (rowo, .inr (0, [.ref rowv])), (rowv, .inl (cA, 96, .inl rowf))] (none)) ([.ref mo, .ref po] : List Value).toArray s 0 0 A) (F0 m 2 ls []) := by
    intro n2
    induction n2 with
    | zero => intro x2 roomf talf H locs ls h; exact (no_some h).elim
    | succ n2 ih2 =>
      intro x2 roomf talf H locs ls h hP hD hS hl
      rw [mX2_bringIntoRoom_2] at h
      refine lv_iload_n hx hb dX2_bringIntoRoom_2 rfl (lv_at hl 2 rfl) ?_
      refine lv_aload_n hx hb dX2_bringIntoRoom_3 rfl (lv_at hl 1 rfl) ?_
      refine va_getN (D := D) (cl := vwCl) (ci := 4) (v := .int pl) (C := RX4) (T := TX4) (N := 4) hx hb hts hinX4 hown hG.1 hP 5 rfl rfl 3 (by decide) (hG.2.f 4 rfl) (fun _ h9 => h9) rfl dX2_bringIntoRoom_4 ?_
      refine lv_icmp_ge (tgt := 29) hx hb dX2_bringIntoRoom_7 (by decide) (fun c7 => ?_) (fun c7 => ?_)
      · have h := i_t c7 h
        refine lv_aload_n hx hb dX2_bringIntoRoom_29 rfl (lv_at hl 0 rfl) ?_
        refine va_get (D := D) (cl := vwCl) (ci := 2) (v := .ref talo) (C := RX2) (T := TX2) (N := 8) hx hb hts hinX2 hown hG.1 hP 0 rfl rfl 2 (by decide) fl30 (fun _ h9 => h9) rfl dX2_bringIntoRoom_30 ?_
        refine lv_iconst (v := (1 : Int32)) hx hb dX2_bringIntoRoom_33 (by decide) ?_
        refine lv_aload_n hx hb dX2_bringIntoRoom_34 rfl (lv_at hl 1 rfl) ?_
        refine va_getN (D := D) (cl := vwCl) (ci := 4) (v := .int pl) (C := RX4) (T := TX4) (N := 4) hx hb hts hinX4 hown hG.1 hP 5 rfl rfl 3 (by decide) (hG.2.f 4 rfl) (fun _ h9 => h9) rfl dX2_bringIntoRoom_35 ?_
        obtain ⟨talf_38, hc38, h⟩ := bd1_some h
        refine ct_VN (As := [.int (1 : Int32), .int pl]) (rest := []) (st1 := []) (wf := [(mo, .inr (2, [.ref rowo, .ref roomo, .ref talo, .ref jo, .ref ao, .ref bo, .int mtar, .int mdir])), (roomo, .inr (0, [.ref roomv])), (roomv, .inl (cA, 48, .inl roomf)), (talo, .inr (0, [.ref talv])), (talv, .inl (cA, 12, .inl talf_38)), (po, .inr (4, [.ref rowo, .int pe, .int pd, .int pl])), (rowo, .inr (0, [.ref rowv])), (rowv, .inl (cA, 96, .inl rowf))]) (kX0_add l D cA F talo talv 12 talf (1 : Int32) pl talf_38 hc38) ⟨hx, hb, hml, hown, hts⟩ ⟨va_cnB 2 hts gX2_bringIntoRoom_X0_add_n104 rfl rfl rfl (hG.2.m 30 rfl) (hts (.initialized RX0) (by decide +kernel)) (by decide +kernel) ⟨Nat.le_of_ble_eq_true rfl, Nat.le_of_ble_eq_true rfl⟩, hts (.instanceMethod yX0_add) (by decide +kernel), hts (.selects RX0 yX0_add yX0_add) (by decide +kernel)⟩ hG hst hP hD hS hA 0 rfl rfl rfl [3, 4] [0, 1, 2, 5, 6, 7] [0, 1, 2, 6, 7, 3, 4, 5] rfl rfl rfl rfl rfl rfl hl.1 rfl rfl (Nat.le_of_ble_eq_true rfl) dX2_bringIntoRoom_38 ⟨Nat.zero_le _, Nat.zero_le _⟩ (fun H locs hP hD hS => ?_)
        refine lv_aload_n hx hb dX2_bringIntoRoom_41 rfl (lv_at hl 0 rfl) ?_
        refine va_get (D := D) (cl := vwCl) (ci := 2) (v := .ref talo) (C := RX2) (T := TX2) (N := 8) hx hb hts hinX2 hown hG.1 hP 0 rfl rfl 2 (by decide) fl30 (fun _ h9 => h9) rfl dX2_bringIntoRoom_42 ?_
        refine lv_bipush (v := (7 : Int32)) hx hb dX2_bringIntoRoom_45 (by decide) ?_
        refine lv_aload_n hx hb dX2_bringIntoRoom_47 rfl (lv_at hl 1 rfl) ?_
        refine va_getN (D := D) (cl := vwCl) (ci := 4) (v := .int pl) (C := RX4) (T := TX4) (N := 4) hx hb hts hinX4 hown hG.1 hP 5 rfl rfl 3 (by decide) (hG.2.f 4 rfl) (fun _ h9 => h9) rfl dX2_bringIntoRoom_48 ?_
        obtain ⟨talf_51, hc51, h⟩ := bd1_some h
        refine ct_VN (As := [.int (7 : Int32), .int pl]) (rest := []) (st1 := []) (wf := [(mo, .inr (2, [.ref rowo, .ref roomo, .ref talo, .ref jo, .ref ao, .ref bo, .int mtar, .int mdir])), (roomo, .inr (0, [.ref roomv])), (roomv, .inl (cA, 48, .inl roomf)), (talo, .inr (0, [.ref talv])), (talv, .inl (cA, 12, .inl talf_51)), (po, .inr (4, [.ref rowo, .int pe, .int pd, .int pl])), (rowo, .inr (0, [.ref rowv])), (rowv, .inl (cA, 96, .inl rowf))]) (kX0_raise l D cA F talo talv 12 talf_38 (7 : Int32) pl talf_51 hc51) ⟨hx, hb, hml, hown, hts⟩ ⟨va_cnB 2 hts gX2_bringIntoRoom_X0_raise_n107 rfl rfl rfl (hG.2.m 31 rfl) (hts (.initialized RX0) (by decide +kernel)) (by decide +kernel) ⟨Nat.le_of_ble_eq_true rfl, Nat.le_of_ble_eq_true rfl⟩, hts (.instanceMethod yX0_raise) (by decide +kernel), hts (.selects RX0 yX0_raise yX0_raise) (by decide +kernel)⟩ hG hst hP hD hS hA 0 rfl rfl rfl [3, 4] [0, 1, 2, 5, 6, 7] [0, 1, 2, 6, 7, 3, 4, 5] rfl rfl rfl rfl rfl rfl hl.1 rfl rfl (Nat.le_of_ble_eq_true rfl) dX2_bringIntoRoom_51 ⟨Nat.zero_le _, Nat.zero_le _⟩ (fun H locs hP hD hS => ?_)
        cases h
        exact rt_v hx hb hr hlocks hP hD hS dX2_bringIntoRoom_54
      · have h := i_f c7 h
        refine lv_aload_n hx hb dX2_bringIntoRoom_10 rfl (lv_at hl 0 rfl) ?_
        refine va_get (D := D) (cl := vwCl) (ci := 2) (v := .ref roomo) (C := RX2) (T := TX2) (N := 8) hx hb hts hinX2 hown hG.1 hP 0 rfl rfl 1 (by decide) fl14 (fun _ h9 => h9) rfl dX2_bringIntoRoom_11 ?_
        refine lv_iload_n hx hb dX2_bringIntoRoom_14 rfl (lv_at hl 2 rfl) ?_
        refine lv_aload_n hx hb dX2_bringIntoRoom_15 rfl (lv_at hl 1 rfl) ?_
        refine lv_iload_n hx hb dX2_bringIntoRoom_16 rfl (lv_at hl 2 rfl) ?_
        obtain ⟨r17, hc17, h⟩ := bd1_some h
        refine ct_VN (As := [.int x2]) (rest := [.int x2, .ref roomo]) (st1 := [.int r17, .int x2, .ref roomo]) (wf := [(mo, .inr (2, [.ref rowo, .ref roomo, .ref talo, .ref jo, .ref ao, .ref bo, .int mtar, .int mdir])), (roomo, .inr (0, [.ref roomv])), (roomv, .inl (cA, 48, .inl roomf)), (talo, .inr (0, [.ref talv])), (talv, .inl (cA, 12, .inl talf)), (po, .inr (4, [.ref rowo, .int pe, .int pd, .int pl])), (rowo, .inr (0, [.ref rowv])), (rowv, .inl (cA, 96, .inl rowf))]) (kX4_ahead l D cA F po rowo rowv 96 pe pd pl rowf x2 r17 hc17) ⟨hx, hb, hml, hown, hts⟩ ⟨va_cnB 1 hts gX2_bringIntoRoom_X4_ahead_n80 rfl rfl rfl (hG.2.m 24 rfl) (hts (.initialized RX4) (by decide +kernel)) (by decide +kernel) ⟨Nat.le_of_ble_eq_true rfl, Nat.le_of_ble_eq_true rfl⟩, hts (.instanceMethod yX4_ahead) (by decide +kernel), hts (.selects RX4 yX4_ahead yX4_ahead) (by decide +kernel)⟩ hG hst hP hD hS hA 4 rfl rfl rfl [5, 6, 7] [0, 1, 2, 3, 4] [0, 1, 2, 3, 4, 5, 6, 7] rfl rfl rfl rfl rfl rfl hl.1 rfl rfl (Nat.le_of_ble_eq_true rfl) dX2_bringIntoRoom_17 ⟨Nat.zero_le _, Nat.zero_le _⟩ (fun H locs hP hD hS => ?_)
        obtain ⟨roomf_20, hc20, h⟩ := bd1_some h
        refine ct_VN (As := [.int x2, .int r17]) (rest := []) (st1 := []) (wf := [(mo, .inr (2, [.ref rowo, .ref roomo, .ref talo, .ref jo, .ref ao, .ref bo, .int mtar, .int mdir])), (roomo, .inr (0, [.ref roomv])), (roomv, .inl (cA, 48, .inl roomf_20)), (talo, .inr (0, [.ref talv])), (talv, .inl (cA, 12, .inl talf)), (po, .inr (4, [.ref rowo, .int pe, .int pd, .int pl])), (rowo, .inr (0, [.ref rowv])), (rowv, .inl (cA, 96, .inl rowf))]) (kX0_fill l D cA F roomo roomv 48 roomf x2 r17 roomf_20 hc20) ⟨hx, hb, hml, hown, hts⟩ ⟨va_cnB 2 hts gX2_bringIntoRoom_X0_fill_n100 rfl rfl rfl (hG.2.m 29 rfl) (hts (.initialized RX0) (by decide +kernel)) (by decide +kernel) ⟨Nat.le_of_ble_eq_true rfl, Nat.le_of_ble_eq_true rfl⟩, hts (.instanceMethod yX0_fill) (by decide +kernel), hts (.selects RX0 yX0_fill yX0_fill) (by decide +kernel)⟩ hG hst hP hD hS hA 0 rfl rfl rfl [1, 2] [0, 3, 4, 5, 6, 7] [0, 6, 7, 1, 2, 3, 4, 5] rfl rfl rfl rfl rfl rfl hl.1 rfl rfl (Nat.le_of_ble_eq_true rfl) dX2_bringIntoRoom_20 ⟨Nat.zero_le _, Nat.zero_le _⟩ (fun H locs hP hD hS => ?_)
        refine lv_iinc (v := x2 + (1 : Int32)) (lv' := [(2, .int (x2 + (1 : Int32))), (0, .ref mo), (1, .ref po)]) hx hb dX2_bringIntoRoom_23 hl (k := 2) rfl (congrArg (fun z => x2 + z) (by decide)) (by decide) rfl (fun ls hl => ?_)
        refine lv_goto (tgt := 2) hx hb dX2_bringIntoRoom_26 (by decide) ?_
        exact ih2 (x2 + (1 : Int32)) roomf_20 talf _ _ _ h hP hD hS (lv_sub hl [1, 2, 0] rfl)
  unfold mX2_bringIntoRoom at h
  refine lv_iconst (v := (0 : Int32)) hx hb dX2_bringIntoRoom_0 (by decide) ?_
  refine lv_istore_n (lv' := [(2, .int (0 : Int32)), (0, .ref mo), (1, .ref po)]) hx hb dX2_bringIntoRoom_1 rfl hl (by decide) rfl (fun ls hl => ?_)
  exact hmX2_bringIntoRoom_2 F (0 : Int32) roomf talf _ _ _ h hP hD hS (lv_sub hl [1, 2, 0] rfl)
set_option maxHeartbeats 4000000 in
set_option maxRecDepth 100000 in
theorem kX2_take_r (l : Launch) (D : va_G) (cA : ClassId) (F : Nat) (mo : Nat) (po : Nat) (rowo : Nat) (roomo : Nat) (talo : Nat) (jo : Nat) (ao : Nat) (bo : Nat) (rowv : Nat) (talv : Nat) (mtar : Int32) (mdir : Int32) (rowf : (Nat → Int32)) (talf : (Nat → Int32)) (pe : Int32) (pd : Int32) (pl : Int32) (a2 : Int32) (mtar_9 : Int32) (rowf_9 : (Nat → Int32)) (talf_9 : (Nat → Int32)) (pe_9 : Int32) (pl_9 : Int32) (h : mX2_take_r F mtar mdir rowf talf pe pd pl a2 = some (mtar_9, rowf_9, talf_9, pe_9, pl_9)) : Ct l yX2_take wsX2_take ({ frames := 2, cells := 0, slots := 0, locals := 42 }) D cA [.ref mo, .ref po, .int a2] [(mo, .inr (2, [.ref rowo, .ref roomo, .ref talo, .ref jo, .ref ao, .ref bo, .int mtar, .int mdir])), (rowo, .inr (0, [.ref rowv])), (rowv, .inl (cA, 96, .inl rowf)), (talo, .inr (0, [.ref talv])), (talv, .inl (cA, 12, .inl talf)), (po, .inr (4, [.ref rowo, .int pe, .int pd, .int pl]))] [(mo, .inr (2, [.ref rowo, .ref roomo, .ref talo, .ref jo, .ref ao, .ref bo, .int mtar_9, .int mdir])), (rowo, .inr (0, [.ref rowv])), (rowv, .inl (cA, 96, .inl rowf_9)), (talo, .inr (0, [.ref talv])), (talv, .inl (cA, 12, .inl talf_9)), (po, .inr (4, [.ref rowo, .int pe_9, .int pd, .int pl_9]))] (none) := by
  refine Ct.of (cc := cX2_take) (maxL := 4) (ret := none) (by decide) rfl (Nat.le_of_ble_eq_true rfl) ?_
  intro p e s m below meth c A ls hcx hG hst hA hP hD hl
  obtain ⟨hx, hb, hml, hown, hts, hr, hlocks⟩ := id hcx
  have hown : s.vm.findClass RX2 = some m.cls := hown
  have hS : va_S A s.heap s.heap [] := va_S.rf
  have hl : lv_has ls 4 [(0, .ref mo), (1, .ref po), (2, .int a2)] := hl
  have hinX2 : ∀ w ∈ u_ws RX2 TX2 8, w ∈ wsX2_take := by decide +kernel
  have fl30 := hts (.fieldLink RX2 30 "RunSorter$Merger" "tally" "LRunSorter$Cells;") (by decide +kernel)
  have fl27 := hts (.fieldLink RX2 27 "RunSorter$Merger" "row" "LRunSorter$Cells;") (by decide +kernel)
  have fl20 := hts (.fieldLink RX2 20 "RunSorter$Merger" "target" "I") (by decide +kernel)
  have fl24 := hts (.fieldLink RX2 24 "RunSorter$Merger" "direction" "I") (by decide +kernel)
  have hmX2_take_r_2 : ∀ (n2 : Nat) (x3 : Int32) (mtar : Int32) (rowf : (Nat → Int32)) (talf : (Nat → Int32)) (pe : Int32) (pl : Int32) (H : Heap) (locs : List Loc) (ls : Array Slot), mX2_take_r_2 F mdir pd a2 n2 x3 mtar rowf talf pe pl = some (mtar_9, rowf_9, talf_9, pe_9, pl_9) → va_P D vwCl [(mo, .inr (2, [.ref rowo, .ref roomo, .ref talo, .ref jo, .ref ao, .ref bo, .int mtar, .int mdir])), (rowo, .inr (0, [.ref rowv])), (rowv, .inl (cA, 96, .inl rowf)), (talo, .inr (0, [.ref talv])), (talv, .inl (cA, 12, .inl talf)), (po, .inr (4, [.ref rowo, .int pe, .int pd, .int pl]))] H → va_D A [(mo, .inr (2, [.ref rowo, .ref roomo, .ref talo, .ref jo, .ref ao, .ref bo, .int mtar, .int mdir])), (rowo, .inr (0, [.ref rowv])), (rowv, .inl (cA, 96, .inl rowf)), (talo, .inr (0, [.ref talv])), (talv, .inl (cA, 12, .inl talf)), (po, .inr (4, [.ref rowo, .int pe, .int pd, .int pl]))] → va_S A s.heap H locs → lv_has ls 4 [(0, .ref mo), (1, .ref po), (2, .int a2), (3, .int x3)] → W p l e ({ frames := 2, cells := 0, slots := 0, locals := 42 }) s m ([.ref mo, .ref po, .int a2] : List Value).toArray below meth c H locs 0 0 (MQ below (Qw D A [(mo, .inr (2, [.ref rowo, .ref roomo, .ref talo, .ref jo, .ref ao, .ref bo, .int mtar_9, .int mdir])), (rowo, .inr (0, [.ref rowv])), (rowv, .inl (cA, 96, .inl rowf_9)), (talo, .inr (0, [.ref talv])), (talv, .inl (cA, 12, .inl talf_9)), (po, .inr (4, [.ref rowo, .int pe_9, .int pd, .int pl_9]))] (none)) ([.ref mo, .ref po, .int a2] : List Value).toArray s 0 0 A) (F0 m 2 ls []) := by
    intro n2
    induction n2 with
    | zero => intro x3 mtar rowf talf pe pl H locs ls h; exact (no_some h).elim
    | succ n2 ih2 =>
      intro x3 mtar rowf talf pe pl H locs ls h hP hD hS hl
      rw [mX2_take_r_2] at h
      refine lv_iload_n hx hb dX2_take_2 rfl (lv_at hl 3 rfl) ?_
      refine lv_iload_n hx hb dX2_take_3 rfl (lv_at hl 2 rfl) ?_
      refine lv_icmp_ge (tgt := 47) hx hb dX2_take_4 (by decide) (fun c4 => ?_) (fun c4 => ?_)
      · have h := i_t c4 h
        refine lv_aload_n hx hb dX2_take_47 rfl (lv_at hl 0 rfl) ?_
        refine va_get (D := D) (cl := vwCl) (ci := 2) (v := .ref talo) (C := RX2) (T := TX2) (N := 8) hx hb hts hinX2 hown hG.1 hP 0 rfl rfl 2 (by decide) fl30 (fun _ h9 => h9) rfl dX2_take_48 ?_
        refine lv_iconst (v := (1 : Int32)) hx hb dX2_take_51 (by decide) ?_
        refine lv_iload_n hx hb dX2_take_52 rfl (lv_at hl 2 rfl) ?_
        obtain ⟨talf_53, hc53, h⟩ := bd1_some h
        refine ct_VN (As := [.int (1 : Int32), .int a2]) (rest := []) (st1 := []) (wf := [(mo, .inr (2, [.ref rowo, .ref roomo, .ref talo, .ref jo, .ref ao, .ref bo, .int mtar, .int mdir])), (rowo, .inr (0, [.ref rowv])), (rowv, .inl (cA, 96, .inl rowf)), (talo, .inr (0, [.ref talv])), (talv, .inl (cA, 12, .inl talf_53)), (po, .inr (4, [.ref rowo, .int pe, .int pd, .int pl]))]) (kX0_add l D cA F talo talv 12 talf (1 : Int32) a2 talf_53 hc53) ⟨hx, hb, hml, hown, hts⟩ ⟨va_cnB 2 hts gX2_take_X0_add_n104 rfl rfl rfl (hG.2.m 30 rfl) (hts (.initialized RX0) (by decide +kernel)) (by decide +kernel) ⟨Nat.le_of_ble_eq_true rfl, Nat.le_of_ble_eq_true rfl⟩, hts (.instanceMethod yX0_add) (by decide +kernel), hts (.selects RX0 yX0_add yX0_add) (by decide +kernel)⟩ hG hst hP hD hS hA 0 rfl rfl rfl [3, 4] [0, 1, 2, 5] [0, 1, 2, 4, 5, 3] rfl rfl rfl rfl rfl rfl hl.1 rfl rfl (Nat.le_of_ble_eq_true rfl) dX2_take_53 ⟨Nat.zero_le _, Nat.zero_le _⟩ (fun H locs hP hD hS => ?_)
        cases h
        exact rt_v hx hb hr hlocks hP hD hS dX2_take_56
      · have h := i_f c4 h
        refine lv_aload_n hx hb dX2_take_7 rfl (lv_at hl 0 rfl) ?_
        refine va_get (D := D) (cl := vwCl) (ci := 2) (v := .ref rowo) (C := RX2) (T := TX2) (N := 8) hx hb hts hinX2 hown hG.1 hP 0 rfl rfl 0 (by decide) fl27 (fun _ h9 => h9) rfl dX2_take_8 ?_
        refine lv_aload_n hx hb dX2_take_11 rfl (lv_at hl 0 rfl) ?_
        refine va_get (D := D) (cl := vwCl) (ci := 2) (v := .int mtar) (C := RX2) (T := TX2) (N := 8) hx hb hts hinX2 hown hG.1 hP 0 rfl rfl 6 (by decide) fl20 (fun _ h9 => h9) rfl dX2_take_12 ?_
        refine lv_aload_n hx hb dX2_take_15 rfl (lv_at hl 1 rfl) ?_
        refine lv_iconst (v := (0 : Int32)) hx hb dX2_take_16 (by decide) ?_
        obtain ⟨r17, hc17, h⟩ := bd1_some h
        refine ct_VN (As := [.int (0 : Int32)]) (rest := [.int mtar, .ref rowo]) (st1 := [.int r17, .int mtar, .ref rowo]) (wf := [(mo, .inr (2, [.ref rowo, .ref roomo, .ref talo, .ref jo, .ref ao, .ref bo, .int mtar, .int mdir])), (rowo, .inr (0, [.ref rowv])), (rowv, .inl (cA, 96, .inl rowf)), (talo, .inr (0, [.ref talv])), (talv, .inl (cA, 12, .inl talf)), (po, .inr (4, [.ref rowo, .int pe, .int pd, .int pl]))]) (kX4_ahead l D cA F po rowo rowv 96 pe pd pl rowf (0 : Int32) r17 hc17) ⟨hx, hb, hml, hown, hts⟩ ⟨va_cnB 1 hts gX2_take_X4_ahead_n80 rfl rfl rfl (hG.2.m 24 rfl) (hts (.initialized RX4) (by decide +kernel)) (by decide +kernel) ⟨Nat.le_of_ble_eq_true rfl, Nat.le_of_ble_eq_true rfl⟩, hts (.instanceMethod yX4_ahead) (by decide +kernel), hts (.selects RX4 yX4_ahead yX4_ahead) (by decide +kernel)⟩ hG hst hP hD hS hA 4 rfl rfl rfl [5, 1, 2] [0, 3, 4] [0, 4, 5, 1, 2, 3] rfl rfl rfl rfl rfl rfl hl.1 rfl rfl (Nat.le_of_ble_eq_true rfl) dX2_take_17 ⟨Nat.zero_le _, Nat.zero_le _⟩ (fun H locs hP hD hS => ?_)
        obtain ⟨rowf_20, hc20, h⟩ := bd1_some h
        refine ct_VN (As := [.int mtar, .int r17]) (rest := []) (st1 := []) (wf := [(mo, .inr (2, [.ref rowo, .ref roomo, .ref talo, .ref jo, .ref ao, .ref bo, .int mtar, .int mdir])), (rowo, .inr (0, [.ref rowv])), (rowv, .inl (cA, 96, .inl rowf_20)), (talo, .inr (0, [.ref talv])), (talv, .inl (cA, 12, .inl talf)), (po, .inr (4, [.ref rowo, .int pe, .int pd, .int pl]))]) (kX0_fill l D cA F rowo rowv 96 rowf mtar r17 rowf_20 hc20) ⟨hx, hb, hml, hown, hts⟩ ⟨va_cnB 2 hts gX2_take_X0_fill_n100 rfl rfl rfl (hG.2.m 29 rfl) (hts (.initialized RX0) (by decide +kernel)) (by decide +kernel) ⟨Nat.le_of_ble_eq_true rfl, Nat.le_of_ble_eq_true rfl⟩, hts (.instanceMethod yX0_fill) (by decide +kernel), hts (.selects RX0 yX0_fill yX0_fill) (by decide +kernel)⟩ hG hst hP hD hS hA 0 rfl rfl rfl [1, 2] [0, 3, 4, 5] [0, 4, 5, 1, 2, 3] rfl rfl rfl rfl rfl rfl hl.1 rfl rfl (Nat.le_of_ble_eq_true rfl) dX2_take_20 ⟨Nat.zero_le _, Nat.zero_le _⟩ (fun H locs hP hD hS => ?_)
        refine lv_aload_n hx hb dX2_take_23 rfl (lv_at hl 1 rfl) ?_
        refine lv_iconst (v := (1 : Int32)) hx hb dX2_take_24 (by decide) ?_
        obtain ⟨pe_25, pl_25, hc25, h⟩ := bd2_some h
        refine ct_VN (As := [.int (1 : Int32)]) (rest := []) (st1 := []) (wf := [(mo, .inr (2, [.ref rowo, .ref roomo, .ref talo, .ref jo, .ref ao, .ref bo, .int mtar, .int mdir])), (rowo, .inr (0, [.ref rowv])), (rowv, .inl (cA, 96, .inl rowf_20)), (talo, .inr (0, [.ref talv])), (talv, .inl (cA, 12, .inl talf)), (po, .inr (4, [.ref rowo, .int pe_25, .int pd, .int pl_25]))]) (kX4_drop l D cA F po rowo  pe pd pl (1 : Int32) pe_25 pl_25 hc25) ⟨hx, hb, hml, hown, hts⟩ ⟨va_cnB 1 hts gX2_take_X4_drop_n90 rfl rfl rfl (hG.2.m 28 rfl) (hts (.initialized RX4) (by decide +kernel)) (by decide +kernel) ⟨Nat.le_of_ble_eq_true rfl, Nat.le_of_ble_eq_true rfl⟩, hts (.instanceMethod yX4_drop) (by decide +kernel), hts (.selects RX4 yX4_drop yX4_drop) (by decide +kernel)⟩ hG hst hP hD hS hA 4 rfl rfl rfl [5] [0, 1, 2, 3, 4] [0, 1, 2, 3, 4, 5] rfl rfl rfl rfl rfl rfl hl.1 rfl rfl (Nat.le_of_ble_eq_true rfl) dX2_take_25 ⟨Nat.zero_le _, Nat.zero_le _⟩ (fun H locs hP hD hS => ?_)
        refine lv_aload_n hx hb dX2_take_28 rfl (lv_at hl 0 rfl) ?_
        refine lv_dup hx hb dX2_take_29 rfl ?_
        refine va_get (D := D) (cl := vwCl) (ci := 2) (v := .int mtar) (C := RX2) (T := TX2) (N := 8) hx hb hts hinX2 hown hG.1 hP 0 rfl rfl 6 (by decide) fl20 (fun _ h9 => h9) rfl dX2_take_30 ?_
        refine lv_aload_n hx hb dX2_take_33 rfl (lv_at hl 0 rfl) ?_
        refine va_get (D := D) (cl := vwCl) (ci := 2) (v := .int mdir) (C := RX2) (T := TX2) (N := 8) hx hb hts hinX2 hown hG.1 hP 0 rfl rfl 7 (by decide) fl24 (fun _ h9 => h9) rfl dX2_take_34 ?_
        refine lv_iadd hx hb dX2_take_37 ?_
        refine va_put (D := D) (cl := vwCl) (ci := 2) (v := .int (mtar + mdir)) (ty := .int) (C := RX2) (T := TX2) (N := 8) hx hb hts hinX2 tyX2 tyX2_ok nmX2 hown hG.1 hP hD hS 0 rfl rfl 6 (by decide) fl20 (fun _ h9 => h9) rfl (by decide +kernel) rfl rfl (Nat.le_of_ble_eq_true rfl) dX2_take_38 (fun H locs hP hD hS => ?_)
        have hP : va_P D vwCl [(mo, .inr (2, [.ref rowo, .ref roomo, .ref talo, .ref jo, .ref ao, .ref bo, .int (mtar + mdir), .int mdir])), (rowo, .inr (0, [.ref rowv])), (rowv, .inl (cA, 96, .inl rowf_20)), (talo, .inr (0, [.ref talv])), (talv, .inl (cA, 12, .inl talf)), (po, .inr (4, [.ref rowo, .int pe_25, .int pd, .int pl_25]))] H := hP
        have hD : va_D A [(mo, .inr (2, [.ref rowo, .ref roomo, .ref talo, .ref jo, .ref ao, .ref bo, .int (mtar + mdir), .int mdir])), (rowo, .inr (0, [.ref rowv])), (rowv, .inl (cA, 96, .inl rowf_20)), (talo, .inr (0, [.ref talv])), (talv, .inl (cA, 12, .inl talf)), (po, .inr (4, [.ref rowo, .int pe_25, .int pd, .int pl_25]))] := hD
        refine lv_iinc (v := x3 + (1 : Int32)) (lv' := [(3, .int (x3 + (1 : Int32))), (0, .ref mo), (1, .ref po), (2, .int a2)]) hx hb dX2_take_41 hl (k := 3) rfl (congrArg (fun z => x3 + z) (by decide)) (by decide) rfl (fun ls hl => ?_)
        refine lv_goto (tgt := 2) hx hb dX2_take_44 (by decide) ?_
        exact ih2 (x3 + (1 : Int32)) (mtar + mdir) rowf_20 talf pe_25 pl_25 _ _ _ h hP hD hS (lv_sub hl [1, 2, 3, 0] rfl)
  unfold mX2_take_r at h
  refine lv_iconst (v := (0 : Int32)) hx hb dX2_take_0 (by decide) ?_
  refine lv_istore_n (lv' := [(3, .int (0 : Int32)), (0, .ref mo), (1, .ref po), (2, .int a2)]) hx hb dX2_take_1 rfl hl (by decide) rfl (fun ls hl => ?_)
  exact hmX2_take_r_2 F (0 : Int32) mtar rowf talf pe pl _ _ _ h hP hD hS (lv_sub hl [1, 2, 3, 0] rfl)
set_option maxHeartbeats 4000000 in
set_option maxRecDepth 100000 in
theorem kX2_take_m (l : Launch) (D : va_G) (cA : ClassId) (F : Nat) (mo : Nat) (po : Nat) (rowo : Nat) (roomo : Nat) (talo : Nat) (jo : Nat) (ao : Nat) (bo : Nat) (rowv : Nat) (talv : Nat) (roomv : Nat) (mtar : Int32) (mdir : Int32) (rowf : (Nat → Int32)) (talf : (Nat → Int32)) (pe : Int32) (pd : Int32) (pl : Int32) (roomf : (Nat → Int32)) (a2 : Int32) (mtar_9 : Int32) (rowf_9 : (Nat → Int32)) (talf_9 : (Nat → Int32)) (pe_9 : Int32) (pl_9 : Int32) (h : mX2_take_m F mtar mdir rowf talf pe pd pl roomf a2 = some (mtar_9, rowf_9, talf_9, pe_9, pl_9)) : Ct l yX2_take wsX2_take ({ frames := 2, cells := 0, slots := 0, locals := 42 }) D cA [.ref mo, .ref po, .int a2] [(mo, .inr (2, [.ref rowo, .ref roomo, .ref talo, .ref jo, .ref ao, .ref bo, .int mtar, .int mdir])), (rowo, .inr (0, [.ref rowv])), (rowv, .inl (cA, 96, .inl rowf)), (talo, .inr (0, [.ref talv])), (talv, .inl (cA, 12, .inl talf)), (po, .inr (4, [.ref roomo, .int pe, .int pd, .int pl])), (roomo, .inr (0, [.ref roomv])), (roomv, .inl (cA, 48, .inl roomf))] [(mo, .inr (2, [.ref rowo, .ref roomo, .ref talo, .ref jo, .ref ao, .ref bo, .int mtar_9, .int mdir])), (rowo, .inr (0, [.ref rowv])), (rowv, .inl (cA, 96, .inl rowf_9)), (talo, .inr (0, [.ref talv])), (talv, .inl (cA, 12, .inl talf_9)), (po, .inr (4, [.ref roomo, .int pe_9, .int pd, .int pl_9])), (roomo, .inr (0, [.ref roomv])), (roomv, .inl (cA, 48, .inl roomf))] (none) := by
  refine Ct.of (cc := cX2_take) (maxL := 4) (ret := none) (by decide) rfl (Nat.le_of_ble_eq_true rfl) ?_
  intro p e s m below meth c A ls hcx hG hst hA hP hD hl
  obtain ⟨hx, hb, hml, hown, hts, hr, hlocks⟩ := id hcx
  have hown : s.vm.findClass RX2 = some m.cls := hown
  have hS : va_S A s.heap s.heap [] := va_S.rf
  have hl : lv_has ls 4 [(0, .ref mo), (1, .ref po), (2, .int a2)] := hl
  have hinX2 : ∀ w ∈ u_ws RX2 TX2 8, w ∈ wsX2_take := by decide +kernel
  have fl30 := hts (.fieldLink RX2 30 "RunSorter$Merger" "tally" "LRunSorter$Cells;") (by decide +kernel)
  have fl27 := hts (.fieldLink RX2 27 "RunSorter$Merger" "row" "LRunSorter$Cells;") (by decide +kernel)
  have fl20 := hts (.fieldLink RX2 20 "RunSorter$Merger" "target" "I") (by decide +kernel)
  have fl24 := hts (.fieldLink RX2 24 "RunSorter$Merger" "direction" "I") (by decide +kernel)
  have hmX2_take_m_2 : ∀ (n2 : Nat) (x3 : Int32) (mtar : Int32) (rowf : (Nat → Int32)) (talf : (Nat → Int32)) (pe : Int32) (pl : Int32) (H : Heap) (locs : List Loc) (ls : Array Slot), mX2_take_m_2 F mdir pd roomf a2 n2 x3 mtar rowf talf pe pl = some (mtar_9, rowf_9, talf_9, pe_9, pl_9) → va_P D vwCl [(mo, .inr (2, [.ref rowo, .ref roomo, .ref talo, .ref jo, .ref ao, .ref bo, .int mtar, .int mdir])), (rowo, .inr (0, [.ref rowv])), (rowv, .inl (cA, 96, .inl rowf)), (talo, .inr (0, [.ref talv])), (talv, .inl (cA, 12, .inl talf)), (po, .inr (4, [.ref roomo, .int pe, .int pd, .int pl])), (roomo, .inr (0, [.ref roomv])), (roomv, .inl (cA, 48, .inl roomf))] H → va_D A [(mo, .inr (2, [.ref rowo, .ref roomo, .ref talo, .ref jo, .ref ao, .ref bo, .int mtar, .int mdir])), (rowo, .inr (0, [.ref rowv])), (rowv, .inl (cA, 96, .inl rowf)), (talo, .inr (0, [.ref talv])), (talv, .inl (cA, 12, .inl talf)), (po, .inr (4, [.ref roomo, .int pe, .int pd, .int pl])), (roomo, .inr (0, [.ref roomv])), (roomv, .inl (cA, 48, .inl roomf))] → va_S A s.heap H locs → lv_has ls 4 [(0, .ref mo), (1, .ref po), (2, .int a2), (3, .int x3)] → W p l e ({ frames := 2, cells := 0, slots := 0, locals := 42 }) s m ([.ref mo, .ref po, .int a2] : List Value).toArray below meth c H locs 0 0 (MQ below (Qw D A [(mo, .inr (2, [.ref rowo, .ref roomo, .ref talo, .ref jo, .ref ao, .ref bo, .int mtar_9, .int mdir])), (rowo, .inr (0, [.ref rowv])), (rowv, .inl (cA, 96, .inl rowf_9)), (talo, .inr (0, [.ref talv])), (talv, .inl (cA, 12, .inl talf_9)), (po, .inr (4, [.ref roomo, .int pe_9, .int pd, .int pl_9])), (roomo, .inr (0, [.ref roomv])), (roomv, .inl (cA, 48, .inl roomf))] (none)) ([.ref mo, .ref po, .int a2] : List Value).toArray s 0 0 A) (F0 m 2 ls []) := by
    intro n2
    induction n2 with
    | zero => intro x3 mtar rowf talf pe pl H locs ls h; exact (no_some h).elim
    | succ n2 ih2 =>
      intro x3 mtar rowf talf pe pl H locs ls h hP hD hS hl
      rw [mX2_take_m_2] at h
      refine lv_iload_n hx hb dX2_take_2 rfl (lv_at hl 3 rfl) ?_
      refine lv_iload_n hx hb dX2_take_3 rfl (lv_at hl 2 rfl) ?_
      refine lv_icmp_ge (tgt := 47) hx hb dX2_take_4 (by decide) (fun c4 => ?_) (fun c4 => ?_)
      · have h := i_t c4 h
        refine lv_aload_n hx hb dX2_take_47 rfl (lv_at hl 0 rfl) ?_
        refine va_get (D := D) (cl := vwCl) (ci := 2) (v := .ref talo) (C := RX2) (T := TX2) (N := 8) hx hb hts hinX2 hown hG.1 hP 0 rfl rfl 2 (by decide) fl30 (fun _ h9 => h9) rfl dX2_take_48 ?_
        refine lv_iconst (v := (1 : Int32)) hx hb dX2_take_51 (by decide) ?_
        refine lv_iload_n hx hb dX2_take_52 rfl (lv_at hl 2 rfl) ?_
        obtain ⟨talf_53, hc53, h⟩ := bd1_some h
        refine ct_VN (As := [.int (1 : Int32), .int a2]) (rest := []) (st1 := []) (wf := [(mo, .inr (2, [.ref rowo, .ref roomo, .ref talo, .ref jo, .ref ao, .ref bo, .int mtar, .int mdir])), (rowo, .inr (0, [.ref rowv])), (rowv, .inl (cA, 96, .inl rowf)), (talo, .inr (0, [.ref talv])), (talv, .inl (cA, 12, .inl talf_53)), (po, .inr (4, [.ref roomo, .int pe, .int pd, .int pl])), (roomo, .inr (0, [.ref roomv])), (roomv, .inl (cA, 48, .inl roomf))]) (kX0_add l D cA F talo talv 12 talf (1 : Int32) a2 talf_53 hc53) ⟨hx, hb, hml, hown, hts⟩ ⟨va_cnB 2 hts gX2_take_X0_add_n104 rfl rfl rfl (hG.2.m 30 rfl) (hts (.initialized RX0) (by decide +kernel)) (by decide +kernel) ⟨Nat.le_of_ble_eq_true rfl, Nat.le_of_ble_eq_true rfl⟩, hts (.instanceMethod yX0_add) (by decide +kernel), hts (.selects RX0 yX0_add yX0_add) (by decide +kernel)⟩ hG hst hP hD hS hA 0 rfl rfl rfl [3, 4] [0, 1, 2, 5, 6, 7] [0, 1, 2, 6, 7, 3, 4, 5] rfl rfl rfl rfl rfl rfl hl.1 rfl rfl (Nat.le_of_ble_eq_true rfl) dX2_take_53 ⟨Nat.zero_le _, Nat.zero_le _⟩ (fun H locs hP hD hS => ?_)
        cases h
        exact rt_v hx hb hr hlocks hP hD hS dX2_take_56
      · have h := i_f c4 h
        refine lv_aload_n hx hb dX2_take_7 rfl (lv_at hl 0 rfl) ?_
        refine va_get (D := D) (cl := vwCl) (ci := 2) (v := .ref rowo) (C := RX2) (T := TX2) (N := 8) hx hb hts hinX2 hown hG.1 hP 0 rfl rfl 0 (by decide) fl27 (fun _ h9 => h9) rfl dX2_take_8 ?_
        refine lv_aload_n hx hb dX2_take_11 rfl (lv_at hl 0 rfl) ?_
        refine va_get (D := D) (cl := vwCl) (ci := 2) (v := .int mtar) (C := RX2) (T := TX2) (N := 8) hx hb hts hinX2 hown hG.1 hP 0 rfl rfl 6 (by decide) fl20 (fun _ h9 => h9) rfl dX2_take_12 ?_
        refine lv_aload_n hx hb dX2_take_15 rfl (lv_at hl 1 rfl) ?_
        refine lv_iconst (v := (0 : Int32)) hx hb dX2_take_16 (by decide) ?_
        obtain ⟨r17, hc17, h⟩ := bd1_some h
        refine ct_VN (As := [.int (0 : Int32)]) (rest := [.int mtar, .ref rowo]) (st1 := [.int r17, .int mtar, .ref rowo]) (wf := [(mo, .inr (2, [.ref rowo, .ref roomo, .ref talo, .ref jo, .ref ao, .ref bo, .int mtar, .int mdir])), (rowo, .inr (0, [.ref rowv])), (rowv, .inl (cA, 96, .inl rowf)), (talo, .inr (0, [.ref talv])), (talv, .inl (cA, 12, .inl talf)), (po, .inr (4, [.ref roomo, .int pe, .int pd, .int pl])), (roomo, .inr (0, [.ref roomv])), (roomv, .inl (cA, 48, .inl roomf))]) (kX4_ahead l D cA F po roomo roomv 48 pe pd pl roomf (0 : Int32) r17 hc17) ⟨hx, hb, hml, hown, hts⟩ ⟨va_cnB 1 hts gX2_take_X4_ahead_n80 rfl rfl rfl (hG.2.m 24 rfl) (hts (.initialized RX4) (by decide +kernel)) (by decide +kernel) ⟨Nat.le_of_ble_eq_true rfl, Nat.le_of_ble_eq_true rfl⟩, hts (.instanceMethod yX4_ahead) (by decide +kernel), hts (.selects RX4 yX4_ahead yX4_ahead) (by decide +kernel)⟩ hG hst hP hD hS hA 4 rfl rfl rfl [5, 6, 7] [0, 1, 2, 3, 4] [0, 1, 2, 3, 4, 5, 6, 7] rfl rfl rfl rfl rfl rfl hl.1 rfl rfl (Nat.le_of_ble_eq_true rfl) dX2_take_17 ⟨Nat.zero_le _, Nat.zero_le _⟩ (fun H locs hP hD hS => ?_)
        obtain ⟨rowf_20, hc20, h⟩ := bd1_some h
        refine ct_VN (As := [.int mtar, .int r17]) (rest := []) (st1 := []) (wf := [(mo, .inr (2, [.ref rowo, .ref roomo, .ref talo, .ref jo, .ref ao, .ref bo, .int mtar, .int mdir])), (rowo, .inr (0, [.ref rowv])), (rowv, .inl (cA, 96, .inl rowf_20)), (talo, .inr (0, [.ref talv])), (talv, .inl (cA, 12, .inl talf)), (po, .inr (4, [.ref roomo, .int pe, .int pd, .int pl])), (roomo, .inr (0, [.ref roomv])), (roomv, .inl (cA, 48, .inl roomf))]) (kX0_fill l D cA F rowo rowv 96 rowf mtar r17 rowf_20 hc20) ⟨hx, hb, hml, hown, hts⟩ ⟨va_cnB 2 hts gX2_take_X0_fill_n100 rfl rfl rfl (hG.2.m 29 rfl) (hts (.initialized RX0) (by decide +kernel)) (by decide +kernel) ⟨Nat.le_of_ble_eq_true rfl, Nat.le_of_ble_eq_true rfl⟩, hts (.instanceMethod yX0_fill) (by decide +kernel), hts (.selects RX0 yX0_fill yX0_fill) (by decide +kernel)⟩ hG hst hP hD hS hA 0 rfl rfl rfl [1, 2] [0, 3, 4, 5, 6, 7] [0, 6, 7, 1, 2, 3, 4, 5] rfl rfl rfl rfl rfl rfl hl.1 rfl rfl (Nat.le_of_ble_eq_true rfl) dX2_take_20 ⟨Nat.zero_le _, Nat.zero_le _⟩ (fun H locs hP hD hS => ?_)
        refine lv_aload_n hx hb dX2_take_23 rfl (lv_at hl 1 rfl) ?_
        refine lv_iconst (v := (1 : Int32)) hx hb dX2_take_24 (by decide) ?_
        obtain ⟨pe_25, pl_25, hc25, h⟩ := bd2_some h
        refine ct_VN (As := [.int (1 : Int32)]) (rest := []) (st1 := []) (wf := [(mo, .inr (2, [.ref rowo, .ref roomo, .ref talo, .ref jo, .ref ao, .ref bo, .int mtar, .int mdir])), (rowo, .inr (0, [.ref rowv])), (rowv, .inl (cA, 96, .inl rowf_20)), (talo, .inr (0, [.ref talv])), (talv, .inl (cA, 12, .inl talf)), (po, .inr (4, [.ref roomo, .int pe_25, .int pd, .int pl_25])), (roomo, .inr (0, [.ref roomv])), (roomv, .inl (cA, 48, .inl roomf))]) (kX4_drop l D cA F po roomo  pe pd pl (1 : Int32) pe_25 pl_25 hc25) ⟨hx, hb, hml, hown, hts⟩ ⟨va_cnB 1 hts gX2_take_X4_drop_n90 rfl rfl rfl (hG.2.m 28 rfl) (hts (.initialized RX4) (by decide +kernel)) (by decide +kernel) ⟨Nat.le_of_ble_eq_true rfl, Nat.le_of_ble_eq_true rfl⟩, hts (.instanceMethod yX4_drop) (by decide +kernel), hts (.selects RX4 yX4_drop yX4_drop) (by decide +kernel)⟩ hG hst hP hD hS hA 4 rfl rfl rfl [5] [0, 1, 2, 3, 4, 6, 7] [0, 1, 2, 3, 4, 7, 5, 6] rfl rfl rfl rfl rfl rfl hl.1 rfl rfl (Nat.le_of_ble_eq_true rfl) dX2_take_25 ⟨Nat.zero_le _, Nat.zero_le _⟩ (fun H locs hP hD hS => ?_)
        refine lv_aload_n hx hb dX2_take_28 rfl (lv_at hl 0 rfl) ?_
        refine lv_dup hx hb dX2_take_29 rfl ?_
        refine va_get (D := D) (cl := vwCl) (ci := 2) (v := .int mtar) (C := RX2) (T := TX2) (N := 8) hx hb hts hinX2 hown hG.1 hP 0 rfl rfl 6 (by decide) fl20 (fun _ h9 => h9) rfl dX2_take_30 ?_
        refine lv_aload_n hx hb dX2_take_33 rfl (lv_at hl 0 rfl) ?_
        refine va_get (D := D) (cl := vwCl) (ci := 2) (v := .int mdir) (C := RX2) (T := TX2) (N := 8) hx hb hts hinX2 hown hG.1 hP 0 rfl rfl 7 (by decide) fl24 (fun _ h9 => h9) rfl dX2_take_34 ?_
        refine lv_iadd hx hb dX2_take_37 ?_
        refine va_put (D := D) (cl := vwCl) (ci := 2) (v := .int (mtar + mdir)) (ty := .int) (C := RX2) (T := TX2) (N := 8) hx hb hts hinX2 tyX2 tyX2_ok nmX2 hown hG.1 hP hD hS 0 rfl rfl 6 (by decide) fl20 (fun _ h9 => h9) rfl (by decide +kernel) rfl rfl (Nat.le_of_ble_eq_true rfl) dX2_take_38 (fun H locs hP hD hS => ?_)
        have hP : va_P D vwCl [(mo, .inr (2, [.ref rowo, .ref roomo, .ref talo, .ref jo, .ref ao, .ref bo, .int (mtar + mdir), .int mdir])), (rowo, .inr (0, [.ref rowv])), (rowv, .inl (cA, 96, .inl rowf_20)), (talo, .inr (0, [.ref talv])), (talv, .inl (cA, 12, .inl talf)), (po, .inr (4, [.ref roomo, .int pe_25, .int pd, .int pl_25])), (roomo, .inr (0, [.ref roomv])), (roomv, .inl (cA, 48, .inl roomf))] H := hP
        have hD : va_D A [(mo, .inr (2, [.ref rowo, .ref roomo, .ref talo, .ref jo, .ref ao, .ref bo, .int (mtar + mdir), .int mdir])), (rowo, .inr (0, [.ref rowv])), (rowv, .inl (cA, 96, .inl rowf_20)), (talo, .inr (0, [.ref talv])), (talv, .inl (cA, 12, .inl talf)), (po, .inr (4, [.ref roomo, .int pe_25, .int pd, .int pl_25])), (roomo, .inr (0, [.ref roomv])), (roomv, .inl (cA, 48, .inl roomf))] := hD
        refine lv_iinc (v := x3 + (1 : Int32)) (lv' := [(3, .int (x3 + (1 : Int32))), (0, .ref mo), (1, .ref po), (2, .int a2)]) hx hb dX2_take_41 hl (k := 3) rfl (congrArg (fun z => x3 + z) (by decide)) (by decide) rfl (fun ls hl => ?_)
        refine lv_goto (tgt := 2) hx hb dX2_take_44 (by decide) ?_
        exact ih2 (x3 + (1 : Int32)) (mtar + mdir) rowf_20 talf pe_25 pl_25 _ _ _ h hP hD hS (lv_sub hl [1, 2, 3, 0] rfl)
  unfold mX2_take_m at h
  refine lv_iconst (v := (0 : Int32)) hx hb dX2_take_0 (by decide) ?_
  refine lv_istore_n (lv' := [(3, .int (0 : Int32)), (0, .ref mo), (1, .ref po), (2, .int a2)]) hx hb dX2_take_1 rfl hl (by decide) rfl (fun ls hl => ?_)
  exact hmX2_take_m_2 F (0 : Int32) mtar rowf talf pe pl _ _ _ h hP hD hS (lv_sub hl [1, 2, 3, 0] rfl)
set_option maxHeartbeats 4000000 in
set_option maxRecDepth 100000 in
theorem kX2_leapsOn (l : Launch) (D : va_G) (cA : ClassId) (F : Nat) (mo : Nat) (rowo : Nat) (roomo : Nat) (talo : Nat) (jo : Nat) (ao : Nat) (bo : Nat) (talv : Nat) (mtar : Int32) (mdir : Int32) (talf : (Nat → Int32)) (a1 : Int32) (r0 : Int32) (talf_9 : (Nat → Int32)) (h : mX2_leapsOn F talf a1 = some (r0, talf_9)) : Ct l yX2_leapsOn wsX2_leapsOn ({ frames := 1, cells := 0, slots := 0, locals := 22 }) D cA [.ref mo, .int a1] [(mo, .inr (2, [.ref rowo, .ref roomo, .ref talo, .ref jo, .ref ao, .ref bo, .int mtar, .int mdir])), (talo, .inr (0, [.ref talv])), (talv, .inl (cA, 12, .inl talf))] [(mo, .inr (2, [.ref rowo, .ref roomo, .ref talo, .ref jo, .ref ao, .ref bo, .int mtar, .int mdir])), (talo, .inr (0, [.ref talv])), (talv, .inl (cA, 12, .inl talf_9))] (some (.int r0)) := by
  refine Ct.of (cc := cX2_leapsOn) (maxL := 5) (ret := (some .boolean)) (by decide) rfl (Nat.le_of_ble_eq_true rfl) ?_
  intro p e s m below meth c A ls hcx hG hst hA hP hD hl
  obtain ⟨hx, hb, hml, hown, hts, hr, hlocks⟩ := id hcx
  have hown : s.vm.findClass RX2 = some m.cls := hown
  have hS : va_S A s.heap s.heap [] := va_S.rf
  have hl : lv_has ls 5 [(0, .ref mo), (1, .int a1)] := hl
  obtain ⟨t1, t2, hZ1, hT1, hZ2, hT2⟩ := id hst
  have hinX2 : ∀ w ∈ u_ws RX2 TX2 8, w ∈ wsX2_leapsOn := by decide +kernel
  have fl30 := hts (.fieldLink RX2 30 "RunSorter$Merger" "tally" "LRunSorter$Cells;") (by decide +kernel)
  have hmX2_leapsOn_34 : ∀ (x3 : Int32) (s0 : Int32) (talf : (Nat → Int32)) (H : Heap) (locs : List Loc) (ls : Array Slot), mX2_leapsOn_34 F x3 s0 talf = some (r0, talf_9) → va_P D vwCl [(mo, .inr (2, [.ref rowo, .ref roomo, .ref talo, .ref jo, .ref ao, .ref bo, .int mtar, .int mdir])), (talo, .inr (0, [.ref talv])), (talv, .inl (cA, 12, .inl talf))] H → va_D A [(mo, .inr (2, [.ref rowo, .ref roomo, .ref talo, .ref jo, .ref ao, .ref bo, .int mtar, .int mdir])), (talo, .inr (0, [.ref talv])), (talv, .inl (cA, 12, .inl talf))] → va_S A s.heap H locs → lv_has ls 5 [(0, .ref mo), (3, .int x3)] → W p l e ({ frames := 1, cells := 0, slots := 0, locals := 22 }) s m ([.ref mo, .int a1] : List Value).toArray below meth c H locs 0 0 (MQ below (Qw D A [(mo, .inr (2, [.ref rowo, .ref roomo, .ref talo, .ref jo, .ref ao, .ref bo, .int mtar, .int mdir])), (talo, .inr (0, [.ref talv])), (talv, .inl (cA, 12, .inl talf_9))] (some (.int r0))) ([.ref mo, .int a1] : List Value).toArray s 0 0 A) (F0 m 34 ls [.int s0]) := by
    intro x3 s0 talf H locs ls h hP hD hS hl
    unfold mX2_leapsOn_34 at h
    refine lv_istore (lv' := [(4, .int s0), (0, .ref mo), (3, .int x3)]) hx hb dX2_leapsOn_34 hl (by decide) rfl (fun ls hl => ?_)
    refine lv_aload_n hx hb dX2_leapsOn_36 rfl (lv_at hl 1 rfl) ?_
    refine va_get (D := D) (cl := vwCl) (ci := 2) (v := .ref talo) (C := RX2) (T := TX2) (N := 8) hx hb hts hinX2 hown hG.1 hP 0 rfl rfl 2 (by decide) fl30 (fun _ h9 => h9) rfl dX2_leapsOn_37 ?_
    refine lv_bipush (v := (10 : Int32)) hx hb dX2_leapsOn_40 (by decide) ?_
    refine va_getsN hx hb hZ1 hS hown (hG.2.f 13 rfl) (fun _ h9 => h9) dX2_leapsOn_42 ?_
    refine lv_iconst (v := (3 : Int32)) hx hb dX2_leapsOn_45 (by decide) ?_
    obtain ⟨hi46, h⟩ := ck_some h
    refine va_ti (v := .int (lowT (3 : Int32).toNatClampNeg)) hx hb hT1 hS hi46 rfl dX2_leapsOn_46 ?_
    refine va_getsN hx hb hZ2 hS hown (hG.2.f 14 rfl) (fun _ h9 => h9) dX2_leapsOn_47 ?_
    refine lv_iconst (v := (3 : Int32)) hx hb dX2_leapsOn_50 (by decide) ?_
    obtain ⟨hi51, h⟩ := ck_some h
    refine va_ti (v := .int (highT (3 : Int32).toNatClampNeg)) hx hb hT2 hS hi51 rfl dX2_leapsOn_51 ?_
    refine lv_iload hx hb dX2_leapsOn_52 (lv_at hl 0 rfl) ?_
    refine va_mmin hx hb (hml.trans hl.1.symm) hown (hts (.methodLink RX2 134 Lib.Math.min.name) (by decide +kernel)) (hts (.static Lib.Math.min.name) (by decide +kernel)) (hts (.initialized "java/lang/Math") (by decide +kernel)) (hts (.code Lib.Math.min.name Lib.Math.min.code 2 (some .int)) (by decide +kernel)) (Nat.le_of_ble_eq_true rfl) (Nat.le_of_ble_eq_true rfl) (Nat.zero_le _) (Nat.zero_le _) dX2_leapsOn_54 ?_
    refine va_mmax hx hb (hml.trans hl.1.symm) hown (hts (.methodLink RX2 117 Lib.Math.max.name) (by decide +kernel)) (hts (.static Lib.Math.max.name) (by decide +kernel)) (hts (.initialized "java/lang/Math") (by decide +kernel)) (hts (.code Lib.Math.max.name Lib.Math.max.code 2 (some .int)) (by decide +kernel)) (Nat.le_of_ble_eq_true rfl) (Nat.le_of_ble_eq_true rfl) (Nat.zero_le _) (Nat.zero_le _) dX2_leapsOn_57 ?_
    obtain ⟨talf_60, hc60, h⟩ := bd1_some h
    refine ct_VN (As := [.int (10 : Int32), .int (if (lowT (3 : Int32).toNatClampNeg) < (if s0 < (highT (3 : Int32).toNatClampNeg) then s0 else (highT (3 : Int32).toNatClampNeg)) then (if s0 < (highT (3 : Int32).toNatClampNeg) then s0 else (highT (3 : Int32).toNatClampNeg)) else (lowT (3 : Int32).toNatClampNeg))]) (rest := []) (st1 := []) (wf := [(mo, .inr (2, [.ref rowo, .ref roomo, .ref talo, .ref jo, .ref ao, .ref bo, .int mtar, .int mdir])), (talo, .inr (0, [.ref talv])), (talv, .inl (cA, 12, .inl talf_60))]) (kX0_fill l D cA F talo talv 12 talf (10 : Int32) (if (lowT (3 : Int32).toNatClampNeg) < (if s0 < (highT (3 : Int32).toNatClampNeg) then s0 else (highT (3 : Int32).toNatClampNeg)) then (if s0 < (highT (3 : Int32).toNatClampNeg) then s0 else (highT (3 : Int32).toNatClampNeg)) else (lowT (3 : Int32).toNatClampNeg)) talf_60 hc60) ⟨hx, hb, hml, hown, hts⟩ ⟨va_cnB 2 hts gX2_leapsOn_X0_fill_n100 rfl rfl rfl (hG.2.m 29 rfl) (hts (.initialized RX0) (by decide +kernel)) (by decide +kernel) ⟨Nat.le_of_ble_eq_true rfl, Nat.le_of_ble_eq_true rfl⟩, hts (.instanceMethod yX0_fill) (by decide +kernel), hts (.selects RX0 yX0_fill yX0_fill) (by decide +kernel)⟩ hG hst hP hD hS hA 0 rfl rfl rfl [1, 2] [0] [0, 1, 2] rfl rfl rfl rfl rfl rfl hl.1 rfl rfl (Nat.le_of_ble_eq_true rfl) dX2_leapsOn_60 ⟨Nat.zero_le _, Nat.zero_le _⟩ (fun H locs hP hD hS => ?_)
    refine lv_iload_n hx hb dX2_leapsOn_63 rfl (lv_at hl 2 rfl) ?_
    obtain ⟨hz64, h⟩ := bz_some h
    cases h
    exact rt_z hx hb hr hlocks hz64 hP hD hS dX2_leapsOn_64
  have hmX2_leapsOn_20 : ∀ (x2 : Int32) (s0 : Int32) (talf : (Nat → Int32)) (H : Heap) (locs : List Loc) (ls : Array Slot), mX2_leapsOn_20 F x2 s0 talf = some (r0, talf_9) → va_P D vwCl [(mo, .inr (2, [.ref rowo, .ref roomo, .ref talo, .ref jo, .ref ao, .ref bo, .int mtar, .int mdir])), (talo, .inr (0, [.ref talv])), (talv, .inl (cA, 12, .inl talf))] H → va_D A [(mo, .inr (2, [.ref rowo, .ref roomo, .ref talo, .ref jo, .ref ao, .ref bo, .int mtar, .int mdir])), (talo, .inr (0, [.ref talv])), (talv, .inl (cA, 12, .inl talf))] → va_S A s.heap H locs → lv_has ls 5 [(0, .ref mo), (2, .int x2)] → W p l e ({ frames := 1, cells := 0, slots := 0, locals := 22 }) s m ([.ref mo, .int a1] : List Value).toArray below meth c H locs 0 0 (MQ below (Qw D A [(mo, .inr (2, [.ref rowo, .ref roomo, .ref talo, .ref jo, .ref ao, .ref bo, .int mtar, .int mdir])), (talo, .inr (0, [.ref talv])), (talv, .inl (cA, 12, .inl talf_9))] (some (.int r0))) ([.ref mo, .int a1] : List Value).toArray s 0 0 A) (F0 m 20 ls [.int s0]) := by
    intro x2 s0 talf H locs ls h hP hD hS hl
    unfold mX2_leapsOn_20 at h
    refine lv_istore_n (lv' := [(3, .int s0), (0, .ref mo), (2, .int x2)]) hx hb dX2_leapsOn_20 rfl hl (by decide) rfl (fun ls hl => ?_)
    refine lv_iload_n hx hb dX2_leapsOn_21 rfl (lv_at hl 0 rfl) ?_
    refine lv_if_eq (tgt := 31) hx hb dX2_leapsOn_22 (by decide) (fun c22 => ?_) (fun c22 => ?_)
    · have h := i_t c22 h
      refine lv_iload_n hx hb dX2_leapsOn_31 rfl (lv_at hl 2 rfl) ?_
      refine lv_iconst (v := (1 : Int32)) hx hb dX2_leapsOn_32 (by decide) ?_
      refine lv_iadd hx hb dX2_leapsOn_33 ?_
      exact hmX2_leapsOn_34 s0 (x2 + (1 : Int32)) talf _ _ _ h hP hD hS (lv_sub hl [1, 0] rfl)
    · have h := i_f c22 h
      refine lv_iload_n hx hb dX2_leapsOn_25 rfl (lv_at hl 2 rfl) ?_
      refine lv_iconst (v := (1 : Int32)) hx hb dX2_leapsOn_26 (by decide) ?_
      refine lv_isub hx hb dX2_leapsOn_27 ?_
      refine lv_goto (tgt := 34) hx hb dX2_leapsOn_28 (by decide) ?_
      exact hmX2_leapsOn_34 s0 (x2 - (1 : Int32)) talf _ _ _ h hP hD hS (lv_sub hl [1, 0] rfl)
  unfold mX2_leapsOn at h
  refine lv_aload_n hx hb dX2_leapsOn_0 rfl (lv_at hl 0 rfl) ?_
  refine va_get (D := D) (cl := vwCl) (ci := 2) (v := .ref talo) (C := RX2) (T := TX2) (N := 8) hx hb hts hinX2 hown hG.1 hP 0 rfl rfl 2 (by decide) fl30 (fun _ h9 => h9) rfl dX2_leapsOn_1 ?_
  refine lv_bipush (v := (10 : Int32)) hx hb dX2_leapsOn_4 (by decide) ?_
  obtain ⟨r6, hc6, h⟩ := bd1_some h
  refine ct_VN (As := [.int (10 : Int32)]) (rest := []) (st1 := [.int r6]) (wf := [(mo, .inr (2, [.ref rowo, .ref roomo, .ref talo, .ref jo, .ref ao, .ref bo, .int mtar, .int mdir])), (talo, .inr (0, [.ref talv])), (talv, .inl (cA, 12, .inl talf))]) (kX0_look l D cA F talo talv 12 talf (10 : Int32) r6 hc6) ⟨hx, hb, hml, hown, hts⟩ ⟨va_cnB 1 hts gX2_leapsOn_X0_look_n110 rfl rfl rfl (hG.2.m 32 rfl) (hts (.initialized RX0) (by decide +kernel)) (by decide +kernel) ⟨Nat.le_of_ble_eq_true rfl, Nat.le_of_ble_eq_true rfl⟩, hts (.instanceMethod yX0_look) (by decide +kernel), hts (.selects RX0 yX0_look yX0_look) (by decide +kernel)⟩ hG hst hP hD hS hA 0 rfl rfl rfl [1, 2] [0] [0, 1, 2] rfl rfl rfl rfl rfl rfl hl.1 rfl rfl (Nat.le_of_ble_eq_true rfl) dX2_leapsOn_6 ⟨Nat.zero_le _, Nat.zero_le _⟩ (fun H locs hP hD hS => ?_)
  refine lv_istore_n (lv' := [(2, .int r6), (0, .ref mo), (1, .int a1)]) hx hb dX2_leapsOn_9 rfl hl (by decide) rfl (fun ls hl => ?_)
  refine lv_iload_n hx hb dX2_leapsOn_10 rfl (lv_at hl 2 rfl) ?_
  refine lv_iload_n hx hb dX2_leapsOn_11 rfl (lv_at hl 0 rfl) ?_
  refine lv_icmp_lt (tgt := 19) hx hb dX2_leapsOn_12 (by decide) (fun c12 => ?_) (fun c12 => ?_)
  · have h := i_t c12 h
    refine lv_iconst (v := (0 : Int32)) hx hb dX2_leapsOn_19 (by decide) ?_
    exact hmX2_leapsOn_20 r6 (0 : Int32) talf _ _ _ h hP hD hS (lv_sub hl [1, 0] rfl)
  · have h := i_f c12 h
    refine lv_iconst (v := (1 : Int32)) hx hb dX2_leapsOn_15 (by decide) ?_
    refine lv_goto (tgt := 20) hx hb dX2_leapsOn_16 (by decide) ?_
    exact hmX2_leapsOn_20 r6 (1 : Int32) talf _ _ _ h hP hD hS (lv_sub hl [1, 0] rfl)
set_option maxHeartbeats 4000000 in
set_option maxRecDepth 100000 in
theorem kX2_leaveWhatStays (l : Launch) (D : va_G) (cA : ClassId) (F : Nat) (mo : Nat) (rowo : Nat) (roomo : Nat) (talo : Nat) (jo : Nat) (ao : Nat) (bo : Nat) (rowv : Nat) (talv : Nat) (ra : Nat) (rb : Nat) (mtar : Int32) (mdir : Int32) (rowf : (Nat → Int32)) (talf : (Nat → Int32)) (jord : Int32) (ea : Int32) (da : Int32) (la : Int32) (eb : Int32) (db : Int32) (lb : Int32) (a1 : Int32) (a2 : Int32) (a3 : Int32) (talf_9 : (Nat → Int32)) (ea_9 : Int32) (da_9 : Int32) (la_9 : Int32) (eb_9 : Int32) (db_9 : Int32) (lb_9 : Int32) (h : mX2_leaveWhatStays F rowf talf jord a1 a2 a3 = some (talf_9, ea_9, da_9, la_9, eb_9, db_9, lb_9)) : Ct l yX2_leaveWhatStays wsX2_leaveWhatStays ({ frames := 3, cells := 0, slots := 0, locals := 75 }) D cA [.ref mo, .int a1, .int a2, .int a3] [(mo, .inr (2, [.ref rowo, .ref roomo, .ref talo, .ref jo, .ref ao, .ref bo, .int mtar, .int mdir])), (rowo, .inr (0, [.ref rowv])), (rowv, .inl (cA, 96, .inl rowf)), (talo, .inr (0, [.ref talv])), (talv, .inl (cA, 12, .inl talf)), (jo, .inr (1, [.ref talo, .int jord])), (ao, .inr (4, [.ref ra, .int ea, .int da, .int la])), (bo, .inr (4, [.ref rb, .int eb, .int db, .int lb]))] [(mo, .inr (2, [.ref rowo, .ref roomo, .ref talo, .ref jo, .ref ao, .ref bo, .int mtar, .int mdir])), (rowo, .inr (0, [.ref rowv])), (rowv, .inl (cA, 96, .inl rowf)), (talo, .inr (0, [.ref talv])), (talv, .inl (cA, 12, .inl talf_9)), (jo, .inr (1, [.ref talo, .int jord])), (ao, .inr (4, [.ref rowo, .int ea_9, .int da_9, .int la_9])), (bo, .inr (4, [.ref rowo, .int eb_9, .int db_9, .int lb_9]))] (none) := by
  refine Ct.of (cc := cX2_leaveWhatStays) (maxL := 4) (ret := none) (by decide) rfl (Nat.le_of_ble_eq_true rfl) ?_
  intro p e s m below meth c A ls hcx hG hst hA hP hD hl
  obtain ⟨hx, hb, hml, hown, hts, hr, hlocks⟩ := id hcx
  have hown : s.vm.findClass RX2 = some m.cls := hown
  have hS : va_S A s.heap s.heap [] := va_S.rf
  have hl : lv_has ls 4 [(0, .ref mo), (1, .int a1), (2, .int a2), (3, .int a3)] := hl
  have hinX2 : ∀ w ∈ u_ws RX2 TX2 8, w ∈ wsX2_leaveWhatStays := by decide +kernel
  have hinX4 : ∀ w ∈ u_ws RX4 TX4 4, w ∈ wsX2_leaveWhatStays := by decide +kernel
  have fl42 := hts (.fieldLink RX2 42 "RunSorter$Merger" "a" "LRunSorter$Span;") (by decide +kernel)
  have fl27 := hts (.fieldLink RX2 27 "RunSorter$Merger" "row" "LRunSorter$Cells;") (by decide +kernel)
  have fl46 := hts (.fieldLink RX2 46 "RunSorter$Merger" "b" "LRunSorter$Span;") (by decide +kernel)
  have fl33 := hts (.fieldLink RX2 33 "RunSorter$Merger" "judge" "LRunSorter$Judge;") (by decide +kernel)
  unfold mX2_leaveWhatStays at h
  refine lv_aload_n hx hb dX2_leaveWhatStays_0 rfl (lv_at hl 0 rfl) ?_
  refine va_get (D := D) (cl := vwCl) (ci := 2) (v := .ref ao) (C := RX2) (T := TX2) (N := 8) hx hb hts hinX2 hown hG.1 hP 0 rfl rfl 4 (by decide) fl42 (fun _ h9 => h9) rfl dX2_leaveWhatStays_1 ?_
  refine lv_aload_n hx hb dX2_leaveWhatStays_4 rfl (lv_at hl 0 rfl) ?_
  refine va_get (D := D) (cl := vwCl) (ci := 2) (v := .ref rowo) (C := RX2) (T := TX2) (N := 8) hx hb hts hinX2 hown hG.1 hP 0 rfl rfl 0 (by decide) fl27 (fun _ h9 => h9) rfl dX2_leaveWhatStays_5 ?_
  refine lv_iload_n hx hb dX2_leaveWhatStays_8 rfl (lv_at hl 1 rfl) ?_
  refine lv_iconst (v := (1 : Int32)) hx hb dX2_leaveWhatStays_9 (by decide) ?_
  refine lv_iload_n hx hb dX2_leaveWhatStays_10 rfl (lv_at hl 2 rfl) ?_
  obtain ⟨ea_11, da_11, la_11, hc11, h⟩ := bd3_some h
  refine ct_VN (As := [.ref rowo, .int a1, .int (1 : Int32), .int a2]) (rest := []) (st1 := []) (wf := [(mo, .inr (2, [.ref rowo, .ref roomo, .ref talo, .ref jo, .ref ao, .ref bo, .int mtar, .int mdir])), (rowo, .inr (0, [.ref rowv])), (rowv, .inl (cA, 96, .inl rowf)), (talo, .inr (0, [.ref talv])), (talv, .inl (cA, 12, .inl talf)), (jo, .inr (1, [.ref talo, .int jord])), (ao, .inr (4, [.ref rowo, .int ea_11, .int da_11, .int la_11])), (bo, .inr (4, [.ref rb, .int eb, .int db, .int lb]))]) (kX4_aim l D cA F ao rowo ra  ea da la a1 (1 : Int32) a2 ea_11 da_11 la_11 hc11) ⟨hx, hb, hml, hown, hts⟩ ⟨va_cnB 4 hts gX2_leaveWhatStays_X4_aim_n76 rfl rfl rfl (hG.2.m 23 rfl) (hts (.initialized RX4) (by decide +kernel)) (by decide +kernel) ⟨Nat.le_of_ble_eq_true rfl, Nat.le_of_ble_eq_true rfl⟩, hts (.instanceMethod yX4_aim) (by decide +kernel), hts (.selects RX4 yX4_aim yX4_aim) (by decide +kernel)⟩ hG hst hP hD hS hA 4 rfl rfl rfl [6] [0, 1, 2, 3, 4, 5, 7] [0, 1, 2, 3, 4, 5, 7, 6] rfl rfl rfl rfl rfl rfl hl.1 rfl rfl (Nat.le_of_ble_eq_true rfl) dX2_leaveWhatStays_11 ⟨Nat.zero_le _, Nat.zero_le _⟩ (fun H locs hP hD hS => ?_)
  refine lv_aload_n hx hb dX2_leaveWhatStays_14 rfl (lv_at hl 0 rfl) ?_
  refine va_get (D := D) (cl := vwCl) (ci := 2) (v := .ref bo) (C := RX2) (T := TX2) (N := 8) hx hb hts hinX2 hown hG.1 hP 0 rfl rfl 5 (by decide) fl46 (fun _ h9 => h9) rfl dX2_leaveWhatStays_15 ?_
  refine lv_aload_n hx hb dX2_leaveWhatStays_18 rfl (lv_at hl 0 rfl) ?_
  refine va_get (D := D) (cl := vwCl) (ci := 2) (v := .ref rowo) (C := RX2) (T := TX2) (N := 8) hx hb hts hinX2 hown hG.1 hP 0 rfl rfl 0 (by decide) fl27 (fun _ h9 => h9) rfl dX2_leaveWhatStays_19 ?_
  refine lv_iload_n hx hb dX2_leaveWhatStays_22 rfl (lv_at hl 1 rfl) ?_
  refine lv_iload_n hx hb dX2_leaveWhatStays_23 rfl (lv_at hl 2 rfl) ?_
  refine lv_iadd hx hb dX2_leaveWhatStays_24 ?_
  refine lv_iconst (v := (1 : Int32)) hx hb dX2_leaveWhatStays_25 (by decide) ?_
  refine lv_iload_n hx hb dX2_leaveWhatStays_26 rfl (lv_at hl 3 rfl) ?_
  obtain ⟨eb_27, db_27, lb_27, hc27, h⟩ := bd3_some h
  refine ct_VN (As := [.ref rowo, .int (a1 + a2), .int (1 : Int32), .int a3]) (rest := []) (st1 := []) (wf := [(mo, .inr (2, [.ref rowo, .ref roomo, .ref talo, .ref jo, .ref ao, .ref bo, .int mtar, .int mdir])), (rowo, .inr (0, [.ref rowv])), (rowv, .inl (cA, 96, .inl rowf)), (talo, .inr (0, [.ref talv])), (talv, .inl (cA, 12, .inl talf)), (jo, .inr (1, [.ref talo, .int jord])), (ao, .inr (4, [.ref rowo, .int ea_11, .int da_11, .int la_11])), (bo, .inr (4, [.ref rowo, .int eb_27, .int db_27, .int lb_27]))]) (kX4_aim l D cA F bo rowo rb  eb db lb (a1 + a2) (1 : Int32) a3 eb_27 db_27 lb_27 hc27) ⟨hx, hb, hml, hown, hts⟩ ⟨va_cnB 4 hts gX2_leaveWhatStays_X4_aim_n76 rfl rfl rfl (hG.2.m 23 rfl) (hts (.initialized RX4) (by decide +kernel)) (by decide +kernel) ⟨Nat.le_of_ble_eq_true rfl, Nat.le_of_ble_eq_true rfl⟩, hts (.instanceMethod yX4_aim) (by decide +kernel), hts (.selects RX4 yX4_aim yX4_aim) (by decide +kernel)⟩ hG hst hP hD hS hA 4 rfl rfl rfl [7] [0, 1, 2, 3, 4, 5, 6] [0, 1, 2, 3, 4, 5, 6, 7] rfl rfl rfl rfl rfl rfl hl.1 rfl rfl (Nat.le_of_ble_eq_true rfl) dX2_leaveWhatStays_27 ⟨Nat.zero_le _, Nat.zero_le _⟩ (fun H locs hP hD hS => ?_)
  refine lv_aload_n hx hb dX2_leaveWhatStays_30 rfl (lv_at hl 0 rfl) ?_
  refine va_get (D := D) (cl := vwCl) (ci := 2) (v := .ref ao) (C := RX2) (T := TX2) (N := 8) hx hb hts hinX2 hown hG.1 hP 0 rfl rfl 4 (by decide) fl42 (fun _ h9 => h9) rfl dX2_leaveWhatStays_31 ?_
  refine lv_aload_n hx hb dX2_leaveWhatStays_34 rfl (lv_at hl 0 rfl) ?_
  refine va_get (D := D) (cl := vwCl) (ci := 2) (v := .ref jo) (C := RX2) (T := TX2) (N := 8) hx hb hts hinX2 hown hG.1 hP 0 rfl rfl 3 (by decide) fl33 (fun _ h9 => h9) rfl dX2_leaveWhatStays_35 ?_
  refine lv_aload_n hx hb dX2_leaveWhatStays_38 rfl (lv_at hl 0 rfl) ?_
  refine va_get (D := D) (cl := vwCl) (ci := 2) (v := .ref ao) (C := RX2) (T := TX2) (N := 8) hx hb hts hinX2 hown hG.1 hP 0 rfl rfl 4 (by decide) fl42 (fun _ h9 => h9) rfl dX2_leaveWhatStays_39 ?_
  refine lv_aload_n hx hb dX2_leaveWhatStays_42 rfl (lv_at hl 0 rfl) ?_
  refine va_get (D := D) (cl := vwCl) (ci := 2) (v := .ref bo) (C := RX2) (T := TX2) (N := 8) hx hb hts hinX2 hown hG.1 hP 0 rfl rfl 5 (by decide) fl46 (fun _ h9 => h9) rfl dX2_leaveWhatStays_43 ?_
  refine lv_iconst (v := (0 : Int32)) hx hb dX2_leaveWhatStays_46 (by decide) ?_
  obtain ⟨r47, hc47, h⟩ := bd1_some h
  refine ct_VN (As := [.int (0 : Int32)]) (rest := [.ref ao, .ref jo, .ref ao]) (st1 := [.int r47, .ref ao, .ref jo, .ref ao]) (wf := [(mo, .inr (2, [.ref rowo, .ref roomo, .ref talo, .ref jo, .ref ao, .ref bo, .int mtar, .int mdir])), (rowo, .inr (0, [.ref rowv])), (rowv, .inl (cA, 96, .inl rowf)), (talo, .inr (0, [.ref talv])), (talv, .inl (cA, 12, .inl talf)), (jo, .inr (1, [.ref talo, .int jord])), (ao, .inr (4, [.ref rowo, .int ea_11, .int da_11, .int la_11])), (bo, .inr (4, [.ref rowo, .int eb_27, .int db_27, .int lb_27]))]) (kX4_ahead l D cA F bo rowo rowv 96 eb_27 db_27 lb_27 rowf (0 : Int32) r47 hc47) ⟨hx, hb, hml, hown, hts⟩ ⟨va_cnB 1 hts gX2_leaveWhatStays_X4_ahead_n80 rfl rfl rfl (hG.2.m 24 rfl) (hts (.initialized RX4) (by decide +kernel)) (by decide +kernel) ⟨Nat.le_of_ble_eq_true rfl, Nat.le_of_ble_eq_true rfl⟩, hts (.instanceMethod yX4_ahead) (by decide +kernel), hts (.selects RX4 yX4_ahead yX4_ahead) (by decide +kernel)⟩ hG hst hP hD hS hA 4 rfl rfl rfl [7, 1, 2] [0, 3, 4, 5, 6] [0, 6, 7, 1, 2, 3, 4, 5] rfl rfl rfl rfl rfl rfl hl.1 rfl rfl (Nat.le_of_ble_eq_true rfl) dX2_leaveWhatStays_47 ⟨Nat.zero_le _, Nat.zero_le _⟩ (fun H locs hP hD hS => ?_)
  refine lv_iconst (v := (1 : Int32)) hx hb dX2_leaveWhatStays_50 (by decide) ?_
  refine lv_iconst (v := (0 : Int32)) hx hb dX2_leaveWhatStays_51 (by decide) ?_
  obtain ⟨r52, talf_52, hc52, h⟩ := bd2_some h
  refine ct_VN (As := [.ref ao, .int r47, .int (1 : Int32), .int (0 : Int32)]) (rest := [.ref ao]) (st1 := [.int r52, .ref ao]) (wf := [(mo, .inr (2, [.ref rowo, .ref roomo, .ref talo, .ref jo, .ref ao, .ref bo, .int mtar, .int mdir])), (rowo, .inr (0, [.ref rowv])), (rowv, .inl (cA, 96, .inl rowf)), (talo, .inr (0, [.ref talv])), (talv, .inl (cA, 12, .inl talf_52)), (jo, .inr (1, [.ref talo, .int jord])), (ao, .inr (4, [.ref rowo, .int ea_11, .int da_11, .int la_11])), (bo, .inr (4, [.ref rowo, .int eb_27, .int db_27, .int lb_27]))]) (kX1_passing l D cA F jo ao talo talv rowo rowv 96 jord talf ea_11 da_11 la_11 rowf r47 (1 : Int32) (0 : Int32) r52 talf_52 hc52) ⟨hx, hb, hml, hown, hts⟩ ⟨va_cnB 4 hts gX2_leaveWhatStays_X1_passing_n84 rfl rfl rfl (hG.2.m 26 rfl) (hts (.initialized RX1) (by decide +kernel)) (by decide +kernel) ⟨Nat.le_of_ble_eq_true rfl, Nat.le_of_ble_eq_true rfl⟩, hts (.instanceMethod yX1_passing) (by decide +kernel), hts (.selects RX1 yX1_passing yX1_passing) (by decide +kernel)⟩ hG hst hP hD hS hA 1 rfl rfl rfl [5, 3, 4, 6, 1, 2] [0, 7] [0, 6, 7, 3, 4, 2, 5, 1] rfl rfl rfl rfl rfl rfl hl.1 rfl rfl (Nat.le_of_ble_eq_true rfl) dX2_leaveWhatStays_52 ⟨Nat.zero_le _, Nat.zero_le _⟩ (fun H locs hP hD hS => ?_)
  obtain ⟨ea_55, la_55, hc55, h⟩ := bd2_some h
  refine ct_VN (As := [.int r52]) (rest := []) (st1 := []) (wf := [(mo, .inr (2, [.ref rowo, .ref roomo, .ref talo, .ref jo, .ref ao, .ref bo, .int mtar, .int mdir])), (rowo, .inr (0, [.ref rowv])), (rowv, .inl (cA, 96, .inl rowf)), (talo, .inr (0, [.ref talv])), (talv, .inl (cA, 12, .inl talf_52)), (jo, .inr (1, [.ref talo, .int jord])), (ao, .inr (4, [.ref rowo, .int ea_55, .int da_11, .int la_55])), (bo, .inr (4, [.ref rowo, .int eb_27, .int db_27, .int lb_27]))]) (kX4_drop l D cA F ao rowo  ea_11 da_11 la_11 r52 ea_55 la_55 hc55) ⟨hx, hb, hml, hown, hts⟩ ⟨va_cnB 1 hts gX2_leaveWhatStays_X4_drop_n90 rfl rfl rfl (hG.2.m 28 rfl) (hts (.initialized RX4) (by decide +kernel)) (by decide +kernel) ⟨Nat.le_of_ble_eq_true rfl, Nat.le_of_ble_eq_true rfl⟩, hts (.instanceMethod yX4_drop) (by decide +kernel), hts (.selects RX4 yX4_drop yX4_drop) (by decide +kernel)⟩ hG hst hP hD hS hA 4 rfl rfl rfl [6] [0, 1, 2, 3, 4, 5, 7] [0, 1, 2, 3, 4, 5, 7, 6] rfl rfl rfl rfl rfl rfl hl.1 rfl rfl (Nat.le_of_ble_eq_true rfl) dX2_leaveWhatStays_55 ⟨Nat.zero_le _, Nat.zero_le _⟩ (fun H locs hP hD hS => ?_)
  refine lv_aload_n hx hb dX2_leaveWhatStays_58 rfl (lv_at hl 0 rfl) ?_
  refine va_get (D := D) (cl := vwCl) (ci := 2) (v := .ref ao) (C := RX2) (T := TX2) (N := 8) hx hb hts hinX2 hown hG.1 hP 0 rfl rfl 4 (by decide) fl42 (fun _ h9 => h9) rfl dX2_leaveWhatStays_59 ?_
  refine va_getN (D := D) (cl := vwCl) (ci := 4) (v := .int la_55) (C := RX4) (T := TX4) (N := 4) hx hb hts hinX4 hown hG.1 hP 6 rfl rfl 3 (by decide) (hG.2.f 4 rfl) (fun _ h9 => h9) rfl dX2_leaveWhatStays_62 ?_
  refine lv_if_le (tgt := 104) hx hb dX2_leaveWhatStays_65 (by decide) (fun c65 => ?_) (fun c65 => ?_)
  · have h := i_t c65 h
    cases h
    exact rt_v hx hb hr hlocks hP hD hS dX2_leaveWhatStays_104
  · have h := i_f c65 h
    refine lv_aload_n hx hb dX2_leaveWhatStays_68 rfl (lv_at hl 0 rfl) ?_
    refine va_get (D := D) (cl := vwCl) (ci := 2) (v := .ref bo) (C := RX2) (T := TX2) (N := 8) hx hb hts hinX2 hown hG.1 hP 0 rfl rfl 5 (by decide) fl46 (fun _ h9 => h9) rfl dX2_leaveWhatStays_69 ?_
    refine lv_aload_n hx hb dX2_leaveWhatStays_72 rfl (lv_at hl 0 rfl) ?_
    refine va_get (D := D) (cl := vwCl) (ci := 2) (v := .ref jo) (C := RX2) (T := TX2) (N := 8) hx hb hts hinX2 hown hG.1 hP 0 rfl rfl 3 (by decide) fl33 (fun _ h9 => h9) rfl dX2_leaveWhatStays_73 ?_
    refine lv_aload_n hx hb dX2_leaveWhatStays_76 rfl (lv_at hl 0 rfl) ?_
    refine va_get (D := D) (cl := vwCl) (ci := 2) (v := .ref bo) (C := RX2) (T := TX2) (N := 8) hx hb hts hinX2 hown hG.1 hP 0 rfl rfl 5 (by decide) fl46 (fun _ h9 => h9) rfl dX2_leaveWhatStays_77 ?_
    refine lv_aload_n hx hb dX2_leaveWhatStays_80 rfl (lv_at hl 0 rfl) ?_
    refine va_get (D := D) (cl := vwCl) (ci := 2) (v := .ref ao) (C := RX2) (T := TX2) (N := 8) hx hb hts hinX2 hown hG.1 hP 0 rfl rfl 4 (by decide) fl42 (fun _ h9 => h9) rfl dX2_leaveWhatStays_81 ?_
    refine lv_aload_n hx hb dX2_leaveWhatStays_84 rfl (lv_at hl 0 rfl) ?_
    refine va_get (D := D) (cl := vwCl) (ci := 2) (v := .ref ao) (C := RX2) (T := TX2) (N := 8) hx hb hts hinX2 hown hG.1 hP 0 rfl rfl 4 (by decide) fl42 (fun _ h9 => h9) rfl dX2_leaveWhatStays_85 ?_
    refine va_getN (D := D) (cl := vwCl) (ci := 4) (v := .int la_55) (C := RX4) (T := TX4) (N := 4) hx hb hts hinX4 hown hG.1 hP 6 rfl rfl 3 (by decide) (hG.2.f 4 rfl) (fun _ h9 => h9) rfl dX2_leaveWhatStays_88 ?_
    refine lv_iconst (v := (1 : Int32)) hx hb dX2_leaveWhatStays_91 (by decide) ?_
    refine lv_isub hx hb dX2_leaveWhatStays_92 ?_
    obtain ⟨r93, hc93, h⟩ := bd1_some h
    refine ct_VN (As := [.int (la_55 - (1 : Int32))]) (rest := [.ref bo, .ref jo, .ref bo]) (st1 := [.int r93, .ref bo, .ref jo, .ref bo]) (wf := [(mo, .inr (2, [.ref rowo, .ref roomo, .ref talo, .ref jo, .ref ao, .ref bo, .int mtar, .int mdir])), (rowo, .inr (0, [.ref rowv])), (rowv, .inl (cA, 96, .inl rowf)), (talo, .inr (0, [.ref talv])), (talv, .inl (cA, 12, .inl talf_52)), (jo, .inr (1, [.ref talo, .int jord])), (ao, .inr (4, [.ref rowo, .int ea_55, .int da_11, .int la_55])), (bo, .inr (4, [.ref rowo, .int eb_27, .int db_27, .int lb_27]))]) (kX4_ahead l D cA F ao rowo rowv 96 ea_55 da_11 la_55 rowf (la_55 - (1 : Int32)) r93 hc93) ⟨hx, hb, hml, hown, hts⟩ ⟨va_cnB 1 hts gX2_leaveWhatStays_X4_ahead_n80 rfl rfl rfl (hG.2.m 24 rfl) (hts (.initialized RX4) (by decide +kernel)) (by decide +kernel) ⟨Nat.le_of_ble_eq_true rfl, Nat.le_of_ble_eq_true rfl⟩, hts (.instanceMethod yX4_ahead) (by decide +kernel), hts (.selects RX4 yX4_ahead yX4_ahead) (by decide +kernel)⟩ hG hst hP hD hS hA 4 rfl rfl rfl [6, 1, 2] [0, 3, 4, 5, 7] [0, 6, 7, 1, 2, 3, 5, 4] rfl rfl rfl rfl rfl rfl hl.1 rfl rfl (Nat.le_of_ble_eq_true rfl) dX2_leaveWhatStays_93 ⟨Nat.zero_le _, Nat.zero_le _⟩ (fun H locs hP hD hS => ?_)
    refine lv_iconst (v := (0 : Int32)) hx hb dX2_leaveWhatStays_96 (by decide) ?_
    refine lv_iconst (v := (1 : Int32)) hx hb dX2_leaveWhatStays_97 (by decide) ?_
    obtain ⟨r98, talf_98, hc98, h⟩ := bd2_some h
    refine ct_VN (As := [.ref bo, .int r93, .int (0 : Int32), .int (1 : Int32)]) (rest := [.ref bo]) (st1 := [.int r98, .ref bo]) (wf := [(mo, .inr (2, [.ref rowo, .ref roomo, .ref talo, .ref jo, .ref ao, .ref bo, .int mtar, .int mdir])), (rowo, .inr (0, [.ref rowv])), (rowv, .inl (cA, 96, .inl rowf)), (talo, .inr (0, [.ref talv])), (talv, .inl (cA, 12, .inl talf_98)), (jo, .inr (1, [.ref talo, .int jord])), (ao, .inr (4, [.ref rowo, .int ea_55, .int da_11, .int la_55])), (bo, .inr (4, [.ref rowo, .int eb_27, .int db_27, .int lb_27]))]) (kX1_passing l D cA F jo bo talo talv rowo rowv 96 jord talf_52 eb_27 db_27 lb_27 rowf r93 (0 : Int32) (1 : Int32) r98 talf_98 hc98) ⟨hx, hb, hml, hown, hts⟩ ⟨va_cnB 4 hts gX2_leaveWhatStays_X1_passing_n84 rfl rfl rfl (hG.2.m 26 rfl) (hts (.initialized RX1) (by decide +kernel)) (by decide +kernel) ⟨Nat.le_of_ble_eq_true rfl, Nat.le_of_ble_eq_true rfl⟩, hts (.instanceMethod yX1_passing) (by decide +kernel), hts (.selects RX1 yX1_passing yX1_passing) (by decide +kernel)⟩ hG hst hP hD hS hA 1 rfl rfl rfl [5, 3, 4, 7, 1, 2] [0, 6] [0, 6, 7, 3, 4, 2, 1, 5] rfl rfl rfl rfl rfl rfl hl.1 rfl rfl (Nat.le_of_ble_eq_true rfl) dX2_leaveWhatStays_98 ⟨Nat.zero_le _, Nat.zero_le _⟩ (fun H locs hP hD hS => ?_)
    refine va_putN (D := D) (cl := vwCl) (ci := 4) (v := .int r98) (ty := .int) (C := RX4) (T := TX4) (N := 4) hx hb hts hinX4 tyX4 tyX4_ok nmX4 hown hG.1 hP hD hS 7 rfl rfl 3 (by decide) (hG.2.f 4 rfl) (fun _ h9 => h9) rfl (by decide +kernel) rfl rfl (Nat.le_of_ble_eq_true rfl) dX2_leaveWhatStays_101 (fun H locs hP hD hS => ?_)
    have hP : va_P D vwCl [(mo, .inr (2, [.ref rowo, .ref roomo, .ref talo, .ref jo, .ref ao, .ref bo, .int mtar, .int mdir])), (rowo, .inr (0, [.ref rowv])), (rowv, .inl (cA, 96, .inl rowf)), (talo, .inr (0, [.ref talv])), (talv, .inl (cA, 12, .inl talf_98)), (jo, .inr (1, [.ref talo, .int jord])), (ao, .inr (4, [.ref rowo, .int ea_55, .int da_11, .int la_55])), (bo, .inr (4, [.ref rowo, .int eb_27, .int db_27, .int r98]))] H := hP
    have hD : va_D A [(mo, .inr (2, [.ref rowo, .ref roomo, .ref talo, .ref jo, .ref ao, .ref bo, .int mtar, .int mdir])), (rowo, .inr (0, [.ref rowv])), (rowv, .inl (cA, 96, .inl rowf)), (talo, .inr (0, [.ref talv])), (talv, .inl (cA, 12, .inl talf_98)), (jo, .inr (1, [.ref talo, .int jord])), (ao, .inr (4, [.ref rowo, .int ea_55, .int da_11, .int la_55])), (bo, .inr (4, [.ref rowo, .int eb_27, .int db_27, .int r98]))] := hD
    cases h
    exact rt_v hx hb hr hlocks hP hD hS dX2_leaveWhatStays_104
set_option maxHeartbeats 4000000 in
set_option maxRecDepth 100000 in
theorem kX2_openForward (l : Launch) (D : va_G) (cA : ClassId) (F : Nat) (mo : Nat) (rowo : Nat) (roomo : Nat) (talo : Nat) (jo : Nat) (ao : Nat) (bo : Nat) (rowv : Nat) (roomv : Nat) (talv : Nat) (mtar : Int32) (mdir : Int32) (rowf : (Nat → Int32)) (roomf : (Nat → Int32)) (talf : (Nat → Int32)) (ea : Int32) (da : Int32) (la : Int32) (mtar_9 : Int32) (mdir_9 : Int32) (roomf_9 : (Nat → Int32)) (talf_9 : (Nat → Int32)) (ea_9 : Int32) (da_9 : Int32) (la_9 : Int32) (h : mX2_openForward F rowf roomf talf ea da la = some (mtar_9, mdir_9, roomf_9, talf_9, ea_9, da_9, la_9)) : Ct l yX2_openForward wsX2_openForward ({ frames := 3, cells := 0, slots := 0, locals := 64 }) D cA [.ref mo] [(mo, .inr (2, [.ref rowo, .ref roomo, .ref talo, .ref jo, .ref ao, .ref bo, .int mtar, .int mdir])), (rowo, .inr (0, [.ref rowv])), (rowv, .inl (cA, 96, .inl rowf)), (roomo, .inr (0, [.ref roomv])), (roomv, .inl (cA, 48, .inl roomf)), (talo, .inr (0, [.ref talv])), (talv, .inl (cA, 12, .inl talf)), (ao, .inr (4, [.ref rowo, .int ea, .int da, .int la]))] [(mo, .inr (2, [.ref rowo, .ref roomo, .ref talo, .ref jo, .ref ao, .ref bo, .int mtar_9, .int mdir_9])), (rowo, .inr (0, [.ref rowv])), (rowv, .inl (cA, 96, .inl rowf)), (roomo, .inr (0, [.ref roomv])), (roomv, .inl (cA, 48, .inl roomf_9)), (talo, .inr (0, [.ref talv])), (talv, .inl (cA, 12, .inl talf_9)), (ao, .inr (4, [.ref roomo, .int ea_9, .int da_9, .int la_9]))] (none) := by
  refine Ct.of (cc := cX2_openForward) (maxL := 1) (ret := none) (by decide) rfl (Nat.le_of_ble_eq_true rfl) ?_
  intro p e s m below meth c A ls hcx hG hst hA hP hD hl
  obtain ⟨hx, hb, hml, hown, hts, hr, hlocks⟩ := id hcx
  have hown : s.vm.findClass RX2 = some m.cls := hown
  have hS : va_S A s.heap s.heap [] := va_S.rf
  have hl : lv_has ls 1 [(0, .ref mo)] := hl
  have hinX2 : ∀ w ∈ u_ws RX2 TX2 8, w ∈ wsX2_openForward := by decide +kernel
  have hinX4 : ∀ w ∈ u_ws RX4 TX4 4, w ∈ wsX2_openForward := by decide +kernel
  have fl24 := hts (.fieldLink RX2 24 "RunSorter$Merger" "direction" "I") (by decide +kernel)
  have fl42 := hts (.fieldLink RX2 42 "RunSorter$Merger" "a" "LRunSorter$Span;") (by decide +kernel)
  have fl20 := hts (.fieldLink RX2 20 "RunSorter$Merger" "target" "I") (by decide +kernel)
  have fl14 := hts (.fieldLink RX2 14 "RunSorter$Merger" "room" "LRunSorter$Cells;") (by decide +kernel)
  unfold mX2_openForward at h
  refine lv_aload_n hx hb dX2_openForward_0 rfl (lv_at hl 0 rfl) ?_
  refine lv_iconst (v := (1 : Int32)) hx hb dX2_openForward_1 (by decide) ?_
  refine va_put (D := D) (cl := vwCl) (ci := 2) (v := .int (1 : Int32)) (ty := .int) (C := RX2) (T := TX2) (N := 8) hx hb hts hinX2 tyX2 tyX2_ok nmX2 hown hG.1 hP hD hS 0 rfl rfl 7 (by decide) fl24 (fun _ h9 => h9) rfl (by decide +kernel) rfl rfl (Nat.le_of_ble_eq_true rfl) dX2_openForward_2 (fun H locs hP hD hS => ?_)
  have hP : va_P D vwCl [(mo, .inr (2, [.ref rowo, .ref roomo, .ref talo, .ref jo, .ref ao, .ref bo, .int mtar, .int (1 : Int32)])), (rowo, .inr (0, [.ref rowv])), (rowv, .inl (cA, 96, .inl rowf)), (roomo, .inr (0, [.ref roomv])), (roomv, .inl (cA, 48, .inl roomf)), (talo, .inr (0, [.ref talv])), (talv, .inl (cA, 12, .inl talf)), (ao, .inr (4, [.ref rowo, .int ea, .int da, .int la]))] H := hP
  have hD : va_D A [(mo, .inr (2, [.ref rowo, .ref roomo, .ref talo, .ref jo, .ref ao, .ref bo, .int mtar, .int (1 : Int32)])), (rowo, .inr (0, [.ref rowv])), (rowv, .inl (cA, 96, .inl rowf)), (roomo, .inr (0, [.ref roomv])), (roomv, .inl (cA, 48, .inl roomf)), (talo, .inr (0, [.ref talv])), (talv, .inl (cA, 12, .inl talf)), (ao, .inr (4, [.ref rowo, .int ea, .int da, .int la]))] := hD
  refine lv_aload_n hx hb dX2_openForward_5 rfl (lv_at hl 0 rfl) ?_
  refine lv_aload_n hx hb dX2_openForward_6 rfl (lv_at hl 0 rfl) ?_
  refine va_get (D := D) (cl := vwCl) (ci := 2) (v := .ref ao) (C := RX2) (T := TX2) (N := 8) hx hb hts hinX2 hown hG.1 hP 0 rfl rfl 4 (by decide) fl42 (fun _ h9 => h9) rfl dX2_openForward_7 ?_
  refine va_getN (D := D) (cl := vwCl) (ci := 4) (v := .int ea) (C := RX4) (T := TX4) (N := 4) hx hb hts hinX4 hown hG.1 hP 7 rfl rfl 1 (by decide) (hG.2.f 3 rfl) (fun _ h9 => h9) rfl dX2_openForward_10 ?_
  refine va_put (D := D) (cl := vwCl) (ci := 2) (v := .int ea) (ty := .int) (C := RX2) (T := TX2) (N := 8) hx hb hts hinX2 tyX2 tyX2_ok nmX2 hown hG.1 hP hD hS 0 rfl rfl 6 (by decide) fl20 (fun _ h9 => h9) rfl (by decide +kernel) rfl rfl (Nat.le_of_ble_eq_true rfl) dX2_openForward_13 (fun H locs hP hD hS => ?_)
  have hP : va_P D vwCl [(mo, .inr (2, [.ref rowo, .ref roomo, .ref talo, .ref jo, .ref ao, .ref bo, .int ea, .int (1 : Int32)])), (rowo, .inr (0, [.ref rowv])), (rowv, .inl (cA, 96, .inl rowf)), (roomo, .inr (0, [.ref roomv])), (roomv, .inl (cA, 48, .inl roomf)), (talo, .inr (0, [.ref talv])), (talv, .inl (cA, 12, .inl talf)), (ao, .inr (4, [.ref rowo, .int ea, .int da, .int la]))] H := hP
  have hD : va_D A [(mo, .inr (2, [.ref rowo, .ref roomo, .ref talo, .ref jo, .ref ao, .ref bo, .int ea, .int (1 : Int32)])), (rowo, .inr (0, [.ref rowv])), (rowv, .inl (cA, 96, .inl rowf)), (roomo, .inr (0, [.ref roomv])), (roomv, .inl (cA, 48, .inl roomf)), (talo, .inr (0, [.ref talv])), (talv, .inl (cA, 12, .inl talf)), (ao, .inr (4, [.ref rowo, .int ea, .int da, .int la]))] := hD
  refine lv_aload_n hx hb dX2_openForward_16 rfl (lv_at hl 0 rfl) ?_
  refine lv_aload_n hx hb dX2_openForward_17 rfl (lv_at hl 0 rfl) ?_
  refine va_get (D := D) (cl := vwCl) (ci := 2) (v := .ref ao) (C := RX2) (T := TX2) (N := 8) hx hb hts hinX2 hown hG.1 hP 0 rfl rfl 4 (by decide) fl42 (fun _ h9 => h9) rfl dX2_openForward_18 ?_
  obtain ⟨roomf_21, talf_21, hc21, h⟩ := bd2_some h
  refine ct_V (As := [.ref ao]) (rest := []) (st1 := []) (wf := [(mo, .inr (2, [.ref rowo, .ref roomo, .ref talo, .ref jo, .ref ao, .ref bo, .int ea, .int (1 : Int32)])), (rowo, .inr (0, [.ref rowv])), (rowv, .inl (cA, 96, .inl rowf)), (roomo, .inr (0, [.ref roomv])), (roomv, .inl (cA, 48, .inl roomf_21)), (talo, .inr (0, [.ref talv])), (talv, .inl (cA, 12, .inl talf_21)), (ao, .inr (4, [.ref rowo, .int ea, .int da, .int la]))]) (kX2_bringIntoRoom l D cA F mo ao rowo roomo talo jo ao bo roomv talv rowv  ea (1 : Int32) roomf talf ea da la rowf  roomf_21 talf_21 hc21) ⟨hx, hb, hml, hown, hts⟩ (cwV 1 hts gX2_openForward_X2_bringIntoRoom rfl rfl rfl (by decide +kernel) ⟨Nat.le_of_ble_eq_true rfl, Nat.le_of_ble_eq_true rfl⟩) hG hst hP hD hS hA 2 rfl rfl rfl [0, 3, 4, 5, 6, 7, 1, 2] [] [0, 6, 7, 1, 2, 3, 4, 5] rfl rfl rfl rfl rfl rfl hl.1 rfl rfl (Nat.le_of_ble_eq_true rfl) dX2_openForward_21 ⟨Nat.zero_le _, Nat.zero_le _⟩ (fun H locs hP hD hS => ?_)
  refine lv_aload_n hx hb dX2_openForward_24 rfl (lv_at hl 0 rfl) ?_
  refine va_get (D := D) (cl := vwCl) (ci := 2) (v := .ref ao) (C := RX2) (T := TX2) (N := 8) hx hb hts hinX2 hown hG.1 hP 0 rfl rfl 4 (by decide) fl42 (fun _ h9 => h9) rfl dX2_openForward_25 ?_
  refine lv_aload_n hx hb dX2_openForward_28 rfl (lv_at hl 0 rfl) ?_
  refine va_get (D := D) (cl := vwCl) (ci := 2) (v := .ref roomo) (C := RX2) (T := TX2) (N := 8) hx hb hts hinX2 hown hG.1 hP 0 rfl rfl 1 (by decide) fl14 (fun _ h9 => h9) rfl dX2_openForward_29 ?_
  refine lv_iconst (v := (0 : Int32)) hx hb dX2_openForward_32 (by decide) ?_
  refine lv_iconst (v := (1 : Int32)) hx hb dX2_openForward_33 (by decide) ?_
  refine lv_aload_n hx hb dX2_openForward_34 rfl (lv_at hl 0 rfl) ?_
  refine va_get (D := D) (cl := vwCl) (ci := 2) (v := .ref ao) (C := RX2) (T := TX2) (N := 8) hx hb hts hinX2 hown hG.1 hP 0 rfl rfl 4 (by decide) fl42 (fun _ h9 => h9) rfl dX2_openForward_35 ?_
  refine va_getN (D := D) (cl := vwCl) (ci := 4) (v := .int la) (C := RX4) (T := TX4) (N := 4) hx hb hts hinX4 hown hG.1 hP 7 rfl rfl 3 (by decide) (hG.2.f 4 rfl) (fun _ h9 => h9) rfl dX2_openForward_38 ?_
  obtain ⟨ea_41, da_41, la_41, hc41, h⟩ := bd3_some h
  refine ct_VN (As := [.ref roomo, .int (0 : Int32), .int (1 : Int32), .int la]) (rest := []) (st1 := []) (wf := [(mo, .inr (2, [.ref rowo, .ref roomo, .ref talo, .ref jo, .ref ao, .ref bo, .int ea, .int (1 : Int32)])), (rowo, .inr (0, [.ref rowv])), (rowv, .inl (cA, 96, .inl rowf)), (roomo, .inr (0, [.ref roomv])), (roomv, .inl (cA, 48, .inl roomf_21)), (talo, .inr (0, [.ref talv])), (talv, .inl (cA, 12, .inl talf_21)), (ao, .inr (4, [.ref roomo, .int ea_41, .int da_41, .int la_41]))]) (kX4_aim l D cA F ao roomo rowo  ea da la (0 : Int32) (1 : Int32) la ea_41 da_41 la_41 hc41) ⟨hx, hb, hml, hown, hts⟩ ⟨va_cnB 4 hts gX2_openForward_X4_aim_n76 rfl rfl rfl (hG.2.m 23 rfl) (hts (.initialized RX4) (by decide +kernel)) (by decide +kernel) ⟨Nat.le_of_ble_eq_true rfl, Nat.le_of_ble_eq_true rfl⟩, hts (.instanceMethod yX4_aim) (by decide +kernel), hts (.selects RX4 yX4_aim yX4_aim) (by decide +kernel)⟩ hG hst hP hD hS hA 4 rfl rfl rfl [7] [0, 1, 2, 3, 4, 5, 6] [0, 1, 2, 3, 4, 5, 6, 7] rfl rfl rfl rfl rfl rfl hl.1 rfl rfl (Nat.le_of_ble_eq_true rfl) dX2_openForward_41 ⟨Nat.zero_le _, Nat.zero_le _⟩ (fun H locs hP hD hS => ?_)
  cases h
  exact rt_v hx hb hr hlocks hP hD hS dX2_openForward_44
set_option maxHeartbeats 4000000 in
set_option maxRecDepth 100000 in
theorem kX2_openBack (l : Launch) (D : va_G) (cA : ClassId) (F : Nat) (mo : Nat) (rowo : Nat) (roomo : Nat) (talo : Nat) (jo : Nat) (ao : Nat) (bo : Nat) (rowv : Nat) (roomv : Nat) (talv : Nat) (mtar : Int32) (mdir : Int32) (rowf : (Nat → Int32)) (roomf : (Nat → Int32)) (talf : (Nat → Int32)) (ea : Int32) (da : Int32) (la : Int32) (eb : Int32) (db : Int32) (lb : Int32) (mtar_9 : Int32) (mdir_9 : Int32) (roomf_9 : (Nat → Int32)) (talf_9 : (Nat → Int32)) (ea_9 : Int32) (da_9 : Int32) (la_9 : Int32) (eb_9 : Int32) (db_9 : Int32) (lb_9 : Int32) (h : mX2_openBack F rowf roomf talf ea la eb db lb = some (mtar_9, mdir_9, roomf_9, talf_9, ea_9, da_9, la_9, eb_9, db_9, lb_9)) : Ct l yX2_openBack wsX2_openBack ({ frames := 3, cells := 0, slots := 0, locals := 64 }) D cA [.ref mo] [(mo, .inr (2, [.ref rowo, .ref roomo, .ref talo, .ref jo, .ref ao, .ref bo, .int mtar, .int mdir])), (rowo, .inr (0, [.ref rowv])), (rowv, .inl (cA, 96, .inl rowf)), (roomo, .inr (0, [.ref roomv])), (roomv, .inl (cA, 48, .inl roomf)), (talo, .inr (0, [.ref talv])), (talv, .inl (cA, 12, .inl talf)), (ao, .inr (4, [.ref rowo, .int ea, .int da, .int la])), (bo, .inr (4, [.ref rowo, .int eb, .int db, .int lb]))] [(mo, .inr (2, [.ref rowo, .ref roomo, .ref talo, .ref jo, .ref ao, .ref bo, .int mtar_9, .int mdir_9])), (rowo, .inr (0, [.ref rowv])), (rowv, .inl (cA, 96, .inl rowf)), (roomo, .inr (0, [.ref roomv])), (roomv, .inl (cA, 48, .inl roomf_9)), (talo, .inr (0, [.ref talv])), (talv, .inl (cA, 12, .inl talf_9)), (ao, .inr (4, [.ref rowo, .int ea_9, .int da_9, .int la_9])), (bo, .inr (4, [.ref roomo, .int eb_9, .int db_9, .int lb_9]))] (none) := by
  refine Ct.of (cc := cX2_openBack) (maxL := 1) (ret := none) (by decide) rfl (Nat.le_of_ble_eq_true rfl) ?_
  intro p e s m below meth c A ls hcx hG hst hA hP hD hl
  obtain ⟨hx, hb, hml, hown, hts, hr, hlocks⟩ := id hcx
  have hown : s.vm.findClass RX2 = some m.cls := hown
  have hS : va_S A s.heap s.heap [] := va_S.rf
  have hl : lv_has ls 1 [(0, .ref mo)] := hl
  have hinX2 : ∀ w ∈ u_ws RX2 TX2 8, w ∈ wsX2_openBack := by decide +kernel
  have hinX4 : ∀ w ∈ u_ws RX4 TX4 4, w ∈ wsX2_openBack := by decide +kernel
  have fl24 := hts (.fieldLink RX2 24 "RunSorter$Merger" "direction" "I") (by decide +kernel)
  have fl46 := hts (.fieldLink RX2 46 "RunSorter$Merger" "b" "LRunSorter$Span;") (by decide +kernel)
  have fl20 := hts (.fieldLink RX2 20 "RunSorter$Merger" "target" "I") (by decide +kernel)
  have fl42 := hts (.fieldLink RX2 42 "RunSorter$Merger" "a" "LRunSorter$Span;") (by decide +kernel)
  have fl27 := hts (.fieldLink RX2 27 "RunSorter$Merger" "row" "LRunSorter$Cells;") (by decide +kernel)
  have fl14 := hts (.fieldLink RX2 14 "RunSorter$Merger" "room" "LRunSorter$Cells;") (by decide +kernel)
  unfold mX2_openBack at h
  refine lv_aload_n hx hb dX2_openBack_0 rfl (lv_at hl 0 rfl) ?_
  refine lv_iconst (v := (-1 : Int32)) hx hb dX2_openBack_1 (by decide) ?_
  refine va_put (D := D) (cl := vwCl) (ci := 2) (v := .int (-1 : Int32)) (ty := .int) (C := RX2) (T := TX2) (N := 8) hx hb hts hinX2 tyX2 tyX2_ok nmX2 hown hG.1 hP hD hS 0 rfl rfl 7 (by decide) fl24 (fun _ h9 => h9) rfl (by decide +kernel) rfl rfl (Nat.le_of_ble_eq_true rfl) dX2_openBack_2 (fun H locs hP hD hS => ?_)
  have hP : va_P D vwCl [(mo, .inr (2, [.ref rowo, .ref roomo, .ref talo, .ref jo, .ref ao, .ref bo, .int mtar, .int (-1 : Int32)])), (rowo, .inr (0, [.ref rowv])), (rowv, .inl (cA, 96, .inl rowf)), (roomo, .inr (0, [.ref roomv])), (roomv, .inl (cA, 48, .inl roomf)), (talo, .inr (0, [.ref talv])), (talv, .inl (cA, 12, .inl talf)), (ao, .inr (4, [.ref rowo, .int ea, .int da, .int la])), (bo, .inr (4, [.ref rowo, .int eb, .int db, .int lb]))] H := hP
  have hD : va_D A [(mo, .inr (2, [.ref rowo, .ref roomo, .ref talo, .ref jo, .ref ao, .ref bo, .int mtar, .int (-1 : Int32)])), (rowo, .inr (0, [.ref rowv])), (rowv, .inl (cA, 96, .inl rowf)), (roomo, .inr (0, [.ref roomv])), (roomv, .inl (cA, 48, .inl roomf)), (talo, .inr (0, [.ref talv])), (talv, .inl (cA, 12, .inl talf)), (ao, .inr (4, [.ref rowo, .int ea, .int da, .int la])), (bo, .inr (4, [.ref rowo, .int eb, .int db, .int lb]))] := hD
  refine lv_aload_n hx hb dX2_openBack_5 rfl (lv_at hl 0 rfl) ?_
  refine lv_aload_n hx hb dX2_openBack_6 rfl (lv_at hl 0 rfl) ?_
  refine va_get (D := D) (cl := vwCl) (ci := 2) (v := .ref bo) (C := RX2) (T := TX2) (N := 8) hx hb hts hinX2 hown hG.1 hP 0 rfl rfl 5 (by decide) fl46 (fun _ h9 => h9) rfl dX2_openBack_7 ?_
  refine va_getN (D := D) (cl := vwCl) (ci := 4) (v := .int eb) (C := RX4) (T := TX4) (N := 4) hx hb hts hinX4 hown hG.1 hP 8 rfl rfl 1 (by decide) (hG.2.f 3 rfl) (fun _ h9 => h9) rfl dX2_openBack_10 ?_
  refine lv_aload_n hx hb dX2_openBack_13 rfl (lv_at hl 0 rfl) ?_
  refine va_get (D := D) (cl := vwCl) (ci := 2) (v := .ref bo) (C := RX2) (T := TX2) (N := 8) hx hb hts hinX2 hown hG.1 hP 0 rfl rfl 5 (by decide) fl46 (fun _ h9 => h9) rfl dX2_openBack_14 ?_
  refine va_getN (D := D) (cl := vwCl) (ci := 4) (v := .int lb) (C := RX4) (T := TX4) (N := 4) hx hb hts hinX4 hown hG.1 hP 8 rfl rfl 3 (by decide) (hG.2.f 4 rfl) (fun _ h9 => h9) rfl dX2_openBack_17 ?_
  refine lv_iadd hx hb dX2_openBack_20 ?_
  refine lv_iconst (v := (1 : Int32)) hx hb dX2_openBack_21 (by decide) ?_
  refine lv_isub hx hb dX2_openBack_22 ?_
  refine va_put (D := D) (cl := vwCl) (ci := 2) (v := .int ((eb + lb) - (1 : Int32))) (ty := .int) (C := RX2) (T := TX2) (N := 8) hx hb hts hinX2 tyX2 tyX2_ok nmX2 hown hG.1 hP hD hS 0 rfl rfl 6 (by decide) fl20 (fun _ h9 => h9) rfl (by decide +kernel) rfl rfl (Nat.le_of_ble_eq_true rfl) dX2_openBack_23 (fun H locs hP hD hS => ?_)
  have hP : va_P D vwCl [(mo, .inr (2, [.ref rowo, .ref roomo, .ref talo, .ref jo, .ref ao, .ref bo, .int ((eb + lb) - (1 : Int32)), .int (-1 : Int32)])), (rowo, .inr (0, [.ref rowv])), (rowv, .inl (cA, 96, .inl rowf)), (roomo, .inr (0, [.ref roomv])), (roomv, .inl (cA, 48, .inl roomf)), (talo, .inr (0, [.ref talv])), (talv, .inl (cA, 12, .inl talf)), (ao, .inr (4, [.ref rowo, .int ea, .int da, .int la])), (bo, .inr (4, [.ref rowo, .int eb, .int db, .int lb]))] H := hP
  have hD : va_D A [(mo, .inr (2, [.ref rowo, .ref roomo, .ref talo, .ref jo, .ref ao, .ref bo, .int ((eb + lb) - (1 : Int32)), .int (-1 : Int32)])), (rowo, .inr (0, [.ref rowv])), (rowv, .inl (cA, 96, .inl rowf)), (roomo, .inr (0, [.ref roomv])), (roomv, .inl (cA, 48, .inl roomf)), (talo, .inr (0, [.ref talv])), (talv, .inl (cA, 12, .inl talf)), (ao, .inr (4, [.ref rowo, .int ea, .int da, .int la])), (bo, .inr (4, [.ref rowo, .int eb, .int db, .int lb]))] := hD
  refine lv_aload_n hx hb dX2_openBack_26 rfl (lv_at hl 0 rfl) ?_
  refine lv_aload_n hx hb dX2_openBack_27 rfl (lv_at hl 0 rfl) ?_
  refine va_get (D := D) (cl := vwCl) (ci := 2) (v := .ref bo) (C := RX2) (T := TX2) (N := 8) hx hb hts hinX2 hown hG.1 hP 0 rfl rfl 5 (by decide) fl46 (fun _ h9 => h9) rfl dX2_openBack_28 ?_
  obtain ⟨roomf_31, talf_31, hc31, h⟩ := bd2_some h
  refine ct_V (As := [.ref bo]) (rest := []) (st1 := []) (wf := [(mo, .inr (2, [.ref rowo, .ref roomo, .ref talo, .ref jo, .ref ao, .ref bo, .int ((eb + lb) - (1 : Int32)), .int (-1 : Int32)])), (rowo, .inr (0, [.ref rowv])), (rowv, .inl (cA, 96, .inl rowf)), (roomo, .inr (0, [.ref roomv])), (roomv, .inl (cA, 48, .inl roomf_31)), (talo, .inr (0, [.ref talv])), (talv, .inl (cA, 12, .inl talf_31)), (ao, .inr (4, [.ref rowo, .int ea, .int da, .int la])), (bo, .inr (4, [.ref rowo, .int eb, .int db, .int lb]))]) (kX2_bringIntoRoom l D cA F mo bo rowo roomo talo jo ao bo roomv talv rowv  ((eb + lb) - (1 : Int32)) (-1 : Int32) roomf talf eb db lb rowf  roomf_31 talf_31 hc31) ⟨hx, hb, hml, hown, hts⟩ (cwV 1 hts gX2_openBack_X2_bringIntoRoom rfl rfl rfl (by decide +kernel) ⟨Nat.le_of_ble_eq_true rfl, Nat.le_of_ble_eq_true rfl⟩) hG hst hP hD hS hA 2 rfl rfl rfl [0, 3, 4, 5, 6, 8, 1, 2] [7] [1, 7, 8, 2, 3, 4, 5, 0, 6] rfl rfl rfl rfl rfl rfl hl.1 rfl rfl (Nat.le_of_ble_eq_true rfl) dX2_openBack_31 ⟨Nat.zero_le _, Nat.zero_le _⟩ (fun H locs hP hD hS => ?_)
  refine lv_aload_n hx hb dX2_openBack_34 rfl (lv_at hl 0 rfl) ?_
  refine va_get (D := D) (cl := vwCl) (ci := 2) (v := .ref ao) (C := RX2) (T := TX2) (N := 8) hx hb hts hinX2 hown hG.1 hP 0 rfl rfl 4 (by decide) fl42 (fun _ h9 => h9) rfl dX2_openBack_35 ?_
  refine lv_aload_n hx hb dX2_openBack_38 rfl (lv_at hl 0 rfl) ?_
  refine va_get (D := D) (cl := vwCl) (ci := 2) (v := .ref rowo) (C := RX2) (T := TX2) (N := 8) hx hb hts hinX2 hown hG.1 hP 0 rfl rfl 0 (by decide) fl27 (fun _ h9 => h9) rfl dX2_openBack_39 ?_
  refine lv_aload_n hx hb dX2_openBack_42 rfl (lv_at hl 0 rfl) ?_
  refine va_get (D := D) (cl := vwCl) (ci := 2) (v := .ref ao) (C := RX2) (T := TX2) (N := 8) hx hb hts hinX2 hown hG.1 hP 0 rfl rfl 4 (by decide) fl42 (fun _ h9 => h9) rfl dX2_openBack_43 ?_
  refine va_getN (D := D) (cl := vwCl) (ci := 4) (v := .int ea) (C := RX4) (T := TX4) (N := 4) hx hb hts hinX4 hown hG.1 hP 7 rfl rfl 1 (by decide) (hG.2.f 3 rfl) (fun _ h9 => h9) rfl dX2_openBack_46 ?_
  refine lv_aload_n hx hb dX2_openBack_49 rfl (lv_at hl 0 rfl) ?_
  refine va_get (D := D) (cl := vwCl) (ci := 2) (v := .ref ao) (C := RX2) (T := TX2) (N := 8) hx hb hts hinX2 hown hG.1 hP 0 rfl rfl 4 (by decide) fl42 (fun _ h9 => h9) rfl dX2_openBack_50 ?_
  refine va_getN (D := D) (cl := vwCl) (ci := 4) (v := .int la) (C := RX4) (T := TX4) (N := 4) hx hb hts hinX4 hown hG.1 hP 7 rfl rfl 3 (by decide) (hG.2.f 4 rfl) (fun _ h9 => h9) rfl dX2_openBack_53 ?_
  refine lv_iadd hx hb dX2_openBack_56 ?_
  refine lv_iconst (v := (1 : Int32)) hx hb dX2_openBack_57 (by decide) ?_
  refine lv_isub hx hb dX2_openBack_58 ?_
  refine lv_iconst (v := (-1 : Int32)) hx hb dX2_openBack_59 (by decide) ?_
  refine lv_aload_n hx hb dX2_openBack_60 rfl (lv_at hl 0 rfl) ?_
  refine va_get (D := D) (cl := vwCl) (ci := 2) (v := .ref ao) (C := RX2) (T := TX2) (N := 8) hx hb hts hinX2 hown hG.1 hP 0 rfl rfl 4 (by decide) fl42 (fun _ h9 => h9) rfl dX2_openBack_61 ?_
  refine va_getN (D := D) (cl := vwCl) (ci := 4) (v := .int la) (C := RX4) (T := TX4) (N := 4) hx hb hts hinX4 hown hG.1 hP 7 rfl rfl 3 (by decide) (hG.2.f 4 rfl) (fun _ h9 => h9) rfl dX2_openBack_64 ?_
  obtain ⟨ea_67, da_67, la_67, hc67, h⟩ := bd3_some h
  refine ct_VN (As := [.ref rowo, .int ((ea + la) - (1 : Int32)), .int (-1 : Int32), .int la]) (rest := []) (st1 := []) (wf := [(mo, .inr (2, [.ref rowo, .ref roomo, .ref talo, .ref jo, .ref ao, .ref bo, .int ((eb + lb) - (1 : Int32)), .int (-1 : Int32)])), (rowo, .inr (0, [.ref rowv])), (rowv, .inl (cA, 96, .inl rowf)), (roomo, .inr (0, [.ref roomv])), (roomv, .inl (cA, 48, .inl roomf_31)), (talo, .inr (0, [.ref talv])), (talv, .inl (cA, 12, .inl talf_31)), (ao, .inr (4, [.ref rowo, .int ea_67, .int da_67, .int la_67])), (bo, .inr (4, [.ref rowo, .int eb, .int db, .int lb]))]) (kX4_aim l D cA F ao rowo rowo  ea da la ((ea + la) - (1 : Int32)) (-1 : Int32) la ea_67 da_67 la_67 hc67) ⟨hx, hb, hml, hown, hts⟩ ⟨va_cnB 4 hts gX2_openBack_X4_aim_n76 rfl rfl rfl (hG.2.m 23 rfl) (hts (.initialized RX4) (by decide +kernel)) (by decide +kernel) ⟨Nat.le_of_ble_eq_true rfl, Nat.le_of_ble_eq_true rfl⟩, hts (.instanceMethod yX4_aim) (by decide +kernel), hts (.selects RX4 yX4_aim yX4_aim) (by decide +kernel)⟩ hG hst hP hD hS hA 4 rfl rfl rfl [7] [0, 1, 2, 3, 4, 5, 6, 8] [0, 1, 2, 3, 4, 5, 6, 8, 7] rfl rfl rfl rfl rfl rfl hl.1 rfl rfl (Nat.le_of_ble_eq_true rfl) dX2_openBack_67 ⟨Nat.zero_le _, Nat.zero_le _⟩ (fun H locs hP hD hS => ?_)
  refine lv_aload_n hx hb dX2_openBack_70 rfl (lv_at hl 0 rfl) ?_
  refine va_get (D := D) (cl := vwCl) (ci := 2) (v := .ref bo) (C := RX2) (T := TX2) (N := 8) hx hb hts hinX2 hown hG.1 hP 0 rfl rfl 5 (by decide) fl46 (fun _ h9 => h9) rfl dX2_openBack_71 ?_
  refine lv_aload_n hx hb dX2_openBack_74 rfl (lv_at hl 0 rfl) ?_
  refine va_get (D := D) (cl := vwCl) (ci := 2) (v := .ref roomo) (C := RX2) (T := TX2) (N := 8) hx hb hts hinX2 hown hG.1 hP 0 rfl rfl 1 (by decide) fl14 (fun _ h9 => h9) rfl dX2_openBack_75 ?_
  refine lv_aload_n hx hb dX2_openBack_78 rfl (lv_at hl 0 rfl) ?_
  refine va_get (D := D) (cl := vwCl) (ci := 2) (v := .ref bo) (C := RX2) (T := TX2) (N := 8) hx hb hts hinX2 hown hG.1 hP 0 rfl rfl 5 (by decide) fl46 (fun _ h9 => h9) rfl dX2_openBack_79 ?_
  refine va_getN (D := D) (cl := vwCl) (ci := 4) (v := .int lb) (C := RX4) (T := TX4) (N := 4) hx hb hts hinX4 hown hG.1 hP 8 rfl rfl 3 (by decide) (hG.2.f 4 rfl) (fun _ h9 => h9) rfl dX2_openBack_82 ?_
  refine lv_iconst (v := (1 : Int32)) hx hb dX2_openBack_85 (by decide) ?_
  refine lv_isub hx hb dX2_openBack_86 ?_
  refine lv_iconst (v := (-1 : Int32)) hx hb dX2_openBack_87 (by decide) ?_
  refine lv_aload_n hx hb dX2_openBack_88 rfl (lv_at hl 0 rfl) ?_
  refine va_get (D := D) (cl := vwCl) (ci := 2) (v := .ref bo) (C := RX2) (T := TX2) (N := 8) hx hb hts hinX2 hown hG.1 hP 0 rfl rfl 5 (by decide) fl46 (fun _ h9 => h9) rfl dX2_openBack_89 ?_
  refine va_getN (D := D) (cl := vwCl) (ci := 4) (v := .int lb) (C := RX4) (T := TX4) (N := 4) hx hb hts hinX4 hown hG.1 hP 8 rfl rfl 3 (by decide) (hG.2.f 4 rfl) (fun _ h9 => h9) rfl dX2_openBack_92 ?_
  obtain ⟨eb_95, db_95, lb_95, hc95, h⟩ := bd3_some h
  refine ct_VN (As := [.ref roomo, .int (lb - (1 : Int32)), .int (-1 : Int32), .int lb]) (rest := []) (st1 := []) (wf := [(mo, .inr (2, [.ref rowo, .ref roomo, .ref talo, .ref jo, .ref ao, .ref bo, .int ((eb + lb) - (1 : Int32)), .int (-1 : Int32)])), (rowo, .inr (0, [.ref rowv])), (rowv, .inl (cA, 96, .inl rowf)), (roomo, .inr (0, [.ref roomv])), (roomv, .inl (cA, 48, .inl roomf_31)), (talo, .inr (0, [.ref talv])), (talv, .inl (cA, 12, .inl talf_31)), (ao, .inr (4, [.ref rowo, .int ea_67, .int da_67, .int la_67])), (bo, .inr (4, [.ref roomo, .int eb_95, .int db_95, .int lb_95]))]) (kX4_aim l D cA F bo roomo rowo  eb db lb (lb - (1 : Int32)) (-1 : Int32) lb eb_95 db_95 lb_95 hc95) ⟨hx, hb, hml, hown, hts⟩ ⟨va_cnB 4 hts gX2_openBack_X4_aim_n76 rfl rfl rfl (hG.2.m 23 rfl) (hts (.initialized RX4) (by decide +kernel)) (by decide +kernel) ⟨Nat.le_of_ble_eq_true rfl, Nat.le_of_ble_eq_true rfl⟩, hts (.instanceMethod yX4_aim) (by decide +kernel), hts (.selects RX4 yX4_aim yX4_aim) (by decide +kernel)⟩ hG hst hP hD hS hA 4 rfl rfl rfl [8] [0, 1, 2, 3, 4, 5, 6, 7] [0, 1, 2, 3, 4, 5, 6, 7, 8] rfl rfl rfl rfl rfl rfl hl.1 rfl rfl (Nat.le_of_ble_eq_true rfl) dX2_openBack_95 ⟨Nat.zero_le _, Nat.zero_le _⟩ (fun H locs hP hD hS => ?_)
  cases h
  exact rt_v hx hb hr hlocks hP hD hS dX2_openBack_98
