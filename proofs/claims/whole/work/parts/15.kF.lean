/-! contracts, by program (wip/whole/gen.py) -/
set_option maxHeartbeats 4000000 in
set_option maxRecDepth 100000 in
theorem kX3_fromTop (l : Launch) (D : va_G) (cA : ClassId) (F : Nat) (so : Nat) (rowo : Nat) (talo : Nat) (plao : Nat) (leno : Nat) (jo : Nat) (mo : Nat) (lenv : Nat) (srec : Int32) (spol : Int32) (slea : Int32) (sdep : Int32) (sinr : Int32) (swai : Int32) (lenf : (Nat → Int32)) (a1 : Int32) (r0 : Int32) (h : mX3_fromTop F sdep lenf a1 = some r0) : Ct l yX3_fromTop wsX3_fromTop ({ frames := 1, cells := 0, slots := 0, locals := 21 }) D cA [.ref so, .int a1] [(so, .inr (3, [.ref rowo, .ref talo, .ref plao, .ref leno, .ref jo, .ref mo, .int srec, .int spol, .int slea, .int sdep, .int sinr, .int swai])), (leno, .inr (0, [.ref lenv])), (lenv, .inl (cA, 96, .inl lenf))] [(so, .inr (3, [.ref rowo, .ref talo, .ref plao, .ref leno, .ref jo, .ref mo, .int srec, .int spol, .int slea, .int sdep, .int sinr, .int swai])), (leno, .inr (0, [.ref lenv])), (lenv, .inl (cA, 96, .inl lenf))] (some (.int r0)) := by
  refine Ct.of (cc := cX3_fromTop) (maxL := 2) (ret := (some .int)) (by decide) rfl (Nat.le_of_ble_eq_true rfl) ?_
  intro p e s m below meth c A ls hcx hG hst hA hP hD hl
  obtain ⟨hx, hb, hml, hown, hts, hr, hlocks⟩ := id hcx
  have hown : s.vm.findClass RX3 = some m.cls := hown
  have hS : va_S A s.heap s.heap [] := va_S.rf
  have hl : lv_has ls 2 [(0, .ref so), (1, .int a1)] := hl
  have hinX3 : ∀ w ∈ u_ws RX3 TX3 12, w ∈ wsX3_fromTop := by decide +kernel
  have fl26 := hts (.fieldLink RX3 26 "RunSorter$Sorter" "lengths" "LRunSorter$Cells;") (by decide +kernel)
  have fl57 := hts (.fieldLink RX3 57 "RunSorter$Sorter" "depth" "I") (by decide +kernel)
  unfold mX3_fromTop at h
  refine lv_aload_n hx hb dX3_fromTop_0 rfl (lv_at hl 0 rfl) ?_
  refine va_get (D := D) (cl := vwCl) (ci := 3) (v := .ref leno) (C := RX3) (T := TX3) (N := 12) hx hb hts hinX3 hown hG.1 hP 0 rfl rfl 3 (by decide) fl26 (fun _ h9 => h9) rfl dX3_fromTop_1 ?_
  refine lv_aload_n hx hb dX3_fromTop_4 rfl (lv_at hl 0 rfl) ?_
  refine va_get (D := D) (cl := vwCl) (ci := 3) (v := .int sdep) (C := RX3) (T := TX3) (N := 12) hx hb hts hinX3 hown hG.1 hP 0 rfl rfl 9 (by decide) fl57 (fun _ h9 => h9) rfl dX3_fromTop_5 ?_
  refine lv_iconst (v := (1 : Int32)) hx hb dX3_fromTop_8 (by decide) ?_
  refine lv_isub hx hb dX3_fromTop_9 ?_
  refine lv_iload_n hx hb dX3_fromTop_10 rfl (lv_at hl 1 rfl) ?_
  refine lv_isub hx hb dX3_fromTop_11 ?_
  obtain ⟨r12, hc12, h⟩ := bd1_some h
  refine ct_VN (As := [.int ((sdep - (1 : Int32)) - a1)]) (rest := []) (st1 := [.int r12]) (wf := [(so, .inr (3, [.ref rowo, .ref talo, .ref plao, .ref leno, .ref jo, .ref mo, .int srec, .int spol, .int slea, .int sdep, .int sinr, .int swai])), (leno, .inr (0, [.ref lenv])), (lenv, .inl (cA, 96, .inl lenf))]) (kX0_look l D cA F leno lenv 96 lenf ((sdep - (1 : Int32)) - a1) r12 hc12) ⟨hx, hb, hml, hown, hts⟩ ⟨va_cnB 1 hts gX3_fromTop_X0_look_n66 rfl rfl rfl (hG.2.m 12 rfl) (hts (.initialized RX0) (by decide +kernel)) (by decide +kernel) ⟨Nat.le_of_ble_eq_true rfl, Nat.le_of_ble_eq_true rfl⟩, hts (.instanceMethod yX0_look) (by decide +kernel), hts (.selects RX0 yX0_look yX0_look) (by decide +kernel)⟩ hG hst hP hD hS hA 0 rfl rfl rfl [1, 2] [0] [0, 1, 2] rfl rfl rfl rfl rfl rfl hl.1 rfl rfl (Nat.le_of_ble_eq_true rfl) dX3_fromTop_12 ⟨Nat.zero_le _, Nat.zero_le _⟩ (fun H locs hP hD hS => ?_)
  cases h
  exact rt_i hx hb hr hlocks hP hD hS dX3_fromTop_15
set_option maxHeartbeats 4000000 in
set_option maxRecDepth 100000 in
theorem kX3_powerBehind (l : Launch) (D : va_G) (cA : ClassId) (F : Nat) (so : Nat) (rowo : Nat) (talo : Nat) (plao : Nat) (leno : Nat) (jo : Nat) (mo : Nat) (plav : Nat) (lenv : Nat) (srec : Int32) (spol : Int32) (slea : Int32) (sdep : Int32) (sinr : Int32) (swai : Int32) (plaf : (Nat → Int32)) (lenf : (Nat → Int32)) (a1 : Int32) (r0 : Int32) (h : mX3_powerBehind F srec sdep swai plaf lenf a1 = some r0) : Ct l yX3_powerBehind wsX3_powerBehind ({ frames := 1, cells := 0, slots := 0, locals := 21 }) D cA [.ref so, .int a1] [(so, .inr (3, [.ref rowo, .ref talo, .ref plao, .ref leno, .ref jo, .ref mo, .int srec, .int spol, .int slea, .int sdep, .int sinr, .int swai])), (plao, .inr (0, [.ref plav])), (plav, .inl (cA, 96, .inl plaf)), (leno, .inr (0, [.ref lenv])), (lenv, .inl (cA, 96, .inl lenf))] [(so, .inr (3, [.ref rowo, .ref talo, .ref plao, .ref leno, .ref jo, .ref mo, .int srec, .int spol, .int slea, .int sdep, .int sinr, .int swai])), (plao, .inr (0, [.ref plav])), (plav, .inl (cA, 96, .inl plaf)), (leno, .inr (0, [.ref lenv])), (lenv, .inl (cA, 96, .inl lenf))] (some (.int r0)) := by
  refine Ct.of (cc := cX3_powerBehind) (maxL := 8) (ret := (some .int)) (by decide) rfl (Nat.le_of_ble_eq_true rfl) ?_
  intro p e s m below meth c A ls hcx hG hst hA hP hD hl
  obtain ⟨hx, hb, hml, hown, hts, hr, hlocks⟩ := id hcx
  have hown : s.vm.findClass RX3 = some m.cls := hown
  have hS : va_S A s.heap s.heap [] := va_S.rf
  have hl : lv_has ls 8 [(0, .ref so), (1, .int a1)] := hl
  have hinX3 : ∀ w ∈ u_ws RX3 TX3 12, w ∈ wsX3_powerBehind := by decide +kernel
  have fl57 := hts (.fieldLink RX3 57 "RunSorter$Sorter" "depth" "I") (by decide +kernel)
  have fl47 := hts (.fieldLink RX3 47 "RunSorter$Sorter" "records" "I") (by decide +kernel)
  have fl23 := hts (.fieldLink RX3 23 "RunSorter$Sorter" "places" "LRunSorter$Cells;") (by decide +kernel)
  have fl26 := hts (.fieldLink RX3 26 "RunSorter$Sorter" "lengths" "LRunSorter$Cells;") (by decide +kernel)
  have fl63 := hts (.fieldLink RX3 63 "RunSorter$Sorter" "waitingLength" "I") (by decide +kernel)
  have hmX3_powerBehind_99 : ∀ (n99 : Nat) (x4 : Int32) (x5 : Int32) (x6 : Int32) (x7 : Int32) (H : Heap) (locs : List Loc) (ls : Array Slot), mX3_powerBehind_99 F n99 x4 x5 x6 x7 = some r0 → va_P D vwCl [(so, .inr (3, [.ref rowo, .ref talo, .ref plao, .ref leno, .ref jo, .ref mo, .int srec, .int spol, .int slea, .int sdep, .int sinr, .int swai])), (plao, .inr (0, [.ref plav])), (plav, .inl (cA, 96, .inl plaf)), (leno, .inr (0, [.ref lenv])), (lenv, .inl (cA, 96, .inl lenf))] H → va_D A [(so, .inr (3, [.ref rowo, .ref talo, .ref plao, .ref leno, .ref jo, .ref mo, .int srec, .int spol, .int slea, .int sdep, .int sinr, .int swai])), (plao, .inr (0, [.ref plav])), (plav, .inl (cA, 96, .inl plaf)), (leno, .inr (0, [.ref lenv])), (lenv, .inl (cA, 96, .inl lenf))] → va_S A s.heap H locs → lv_has ls 8 [(4, .int x4), (5, .int x5), (6, .int x6), (7, .int x7)] → W p l e ({ frames := 1, cells := 0, slots := 0, locals := 21 }) s m ([.ref so, .int a1] : List Value).toArray below meth c H locs 0 0 (MQ below (Qw D A [(so, .inr (3, [.ref rowo, .ref talo, .ref plao, .ref leno, .ref jo, .ref mo, .int srec, .int spol, .int slea, .int sdep, .int sinr, .int swai])), (plao, .inr (0, [.ref plav])), (plav, .inl (cA, 96, .inl plaf)), (leno, .inr (0, [.ref lenv])), (lenv, .inl (cA, 96, .inl lenf))] (some (.int r0))) ([.ref so, .int a1] : List Value).toArray s 0 0 A) (F0 m 99 ls []) := by
    intro n99
    induction n99 with
    | zero => intro x4 x5 x6 x7 H locs ls h; exact (no_some h).elim
    | succ n99 ih99 =>
      intro x4 x5 x6 x7 H locs ls h hP hD hS hl
      rw [mX3_powerBehind_99] at h
      refine lv_iload hx hb dX3_powerBehind_99 (lv_at hl 3 rfl) ?_
      refine lv_bipush (v := (20 : Int32)) hx hb dX3_powerBehind_101 (by decide) ?_
      refine lv_icmp_ge (tgt := 131) hx hb dX3_powerBehind_103 (by decide) (fun c103 => ?_) (fun c103 => ?_)
      · have h := i_t c103 h
        refine lv_iload hx hb dX3_powerBehind_131 (lv_at hl 3 rfl) ?_
        cases h
        exact rt_i hx hb hr hlocks hP hD hS dX3_powerBehind_133
      · have h := i_f c103 h
        refine lv_iload hx hb dX3_powerBehind_106 (lv_at hl 0 rfl) ?_
        refine lv_iload hx hb dX3_powerBehind_108 (lv_at hl 3 rfl) ?_
        refine lv_ishl hx hb dX3_powerBehind_110 ?_
        refine lv_iload hx hb dX3_powerBehind_111 (lv_at hl 2 rfl) ?_
        obtain ⟨hz113, h⟩ := dz_some h
        refine lv_idiv hx hb dX3_powerBehind_113 hz113 ?_
        refine lv_iload hx hb dX3_powerBehind_114 (lv_at hl 1 rfl) ?_
        refine lv_iload hx hb dX3_powerBehind_116 (lv_at hl 3 rfl) ?_
        refine lv_ishl hx hb dX3_powerBehind_118 ?_
        refine lv_iload hx hb dX3_powerBehind_119 (lv_at hl 2 rfl) ?_
        obtain ⟨hz121, h⟩ := dz_some h
        refine lv_idiv hx hb dX3_powerBehind_121 hz121 ?_
        refine lv_icmp_ne (tgt := 131) hx hb dX3_powerBehind_122 (by decide) (fun c122 => ?_) (fun c122 => ?_)
        · have h := i_f c122 h
          refine lv_iload hx hb dX3_powerBehind_131 (lv_at hl 3 rfl) ?_
          cases h
          exact rt_i hx hb hr hlocks hP hD hS dX3_powerBehind_133
        · have h := i_t c122 h
          refine lv_iinc (v := x7 + (1 : Int32)) (lv' := [(7, .int (x7 + (1 : Int32))), (4, .int x4), (5, .int x5), (6, .int x6)]) hx hb dX3_powerBehind_125 hl (k := 3) rfl (congrArg (fun z => x7 + z) (by decide)) (by decide) rfl (fun ls hl => ?_)
          refine lv_goto (tgt := 99) hx hb dX3_powerBehind_128 (by decide) ?_
          exact ih99 x4 x5 x6 (x7 + (1 : Int32)) _ _ _ h hP hD hS (lv_sub hl [1, 2, 3, 0] rfl)
  have hmX3_powerBehind_37 : ∀ (s0 : Int32) (H : Heap) (locs : List Loc) (ls : Array Slot), mX3_powerBehind_37 F srec plaf lenf a1 s0 = some r0 → va_P D vwCl [(so, .inr (3, [.ref rowo, .ref talo, .ref plao, .ref leno, .ref jo, .ref mo, .int srec, .int spol, .int slea, .int sdep, .int sinr, .int swai])), (plao, .inr (0, [.ref plav])), (plav, .inl (cA, 96, .inl plaf)), (leno, .inr (0, [.ref lenv])), (lenv, .inl (cA, 96, .inl lenf))] H → va_D A [(so, .inr (3, [.ref rowo, .ref talo, .ref plao, .ref leno, .ref jo, .ref mo, .int srec, .int spol, .int slea, .int sdep, .int sinr, .int swai])), (plao, .inr (0, [.ref plav])), (plav, .inl (cA, 96, .inl plaf)), (leno, .inr (0, [.ref lenv])), (lenv, .inl (cA, 96, .inl lenf))] → va_S A s.heap H locs → lv_has ls 8 [(0, .ref so), (1, .int a1)] → W p l e ({ frames := 1, cells := 0, slots := 0, locals := 21 }) s m ([.ref so, .int a1] : List Value).toArray below meth c H locs 0 0 (MQ below (Qw D A [(so, .inr (3, [.ref rowo, .ref talo, .ref plao, .ref leno, .ref jo, .ref mo, .int srec, .int spol, .int slea, .int sdep, .int sinr, .int swai])), (plao, .inr (0, [.ref plav])), (plav, .inl (cA, 96, .inl plaf)), (leno, .inr (0, [.ref lenv])), (lenv, .inl (cA, 96, .inl lenf))] (some (.int r0))) ([.ref so, .int a1] : List Value).toArray s 0 0 A) (F0 m 37 ls [.int s0]) := by
    intro s0 H locs ls h hP hD hS hl
    unfold mX3_powerBehind_37 at h
    refine lv_istore_n (lv' := [(3, .int s0), (0, .ref so), (1, .int a1)]) hx hb dX3_powerBehind_37 rfl hl (by decide) rfl (fun ls hl => ?_)
    refine lv_iload_n hx hb dX3_powerBehind_38 rfl (lv_at hl 0 rfl) ?_
    refine lv_if_le (tgt := 49) hx hb dX3_powerBehind_39 (by decide) (fun c39 => ?_) (fun c39 => ?_)
    · have h := i_t c39 h
      refine lv_bipush (v := (-4 : Int32)) hx hb dX3_powerBehind_49 (by decide) ?_
      cases h
      exact rt_i hx hb hr hlocks hP hD hS dX3_powerBehind_51
    · have h := i_f c39 h
      refine lv_aload_n hx hb dX3_powerBehind_42 rfl (lv_at hl 1 rfl) ?_
      refine va_get (D := D) (cl := vwCl) (ci := 3) (v := .int srec) (C := RX3) (T := TX3) (N := 12) hx hb hts hinX3 hown hG.1 hP 0 rfl rfl 6 (by decide) fl47 (fun _ h9 => h9) rfl dX3_powerBehind_43 ?_
      refine lv_if_gt (tgt := 52) hx hb dX3_powerBehind_46 (by decide) (fun c46 => ?_) (fun c46 => ?_)
      · have h := i_t c46 h
        refine lv_iconst (v := (2 : Int32)) hx hb dX3_powerBehind_52 (by decide) ?_
        refine lv_aload_n hx hb dX3_powerBehind_53 rfl (lv_at hl 1 rfl) ?_
        refine va_get (D := D) (cl := vwCl) (ci := 3) (v := .ref plao) (C := RX3) (T := TX3) (N := 12) hx hb hts hinX3 hown hG.1 hP 0 rfl rfl 2 (by decide) fl23 (fun _ h9 => h9) rfl dX3_powerBehind_54 ?_
        refine lv_iload_n hx hb dX3_powerBehind_57 rfl (lv_at hl 2 rfl) ?_
        obtain ⟨r58, hc58, h⟩ := bd1_some h
        refine ct_VN (As := [.int a1]) (rest := [.int (2 : Int32)]) (st1 := [.int r58, .int (2 : Int32)]) (wf := [(so, .inr (3, [.ref rowo, .ref talo, .ref plao, .ref leno, .ref jo, .ref mo, .int srec, .int spol, .int slea, .int sdep, .int sinr, .int swai])), (plao, .inr (0, [.ref plav])), (plav, .inl (cA, 96, .inl plaf)), (leno, .inr (0, [.ref lenv])), (lenv, .inl (cA, 96, .inl lenf))]) (kX0_look l D cA F plao plav 96 plaf a1 r58 hc58) ⟨hx, hb, hml, hown, hts⟩ ⟨va_cnB 1 hts gX3_powerBehind_X0_look_n66 rfl rfl rfl (hG.2.m 12 rfl) (hts (.initialized RX0) (by decide +kernel)) (by decide +kernel) ⟨Nat.le_of_ble_eq_true rfl, Nat.le_of_ble_eq_true rfl⟩, hts (.instanceMethod yX0_look) (by decide +kernel), hts (.selects RX0 yX0_look yX0_look) (by decide +kernel)⟩ hG hst hP hD hS hA 0 rfl rfl rfl [1, 2] [0, 3, 4] [0, 3, 4, 1, 2] rfl rfl rfl rfl rfl rfl hl.1 rfl rfl (Nat.le_of_ble_eq_true rfl) dX3_powerBehind_58 ⟨Nat.zero_le _, Nat.zero_le _⟩ (fun H locs hP hD hS => ?_)
        refine lv_imul hx hb dX3_powerBehind_61 ?_
        refine lv_aload_n hx hb dX3_powerBehind_62 rfl (lv_at hl 1 rfl) ?_
        refine va_get (D := D) (cl := vwCl) (ci := 3) (v := .ref leno) (C := RX3) (T := TX3) (N := 12) hx hb hts hinX3 hown hG.1 hP 0 rfl rfl 3 (by decide) fl26 (fun _ h9 => h9) rfl dX3_powerBehind_63 ?_
        refine lv_iload_n hx hb dX3_powerBehind_66 rfl (lv_at hl 2 rfl) ?_
        obtain ⟨r67, hc67, h⟩ := bd1_some h
        refine ct_VN (As := [.int a1]) (rest := [.int ((2 : Int32) * r58)]) (st1 := [.int r67, .int ((2 : Int32) * r58)]) (wf := [(so, .inr (3, [.ref rowo, .ref talo, .ref plao, .ref leno, .ref jo, .ref mo, .int srec, .int spol, .int slea, .int sdep, .int sinr, .int swai])), (plao, .inr (0, [.ref plav])), (plav, .inl (cA, 96, .inl plaf)), (leno, .inr (0, [.ref lenv])), (lenv, .inl (cA, 96, .inl lenf))]) (kX0_look l D cA F leno lenv 96 lenf a1 r67 hc67) ⟨hx, hb, hml, hown, hts⟩ ⟨va_cnB 1 hts gX3_powerBehind_X0_look_n66 rfl rfl rfl (hG.2.m 12 rfl) (hts (.initialized RX0) (by decide +kernel)) (by decide +kernel) ⟨Nat.le_of_ble_eq_true rfl, Nat.le_of_ble_eq_true rfl⟩, hts (.instanceMethod yX0_look) (by decide +kernel), hts (.selects RX0 yX0_look yX0_look) (by decide +kernel)⟩ hG hst hP hD hS hA 0 rfl rfl rfl [3, 4] [0, 1, 2] [0, 1, 2, 3, 4] rfl rfl rfl rfl rfl rfl hl.1 rfl rfl (Nat.le_of_ble_eq_true rfl) dX3_powerBehind_67 ⟨Nat.zero_le _, Nat.zero_le _⟩ (fun H locs hP hD hS => ?_)
        refine lv_iadd hx hb dX3_powerBehind_70 ?_
        refine lv_istore (lv' := [(4, .int (((2 : Int32) * r58) + r67)), (3, .int s0), (0, .ref so), (1, .int a1)]) hx hb dX3_powerBehind_71 hl (by decide) rfl (fun ls hl => ?_)
        refine lv_iload hx hb dX3_powerBehind_73 (lv_at hl 0 rfl) ?_
        refine lv_aload_n hx hb dX3_powerBehind_75 rfl (lv_at hl 2 rfl) ?_
        refine va_get (D := D) (cl := vwCl) (ci := 3) (v := .ref leno) (C := RX3) (T := TX3) (N := 12) hx hb hts hinX3 hown hG.1 hP 0 rfl rfl 3 (by decide) fl26 (fun _ h9 => h9) rfl dX3_powerBehind_76 ?_
        refine lv_iload_n hx hb dX3_powerBehind_79 rfl (lv_at hl 3 rfl) ?_
        obtain ⟨r80, hc80, h⟩ := bd1_some h
        refine ct_VN (As := [.int a1]) (rest := [.int (((2 : Int32) * r58) + r67)]) (st1 := [.int r80, .int (((2 : Int32) * r58) + r67)]) (wf := [(so, .inr (3, [.ref rowo, .ref talo, .ref plao, .ref leno, .ref jo, .ref mo, .int srec, .int spol, .int slea, .int sdep, .int sinr, .int swai])), (plao, .inr (0, [.ref plav])), (plav, .inl (cA, 96, .inl plaf)), (leno, .inr (0, [.ref lenv])), (lenv, .inl (cA, 96, .inl lenf))]) (kX0_look l D cA F leno lenv 96 lenf a1 r80 hc80) ⟨hx, hb, hml, hown, hts⟩ ⟨va_cnB 1 hts gX3_powerBehind_X0_look_n66 rfl rfl rfl (hG.2.m 12 rfl) (hts (.initialized RX0) (by decide +kernel)) (by decide +kernel) ⟨Nat.le_of_ble_eq_true rfl, Nat.le_of_ble_eq_true rfl⟩, hts (.instanceMethod yX0_look) (by decide +kernel), hts (.selects RX0 yX0_look yX0_look) (by decide +kernel)⟩ hG hst hP hD hS hA 0 rfl rfl rfl [3, 4] [0, 1, 2] [0, 1, 2, 3, 4] rfl rfl rfl rfl rfl rfl hl.1 rfl rfl (Nat.le_of_ble_eq_true rfl) dX3_powerBehind_80 ⟨Nat.zero_le _, Nat.zero_le _⟩ (fun H locs hP hD hS => ?_)
        refine lv_iadd hx hb dX3_powerBehind_83 ?_
        refine lv_iload_n hx hb dX3_powerBehind_84 rfl (lv_at hl 1 rfl) ?_
        refine lv_iadd hx hb dX3_powerBehind_85 ?_
        refine lv_istore (lv' := [(5, .int (((((2 : Int32) * r58) + r67) + r80) + s0)), (4, .int (((2 : Int32) * r58) + r67)), (3, .int s0), (0, .ref so), (1, .int a1)]) hx hb dX3_powerBehind_86 hl (by decide) rfl (fun ls hl => ?_)
        refine lv_iconst (v := (2 : Int32)) hx hb dX3_powerBehind_88 (by decide) ?_
        refine lv_aload_n hx hb dX3_powerBehind_89 rfl (lv_at hl 3 rfl) ?_
        refine va_get (D := D) (cl := vwCl) (ci := 3) (v := .int srec) (C := RX3) (T := TX3) (N := 12) hx hb hts hinX3 hown hG.1 hP 0 rfl rfl 6 (by decide) fl47 (fun _ h9 => h9) rfl dX3_powerBehind_90 ?_
        refine lv_imul hx hb dX3_powerBehind_93 ?_
        refine lv_istore (lv' := [(6, .int ((2 : Int32) * srec)), (5, .int (((((2 : Int32) * r58) + r67) + r80) + s0)), (4, .int (((2 : Int32) * r58) + r67)), (3, .int s0), (0, .ref so), (1, .int a1)]) hx hb dX3_powerBehind_94 hl (by decide) rfl (fun ls hl => ?_)
        refine lv_iconst (v := (1 : Int32)) hx hb dX3_powerBehind_96 (by decide) ?_
        refine lv_istore (lv' := [(7, .int (1 : Int32)), (6, .int ((2 : Int32) * srec)), (5, .int (((((2 : Int32) * r58) + r67) + r80) + s0)), (4, .int (((2 : Int32) * r58) + r67)), (3, .int s0), (0, .ref so), (1, .int a1)]) hx hb dX3_powerBehind_97 hl (by decide) rfl (fun ls hl => ?_)
        exact hmX3_powerBehind_99 F (((2 : Int32) * r58) + r67) (((((2 : Int32) * r58) + r67) + r80) + s0) ((2 : Int32) * srec) (1 : Int32) _ _ _ h hP hD hS (lv_sub hl [3, 2, 1, 0] rfl)
      · have h := i_f c46 h
        refine lv_bipush (v := (-4 : Int32)) hx hb dX3_powerBehind_49 (by decide) ?_
        cases h
        exact rt_i hx hb hr hlocks hP hD hS dX3_powerBehind_51
  have hmX3_powerBehind_15 : ∀ (s0 : Int32) (H : Heap) (locs : List Loc) (ls : Array Slot), mX3_powerBehind_15 F srec swai plaf lenf a1 s0 = some r0 → va_P D vwCl [(so, .inr (3, [.ref rowo, .ref talo, .ref plao, .ref leno, .ref jo, .ref mo, .int srec, .int spol, .int slea, .int sdep, .int sinr, .int swai])), (plao, .inr (0, [.ref plav])), (plav, .inl (cA, 96, .inl plaf)), (leno, .inr (0, [.ref lenv])), (lenv, .inl (cA, 96, .inl lenf))] H → va_D A [(so, .inr (3, [.ref rowo, .ref talo, .ref plao, .ref leno, .ref jo, .ref mo, .int srec, .int spol, .int slea, .int sdep, .int sinr, .int swai])), (plao, .inr (0, [.ref plav])), (plav, .inl (cA, 96, .inl plaf)), (leno, .inr (0, [.ref lenv])), (lenv, .inl (cA, 96, .inl lenf))] → va_S A s.heap H locs → lv_has ls 8 [(0, .ref so), (1, .int a1)] → W p l e ({ frames := 1, cells := 0, slots := 0, locals := 21 }) s m ([.ref so, .int a1] : List Value).toArray below meth c H locs 0 0 (MQ below (Qw D A [(so, .inr (3, [.ref rowo, .ref talo, .ref plao, .ref leno, .ref jo, .ref mo, .int srec, .int spol, .int slea, .int sdep, .int sinr, .int swai])), (plao, .inr (0, [.ref plav])), (plav, .inl (cA, 96, .inl plaf)), (leno, .inr (0, [.ref lenv])), (lenv, .inl (cA, 96, .inl lenf))] (some (.int r0))) ([.ref so, .int a1] : List Value).toArray s 0 0 A) (F0 m 15 ls [.int s0]) := by
    intro s0 H locs ls h hP hD hS hl
    unfold mX3_powerBehind_15 at h
    refine lv_istore_n (lv' := [(2, .int s0), (0, .ref so), (1, .int a1)]) hx hb dX3_powerBehind_15 rfl hl (by decide) rfl (fun ls hl => ?_)
    refine lv_iload_n hx hb dX3_powerBehind_16 rfl (lv_at hl 0 rfl) ?_
    refine lv_if_eq (tgt := 27) hx hb dX3_powerBehind_17 (by decide) (fun c17 => ?_) (fun c17 => ?_)
    · have h := i_t c17 h
      refine lv_aload_n hx hb dX3_powerBehind_27 rfl (lv_at hl 1 rfl) ?_
      refine va_get (D := D) (cl := vwCl) (ci := 3) (v := .ref leno) (C := RX3) (T := TX3) (N := 12) hx hb hts hinX3 hown hG.1 hP 0 rfl rfl 3 (by decide) fl26 (fun _ h9 => h9) rfl dX3_powerBehind_28 ?_
      refine lv_iload_n hx hb dX3_powerBehind_31 rfl (lv_at hl 2 rfl) ?_
      refine lv_iconst (v := (1 : Int32)) hx hb dX3_powerBehind_32 (by decide) ?_
      refine lv_iadd hx hb dX3_powerBehind_33 ?_
      obtain ⟨r34, hc34, h⟩ := bd1_some h
      refine ct_VN (As := [.int (a1 + (1 : Int32))]) (rest := []) (st1 := [.int r34]) (wf := [(so, .inr (3, [.ref rowo, .ref talo, .ref plao, .ref leno, .ref jo, .ref mo, .int srec, .int spol, .int slea, .int sdep, .int sinr, .int swai])), (plao, .inr (0, [.ref plav])), (plav, .inl (cA, 96, .inl plaf)), (leno, .inr (0, [.ref lenv])), (lenv, .inl (cA, 96, .inl lenf))]) (kX0_look l D cA F leno lenv 96 lenf (a1 + (1 : Int32)) r34 hc34) ⟨hx, hb, hml, hown, hts⟩ ⟨va_cnB 1 hts gX3_powerBehind_X0_look_n66 rfl rfl rfl (hG.2.m 12 rfl) (hts (.initialized RX0) (by decide +kernel)) (by decide +kernel) ⟨Nat.le_of_ble_eq_true rfl, Nat.le_of_ble_eq_true rfl⟩, hts (.instanceMethod yX0_look) (by decide +kernel), hts (.selects RX0 yX0_look yX0_look) (by decide +kernel)⟩ hG hst hP hD hS hA 0 rfl rfl rfl [3, 4] [0, 1, 2] [0, 1, 2, 3, 4] rfl rfl rfl rfl rfl rfl hl.1 rfl rfl (Nat.le_of_ble_eq_true rfl) dX3_powerBehind_34 ⟨Nat.zero_le _, Nat.zero_le _⟩ (fun H locs hP hD hS => ?_)
      exact hmX3_powerBehind_37 r34 _ _ _ h hP hD hS (lv_sub hl [1, 2] rfl)
    · have h := i_f c17 h
      refine lv_aload_n hx hb dX3_powerBehind_20 rfl (lv_at hl 1 rfl) ?_
      refine va_get (D := D) (cl := vwCl) (ci := 3) (v := .int swai) (C := RX3) (T := TX3) (N := 12) hx hb hts hinX3 hown hG.1 hP 0 rfl rfl 11 (by decide) fl63 (fun _ h9 => h9) rfl dX3_powerBehind_21 ?_
      refine lv_goto (tgt := 37) hx hb dX3_powerBehind_24 (by decide) ?_
      exact hmX3_powerBehind_37 swai _ _ _ h hP hD hS (lv_sub hl [1, 2] rfl)
  unfold mX3_powerBehind at h
  refine lv_iload_n hx hb dX3_powerBehind_0 rfl (lv_at hl 1 rfl) ?_
  refine lv_aload_n hx hb dX3_powerBehind_1 rfl (lv_at hl 0 rfl) ?_
  refine va_get (D := D) (cl := vwCl) (ci := 3) (v := .int sdep) (C := RX3) (T := TX3) (N := 12) hx hb hts hinX3 hown hG.1 hP 0 rfl rfl 9 (by decide) fl57 (fun _ h9 => h9) rfl dX3_powerBehind_2 ?_
  refine lv_iconst (v := (1 : Int32)) hx hb dX3_powerBehind_5 (by decide) ?_
  refine lv_isub hx hb dX3_powerBehind_6 ?_
  refine lv_icmp_ne (tgt := 14) hx hb dX3_powerBehind_7 (by decide) (fun c7 => ?_) (fun c7 => ?_)
  · have h := i_f c7 h
    refine lv_iconst (v := (0 : Int32)) hx hb dX3_powerBehind_14 (by decide) ?_
    exact hmX3_powerBehind_15 (0 : Int32) _ _ _ h hP hD hS hl
  · have h := i_t c7 h
    refine lv_iconst (v := (1 : Int32)) hx hb dX3_powerBehind_10 (by decide) ?_
    refine lv_goto (tgt := 15) hx hb dX3_powerBehind_11 (by decide) ?_
    exact hmX3_powerBehind_15 (1 : Int32) _ _ _ h hP hD hS hl
set_option maxHeartbeats 4000000 in
set_option maxRecDepth 100000 in
theorem kX3_lowerPairIfThirdIsShort (l : Launch) (D : va_G) (cA : ClassId) (F : Nat) (so : Nat) (rowo : Nat) (talo : Nat) (plao : Nat) (leno : Nat) (jo : Nat) (mo : Nat) (lenv : Nat) (srec : Int32) (spol : Int32) (slea : Int32) (sdep : Int32) (sinr : Int32) (swai : Int32) (lenf : (Nat → Int32)) (r0 : Int32) (h : mX3_lowerPairIfThirdIsShort F sdep lenf = some r0) : Ct l yX3_lowerPairIfThirdIsShort wsX3_lowerPairIfThirdIsShort ({ frames := 2, cells := 0, slots := 0, locals := 42 }) D cA [.ref so] [(so, .inr (3, [.ref rowo, .ref talo, .ref plao, .ref leno, .ref jo, .ref mo, .int srec, .int spol, .int slea, .int sdep, .int sinr, .int swai])), (leno, .inr (0, [.ref lenv])), (lenv, .inl (cA, 96, .inl lenf))] [(so, .inr (3, [.ref rowo, .ref talo, .ref plao, .ref leno, .ref jo, .ref mo, .int srec, .int spol, .int slea, .int sdep, .int sinr, .int swai])), (leno, .inr (0, [.ref lenv])), (lenv, .inl (cA, 96, .inl lenf))] (some (.int r0)) := by
  refine Ct.of (cc := cX3_lowerPairIfThirdIsShort) (maxL := 1) (ret := (some .int)) (by decide) rfl (Nat.le_of_ble_eq_true rfl) ?_
  intro p e s m below meth c A ls hcx hG hst hA hP hD hl
  obtain ⟨hx, hb, hml, hown, hts, hr, hlocks⟩ := id hcx
  have hown : s.vm.findClass RX3 = some m.cls := hown
  have hS : va_S A s.heap s.heap [] := va_S.rf
  have hl : lv_has ls 1 [(0, .ref so)] := hl
  have hinX3 : ∀ w ∈ u_ws RX3 TX3 12, w ∈ wsX3_lowerPairIfThirdIsShort := by decide +kernel
  have fl57 := hts (.fieldLink RX3 57 "RunSorter$Sorter" "depth" "I") (by decide +kernel)
  have hmX3_lowerPairIfThirdIsShort_30 : ∀ (H : Heap) (locs : List Loc) (ls : Array Slot), mX3_lowerPairIfThirdIsShort_30 F sdep = some r0 → va_P D vwCl [(so, .inr (3, [.ref rowo, .ref talo, .ref plao, .ref leno, .ref jo, .ref mo, .int srec, .int spol, .int slea, .int sdep, .int sinr, .int swai])), (leno, .inr (0, [.ref lenv])), (lenv, .inl (cA, 96, .inl lenf))] H → va_D A [(so, .inr (3, [.ref rowo, .ref talo, .ref plao, .ref leno, .ref jo, .ref mo, .int srec, .int spol, .int slea, .int sdep, .int sinr, .int swai])), (leno, .inr (0, [.ref lenv])), (lenv, .inl (cA, 96, .inl lenf))] → va_S A s.heap H locs → lv_has ls 1 [(0, .ref so)] → W p l e ({ frames := 2, cells := 0, slots := 0, locals := 42 }) s m ([.ref so] : List Value).toArray below meth c H locs 0 0 (MQ below (Qw D A [(so, .inr (3, [.ref rowo, .ref talo, .ref plao, .ref leno, .ref jo, .ref mo, .int srec, .int spol, .int slea, .int sdep, .int sinr, .int swai])), (leno, .inr (0, [.ref lenv])), (lenv, .inl (cA, 96, .inl lenf))] (some (.int r0))) ([.ref so] : List Value).toArray s 0 0 A) (F0 m 30 ls []) := by
    intro H locs ls h hP hD hS hl
    unfold mX3_lowerPairIfThirdIsShort_30 at h
    refine lv_aload_n hx hb dX3_lowerPairIfThirdIsShort_30 rfl (lv_at hl 0 rfl) ?_
    refine va_get (D := D) (cl := vwCl) (ci := 3) (v := .int sdep) (C := RX3) (T := TX3) (N := 12) hx hb hts hinX3 hown hG.1 hP 0 rfl rfl 9 (by decide) fl57 (fun _ h9 => h9) rfl dX3_lowerPairIfThirdIsShort_31 ?_
    refine lv_iconst (v := (2 : Int32)) hx hb dX3_lowerPairIfThirdIsShort_34 (by decide) ?_
    refine lv_isub hx hb dX3_lowerPairIfThirdIsShort_35 ?_
    cases h
    exact rt_i hx hb hr hlocks hP hD hS dX3_lowerPairIfThirdIsShort_36
  unfold mX3_lowerPairIfThirdIsShort at h
  refine lv_aload_n hx hb dX3_lowerPairIfThirdIsShort_0 rfl (lv_at hl 0 rfl) ?_
  refine va_get (D := D) (cl := vwCl) (ci := 3) (v := .int sdep) (C := RX3) (T := TX3) (N := 12) hx hb hts hinX3 hown hG.1 hP 0 rfl rfl 9 (by decide) fl57 (fun _ h9 => h9) rfl dX3_lowerPairIfThirdIsShort_1 ?_
  refine lv_iconst (v := (3 : Int32)) hx hb dX3_lowerPairIfThirdIsShort_4 (by decide) ?_
  refine lv_icmp_lt (tgt := 30) hx hb dX3_lowerPairIfThirdIsShort_5 (by decide) (fun c5 => ?_) (fun c5 => ?_)
  · have h := i_t c5 h
    exact hmX3_lowerPairIfThirdIsShort_30  _ _ _ h hP hD hS hl
  · have h := i_f c5 h
    refine lv_aload_n hx hb dX3_lowerPairIfThirdIsShort_8 rfl (lv_at hl 0 rfl) ?_
    refine lv_iconst (v := (2 : Int32)) hx hb dX3_lowerPairIfThirdIsShort_9 (by decide) ?_
    obtain ⟨r10, hc10, h⟩ := bd1_some h
    refine ct_V (As := [.int (2 : Int32)]) (rest := []) (st1 := [.int r10]) (wf := [(so, .inr (3, [.ref rowo, .ref talo, .ref plao, .ref leno, .ref jo, .ref mo, .int srec, .int spol, .int slea, .int sdep, .int sinr, .int swai])), (leno, .inr (0, [.ref lenv])), (lenv, .inl (cA, 96, .inl lenf))]) (kX3_fromTop l D cA F so rowo talo plao leno jo mo lenv  srec spol slea sdep sinr swai lenf (2 : Int32) r10 hc10) ⟨hx, hb, hml, hown, hts⟩ (cwV 1 hts gX3_lowerPairIfThirdIsShort_X3_fromTop rfl rfl rfl (by decide +kernel) ⟨Nat.le_of_ble_eq_true rfl, Nat.le_of_ble_eq_true rfl⟩) hG hst hP hD hS hA 3 rfl rfl rfl [0, 1, 2] [] [0, 1, 2] rfl rfl rfl rfl rfl rfl hl.1 rfl rfl (Nat.le_of_ble_eq_true rfl) dX3_lowerPairIfThirdIsShort_10 ⟨Nat.zero_le _, Nat.zero_le _⟩ (fun H locs hP hD hS => ?_)
    refine lv_aload_n hx hb dX3_lowerPairIfThirdIsShort_13 rfl (lv_at hl 0 rfl) ?_
    refine lv_iconst (v := (0 : Int32)) hx hb dX3_lowerPairIfThirdIsShort_14 (by decide) ?_
    obtain ⟨r15, hc15, h⟩ := bd1_some h
    refine ct_V (As := [.int (0 : Int32)]) (rest := [.int r10]) (st1 := [.int r15, .int r10]) (wf := [(so, .inr (3, [.ref rowo, .ref talo, .ref plao, .ref leno, .ref jo, .ref mo, .int srec, .int spol, .int slea, .int sdep, .int sinr, .int swai])), (leno, .inr (0, [.ref lenv])), (lenv, .inl (cA, 96, .inl lenf))]) (kX3_fromTop l D cA F so rowo talo plao leno jo mo lenv  srec spol slea sdep sinr swai lenf (0 : Int32) r15 hc15) ⟨hx, hb, hml, hown, hts⟩ (cwV 1 hts gX3_lowerPairIfThirdIsShort_X3_fromTop rfl rfl rfl (by decide +kernel) ⟨Nat.le_of_ble_eq_true rfl, Nat.le_of_ble_eq_true rfl⟩) hG hst hP hD hS hA 3 rfl rfl rfl [0, 1, 2] [] [0, 1, 2] rfl rfl rfl rfl rfl rfl hl.1 rfl rfl (Nat.le_of_ble_eq_true rfl) dX3_lowerPairIfThirdIsShort_15 ⟨Nat.zero_le _, Nat.zero_le _⟩ (fun H locs hP hD hS => ?_)
    refine lv_icmp_ge (tgt := 30) hx hb dX3_lowerPairIfThirdIsShort_18 (by decide) (fun c18 => ?_) (fun c18 => ?_)
    · have h := i_t c18 h
      exact hmX3_lowerPairIfThirdIsShort_30  _ _ _ h hP hD hS hl
    · have h := i_f c18 h
      refine lv_aload_n hx hb dX3_lowerPairIfThirdIsShort_21 rfl (lv_at hl 0 rfl) ?_
      refine va_get (D := D) (cl := vwCl) (ci := 3) (v := .int sdep) (C := RX3) (T := TX3) (N := 12) hx hb hts hinX3 hown hG.1 hP 0 rfl rfl 9 (by decide) fl57 (fun _ h9 => h9) rfl dX3_lowerPairIfThirdIsShort_22 ?_
      refine lv_iconst (v := (3 : Int32)) hx hb dX3_lowerPairIfThirdIsShort_25 (by decide) ?_
      refine lv_isub hx hb dX3_lowerPairIfThirdIsShort_26 ?_
      refine lv_goto (tgt := 36) hx hb dX3_lowerPairIfThirdIsShort_27 (by decide) ?_
      cases h
      exact rt_i hx hb hr hlocks hP hD hS dX3_lowerPairIfThirdIsShort_36
set_option maxHeartbeats 4000000 in
set_option maxRecDepth 100000 in
theorem kX3_isOffBalance (l : Launch) (D : va_G) (cA : ClassId) (F : Nat) (so : Nat) (rowo : Nat) (talo : Nat) (plao : Nat) (leno : Nat) (jo : Nat) (mo : Nat) (lenv : Nat) (srec : Int32) (spol : Int32) (slea : Int32) (sdep : Int32) (sinr : Int32) (swai : Int32) (lenf : (Nat → Int32)) (r0 : Int32) (h : mX3_isOffBalance F sdep lenf = some r0) : Ct l yX3_isOffBalance wsX3_isOffBalance ({ frames := 2, cells := 0, slots := 0, locals := 42 }) D cA [.ref so] [(so, .inr (3, [.ref rowo, .ref talo, .ref plao, .ref leno, .ref jo, .ref mo, .int srec, .int spol, .int slea, .int sdep, .int sinr, .int swai])), (leno, .inr (0, [.ref lenv])), (lenv, .inl (cA, 96, .inl lenf))] [(so, .inr (3, [.ref rowo, .ref talo, .ref plao, .ref leno, .ref jo, .ref mo, .int srec, .int spol, .int slea, .int sdep, .int sinr, .int swai])), (leno, .inr (0, [.ref lenv])), (lenv, .inl (cA, 96, .inl lenf))] (some (.int r0)) := by
  refine Ct.of (cc := cX3_isOffBalance) (maxL := 1) (ret := (some .boolean)) (by decide) rfl (Nat.le_of_ble_eq_true rfl) ?_
  intro p e s m below meth c A ls hcx hG hst hA hP hD hl
  obtain ⟨hx, hb, hml, hown, hts, hr, hlocks⟩ := id hcx
  have hown : s.vm.findClass RX3 = some m.cls := hown
  have hS : va_S A s.heap s.heap [] := va_S.rf
  have hl : lv_has ls 1 [(0, .ref so)] := hl
  have hinX3 : ∀ w ∈ u_ws RX3 TX3 12, w ∈ wsX3_isOffBalance := by decide +kernel
  have fl57 := hts (.fieldLink RX3 57 "RunSorter$Sorter" "depth" "I") (by decide +kernel)
  have hmX3_isOffBalance_27 : ∀ (H : Heap) (locs : List Loc) (ls : Array Slot), mX3_isOffBalance_27 F sdep lenf = some r0 → va_P D vwCl [(so, .inr (3, [.ref rowo, .ref talo, .ref plao, .ref leno, .ref jo, .ref mo, .int srec, .int spol, .int slea, .int sdep, .int sinr, .int swai])), (leno, .inr (0, [.ref lenv])), (lenv, .inl (cA, 96, .inl lenf))] H → va_D A [(so, .inr (3, [.ref rowo, .ref talo, .ref plao, .ref leno, .ref jo, .ref mo, .int srec, .int spol, .int slea, .int sdep, .int sinr, .int swai])), (leno, .inr (0, [.ref lenv])), (lenv, .inl (cA, 96, .inl lenf))] → va_S A s.heap H locs → lv_has ls 1 [(0, .ref so)] → W p l e ({ frames := 2, cells := 0, slots := 0, locals := 42 }) s m ([.ref so] : List Value).toArray below meth c H locs 0 0 (MQ below (Qw D A [(so, .inr (3, [.ref rowo, .ref talo, .ref plao, .ref leno, .ref jo, .ref mo, .int srec, .int spol, .int slea, .int sdep, .int sinr, .int swai])), (leno, .inr (0, [.ref lenv])), (lenv, .inl (cA, 96, .inl lenf))] (some (.int r0))) ([.ref so] : List Value).toArray s 0 0 A) (F0 m 27 ls []) := by
    intro H locs ls h hP hD hS hl
    unfold mX3_isOffBalance_27 at h
    refine lv_aload_n hx hb dX3_isOffBalance_27 rfl (lv_at hl 0 rfl) ?_
    refine va_get (D := D) (cl := vwCl) (ci := 3) (v := .int sdep) (C := RX3) (T := TX3) (N := 12) hx hb hts hinX3 hown hG.1 hP 0 rfl rfl 9 (by decide) fl57 (fun _ h9 => h9) rfl dX3_isOffBalance_28 ?_
    refine lv_iconst (v := (4 : Int32)) hx hb dX3_isOffBalance_31 (by decide) ?_
    refine lv_icmp_lt (tgt := 58) hx hb dX3_isOffBalance_32 (by decide) (fun c32 => ?_) (fun c32 => ?_)
    · have h := i_t c32 h
      refine lv_iconst (v := (0 : Int32)) hx hb dX3_isOffBalance_58 (by decide) ?_
      obtain ⟨hz59, h⟩ := bz_some h
      cases h
      exact rt_z hx hb hr hlocks hz59 hP hD hS dX3_isOffBalance_59
    · have h := i_f c32 h
      refine lv_aload_n hx hb dX3_isOffBalance_35 rfl (lv_at hl 0 rfl) ?_
      refine lv_iconst (v := (3 : Int32)) hx hb dX3_isOffBalance_36 (by decide) ?_
      obtain ⟨r37, hc37, h⟩ := bd1_some h
      refine ct_V (As := [.int (3 : Int32)]) (rest := []) (st1 := [.int r37]) (wf := [(so, .inr (3, [.ref rowo, .ref talo, .ref plao, .ref leno, .ref jo, .ref mo, .int srec, .int spol, .int slea, .int sdep, .int sinr, .int swai])), (leno, .inr (0, [.ref lenv])), (lenv, .inl (cA, 96, .inl lenf))]) (kX3_fromTop l D cA F so rowo talo plao leno jo mo lenv  srec spol slea sdep sinr swai lenf (3 : Int32) r37 hc37) ⟨hx, hb, hml, hown, hts⟩ (cwV 1 hts gX3_isOffBalance_X3_fromTop rfl rfl rfl (by decide +kernel) ⟨Nat.le_of_ble_eq_true rfl, Nat.le_of_ble_eq_true rfl⟩) hG hst hP hD hS hA 3 rfl rfl rfl [0, 1, 2] [] [0, 1, 2] rfl rfl rfl rfl rfl rfl hl.1 rfl rfl (Nat.le_of_ble_eq_true rfl) dX3_isOffBalance_37 ⟨Nat.zero_le _, Nat.zero_le _⟩ (fun H locs hP hD hS => ?_)
      refine lv_aload_n hx hb dX3_isOffBalance_40 rfl (lv_at hl 0 rfl) ?_
      refine lv_iconst (v := (2 : Int32)) hx hb dX3_isOffBalance_41 (by decide) ?_
      obtain ⟨r42, hc42, h⟩ := bd1_some h
      refine ct_V (As := [.int (2 : Int32)]) (rest := [.int r37]) (st1 := [.int r42, .int r37]) (wf := [(so, .inr (3, [.ref rowo, .ref talo, .ref plao, .ref leno, .ref jo, .ref mo, .int srec, .int spol, .int slea, .int sdep, .int sinr, .int swai])), (leno, .inr (0, [.ref lenv])), (lenv, .inl (cA, 96, .inl lenf))]) (kX3_fromTop l D cA F so rowo talo plao leno jo mo lenv  srec spol slea sdep sinr swai lenf (2 : Int32) r42 hc42) ⟨hx, hb, hml, hown, hts⟩ (cwV 1 hts gX3_isOffBalance_X3_fromTop rfl rfl rfl (by decide +kernel) ⟨Nat.le_of_ble_eq_true rfl, Nat.le_of_ble_eq_true rfl⟩) hG hst hP hD hS hA 3 rfl rfl rfl [0, 1, 2] [] [0, 1, 2] rfl rfl rfl rfl rfl rfl hl.1 rfl rfl (Nat.le_of_ble_eq_true rfl) dX3_isOffBalance_42 ⟨Nat.zero_le _, Nat.zero_le _⟩ (fun H locs hP hD hS => ?_)
      refine lv_aload_n hx hb dX3_isOffBalance_45 rfl (lv_at hl 0 rfl) ?_
      refine lv_iconst (v := (1 : Int32)) hx hb dX3_isOffBalance_46 (by decide) ?_
      obtain ⟨r47, hc47, h⟩ := bd1_some h
      refine ct_V (As := [.int (1 : Int32)]) (rest := [.int r42, .int r37]) (st1 := [.int r47, .int r42, .int r37]) (wf := [(so, .inr (3, [.ref rowo, .ref talo, .ref plao, .ref leno, .ref jo, .ref mo, .int srec, .int spol, .int slea, .int sdep, .int sinr, .int swai])), (leno, .inr (0, [.ref lenv])), (lenv, .inl (cA, 96, .inl lenf))]) (kX3_fromTop l D cA F so rowo talo plao leno jo mo lenv  srec spol slea sdep sinr swai lenf (1 : Int32) r47 hc47) ⟨hx, hb, hml, hown, hts⟩ (cwV 1 hts gX3_isOffBalance_X3_fromTop rfl rfl rfl (by decide +kernel) ⟨Nat.le_of_ble_eq_true rfl, Nat.le_of_ble_eq_true rfl⟩) hG hst hP hD hS hA 3 rfl rfl rfl [0, 1, 2] [] [0, 1, 2] rfl rfl rfl rfl rfl rfl hl.1 rfl rfl (Nat.le_of_ble_eq_true rfl) dX3_isOffBalance_47 ⟨Nat.zero_le _, Nat.zero_le _⟩ (fun H locs hP hD hS => ?_)
      refine lv_iadd hx hb dX3_isOffBalance_50 ?_
      refine lv_icmp_gt (tgt := 58) hx hb dX3_isOffBalance_51 (by decide) (fun c51 => ?_) (fun c51 => ?_)
      · have h := i_t c51 h
        refine lv_iconst (v := (0 : Int32)) hx hb dX3_isOffBalance_58 (by decide) ?_
        obtain ⟨hz59, h⟩ := bz_some h
        cases h
        exact rt_z hx hb hr hlocks hz59 hP hD hS dX3_isOffBalance_59
      · have h := i_f c51 h
        refine lv_iconst (v := (1 : Int32)) hx hb dX3_isOffBalance_54 (by decide) ?_
        refine lv_goto (tgt := 59) hx hb dX3_isOffBalance_55 (by decide) ?_
        obtain ⟨hz59, h⟩ := bz_some h
        cases h
        exact rt_z hx hb hr hlocks hz59 hP hD hS dX3_isOffBalance_59
  unfold mX3_isOffBalance at h
  refine lv_aload_n hx hb dX3_isOffBalance_0 rfl (lv_at hl 0 rfl) ?_
  refine va_get (D := D) (cl := vwCl) (ci := 3) (v := .int sdep) (C := RX3) (T := TX3) (N := 12) hx hb hts hinX3 hown hG.1 hP 0 rfl rfl 9 (by decide) fl57 (fun _ h9 => h9) rfl dX3_isOffBalance_1 ?_
  refine lv_iconst (v := (3 : Int32)) hx hb dX3_isOffBalance_4 (by decide) ?_
  refine lv_icmp_lt (tgt := 27) hx hb dX3_isOffBalance_5 (by decide) (fun c5 => ?_) (fun c5 => ?_)
  · have h := i_t c5 h
    exact hmX3_isOffBalance_27  _ _ _ h hP hD hS hl
  · have h := i_f c5 h
    refine lv_aload_n hx hb dX3_isOffBalance_8 rfl (lv_at hl 0 rfl) ?_
    refine lv_iconst (v := (2 : Int32)) hx hb dX3_isOffBalance_9 (by decide) ?_
    obtain ⟨r10, hc10, h⟩ := bd1_some h
    refine ct_V (As := [.int (2 : Int32)]) (rest := []) (st1 := [.int r10]) (wf := [(so, .inr (3, [.ref rowo, .ref talo, .ref plao, .ref leno, .ref jo, .ref mo, .int srec, .int spol, .int slea, .int sdep, .int sinr, .int swai])), (leno, .inr (0, [.ref lenv])), (lenv, .inl (cA, 96, .inl lenf))]) (kX3_fromTop l D cA F so rowo talo plao leno jo mo lenv  srec spol slea sdep sinr swai lenf (2 : Int32) r10 hc10) ⟨hx, hb, hml, hown, hts⟩ (cwV 1 hts gX3_isOffBalance_X3_fromTop rfl rfl rfl (by decide +kernel) ⟨Nat.le_of_ble_eq_true rfl, Nat.le_of_ble_eq_true rfl⟩) hG hst hP hD hS hA 3 rfl rfl rfl [0, 1, 2] [] [0, 1, 2] rfl rfl rfl rfl rfl rfl hl.1 rfl rfl (Nat.le_of_ble_eq_true rfl) dX3_isOffBalance_10 ⟨Nat.zero_le _, Nat.zero_le _⟩ (fun H locs hP hD hS => ?_)
    refine lv_aload_n hx hb dX3_isOffBalance_13 rfl (lv_at hl 0 rfl) ?_
    refine lv_iconst (v := (1 : Int32)) hx hb dX3_isOffBalance_14 (by decide) ?_
    obtain ⟨r15, hc15, h⟩ := bd1_some h
    refine ct_V (As := [.int (1 : Int32)]) (rest := [.int r10]) (st1 := [.int r15, .int r10]) (wf := [(so, .inr (3, [.ref rowo, .ref talo, .ref plao, .ref leno, .ref jo, .ref mo, .int srec, .int spol, .int slea, .int sdep, .int sinr, .int swai])), (leno, .inr (0, [.ref lenv])), (lenv, .inl (cA, 96, .inl lenf))]) (kX3_fromTop l D cA F so rowo talo plao leno jo mo lenv  srec spol slea sdep sinr swai lenf (1 : Int32) r15 hc15) ⟨hx, hb, hml, hown, hts⟩ (cwV 1 hts gX3_isOffBalance_X3_fromTop rfl rfl rfl (by decide +kernel) ⟨Nat.le_of_ble_eq_true rfl, Nat.le_of_ble_eq_true rfl⟩) hG hst hP hD hS hA 3 rfl rfl rfl [0, 1, 2] [] [0, 1, 2] rfl rfl rfl rfl rfl rfl hl.1 rfl rfl (Nat.le_of_ble_eq_true rfl) dX3_isOffBalance_15 ⟨Nat.zero_le _, Nat.zero_le _⟩ (fun H locs hP hD hS => ?_)
    refine lv_aload_n hx hb dX3_isOffBalance_18 rfl (lv_at hl 0 rfl) ?_
    refine lv_iconst (v := (0 : Int32)) hx hb dX3_isOffBalance_19 (by decide) ?_
    obtain ⟨r20, hc20, h⟩ := bd1_some h
    refine ct_V (As := [.int (0 : Int32)]) (rest := [.int r15, .int r10]) (st1 := [.int r20, .int r15, .int r10]) (wf := [(so, .inr (3, [.ref rowo, .ref talo, .ref plao, .ref leno, .ref jo, .ref mo, .int srec, .int spol, .int slea, .int sdep, .int sinr, .int swai])), (leno, .inr (0, [.ref lenv])), (lenv, .inl (cA, 96, .inl lenf))]) (kX3_fromTop l D cA F so rowo talo plao leno jo mo lenv  srec spol slea sdep sinr swai lenf (0 : Int32) r20 hc20) ⟨hx, hb, hml, hown, hts⟩ (cwV 1 hts gX3_isOffBalance_X3_fromTop rfl rfl rfl (by decide +kernel) ⟨Nat.le_of_ble_eq_true rfl, Nat.le_of_ble_eq_true rfl⟩) hG hst hP hD hS hA 3 rfl rfl rfl [0, 1, 2] [] [0, 1, 2] rfl rfl rfl rfl rfl rfl hl.1 rfl rfl (Nat.le_of_ble_eq_true rfl) dX3_isOffBalance_20 ⟨Nat.zero_le _, Nat.zero_le _⟩ (fun H locs hP hD hS => ?_)
    refine lv_iadd hx hb dX3_isOffBalance_23 ?_
    refine lv_icmp_le (tgt := 54) hx hb dX3_isOffBalance_24 (by decide) (fun c24 => ?_) (fun c24 => ?_)
    · have h := i_t c24 h
      refine lv_iconst (v := (1 : Int32)) hx hb dX3_isOffBalance_54 (by decide) ?_
      refine lv_goto (tgt := 59) hx hb dX3_isOffBalance_55 (by decide) ?_
      obtain ⟨hz59, h⟩ := bz_some h
      cases h
      exact rt_z hx hb hr hlocks hz59 hP hD hS dX3_isOffBalance_59
    · have h := i_f c24 h
      exact hmX3_isOffBalance_27  _ _ _ h hP hD hS hl
set_option maxHeartbeats 4000000 in
set_option maxRecDepth 100000 in
theorem kX3_firstByPowers (l : Launch) (D : va_G) (cA : ClassId) (F : Nat) (so : Nat) (rowo : Nat) (talo : Nat) (plao : Nat) (leno : Nat) (jo : Nat) (mo : Nat) (plav : Nat) (lenv : Nat) (srec : Int32) (spol : Int32) (slea : Int32) (sdep : Int32) (sinr : Int32) (swai : Int32) (plaf : (Nat → Int32)) (lenf : (Nat → Int32)) (r0 : Int32) (h : mX3_firstByPowers F srec spol sdep swai plaf lenf = some r0) : Ct l yX3_firstByPowers wsX3_firstByPowers ({ frames := 2, cells := 0, slots := 0, locals := 48 }) D cA [.ref so] [(so, .inr (3, [.ref rowo, .ref talo, .ref plao, .ref leno, .ref jo, .ref mo, .int srec, .int spol, .int slea, .int sdep, .int sinr, .int swai])), (plao, .inr (0, [.ref plav])), (plav, .inl (cA, 96, .inl plaf)), (leno, .inr (0, [.ref lenv])), (lenv, .inl (cA, 96, .inl lenf))] [(so, .inr (3, [.ref rowo, .ref talo, .ref plao, .ref leno, .ref jo, .ref mo, .int srec, .int spol, .int slea, .int sdep, .int sinr, .int swai])), (plao, .inr (0, [.ref plav])), (plav, .inl (cA, 96, .inl plaf)), (leno, .inr (0, [.ref lenv])), (lenv, .inl (cA, 96, .inl lenf))] (some (.int r0)) := by
  refine Ct.of (cc := cX3_firstByPowers) (maxL := 2) (ret := (some .int)) (by decide) rfl (Nat.le_of_ble_eq_true rfl) ?_
  intro p e s m below meth c A ls hcx hG hst hA hP hD hl
  obtain ⟨hx, hb, hml, hown, hts, hr, hlocks⟩ := id hcx
  have hown : s.vm.findClass RX3 = some m.cls := hown
  have hS : va_S A s.heap s.heap [] := va_S.rf
  have hl : lv_has ls 2 [(0, .ref so)] := hl
  have hinX3 : ∀ w ∈ u_ws RX3 TX3 12, w ∈ wsX3_firstByPowers := by decide +kernel
  have fl51 := hts (.fieldLink RX3 51 "RunSorter$Sorter" "policy" "I") (by decide +kernel)
  have fl57 := hts (.fieldLink RX3 57 "RunSorter$Sorter" "depth" "I") (by decide +kernel)
  have hmX3_firstByPowers_43 : ∀ (s0 : Int32) (H : Heap) (locs : List Loc) (ls : Array Slot), mX3_firstByPowers_43 F sdep s0 = some r0 → va_P D vwCl [(so, .inr (3, [.ref rowo, .ref talo, .ref plao, .ref leno, .ref jo, .ref mo, .int srec, .int spol, .int slea, .int sdep, .int sinr, .int swai])), (plao, .inr (0, [.ref plav])), (plav, .inl (cA, 96, .inl plaf)), (leno, .inr (0, [.ref lenv])), (lenv, .inl (cA, 96, .inl lenf))] H → va_D A [(so, .inr (3, [.ref rowo, .ref talo, .ref plao, .ref leno, .ref jo, .ref mo, .int srec, .int spol, .int slea, .int sdep, .int sinr, .int swai])), (plao, .inr (0, [.ref plav])), (plav, .inl (cA, 96, .inl plaf)), (leno, .inr (0, [.ref lenv])), (lenv, .inl (cA, 96, .inl lenf))] → va_S A s.heap H locs → lv_has ls 2 [(0, .ref so)] → W p l e ({ frames := 2, cells := 0, slots := 0, locals := 48 }) s m ([.ref so] : List Value).toArray below meth c H locs 0 0 (MQ below (Qw D A [(so, .inr (3, [.ref rowo, .ref talo, .ref plao, .ref leno, .ref jo, .ref mo, .int srec, .int spol, .int slea, .int sdep, .int sinr, .int swai])), (plao, .inr (0, [.ref plav])), (plav, .inl (cA, 96, .inl plaf)), (leno, .inr (0, [.ref lenv])), (lenv, .inl (cA, 96, .inl lenf))] (some (.int r0))) ([.ref so] : List Value).toArray s 0 0 A) (F0 m 43 ls [.int s0]) := by
    intro s0 H locs ls h hP hD hS hl
    unfold mX3_firstByPowers_43 at h
    refine lv_istore_n (lv' := [(1, .int s0), (0, .ref so)]) hx hb dX3_firstByPowers_43 rfl hl (by decide) rfl (fun ls hl => ?_)
    refine lv_iload_n hx hb dX3_firstByPowers_44 rfl (lv_at hl 0 rfl) ?_
    refine lv_if_eq (tgt := 57) hx hb dX3_firstByPowers_45 (by decide) (fun c45 => ?_) (fun c45 => ?_)
    · have h := i_t c45 h
      refine lv_bipush (v := (-4 : Int32)) hx hb dX3_firstByPowers_57 (by decide) ?_
      cases h
      exact rt_i hx hb hr hlocks hP hD hS dX3_firstByPowers_59
    · have h := i_f c45 h
      refine lv_aload_n hx hb dX3_firstByPowers_48 rfl (lv_at hl 1 rfl) ?_
      refine va_get (D := D) (cl := vwCl) (ci := 3) (v := .int sdep) (C := RX3) (T := TX3) (N := 12) hx hb hts hinX3 hown hG.1 hP 0 rfl rfl 9 (by decide) fl57 (fun _ h9 => h9) rfl dX3_firstByPowers_49 ?_
      refine lv_iconst (v := (2 : Int32)) hx hb dX3_firstByPowers_52 (by decide) ?_
      refine lv_isub hx hb dX3_firstByPowers_53 ?_
      refine lv_goto (tgt := 59) hx hb dX3_firstByPowers_54 (by decide) ?_
      cases h
      exact rt_i hx hb hr hlocks hP hD hS dX3_firstByPowers_59
  unfold mX3_firstByPowers at h
  refine lv_aload_n hx hb dX3_firstByPowers_0 rfl (lv_at hl 0 rfl) ?_
  refine va_get (D := D) (cl := vwCl) (ci := 3) (v := .int spol) (C := RX3) (T := TX3) (N := 12) hx hb hts hinX3 hown hG.1 hP 0 rfl rfl 7 (by decide) fl51 (fun _ h9 => h9) rfl dX3_firstByPowers_1 ?_
  refine lv_if_ne (tgt := 42) hx hb dX3_firstByPowers_4 (by decide) (fun c4 => ?_) (fun c4 => ?_)
  · have h := i_f c4 h
    refine lv_iconst (v := (0 : Int32)) hx hb dX3_firstByPowers_42 (by decide) ?_
    exact hmX3_firstByPowers_43 (0 : Int32) _ _ _ h hP hD hS hl
  · have h := i_t c4 h
    refine lv_aload_n hx hb dX3_firstByPowers_7 rfl (lv_at hl 0 rfl) ?_
    refine va_get (D := D) (cl := vwCl) (ci := 3) (v := .int sdep) (C := RX3) (T := TX3) (N := 12) hx hb hts hinX3 hown hG.1 hP 0 rfl rfl 9 (by decide) fl57 (fun _ h9 => h9) rfl dX3_firstByPowers_8 ?_
    refine lv_iconst (v := (2 : Int32)) hx hb dX3_firstByPowers_11 (by decide) ?_
    refine lv_icmp_lt (tgt := 42) hx hb dX3_firstByPowers_12 (by decide) (fun c12 => ?_) (fun c12 => ?_)
    · have h := i_t c12 h
      refine lv_iconst (v := (0 : Int32)) hx hb dX3_firstByPowers_42 (by decide) ?_
      exact hmX3_firstByPowers_43 (0 : Int32) _ _ _ h hP hD hS hl
    · have h := i_f c12 h
      refine lv_aload_n hx hb dX3_firstByPowers_15 rfl (lv_at hl 0 rfl) ?_
      refine lv_aload_n hx hb dX3_firstByPowers_16 rfl (lv_at hl 0 rfl) ?_
      refine va_get (D := D) (cl := vwCl) (ci := 3) (v := .int sdep) (C := RX3) (T := TX3) (N := 12) hx hb hts hinX3 hown hG.1 hP 0 rfl rfl 9 (by decide) fl57 (fun _ h9 => h9) rfl dX3_firstByPowers_17 ?_
      refine lv_iconst (v := (2 : Int32)) hx hb dX3_firstByPowers_20 (by decide) ?_
      refine lv_isub hx hb dX3_firstByPowers_21 ?_
      obtain ⟨r22, hc22, h⟩ := bd1_some h
      refine ct_V (As := [.int (sdep - (2 : Int32))]) (rest := []) (st1 := [.int r22]) (wf := [(so, .inr (3, [.ref rowo, .ref talo, .ref plao, .ref leno, .ref jo, .ref mo, .int srec, .int spol, .int slea, .int sdep, .int sinr, .int swai])), (plao, .inr (0, [.ref plav])), (plav, .inl (cA, 96, .inl plaf)), (leno, .inr (0, [.ref lenv])), (lenv, .inl (cA, 96, .inl lenf))]) (kX3_powerBehind l D cA F so rowo talo plao leno jo mo plav lenv  srec spol slea sdep sinr swai plaf lenf (sdep - (2 : Int32)) r22 hc22) ⟨hx, hb, hml, hown, hts⟩ (cwV 1 hts gX3_firstByPowers_X3_powerBehind rfl rfl rfl (by decide +kernel) ⟨Nat.le_of_ble_eq_true rfl, Nat.le_of_ble_eq_true rfl⟩) hG hst hP hD hS hA 3 rfl rfl rfl [0, 1, 2, 3, 4] [] [0, 1, 2, 3, 4] rfl rfl rfl rfl rfl rfl hl.1 rfl rfl (Nat.le_of_ble_eq_true rfl) dX3_firstByPowers_22 ⟨Nat.zero_le _, Nat.zero_le _⟩ (fun H locs hP hD hS => ?_)
      refine lv_aload_n hx hb dX3_firstByPowers_25 rfl (lv_at hl 0 rfl) ?_
      refine lv_aload_n hx hb dX3_firstByPowers_26 rfl (lv_at hl 0 rfl) ?_
      refine va_get (D := D) (cl := vwCl) (ci := 3) (v := .int sdep) (C := RX3) (T := TX3) (N := 12) hx hb hts hinX3 hown hG.1 hP 0 rfl rfl 9 (by decide) fl57 (fun _ h9 => h9) rfl dX3_firstByPowers_27 ?_
      refine lv_iconst (v := (1 : Int32)) hx hb dX3_firstByPowers_30 (by decide) ?_
      refine lv_isub hx hb dX3_firstByPowers_31 ?_
      obtain ⟨r32, hc32, h⟩ := bd1_some h
      refine ct_V (As := [.int (sdep - (1 : Int32))]) (rest := [.int r22]) (st1 := [.int r32, .int r22]) (wf := [(so, .inr (3, [.ref rowo, .ref talo, .ref plao, .ref leno, .ref jo, .ref mo, .int srec, .int spol, .int slea, .int sdep, .int sinr, .int swai])), (plao, .inr (0, [.ref plav])), (plav, .inl (cA, 96, .inl plaf)), (leno, .inr (0, [.ref lenv])), (lenv, .inl (cA, 96, .inl lenf))]) (kX3_powerBehind l D cA F so rowo talo plao leno jo mo plav lenv  srec spol slea sdep sinr swai plaf lenf (sdep - (1 : Int32)) r32 hc32) ⟨hx, hb, hml, hown, hts⟩ (cwV 1 hts gX3_firstByPowers_X3_powerBehind rfl rfl rfl (by decide +kernel) ⟨Nat.le_of_ble_eq_true rfl, Nat.le_of_ble_eq_true rfl⟩) hG hst hP hD hS hA 3 rfl rfl rfl [0, 1, 2, 3, 4] [] [0, 1, 2, 3, 4] rfl rfl rfl rfl rfl rfl hl.1 rfl rfl (Nat.le_of_ble_eq_true rfl) dX3_firstByPowers_32 ⟨Nat.zero_le _, Nat.zero_le _⟩ (fun H locs hP hD hS => ?_)
      refine lv_icmp_le (tgt := 42) hx hb dX3_firstByPowers_35 (by decide) (fun c35 => ?_) (fun c35 => ?_)
      · have h := i_t c35 h
        refine lv_iconst (v := (0 : Int32)) hx hb dX3_firstByPowers_42 (by decide) ?_
        exact hmX3_firstByPowers_43 (0 : Int32) _ _ _ h hP hD hS hl
      · have h := i_f c35 h
        refine lv_iconst (v := (1 : Int32)) hx hb dX3_firstByPowers_38 (by decide) ?_
        refine lv_goto (tgt := 43) hx hb dX3_firstByPowers_39 (by decide) ?_
        exact hmX3_firstByPowers_43 (1 : Int32) _ _ _ h hP hD hS hl
set_option maxHeartbeats 4000000 in
set_option maxRecDepth 100000 in
theorem kX3_firstByLengths (l : Launch) (D : va_G) (cA : ClassId) (F : Nat) (so : Nat) (rowo : Nat) (talo : Nat) (plao : Nat) (leno : Nat) (jo : Nat) (mo : Nat) (lenv : Nat) (srec : Int32) (spol : Int32) (slea : Int32) (sdep : Int32) (sinr : Int32) (swai : Int32) (lenf : (Nat → Int32)) (r0 : Int32) (h : mX3_firstByLengths F spol sdep lenf = some r0) : Ct l yX3_firstByLengths wsX3_firstByLengths ({ frames := 3, cells := 0, slots := 0, locals := 62 }) D cA [.ref so] [(so, .inr (3, [.ref rowo, .ref talo, .ref plao, .ref leno, .ref jo, .ref mo, .int srec, .int spol, .int slea, .int sdep, .int sinr, .int swai])), (leno, .inr (0, [.ref lenv])), (lenv, .inl (cA, 96, .inl lenf))] [(so, .inr (3, [.ref rowo, .ref talo, .ref plao, .ref leno, .ref jo, .ref mo, .int srec, .int spol, .int slea, .int sdep, .int sinr, .int swai])), (leno, .inr (0, [.ref lenv])), (lenv, .inl (cA, 96, .inl lenf))] (some (.int r0)) := by
  refine Ct.of (cc := cX3_firstByLengths) (maxL := 1) (ret := (some .int)) (by decide) rfl (Nat.le_of_ble_eq_true rfl) ?_
  intro p e s m below meth c A ls hcx hG hst hA hP hD hl
  obtain ⟨hx, hb, hml, hown, hts, hr, hlocks⟩ := id hcx
  have hown : s.vm.findClass RX3 = some m.cls := hown
  have hS : va_S A s.heap s.heap [] := va_S.rf
  have hl : lv_has ls 1 [(0, .ref so)] := hl
  have hinX3 : ∀ w ∈ u_ws RX3 TX3 12, w ∈ wsX3_firstByLengths := by decide +kernel
  have fl51 := hts (.fieldLink RX3 51 "RunSorter$Sorter" "policy" "I") (by decide +kernel)
  have fl57 := hts (.fieldLink RX3 57 "RunSorter$Sorter" "depth" "I") (by decide +kernel)
  unfold mX3_firstByLengths at h
  refine lv_aload_n hx hb dX3_firstByLengths_0 rfl (lv_at hl 0 rfl) ?_
  refine va_get (D := D) (cl := vwCl) (ci := 3) (v := .int spol) (C := RX3) (T := TX3) (N := 12) hx hb hts hinX3 hown hG.1 hP 0 rfl rfl 7 (by decide) fl51 (fun _ h9 => h9) rfl dX3_firstByLengths_1 ?_
  refine lv_if_eq (tgt := 15) hx hb dX3_firstByLengths_4 (by decide) (fun c4 => ?_) (fun c4 => ?_)
  · have h := i_t c4 h
    refine lv_bipush (v := (-4 : Int32)) hx hb dX3_firstByLengths_15 (by decide) ?_
    cases h
    exact rt_i hx hb hr hlocks hP hD hS dX3_firstByLengths_17
  · have h := i_f c4 h
    refine lv_aload_n hx hb dX3_firstByLengths_7 rfl (lv_at hl 0 rfl) ?_
    refine va_get (D := D) (cl := vwCl) (ci := 3) (v := .int sdep) (C := RX3) (T := TX3) (N := 12) hx hb hts hinX3 hown hG.1 hP 0 rfl rfl 9 (by decide) fl57 (fun _ h9 => h9) rfl dX3_firstByLengths_8 ?_
    refine lv_iconst (v := (2 : Int32)) hx hb dX3_firstByLengths_11 (by decide) ?_
    refine lv_icmp_ge (tgt := 18) hx hb dX3_firstByLengths_12 (by decide) (fun c12 => ?_) (fun c12 => ?_)
    · have h := i_t c12 h
      refine lv_aload_n hx hb dX3_firstByLengths_18 rfl (lv_at hl 0 rfl) ?_
      refine va_get (D := D) (cl := vwCl) (ci := 3) (v := .int spol) (C := RX3) (T := TX3) (N := 12) hx hb hts hinX3 hown hG.1 hP 0 rfl rfl 7 (by decide) fl51 (fun _ h9 => h9) rfl dX3_firstByLengths_19 ?_
      refine lv_iconst (v := (1 : Int32)) hx hb dX3_firstByLengths_22 (by decide) ?_
      refine lv_icmp_ne (tgt := 53) hx hb dX3_firstByLengths_23 (by decide) (fun c23 => ?_) (fun c23 => ?_)
      · have h := i_f c23 h
        refine lv_aload_n hx hb dX3_firstByLengths_53 rfl (lv_at hl 0 rfl) ?_
        obtain ⟨r54, hc54, h⟩ := bd1_some h
        refine ct_V (As := []) (rest := []) (st1 := [.int r54]) (wf := [(so, .inr (3, [.ref rowo, .ref talo, .ref plao, .ref leno, .ref jo, .ref mo, .int srec, .int spol, .int slea, .int sdep, .int sinr, .int swai])), (leno, .inr (0, [.ref lenv])), (lenv, .inl (cA, 96, .inl lenf))]) (kX3_isOffBalance l D cA F so rowo talo plao leno jo mo lenv  srec spol slea sdep sinr swai lenf  r54 hc54) ⟨hx, hb, hml, hown, hts⟩ (cwV 0 hts gX3_firstByLengths_X3_isOffBalance rfl rfl rfl (by decide +kernel) ⟨Nat.le_of_ble_eq_true rfl, Nat.le_of_ble_eq_true rfl⟩) hG hst hP hD hS hA 3 rfl rfl rfl [0, 1, 2] [] [0, 1, 2] rfl rfl rfl rfl rfl rfl hl.1 rfl rfl (Nat.le_of_ble_eq_true rfl) dX3_firstByLengths_54 ⟨Nat.zero_le _, Nat.zero_le _⟩ (fun H locs hP hD hS => ?_)
        refine lv_if_eq (tgt := 65) hx hb dX3_firstByLengths_57 (by decide) (fun c57 => ?_) (fun c57 => ?_)
        · have h := i_t c57 h
          refine lv_aload_n hx hb dX3_firstByLengths_65 rfl (lv_at hl 0 rfl) ?_
          refine lv_iconst (v := (1 : Int32)) hx hb dX3_firstByLengths_66 (by decide) ?_
          obtain ⟨r67, hc67, h⟩ := bd1_some h
          refine ct_V (As := [.int (1 : Int32)]) (rest := []) (st1 := [.int r67]) (wf := [(so, .inr (3, [.ref rowo, .ref talo, .ref plao, .ref leno, .ref jo, .ref mo, .int srec, .int spol, .int slea, .int sdep, .int sinr, .int swai])), (leno, .inr (0, [.ref lenv])), (lenv, .inl (cA, 96, .inl lenf))]) (kX3_fromTop l D cA F so rowo talo plao leno jo mo lenv  srec spol slea sdep sinr swai lenf (1 : Int32) r67 hc67) ⟨hx, hb, hml, hown, hts⟩ (cwV 1 hts gX3_firstByLengths_X3_fromTop rfl rfl rfl (by decide +kernel) ⟨Nat.le_of_ble_eq_true rfl, Nat.le_of_ble_eq_true rfl⟩) hG hst hP hD hS hA 3 rfl rfl rfl [0, 1, 2] [] [0, 1, 2] rfl rfl rfl rfl rfl rfl hl.1 rfl rfl (Nat.le_of_ble_eq_true rfl) dX3_firstByLengths_67 ⟨Nat.zero_le _, Nat.zero_le _⟩ (fun H locs hP hD hS => ?_)
          refine lv_aload_n hx hb dX3_firstByLengths_70 rfl (lv_at hl 0 rfl) ?_
          refine lv_iconst (v := (0 : Int32)) hx hb dX3_firstByLengths_71 (by decide) ?_
          obtain ⟨r72, hc72, h⟩ := bd1_some h
          refine ct_V (As := [.int (0 : Int32)]) (rest := [.int r67]) (st1 := [.int r72, .int r67]) (wf := [(so, .inr (3, [.ref rowo, .ref talo, .ref plao, .ref leno, .ref jo, .ref mo, .int srec, .int spol, .int slea, .int sdep, .int sinr, .int swai])), (leno, .inr (0, [.ref lenv])), (lenv, .inl (cA, 96, .inl lenf))]) (kX3_fromTop l D cA F so rowo talo plao leno jo mo lenv  srec spol slea sdep sinr swai lenf (0 : Int32) r72 hc72) ⟨hx, hb, hml, hown, hts⟩ (cwV 1 hts gX3_firstByLengths_X3_fromTop rfl rfl rfl (by decide +kernel) ⟨Nat.le_of_ble_eq_true rfl, Nat.le_of_ble_eq_true rfl⟩) hG hst hP hD hS hA 3 rfl rfl rfl [0, 1, 2] [] [0, 1, 2] rfl rfl rfl rfl rfl rfl hl.1 rfl rfl (Nat.le_of_ble_eq_true rfl) dX3_firstByLengths_72 ⟨Nat.zero_le _, Nat.zero_le _⟩ (fun H locs hP hD hS => ?_)
          refine lv_icmp_gt (tgt := 87) hx hb dX3_firstByLengths_75 (by decide) (fun c75 => ?_) (fun c75 => ?_)
          · have h := i_t c75 h
            refine lv_bipush (v := (-4 : Int32)) hx hb dX3_firstByLengths_87 (by decide) ?_
            cases h
            exact rt_i hx hb hr hlocks hP hD hS dX3_firstByLengths_89
          · have h := i_f c75 h
            refine lv_aload_n hx hb dX3_firstByLengths_78 rfl (lv_at hl 0 rfl) ?_
            refine va_get (D := D) (cl := vwCl) (ci := 3) (v := .int sdep) (C := RX3) (T := TX3) (N := 12) hx hb hts hinX3 hown hG.1 hP 0 rfl rfl 9 (by decide) fl57 (fun _ h9 => h9) rfl dX3_firstByLengths_79 ?_
            refine lv_iconst (v := (2 : Int32)) hx hb dX3_firstByLengths_82 (by decide) ?_
            refine lv_isub hx hb dX3_firstByLengths_83 ?_
            refine lv_goto (tgt := 89) hx hb dX3_firstByLengths_84 (by decide) ?_
            cases h
            exact rt_i hx hb hr hlocks hP hD hS dX3_firstByLengths_89
        · have h := i_f c57 h
          refine lv_aload_n hx hb dX3_firstByLengths_60 rfl (lv_at hl 0 rfl) ?_
          obtain ⟨r61, hc61, h⟩ := bd1_some h
          refine ct_V (As := []) (rest := []) (st1 := [.int r61]) (wf := [(so, .inr (3, [.ref rowo, .ref talo, .ref plao, .ref leno, .ref jo, .ref mo, .int srec, .int spol, .int slea, .int sdep, .int sinr, .int swai])), (leno, .inr (0, [.ref lenv])), (lenv, .inl (cA, 96, .inl lenf))]) (kX3_lowerPairIfThirdIsShort l D cA F so rowo talo plao leno jo mo lenv  srec spol slea sdep sinr swai lenf  r61 hc61) ⟨hx, hb, hml, hown, hts⟩ (cwV 0 hts gX3_firstByLengths_X3_lowerPairIfThirdIsShort rfl rfl rfl (by decide +kernel) ⟨Nat.le_of_ble_eq_true rfl, Nat.le_of_ble_eq_true rfl⟩) hG hst hP hD hS hA 3 rfl rfl rfl [0, 1, 2] [] [0, 1, 2] rfl rfl rfl rfl rfl rfl hl.1 rfl rfl (Nat.le_of_ble_eq_true rfl) dX3_firstByLengths_61 ⟨Nat.zero_le _, Nat.zero_le _⟩ (fun H locs hP hD hS => ?_)
          cases h
          exact rt_i hx hb hr hlocks hP hD hS dX3_firstByLengths_64
      · have h := i_t c23 h
        refine lv_aload_n hx hb dX3_firstByLengths_26 rfl (lv_at hl 0 rfl) ?_
        refine lv_iconst (v := (1 : Int32)) hx hb dX3_firstByLengths_27 (by decide) ?_
        obtain ⟨r28, hc28, h⟩ := bd1_some h
        refine ct_V (As := [.int (1 : Int32)]) (rest := []) (st1 := [.int r28]) (wf := [(so, .inr (3, [.ref rowo, .ref talo, .ref plao, .ref leno, .ref jo, .ref mo, .int srec, .int spol, .int slea, .int sdep, .int sinr, .int swai])), (leno, .inr (0, [.ref lenv])), (lenv, .inl (cA, 96, .inl lenf))]) (kX3_fromTop l D cA F so rowo talo plao leno jo mo lenv  srec spol slea sdep sinr swai lenf (1 : Int32) r28 hc28) ⟨hx, hb, hml, hown, hts⟩ (cwV 1 hts gX3_firstByLengths_X3_fromTop rfl rfl rfl (by decide +kernel) ⟨Nat.le_of_ble_eq_true rfl, Nat.le_of_ble_eq_true rfl⟩) hG hst hP hD hS hA 3 rfl rfl rfl [0, 1, 2] [] [0, 1, 2] rfl rfl rfl rfl rfl rfl hl.1 rfl rfl (Nat.le_of_ble_eq_true rfl) dX3_firstByLengths_28 ⟨Nat.zero_le _, Nat.zero_le _⟩ (fun H locs hP hD hS => ?_)
        refine lv_iconst (v := (2 : Int32)) hx hb dX3_firstByLengths_31 (by decide) ?_
        refine lv_aload_n hx hb dX3_firstByLengths_32 rfl (lv_at hl 0 rfl) ?_
        refine lv_iconst (v := (0 : Int32)) hx hb dX3_firstByLengths_33 (by decide) ?_
        obtain ⟨r34, hc34, h⟩ := bd1_some h
        refine ct_V (As := [.int (0 : Int32)]) (rest := [.int (2 : Int32), .int r28]) (st1 := [.int r34, .int (2 : Int32), .int r28]) (wf := [(so, .inr (3, [.ref rowo, .ref talo, .ref plao, .ref leno, .ref jo, .ref mo, .int srec, .int spol, .int slea, .int sdep, .int sinr, .int swai])), (leno, .inr (0, [.ref lenv])), (lenv, .inl (cA, 96, .inl lenf))]) (kX3_fromTop l D cA F so rowo talo plao leno jo mo lenv  srec spol slea sdep sinr swai lenf (0 : Int32) r34 hc34) ⟨hx, hb, hml, hown, hts⟩ (cwV 1 hts gX3_firstByLengths_X3_fromTop rfl rfl rfl (by decide +kernel) ⟨Nat.le_of_ble_eq_true rfl, Nat.le_of_ble_eq_true rfl⟩) hG hst hP hD hS hA 3 rfl rfl rfl [0, 1, 2] [] [0, 1, 2] rfl rfl rfl rfl rfl rfl hl.1 rfl rfl (Nat.le_of_ble_eq_true rfl) dX3_firstByLengths_34 ⟨Nat.zero_le _, Nat.zero_le _⟩ (fun H locs hP hD hS => ?_)
        refine lv_imul hx hb dX3_firstByLengths_37 ?_
        refine lv_icmp_gt (tgt := 50) hx hb dX3_firstByLengths_38 (by decide) (fun c38 => ?_) (fun c38 => ?_)
        · have h := i_t c38 h
          refine lv_bipush (v := (-4 : Int32)) hx hb dX3_firstByLengths_50 (by decide) ?_
          cases h
          exact rt_i hx hb hr hlocks hP hD hS dX3_firstByLengths_52
        · have h := i_f c38 h
          refine lv_aload_n hx hb dX3_firstByLengths_41 rfl (lv_at hl 0 rfl) ?_
          refine va_get (D := D) (cl := vwCl) (ci := 3) (v := .int sdep) (C := RX3) (T := TX3) (N := 12) hx hb hts hinX3 hown hG.1 hP 0 rfl rfl 9 (by decide) fl57 (fun _ h9 => h9) rfl dX3_firstByLengths_42 ?_
          refine lv_iconst (v := (2 : Int32)) hx hb dX3_firstByLengths_45 (by decide) ?_
          refine lv_isub hx hb dX3_firstByLengths_46 ?_
          refine lv_goto (tgt := 52) hx hb dX3_firstByLengths_47 (by decide) ?_
          cases h
          exact rt_i hx hb hr hlocks hP hD hS dX3_firstByLengths_52
    · have h := i_f c12 h
      refine lv_bipush (v := (-4 : Int32)) hx hb dX3_firstByLengths_15 (by decide) ?_
      cases h
      exact rt_i hx hb hr hlocks hP hD hS dX3_firstByLengths_17
set_option maxHeartbeats 4000000 in
set_option maxRecDepth 100000 in
theorem kX3_firstAtTheEnd (l : Launch) (D : va_G) (cA : ClassId) (F : Nat) (so : Nat) (rowo : Nat) (talo : Nat) (plao : Nat) (leno : Nat) (jo : Nat) (mo : Nat) (lenv : Nat) (srec : Int32) (spol : Int32) (slea : Int32) (sdep : Int32) (sinr : Int32) (swai : Int32) (lenf : (Nat → Int32)) (r0 : Int32) (h : mX3_firstAtTheEnd F spol sdep lenf = some r0) : Ct l yX3_firstAtTheEnd wsX3_firstAtTheEnd ({ frames := 3, cells := 0, slots := 0, locals := 62 }) D cA [.ref so] [(so, .inr (3, [.ref rowo, .ref talo, .ref plao, .ref leno, .ref jo, .ref mo, .int srec, .int spol, .int slea, .int sdep, .int sinr, .int swai])), (leno, .inr (0, [.ref lenv])), (lenv, .inl (cA, 96, .inl lenf))] [(so, .inr (3, [.ref rowo, .ref talo, .ref plao, .ref leno, .ref jo, .ref mo, .int srec, .int spol, .int slea, .int sdep, .int sinr, .int swai])), (leno, .inr (0, [.ref lenv])), (lenv, .inl (cA, 96, .inl lenf))] (some (.int r0)) := by
  refine Ct.of (cc := cX3_firstAtTheEnd) (maxL := 2) (ret := (some .int)) (by decide) rfl (Nat.le_of_ble_eq_true rfl) ?_
  intro p e s m below meth c A ls hcx hG hst hA hP hD hl
  obtain ⟨hx, hb, hml, hown, hts, hr, hlocks⟩ := id hcx
  have hown : s.vm.findClass RX3 = some m.cls := hown
  have hS : va_S A s.heap s.heap [] := va_S.rf
  have hl : lv_has ls 2 [(0, .ref so)] := hl
  have hinX3 : ∀ w ∈ u_ws RX3 TX3 12, w ∈ wsX3_firstAtTheEnd := by decide +kernel
  have fl57 := hts (.fieldLink RX3 57 "RunSorter$Sorter" "depth" "I") (by decide +kernel)
  have fl51 := hts (.fieldLink RX3 51 "RunSorter$Sorter" "policy" "I") (by decide +kernel)
  have hmX3_firstAtTheEnd_31 : ∀ (s0 : Int32) (H : Heap) (locs : List Loc) (ls : Array Slot), mX3_firstAtTheEnd_31 F sdep lenf s0 = some r0 → va_P D vwCl [(so, .inr (3, [.ref rowo, .ref talo, .ref plao, .ref leno, .ref jo, .ref mo, .int srec, .int spol, .int slea, .int sdep, .int sinr, .int swai])), (leno, .inr (0, [.ref lenv])), (lenv, .inl (cA, 96, .inl lenf))] H → va_D A [(so, .inr (3, [.ref rowo, .ref talo, .ref plao, .ref leno, .ref jo, .ref mo, .int srec, .int spol, .int slea, .int sdep, .int sinr, .int swai])), (leno, .inr (0, [.ref lenv])), (lenv, .inl (cA, 96, .inl lenf))] → va_S A s.heap H locs → lv_has ls 2 [(0, .ref so)] → W p l e ({ frames := 3, cells := 0, slots := 0, locals := 62 }) s m ([.ref so] : List Value).toArray below meth c H locs 0 0 (MQ below (Qw D A [(so, .inr (3, [.ref rowo, .ref talo, .ref plao, .ref leno, .ref jo, .ref mo, .int srec, .int spol, .int slea, .int sdep, .int sinr, .int swai])), (leno, .inr (0, [.ref lenv])), (lenv, .inl (cA, 96, .inl lenf))] (some (.int r0))) ([.ref so] : List Value).toArray s 0 0 A) (F0 m 31 ls [.int s0]) := by
    intro s0 H locs ls h hP hD hS hl
    unfold mX3_firstAtTheEnd_31 at h
    refine lv_istore_n (lv' := [(1, .int s0), (0, .ref so)]) hx hb dX3_firstAtTheEnd_31 rfl hl (by decide) rfl (fun ls hl => ?_)
    refine lv_iload_n hx hb dX3_firstAtTheEnd_32 rfl (lv_at hl 0 rfl) ?_
    refine lv_if_eq (tgt := 45) hx hb dX3_firstAtTheEnd_33 (by decide) (fun c33 => ?_) (fun c33 => ?_)
    · have h := i_t c33 h
      refine lv_aload_n hx hb dX3_firstAtTheEnd_45 rfl (lv_at hl 1 rfl) ?_
      obtain ⟨r46, hc46, h⟩ := bd1_some h
      refine ct_V (As := []) (rest := []) (st1 := [.int r46]) (wf := [(so, .inr (3, [.ref rowo, .ref talo, .ref plao, .ref leno, .ref jo, .ref mo, .int srec, .int spol, .int slea, .int sdep, .int sinr, .int swai])), (leno, .inr (0, [.ref lenv])), (lenv, .inl (cA, 96, .inl lenf))]) (kX3_lowerPairIfThirdIsShort l D cA F so rowo talo plao leno jo mo lenv  srec spol slea sdep sinr swai lenf  r46 hc46) ⟨hx, hb, hml, hown, hts⟩ (cwV 0 hts gX3_firstAtTheEnd_X3_lowerPairIfThirdIsShort rfl rfl rfl (by decide +kernel) ⟨Nat.le_of_ble_eq_true rfl, Nat.le_of_ble_eq_true rfl⟩) hG hst hP hD hS hA 3 rfl rfl rfl [0, 1, 2] [] [0, 1, 2] rfl rfl rfl rfl rfl rfl hl.1 rfl rfl (Nat.le_of_ble_eq_true rfl) dX3_firstAtTheEnd_46 ⟨Nat.zero_le _, Nat.zero_le _⟩ (fun H locs hP hD hS => ?_)
      cases h
      exact rt_i hx hb hr hlocks hP hD hS dX3_firstAtTheEnd_49
    · have h := i_f c33 h
      refine lv_aload_n hx hb dX3_firstAtTheEnd_36 rfl (lv_at hl 1 rfl) ?_
      refine va_get (D := D) (cl := vwCl) (ci := 3) (v := .int sdep) (C := RX3) (T := TX3) (N := 12) hx hb hts hinX3 hown hG.1 hP 0 rfl rfl 9 (by decide) fl57 (fun _ h9 => h9) rfl dX3_firstAtTheEnd_37 ?_
      refine lv_iconst (v := (2 : Int32)) hx hb dX3_firstAtTheEnd_40 (by decide) ?_
      refine lv_isub hx hb dX3_firstAtTheEnd_41 ?_
      refine lv_goto (tgt := 49) hx hb dX3_firstAtTheEnd_42 (by decide) ?_
      cases h
      exact rt_i hx hb hr hlocks hP hD hS dX3_firstAtTheEnd_49
  unfold mX3_firstAtTheEnd at h
  refine lv_aload_n hx hb dX3_firstAtTheEnd_0 rfl (lv_at hl 0 rfl) ?_
  refine va_get (D := D) (cl := vwCl) (ci := 3) (v := .int sdep) (C := RX3) (T := TX3) (N := 12) hx hb hts hinX3 hown hG.1 hP 0 rfl rfl 9 (by decide) fl57 (fun _ h9 => h9) rfl dX3_firstAtTheEnd_1 ?_
  refine lv_iconst (v := (2 : Int32)) hx hb dX3_firstAtTheEnd_4 (by decide) ?_
  refine lv_icmp_ge (tgt := 11) hx hb dX3_firstAtTheEnd_5 (by decide) (fun c5 => ?_) (fun c5 => ?_)
  · have h := i_t c5 h
    refine lv_aload_n hx hb dX3_firstAtTheEnd_11 rfl (lv_at hl 0 rfl) ?_
    refine va_get (D := D) (cl := vwCl) (ci := 3) (v := .int spol) (C := RX3) (T := TX3) (N := 12) hx hb hts hinX3 hown hG.1 hP 0 rfl rfl 7 (by decide) fl51 (fun _ h9 => h9) rfl dX3_firstAtTheEnd_12 ?_
    refine lv_if_eq (tgt := 26) hx hb dX3_firstAtTheEnd_15 (by decide) (fun c15 => ?_) (fun c15 => ?_)
    · have h := i_t c15 h
      refine lv_iconst (v := (1 : Int32)) hx hb dX3_firstAtTheEnd_26 (by decide) ?_
      refine lv_goto (tgt := 31) hx hb dX3_firstAtTheEnd_27 (by decide) ?_
      exact hmX3_firstAtTheEnd_31 (1 : Int32) _ _ _ h hP hD hS hl
    · have h := i_f c15 h
      refine lv_aload_n hx hb dX3_firstAtTheEnd_18 rfl (lv_at hl 0 rfl) ?_
      refine va_get (D := D) (cl := vwCl) (ci := 3) (v := .int spol) (C := RX3) (T := TX3) (N := 12) hx hb hts hinX3 hown hG.1 hP 0 rfl rfl 7 (by decide) fl51 (fun _ h9 => h9) rfl dX3_firstAtTheEnd_19 ?_
      refine lv_iconst (v := (1 : Int32)) hx hb dX3_firstAtTheEnd_22 (by decide) ?_
      refine lv_icmp_ne (tgt := 30) hx hb dX3_firstAtTheEnd_23 (by decide) (fun c23 => ?_) (fun c23 => ?_)
      · have h := i_f c23 h
        refine lv_iconst (v := (0 : Int32)) hx hb dX3_firstAtTheEnd_30 (by decide) ?_
        exact hmX3_firstAtTheEnd_31 (0 : Int32) _ _ _ h hP hD hS hl
      · have h := i_t c23 h
        refine lv_iconst (v := (1 : Int32)) hx hb dX3_firstAtTheEnd_26 (by decide) ?_
        refine lv_goto (tgt := 31) hx hb dX3_firstAtTheEnd_27 (by decide) ?_
        exact hmX3_firstAtTheEnd_31 (1 : Int32) _ _ _ h hP hD hS hl
  · have h := i_f c5 h
    refine lv_bipush (v := (-4 : Int32)) hx hb dX3_firstAtTheEnd_8 (by decide) ?_
    cases h
    exact rt_i hx hb hr hlocks hP hD hS dX3_firstAtTheEnd_10
set_option maxHeartbeats 4000000 in
set_option maxRecDepth 100000 in
theorem kX3_firstToMerge (l : Launch) (D : va_G) (cA : ClassId) (F : Nat) (so : Nat) (rowo : Nat) (talo : Nat) (plao : Nat) (leno : Nat) (jo : Nat) (mo : Nat) (plav : Nat) (lenv : Nat) (srec : Int32) (spol : Int32) (slea : Int32) (sdep : Int32) (sinr : Int32) (swai : Int32) (plaf : (Nat → Int32)) (lenf : (Nat → Int32)) (r0 : Int32) (h : mX3_firstToMerge F srec spol sdep sinr swai plaf lenf = some r0) : Ct l yX3_firstToMerge wsX3_firstToMerge ({ frames := 4, cells := 0, slots := 0, locals := 83 }) D cA [.ref so] [(so, .inr (3, [.ref rowo, .ref talo, .ref plao, .ref leno, .ref jo, .ref mo, .int srec, .int spol, .int slea, .int sdep, .int sinr, .int swai])), (plao, .inr (0, [.ref plav])), (plav, .inl (cA, 96, .inl plaf)), (leno, .inr (0, [.ref lenv])), (lenv, .inl (cA, 96, .inl lenf))] [(so, .inr (3, [.ref rowo, .ref talo, .ref plao, .ref leno, .ref jo, .ref mo, .int srec, .int spol, .int slea, .int sdep, .int sinr, .int swai])), (plao, .inr (0, [.ref plav])), (plav, .inl (cA, 96, .inl plaf)), (leno, .inr (0, [.ref lenv])), (lenv, .inl (cA, 96, .inl lenf))] (some (.int r0)) := by
  refine Ct.of (cc := cX3_firstToMerge) (maxL := 2) (ret := (some .int)) (by decide) rfl (Nat.le_of_ble_eq_true rfl) ?_
  intro p e s m below meth c A ls hcx hG hst hA hP hD hl
  obtain ⟨hx, hb, hml, hown, hts, hr, hlocks⟩ := id hcx
  have hown : s.vm.findClass RX3 = some m.cls := hown
  have hS : va_S A s.heap s.heap [] := va_S.rf
  have hl : lv_has ls 2 [(0, .ref so)] := hl
  have hinX3 : ∀ w ∈ u_ws RX3 TX3 12, w ∈ wsX3_firstToMerge := by decide +kernel
  have fl63 := hts (.fieldLink RX3 63 "RunSorter$Sorter" "waitingLength" "I") (by decide +kernel)
  have fl60 := hts (.fieldLink RX3 60 "RunSorter$Sorter" "inRuns" "I") (by decide +kernel)
  have fl47 := hts (.fieldLink RX3 47 "RunSorter$Sorter" "records" "I") (by decide +kernel)
  unfold mX3_firstToMerge at h
  refine lv_aload_n hx hb dX3_firstToMerge_0 rfl (lv_at hl 0 rfl) ?_
  refine va_get (D := D) (cl := vwCl) (ci := 3) (v := .int swai) (C := RX3) (T := TX3) (N := 12) hx hb hts hinX3 hown hG.1 hP 0 rfl rfl 11 (by decide) fl63 (fun _ h9 => h9) rfl dX3_firstToMerge_1 ?_
  refine lv_if_le (tgt := 12) hx hb dX3_firstToMerge_4 (by decide) (fun c4 => ?_) (fun c4 => ?_)
  · have h := i_t c4 h
    refine lv_aload_n hx hb dX3_firstToMerge_12 rfl (lv_at hl 0 rfl) ?_
    obtain ⟨r13, hc13, h⟩ := bd1_some h
    refine ct_V (As := []) (rest := []) (st1 := [.int r13]) (wf := [(so, .inr (3, [.ref rowo, .ref talo, .ref plao, .ref leno, .ref jo, .ref mo, .int srec, .int spol, .int slea, .int sdep, .int sinr, .int swai])), (plao, .inr (0, [.ref plav])), (plav, .inl (cA, 96, .inl plaf)), (leno, .inr (0, [.ref lenv])), (lenv, .inl (cA, 96, .inl lenf))]) (kX3_firstByLengths l D cA F so rowo talo plao leno jo mo lenv  srec spol slea sdep sinr swai lenf  r13 hc13) ⟨hx, hb, hml, hown, hts⟩ (cwV 0 hts gX3_firstToMerge_X3_firstByLengths rfl rfl rfl (by decide +kernel) ⟨Nat.le_of_ble_eq_true rfl, Nat.le_of_ble_eq_true rfl⟩) hG hst hP hD hS hA 3 rfl rfl rfl [0, 3, 4] [1, 2] [2, 0, 1, 3, 4] rfl rfl rfl rfl rfl rfl hl.1 rfl rfl (Nat.le_of_ble_eq_true rfl) dX3_firstToMerge_13 ⟨Nat.zero_le _, Nat.zero_le _⟩ (fun H locs hP hD hS => ?_)
    refine lv_istore_n (lv' := [(1, .int r13), (0, .ref so)]) hx hb dX3_firstToMerge_16 rfl hl (by decide) rfl (fun ls hl => ?_)
    refine lv_iload_n hx hb dX3_firstToMerge_17 rfl (lv_at hl 0 rfl) ?_
    refine lv_bipush (v := (-4 : Int32)) hx hb dX3_firstToMerge_18 (by decide) ?_
    refine lv_icmp_ne (tgt := 34) hx hb dX3_firstToMerge_20 (by decide) (fun c20 => ?_) (fun c20 => ?_)
    · have h := i_f c20 h
      refine lv_iload_n hx hb dX3_firstToMerge_34 rfl (lv_at hl 0 rfl) ?_
      cases h
      exact rt_i hx hb hr hlocks hP hD hS dX3_firstToMerge_35
    · have h := i_t c20 h
      refine lv_aload_n hx hb dX3_firstToMerge_23 rfl (lv_at hl 1 rfl) ?_
      refine va_get (D := D) (cl := vwCl) (ci := 3) (v := .int sinr) (C := RX3) (T := TX3) (N := 12) hx hb hts hinX3 hown hG.1 hP 0 rfl rfl 10 (by decide) fl60 (fun _ h9 => h9) rfl dX3_firstToMerge_24 ?_
      refine lv_aload_n hx hb dX3_firstToMerge_27 rfl (lv_at hl 1 rfl) ?_
      refine va_get (D := D) (cl := vwCl) (ci := 3) (v := .int srec) (C := RX3) (T := TX3) (N := 12) hx hb hts hinX3 hown hG.1 hP 0 rfl rfl 6 (by decide) fl47 (fun _ h9 => h9) rfl dX3_firstToMerge_28 ?_
      refine lv_icmp_ge (tgt := 36) hx hb dX3_firstToMerge_31 (by decide) (fun c31 => ?_) (fun c31 => ?_)
      · have h := i_t c31 h
        refine lv_aload_n hx hb dX3_firstToMerge_36 rfl (lv_at hl 1 rfl) ?_
        obtain ⟨r37, hc37, h⟩ := bd1_some h
        refine ct_V (As := []) (rest := []) (st1 := [.int r37]) (wf := [(so, .inr (3, [.ref rowo, .ref talo, .ref plao, .ref leno, .ref jo, .ref mo, .int srec, .int spol, .int slea, .int sdep, .int sinr, .int swai])), (plao, .inr (0, [.ref plav])), (plav, .inl (cA, 96, .inl plaf)), (leno, .inr (0, [.ref lenv])), (lenv, .inl (cA, 96, .inl lenf))]) (kX3_firstAtTheEnd l D cA F so rowo talo plao leno jo mo lenv  srec spol slea sdep sinr swai lenf  r37 hc37) ⟨hx, hb, hml, hown, hts⟩ (cwV 0 hts gX3_firstToMerge_X3_firstAtTheEnd rfl rfl rfl (by decide +kernel) ⟨Nat.le_of_ble_eq_true rfl, Nat.le_of_ble_eq_true rfl⟩) hG hst hP hD hS hA 3 rfl rfl rfl [0, 3, 4] [1, 2] [2, 0, 1, 3, 4] rfl rfl rfl rfl rfl rfl hl.1 rfl rfl (Nat.le_of_ble_eq_true rfl) dX3_firstToMerge_37 ⟨Nat.zero_le _, Nat.zero_le _⟩ (fun H locs hP hD hS => ?_)
        cases h
        exact rt_i hx hb hr hlocks hP hD hS dX3_firstToMerge_40
      · have h := i_f c31 h
        refine lv_iload_n hx hb dX3_firstToMerge_34 rfl (lv_at hl 0 rfl) ?_
        cases h
        exact rt_i hx hb hr hlocks hP hD hS dX3_firstToMerge_35
  · have h := i_f c4 h
    refine lv_aload_n hx hb dX3_firstToMerge_7 rfl (lv_at hl 0 rfl) ?_
    obtain ⟨r8, hc8, h⟩ := bd1_some h
    refine ct_V (As := []) (rest := []) (st1 := [.int r8]) (wf := [(so, .inr (3, [.ref rowo, .ref talo, .ref plao, .ref leno, .ref jo, .ref mo, .int srec, .int spol, .int slea, .int sdep, .int sinr, .int swai])), (plao, .inr (0, [.ref plav])), (plav, .inl (cA, 96, .inl plaf)), (leno, .inr (0, [.ref lenv])), (lenv, .inl (cA, 96, .inl lenf))]) (kX3_firstByPowers l D cA F so rowo talo plao leno jo mo plav lenv  srec spol slea sdep sinr swai plaf lenf  r8 hc8) ⟨hx, hb, hml, hown, hts⟩ (cwV 0 hts gX3_firstToMerge_X3_firstByPowers rfl rfl rfl (by decide +kernel) ⟨Nat.le_of_ble_eq_true rfl, Nat.le_of_ble_eq_true rfl⟩) hG hst hP hD hS hA 3 rfl rfl rfl [0, 1, 2, 3, 4] [] [0, 1, 2, 3, 4] rfl rfl rfl rfl rfl rfl hl.1 rfl rfl (Nat.le_of_ble_eq_true rfl) dX3_firstToMerge_8 ⟨Nat.zero_le _, Nat.zero_le _⟩ (fun H locs hP hD hS => ?_)
    cases h
    exact rt_i hx hb hr hlocks hP hD hS dX3_firstToMerge_11
set_option maxHeartbeats 4000000 in
set_option maxRecDepth 100000 in
theorem kX3_kindOfNext (l : Launch) (D : va_G) (cA : ClassId) (F : Nat) (so : Nat) (rowo : Nat) (talo : Nat) (plao : Nat) (leno : Nat) (jo : Nat) (mo : Nat) (plav : Nat) (lenv : Nat) (srec : Int32) (spol : Int32) (slea : Int32) (sdep : Int32) (sinr : Int32) (swai : Int32) (plaf : (Nat → Int32)) (lenf : (Nat → Int32)) (r0 : Int32) (h : mX3_kindOfNext F srec spol sdep sinr swai plaf lenf = some r0) : Ct l yX3_kindOfNext wsX3_kindOfNext ({ frames := 5, cells := 0, slots := 0, locals := 104 }) D cA [.ref so] [(so, .inr (3, [.ref rowo, .ref talo, .ref plao, .ref leno, .ref jo, .ref mo, .int srec, .int spol, .int slea, .int sdep, .int sinr, .int swai])), (plao, .inr (0, [.ref plav])), (plav, .inl (cA, 96, .inl plaf)), (leno, .inr (0, [.ref lenv])), (lenv, .inl (cA, 96, .inl lenf))] [(so, .inr (3, [.ref rowo, .ref talo, .ref plao, .ref leno, .ref jo, .ref mo, .int srec, .int spol, .int slea, .int sdep, .int sinr, .int swai])), (plao, .inr (0, [.ref plav])), (plav, .inl (cA, 96, .inl plaf)), (leno, .inr (0, [.ref lenv])), (lenv, .inl (cA, 96, .inl lenf))] (some (.int r0)) := by
  refine Ct.of (cc := cX3_kindOfNext) (maxL := 1) (ret := (some .int)) (by decide) rfl (Nat.le_of_ble_eq_true rfl) ?_
  intro p e s m below meth c A ls hcx hG hst hA hP hD hl
  obtain ⟨hx, hb, hml, hown, hts, hr, hlocks⟩ := id hcx
  have hown : s.vm.findClass RX3 = some m.cls := hown
  have hS : va_S A s.heap s.heap [] := va_S.rf
  have hl : lv_has ls 1 [(0, .ref so)] := hl
  have hinX3 : ∀ w ∈ u_ws RX3 TX3 12, w ∈ wsX3_kindOfNext := by decide +kernel
  have fl63 := hts (.fieldLink RX3 63 "RunSorter$Sorter" "waitingLength" "I") (by decide +kernel)
  have fl60 := hts (.fieldLink RX3 60 "RunSorter$Sorter" "inRuns" "I") (by decide +kernel)
  have fl47 := hts (.fieldLink RX3 47 "RunSorter$Sorter" "records" "I") (by decide +kernel)
  unfold mX3_kindOfNext at h
  refine lv_aload_n hx hb dX3_kindOfNext_0 rfl (lv_at hl 0 rfl) ?_
  obtain ⟨r1, hc1, h⟩ := bd1_some h
  refine ct_V (As := []) (rest := []) (st1 := [.int r1]) (wf := [(so, .inr (3, [.ref rowo, .ref talo, .ref plao, .ref leno, .ref jo, .ref mo, .int srec, .int spol, .int slea, .int sdep, .int sinr, .int swai])), (plao, .inr (0, [.ref plav])), (plav, .inl (cA, 96, .inl plaf)), (leno, .inr (0, [.ref lenv])), (lenv, .inl (cA, 96, .inl lenf))]) (kX3_firstToMerge l D cA F so rowo talo plao leno jo mo plav lenv  srec spol slea sdep sinr swai plaf lenf  r1 hc1) ⟨hx, hb, hml, hown, hts⟩ (cwV 0 hts gX3_kindOfNext_X3_firstToMerge rfl rfl rfl (by decide +kernel) ⟨Nat.le_of_ble_eq_true rfl, Nat.le_of_ble_eq_true rfl⟩) hG hst hP hD hS hA 3 rfl rfl rfl [0, 1, 2, 3, 4] [] [0, 1, 2, 3, 4] rfl rfl rfl rfl rfl rfl hl.1 rfl rfl (Nat.le_of_ble_eq_true rfl) dX3_kindOfNext_1 ⟨Nat.zero_le _, Nat.zero_le _⟩ (fun H locs hP hD hS => ?_)
  refine lv_bipush (v := (-4 : Int32)) hx hb dX3_kindOfNext_4 (by decide) ?_
  refine lv_icmp_eq (tgt := 11) hx hb dX3_kindOfNext_6 (by decide) (fun c6 => ?_) (fun c6 => ?_)
  · have h := i_t c6 h
    refine lv_aload_n hx hb dX3_kindOfNext_11 rfl (lv_at hl 0 rfl) ?_
    refine va_get (D := D) (cl := vwCl) (ci := 3) (v := .int swai) (C := RX3) (T := TX3) (N := 12) hx hb hts hinX3 hown hG.1 hP 0 rfl rfl 11 (by decide) fl63 (fun _ h9 => h9) rfl dX3_kindOfNext_12 ?_
    refine lv_if_le (tgt := 20) hx hb dX3_kindOfNext_15 (by decide) (fun c15 => ?_) (fun c15 => ?_)
    · have h := i_t c15 h
      refine lv_aload_n hx hb dX3_kindOfNext_20 rfl (lv_at hl 0 rfl) ?_
      refine va_get (D := D) (cl := vwCl) (ci := 3) (v := .int sinr) (C := RX3) (T := TX3) (N := 12) hx hb hts hinX3 hown hG.1 hP 0 rfl rfl 10 (by decide) fl60 (fun _ h9 => h9) rfl dX3_kindOfNext_21 ?_
      refine lv_aload_n hx hb dX3_kindOfNext_24 rfl (lv_at hl 0 rfl) ?_
      refine va_get (D := D) (cl := vwCl) (ci := 3) (v := .int srec) (C := RX3) (T := TX3) (N := 12) hx hb hts hinX3 hown hG.1 hP 0 rfl rfl 6 (by decide) fl47 (fun _ h9 => h9) rfl dX3_kindOfNext_25 ?_
      refine lv_icmp_ge (tgt := 35) hx hb dX3_kindOfNext_28 (by decide) (fun c28 => ?_) (fun c28 => ?_)
      · have h := i_t c28 h
        refine lv_iconst (v := (0 : Int32)) hx hb dX3_kindOfNext_35 (by decide) ?_
        cases h
        exact rt_i hx hb hr hlocks hP hD hS dX3_kindOfNext_36
      · have h := i_f c28 h
        refine lv_iconst (v := (2 : Int32)) hx hb dX3_kindOfNext_31 (by decide) ?_
        refine lv_goto (tgt := 36) hx hb dX3_kindOfNext_32 (by decide) ?_
        cases h
        exact rt_i hx hb hr hlocks hP hD hS dX3_kindOfNext_36
    · have h := i_f c15 h
      refine lv_iconst (v := (1 : Int32)) hx hb dX3_kindOfNext_18 (by decide) ?_
      cases h
      exact rt_i hx hb hr hlocks hP hD hS dX3_kindOfNext_19
  · have h := i_f c6 h
    refine lv_iconst (v := (3 : Int32)) hx hb dX3_kindOfNext_9 (by decide) ?_
    cases h
    exact rt_i hx hb hr hlocks hP hD hS dX3_kindOfNext_10
