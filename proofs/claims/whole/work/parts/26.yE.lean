/-! contracts, by program (wip/whole/gen.py) -/
set_option maxHeartbeats 4000000 in
set_option maxRecDepth 100000 in
theorem kX6_keyA (l : Launch) (D : va_G) (cA : ClassId) (F : Nat) (yo : Nat) (vytext : Nat) (vyrules : Nat) (vylaid : Nat) (vykey : Nat) (vytag : Nat) (vyroomKey : Nat) (vyroomTag : Nat) (vyrunAt : Nat) (vyrunMany : Nat) (vycost : Nat) (vyhadKey : Nat) (vyhadTag : Nat) (vyhadAt : Nat) (vyhadMany : Nat) (vyhadCost : Nat) (ylength : Int32) (ymany : Int32) (yruns : Int32) (ywaitAt : Int32) (ywaitMany : Int32) (ya0 : Int32) (ya1 : Int32) (yb0 : Int32) (yb1 : Int32) (yforward : Int32) (yout : Int32) (ykey : (Nat → Int32)) (yroomKey : (Nat → Int32)) (a1 : Int32) (r0 : Int32) (h : mX6_keyA F yforward ykey yroomKey a1 = some r0) : Ct l yX6_keyA wsX6_keyA ({ frames := 0, cells := 0, slots := 0, locals := 0 }) D cA [.ref yo, .int a1] [(yo, .inr (6, [.int ylength, .ref vytext, .ref vyrules, .int ymany, .ref vylaid, .ref vykey, .ref vytag, .ref vyroomKey, .ref vyroomTag, .int yruns, .ref vyrunAt, .ref vyrunMany, .int ywaitAt, .int ywaitMany, .ref vycost, .ref vyhadKey, .ref vyhadTag, .ref vyhadAt, .ref vyhadMany, .ref vyhadCost, .int ya0, .int ya1, .int yb0, .int yb1, .int yforward, .int yout])), (vykey, .inl (cA, 96, .inl ykey)), (vyroomKey, .inl (cA, 96, .inl yroomKey))] [(yo, .inr (6, [.int ylength, .ref vytext, .ref vyrules, .int ymany, .ref vylaid, .ref vykey, .ref vytag, .ref vyroomKey, .ref vyroomTag, .int yruns, .ref vyrunAt, .ref vyrunMany, .int ywaitAt, .int ywaitMany, .ref vycost, .ref vyhadKey, .ref vyhadTag, .ref vyhadAt, .ref vyhadMany, .ref vyhadCost, .int ya0, .int ya1, .int yb0, .int yb1, .int yforward, .int yout])), (vykey, .inl (cA, 96, .inl ykey)), (vyroomKey, .inl (cA, 96, .inl yroomKey))] (some (.int r0)) := by
  refine Ct.of (cc := cX6_keyA) (maxL := 2) (ret := (some .int)) (by decide) rfl (Nat.le_of_ble_eq_true rfl) ?_
  intro p e s m below meth c A ls hcx hG hst hA hP hD hl
  obtain ⟨hx, hb, hml, hown, hts, hr, hlocks⟩ := id hcx
  have hown : s.vm.findClass RX6 = some m.cls := hown
  have hS : va_S A s.heap s.heap [] := va_S.rf
  have hl : lv_has ls 2 [(0, .ref yo), (1, .int a1)] := hl
  have hinX6 : ∀ w ∈ u_ws RX6 TX6 26, w ∈ wsX6_keyA := by decide +kernel
  have fl144 := hts (.fieldLink RX6 144 "RunSorterModel" "forward" "Z") (by decide +kernel)
  have fl19 := hts (.fieldLink RX6 19 "RunSorterModel" "key" "[I") (by decide +kernel)
  have fl25 := hts (.fieldLink RX6 25 "RunSorterModel" "roomKey" "[I") (by decide +kernel)
  unfold mX6_keyA at h
  refine lv_aload_n hx hb dX6_keyA_0 rfl (lv_at hl 0 rfl) ?_
  refine va_get (D := D) (cl := vwCl) (ci := 6) (v := .int yforward) (C := RX6) (T := TX6) (N := 26) hx hb hts hinX6 hown hG.1 hP 0 rfl rfl 24 (by decide) fl144 (fun _ h9 => h9) rfl dX6_keyA_1 ?_
  refine lv_if_eq (tgt := 16) hx hb dX6_keyA_4 (by decide) (fun c4 => ?_) (fun c4 => ?_)
  · have h := i_t c4 h
    refine lv_aload_n hx hb dX6_keyA_16 rfl (lv_at hl 0 rfl) ?_
    refine va_get (D := D) (cl := vwCl) (ci := 6) (v := .ref vykey) (C := RX6) (T := TX6) (N := 26) hx hb hts hinX6 hown hG.1 hP 0 rfl rfl 5 (by decide) fl19 (fun _ h9 => h9) rfl dX6_keyA_17 ?_
    refine lv_iload_n hx hb dX6_keyA_20 rfl (lv_at hl 1 rfl) ?_
    obtain ⟨hi21, h⟩ := ck_some h
    refine va_iald hx hb hG.1 hP 1 0 rfl rfl hi21 dX6_keyA_21 ?_
    cases h
    exact rt_i hx hb hr hlocks hP hD hS dX6_keyA_22
  · have h := i_f c4 h
    refine lv_aload_n hx hb dX6_keyA_7 rfl (lv_at hl 0 rfl) ?_
    refine va_get (D := D) (cl := vwCl) (ci := 6) (v := .ref vyroomKey) (C := RX6) (T := TX6) (N := 26) hx hb hts hinX6 hown hG.1 hP 0 rfl rfl 7 (by decide) fl25 (fun _ h9 => h9) rfl dX6_keyA_8 ?_
    refine lv_iload_n hx hb dX6_keyA_11 rfl (lv_at hl 1 rfl) ?_
    obtain ⟨hi12, h⟩ := ck_some h
    refine va_iald hx hb hG.1 hP 2 0 rfl rfl hi12 dX6_keyA_12 ?_
    refine lv_goto (tgt := 22) hx hb dX6_keyA_13 (by decide) ?_
    cases h
    exact rt_i hx hb hr hlocks hP hD hS dX6_keyA_22
set_option maxHeartbeats 4000000 in
set_option maxRecDepth 100000 in
theorem kX6_keyB (l : Launch) (D : va_G) (cA : ClassId) (F : Nat) (yo : Nat) (vytext : Nat) (vyrules : Nat) (vylaid : Nat) (vykey : Nat) (vytag : Nat) (vyroomKey : Nat) (vyroomTag : Nat) (vyrunAt : Nat) (vyrunMany : Nat) (vycost : Nat) (vyhadKey : Nat) (vyhadTag : Nat) (vyhadAt : Nat) (vyhadMany : Nat) (vyhadCost : Nat) (ylength : Int32) (ymany : Int32) (yruns : Int32) (ywaitAt : Int32) (ywaitMany : Int32) (ya0 : Int32) (ya1 : Int32) (yb0 : Int32) (yb1 : Int32) (yforward : Int32) (yout : Int32) (ykey : (Nat → Int32)) (yroomKey : (Nat → Int32)) (a1 : Int32) (r0 : Int32) (h : mX6_keyB F yforward ykey yroomKey a1 = some r0) : Ct l yX6_keyB wsX6_keyB ({ frames := 0, cells := 0, slots := 0, locals := 0 }) D cA [.ref yo, .int a1] [(yo, .inr (6, [.int ylength, .ref vytext, .ref vyrules, .int ymany, .ref vylaid, .ref vykey, .ref vytag, .ref vyroomKey, .ref vyroomTag, .int yruns, .ref vyrunAt, .ref vyrunMany, .int ywaitAt, .int ywaitMany, .ref vycost, .ref vyhadKey, .ref vyhadTag, .ref vyhadAt, .ref vyhadMany, .ref vyhadCost, .int ya0, .int ya1, .int yb0, .int yb1, .int yforward, .int yout])), (vykey, .inl (cA, 96, .inl ykey)), (vyroomKey, .inl (cA, 96, .inl yroomKey))] [(yo, .inr (6, [.int ylength, .ref vytext, .ref vyrules, .int ymany, .ref vylaid, .ref vykey, .ref vytag, .ref vyroomKey, .ref vyroomTag, .int yruns, .ref vyrunAt, .ref vyrunMany, .int ywaitAt, .int ywaitMany, .ref vycost, .ref vyhadKey, .ref vyhadTag, .ref vyhadAt, .ref vyhadMany, .ref vyhadCost, .int ya0, .int ya1, .int yb0, .int yb1, .int yforward, .int yout])), (vykey, .inl (cA, 96, .inl ykey)), (vyroomKey, .inl (cA, 96, .inl yroomKey))] (some (.int r0)) := by
  refine Ct.of (cc := cX6_keyB) (maxL := 2) (ret := (some .int)) (by decide) rfl (Nat.le_of_ble_eq_true rfl) ?_
  intro p e s m below meth c A ls hcx hG hst hA hP hD hl
  obtain ⟨hx, hb, hml, hown, hts, hr, hlocks⟩ := id hcx
  have hown : s.vm.findClass RX6 = some m.cls := hown
  have hS : va_S A s.heap s.heap [] := va_S.rf
  have hl : lv_has ls 2 [(0, .ref yo), (1, .int a1)] := hl
  have hinX6 : ∀ w ∈ u_ws RX6 TX6 26, w ∈ wsX6_keyB := by decide +kernel
  have fl144 := hts (.fieldLink RX6 144 "RunSorterModel" "forward" "Z") (by decide +kernel)
  have fl25 := hts (.fieldLink RX6 25 "RunSorterModel" "roomKey" "[I") (by decide +kernel)
  have fl19 := hts (.fieldLink RX6 19 "RunSorterModel" "key" "[I") (by decide +kernel)
  unfold mX6_keyB at h
  refine lv_aload_n hx hb dX6_keyB_0 rfl (lv_at hl 0 rfl) ?_
  refine va_get (D := D) (cl := vwCl) (ci := 6) (v := .int yforward) (C := RX6) (T := TX6) (N := 26) hx hb hts hinX6 hown hG.1 hP 0 rfl rfl 24 (by decide) fl144 (fun _ h9 => h9) rfl dX6_keyB_1 ?_
  refine lv_if_eq (tgt := 16) hx hb dX6_keyB_4 (by decide) (fun c4 => ?_) (fun c4 => ?_)
  · have h := i_t c4 h
    refine lv_aload_n hx hb dX6_keyB_16 rfl (lv_at hl 0 rfl) ?_
    refine va_get (D := D) (cl := vwCl) (ci := 6) (v := .ref vyroomKey) (C := RX6) (T := TX6) (N := 26) hx hb hts hinX6 hown hG.1 hP 0 rfl rfl 7 (by decide) fl25 (fun _ h9 => h9) rfl dX6_keyB_17 ?_
    refine lv_iload_n hx hb dX6_keyB_20 rfl (lv_at hl 1 rfl) ?_
    obtain ⟨hi21, h⟩ := ck_some h
    refine va_iald hx hb hG.1 hP 2 0 rfl rfl hi21 dX6_keyB_21 ?_
    cases h
    exact rt_i hx hb hr hlocks hP hD hS dX6_keyB_22
  · have h := i_f c4 h
    refine lv_aload_n hx hb dX6_keyB_7 rfl (lv_at hl 0 rfl) ?_
    refine va_get (D := D) (cl := vwCl) (ci := 6) (v := .ref vykey) (C := RX6) (T := TX6) (N := 26) hx hb hts hinX6 hown hG.1 hP 0 rfl rfl 5 (by decide) fl19 (fun _ h9 => h9) rfl dX6_keyB_8 ?_
    refine lv_iload_n hx hb dX6_keyB_11 rfl (lv_at hl 1 rfl) ?_
    obtain ⟨hi12, h⟩ := ck_some h
    refine va_iald hx hb hG.1 hP 1 0 rfl rfl hi12 dX6_keyB_12 ?_
    refine lv_goto (tgt := 22) hx hb dX6_keyB_13 (by decide) ?_
    cases h
    exact rt_i hx hb hr hlocks hP hD hS dX6_keyB_22
set_option maxHeartbeats 4000000 in
set_option maxRecDepth 100000 in
theorem kX6_passes (l : Launch) (D : va_G) (cA : ClassId) (F : Nat) (yo : Nat) (vytext : Nat) (vyrules : Nat) (vylaid : Nat) (vykey : Nat) (vytag : Nat) (vyroomKey : Nat) (vyroomTag : Nat) (vyrunAt : Nat) (vyrunMany : Nat) (vycost : Nat) (vyhadKey : Nat) (vyhadTag : Nat) (vyhadAt : Nat) (vyhadMany : Nat) (vyhadCost : Nat) (ylength : Int32) (ymany : Int32) (yruns : Int32) (ywaitAt : Int32) (ywaitMany : Int32) (ya0 : Int32) (ya1 : Int32) (yb0 : Int32) (yb1 : Int32) (yforward : Int32) (yout : Int32) (yrules : (Nat → Int32)) (ykey : (Nat → Int32)) (yroomKey : (Nat → Int32)) (ycost : (Nat → Int32)) (a1 : Int32) (a2 : Int32) (a3 : Int32) (r0 : Int32) (ycost_9 : (Nat → Int32)) (h : mX6_passes F yforward yrules ykey yroomKey ycost a1 a2 a3 = some (r0, ycost_9)) : Ct l yX6_passes wsX6_passes ({ frames := 3, cells := 0, slots := 0, locals := 64 }) D cA [.ref yo, .int a1, .int a2, .int a3] [(yo, .inr (6, [.int ylength, .ref vytext, .ref vyrules, .int ymany, .ref vylaid, .ref vykey, .ref vytag, .ref vyroomKey, .ref vyroomTag, .int yruns, .ref vyrunAt, .ref vyrunMany, .int ywaitAt, .int ywaitMany, .ref vycost, .ref vyhadKey, .ref vyhadTag, .ref vyhadAt, .ref vyhadMany, .ref vyhadCost, .int ya0, .int ya1, .int yb0, .int yb1, .int yforward, .int yout])), (vyrules, .inl (cA, 4, .inl yrules)), (vykey, .inl (cA, 96, .inl ykey)), (vyroomKey, .inl (cA, 96, .inl yroomKey)), (vycost, .inl (cA, 12, .inl ycost))] [(yo, .inr (6, [.int ylength, .ref vytext, .ref vyrules, .int ymany, .ref vylaid, .ref vykey, .ref vytag, .ref vyroomKey, .ref vyroomTag, .int yruns, .ref vyrunAt, .ref vyrunMany, .int ywaitAt, .int ywaitMany, .ref vycost, .ref vyhadKey, .ref vyhadTag, .ref vyhadAt, .ref vyhadMany, .ref vyhadCost, .int ya0, .int ya1, .int yb0, .int yb1, .int yforward, .int yout])), (vyrules, .inl (cA, 4, .inl yrules)), (vykey, .inl (cA, 96, .inl ykey)), (vyroomKey, .inl (cA, 96, .inl yroomKey)), (vycost, .inl (cA, 12, .inl ycost_9))] (some (.int r0)) := by
  refine Ct.of (cc := cX6_passes) (maxL := 4) (ret := (some .boolean)) (by decide) rfl (Nat.le_of_ble_eq_true rfl) ?_
  intro p e s m below meth c A ls hcx hG hst hA hP hD hl
  obtain ⟨hx, hb, hml, hown, hts, hr, hlocks⟩ := id hcx
  have hown : s.vm.findClass RX6 = some m.cls := hown
  have hS : va_S A s.heap s.heap [] := va_S.rf
  have hl : lv_has ls 4 [(0, .ref yo), (1, .int a1), (2, .int a2), (3, .int a3)] := hl
  have hinX6 : ∀ w ∈ u_ws RX6 TX6 26, w ∈ wsX6_passes := by decide +kernel
  have fl19 := hts (.fieldLink RX6 19 "RunSorterModel" "key" "[I") (by decide +kernel)
  unfold mX6_passes at h
  refine lv_iload_n hx hb dX6_passes_0 rfl (lv_at hl 1 rfl) ?_
  by_cases c1_0 : a1 = (0 : Int32)
  · have h := i_t c1_0 h
    refine lv_tableIn (tgt := 36) hx hb dX6_passes_1 (by rw [c1_0]; decide) (by rw [c1_0]; decide) (by rw [c1_0]; rfl) (by decide) ?_
    refine lv_aload_n hx hb dX6_passes_36 rfl (lv_at hl 0 rfl) ?_
    refine lv_iload_n hx hb dX6_passes_37 rfl (lv_at hl 3 rfl) ?_
    refine lv_aload_n hx hb dX6_passes_38 rfl (lv_at hl 0 rfl) ?_
    refine lv_iload_n hx hb dX6_passes_39 rfl (lv_at hl 2 rfl) ?_
    obtain ⟨r40, hc40, h⟩ := bd1_some h
    refine ct_V (As := [.int a2]) (rest := [.int a3, .ref yo]) (st1 := [.int r40, .int a3, .ref yo]) (wf := [(yo, .inr (6, [.int ylength, .ref vytext, .ref vyrules, .int ymany, .ref vylaid, .ref vykey, .ref vytag, .ref vyroomKey, .ref vyroomTag, .int yruns, .ref vyrunAt, .ref vyrunMany, .int ywaitAt, .int ywaitMany, .ref vycost, .ref vyhadKey, .ref vyhadTag, .ref vyhadAt, .ref vyhadMany, .ref vyhadCost, .int ya0, .int ya1, .int yb0, .int yb1, .int yforward, .int yout])), (vyrules, .inl (cA, 4, .inl yrules)), (vykey, .inl (cA, 96, .inl ykey)), (vyroomKey, .inl (cA, 96, .inl yroomKey)), (vycost, .inl (cA, 12, .inl ycost))]) (kX6_keyA l D cA F yo vytext vyrules vylaid vykey vytag vyroomKey vyroomTag vyrunAt vyrunMany vycost vyhadKey vyhadTag vyhadAt vyhadMany vyhadCost  ylength ymany yruns ywaitAt ywaitMany ya0 ya1 yb0 yb1 yforward yout ykey yroomKey a2 r40 hc40) ⟨hx, hb, hml, hown, hts⟩ (cwV 1 hts gX6_passes_X6_keyA rfl rfl rfl (by decide +kernel) ⟨Nat.le_of_ble_eq_true rfl, Nat.le_of_ble_eq_true rfl⟩) hG hst hP hD hS hA 6 rfl rfl rfl [0, 2, 3] [1, 4] [2, 0, 3, 4, 1] rfl rfl rfl rfl rfl rfl hl.1 rfl rfl (Nat.le_of_ble_eq_true rfl) dX6_passes_40 ⟨Nat.zero_le _, Nat.zero_le _⟩ (fun H locs hP hD hS => ?_)
    obtain ⟨r43, ycost_43, hc43, h⟩ := bd2_some h
    refine ct_V (As := [.int a3, .int r40]) (rest := []) (st1 := [.int r43]) (wf := [(yo, .inr (6, [.int ylength, .ref vytext, .ref vyrules, .int ymany, .ref vylaid, .ref vykey, .ref vytag, .ref vyroomKey, .ref vyroomTag, .int yruns, .ref vyrunAt, .ref vyrunMany, .int ywaitAt, .int ywaitMany, .ref vycost, .ref vyhadKey, .ref vyhadTag, .ref vyhadAt, .ref vyhadMany, .ref vyhadCost, .int ya0, .int ya1, .int yb0, .int yb1, .int yforward, .int yout])), (vyrules, .inl (cA, 4, .inl yrules)), (vykey, .inl (cA, 96, .inl ykey)), (vyroomKey, .inl (cA, 96, .inl yroomKey)), (vycost, .inl (cA, 12, .inl ycost_43))]) (kX6_tests l D cA F yo vytext vyrules vylaid vykey vytag vyroomKey vyroomTag vyrunAt vyrunMany vycost vyhadKey vyhadTag vyhadAt vyhadMany vyhadCost  ylength ymany yruns ywaitAt ywaitMany ya0 ya1 yb0 yb1 yforward yout yrules ycost a3 r40 r43 ycost_43 hc43) ⟨hx, hb, hml, hown, hts⟩ (cwV 2 hts gX6_passes_X6_tests rfl rfl rfl (by decide +kernel) ⟨Nat.le_of_ble_eq_true rfl, Nat.le_of_ble_eq_true rfl⟩) hG hst hP hD hS hA 6 rfl rfl rfl [0, 1, 4] [2, 3] [2, 3, 0, 1, 4] rfl rfl rfl rfl rfl rfl hl.1 rfl rfl (Nat.le_of_ble_eq_true rfl) dX6_passes_43 ⟨Nat.zero_le _, Nat.zero_le _⟩ (fun H locs hP hD hS => ?_)
    refine lv_if_ne (tgt := 53) hx hb dX6_passes_46 (by decide) (fun c46 => ?_) (fun c46 => ?_)
    · have h := i_f c46 h
      refine lv_iconst (v := (0 : Int32)) hx hb dX6_passes_53 (by decide) ?_
      obtain ⟨hz54, h⟩ := bz_some h
      cases h
      exact rt_z hx hb hr hlocks hz54 hP hD hS dX6_passes_54
    · have h := i_t c46 h
      refine lv_iconst (v := (1 : Int32)) hx hb dX6_passes_49 (by decide) ?_
      refine lv_goto (tgt := 54) hx hb dX6_passes_50 (by decide) ?_
      obtain ⟨hz54, h⟩ := bz_some h
      cases h
      exact rt_z hx hb hr hlocks hz54 hP hD hS dX6_passes_54
  have h := i_f c1_0 h
  by_cases c1_1 : a1 = (1 : Int32)
  · have h := i_t c1_1 h
    refine lv_tableIn (tgt := 55) hx hb dX6_passes_1 (by rw [c1_1]; decide) (by rw [c1_1]; decide) (by rw [c1_1]; rfl) (by decide) ?_
    refine lv_aload_n hx hb dX6_passes_55 rfl (lv_at hl 0 rfl) ?_
    refine lv_aload_n hx hb dX6_passes_56 rfl (lv_at hl 0 rfl) ?_
    refine lv_iload_n hx hb dX6_passes_57 rfl (lv_at hl 2 rfl) ?_
    obtain ⟨r58, hc58, h⟩ := bd1_some h
    refine ct_V (As := [.int a2]) (rest := [.ref yo]) (st1 := [.int r58, .ref yo]) (wf := [(yo, .inr (6, [.int ylength, .ref vytext, .ref vyrules, .int ymany, .ref vylaid, .ref vykey, .ref vytag, .ref vyroomKey, .ref vyroomTag, .int yruns, .ref vyrunAt, .ref vyrunMany, .int ywaitAt, .int ywaitMany, .ref vycost, .ref vyhadKey, .ref vyhadTag, .ref vyhadAt, .ref vyhadMany, .ref vyhadCost, .int ya0, .int ya1, .int yb0, .int yb1, .int yforward, .int yout])), (vyrules, .inl (cA, 4, .inl yrules)), (vykey, .inl (cA, 96, .inl ykey)), (vyroomKey, .inl (cA, 96, .inl yroomKey)), (vycost, .inl (cA, 12, .inl ycost))]) (kX6_keyB l D cA F yo vytext vyrules vylaid vykey vytag vyroomKey vyroomTag vyrunAt vyrunMany vycost vyhadKey vyhadTag vyhadAt vyhadMany vyhadCost  ylength ymany yruns ywaitAt ywaitMany ya0 ya1 yb0 yb1 yforward yout ykey yroomKey a2 r58 hc58) ⟨hx, hb, hml, hown, hts⟩ (cwV 1 hts gX6_passes_X6_keyB rfl rfl rfl (by decide +kernel) ⟨Nat.le_of_ble_eq_true rfl, Nat.le_of_ble_eq_true rfl⟩) hG hst hP hD hS hA 6 rfl rfl rfl [0, 2, 3] [1, 4] [2, 0, 3, 4, 1] rfl rfl rfl rfl rfl rfl hl.1 rfl rfl (Nat.le_of_ble_eq_true rfl) dX6_passes_58 ⟨Nat.zero_le _, Nat.zero_le _⟩ (fun H locs hP hD hS => ?_)
    refine lv_iload_n hx hb dX6_passes_61 rfl (lv_at hl 3 rfl) ?_
    obtain ⟨r62, ycost_62, hc62, h⟩ := bd2_some h
    refine ct_V (As := [.int r58, .int a3]) (rest := []) (st1 := [.int r62]) (wf := [(yo, .inr (6, [.int ylength, .ref vytext, .ref vyrules, .int ymany, .ref vylaid, .ref vykey, .ref vytag, .ref vyroomKey, .ref vyroomTag, .int yruns, .ref vyrunAt, .ref vyrunMany, .int ywaitAt, .int ywaitMany, .ref vycost, .ref vyhadKey, .ref vyhadTag, .ref vyhadAt, .ref vyhadMany, .ref vyhadCost, .int ya0, .int ya1, .int yb0, .int yb1, .int yforward, .int yout])), (vyrules, .inl (cA, 4, .inl yrules)), (vykey, .inl (cA, 96, .inl ykey)), (vyroomKey, .inl (cA, 96, .inl yroomKey)), (vycost, .inl (cA, 12, .inl ycost_62))]) (kX6_tests l D cA F yo vytext vyrules vylaid vykey vytag vyroomKey vyroomTag vyrunAt vyrunMany vycost vyhadKey vyhadTag vyhadAt vyhadMany vyhadCost  ylength ymany yruns ywaitAt ywaitMany ya0 ya1 yb0 yb1 yforward yout yrules ycost r58 a3 r62 ycost_62 hc62) ⟨hx, hb, hml, hown, hts⟩ (cwV 2 hts gX6_passes_X6_tests rfl rfl rfl (by decide +kernel) ⟨Nat.le_of_ble_eq_true rfl, Nat.le_of_ble_eq_true rfl⟩) hG hst hP hD hS hA 6 rfl rfl rfl [0, 1, 4] [2, 3] [2, 3, 0, 1, 4] rfl rfl rfl rfl rfl rfl hl.1 rfl rfl (Nat.le_of_ble_eq_true rfl) dX6_passes_62 ⟨Nat.zero_le _, Nat.zero_le _⟩ (fun H locs hP hD hS => ?_)
    obtain ⟨hz65, h⟩ := bz_some h
    cases h
    exact rt_z hx hb hr hlocks hz65 hP hD hS dX6_passes_65
  have h := i_f c1_1 h
  by_cases c1_2 : a1 = (2 : Int32)
  · have h := i_t c1_2 h
    refine lv_tableIn (tgt := 66) hx hb dX6_passes_1 (by rw [c1_2]; decide) (by rw [c1_2]; decide) (by rw [c1_2]; rfl) (by decide) ?_
    refine lv_aload_n hx hb dX6_passes_66 rfl (lv_at hl 0 rfl) ?_
    refine lv_iload_n hx hb dX6_passes_67 rfl (lv_at hl 3 rfl) ?_
    refine lv_aload_n hx hb dX6_passes_68 rfl (lv_at hl 0 rfl) ?_
    refine lv_iload_n hx hb dX6_passes_69 rfl (lv_at hl 2 rfl) ?_
    obtain ⟨r70, hc70, h⟩ := bd1_some h
    refine ct_V (As := [.int a2]) (rest := [.int a3, .ref yo]) (st1 := [.int r70, .int a3, .ref yo]) (wf := [(yo, .inr (6, [.int ylength, .ref vytext, .ref vyrules, .int ymany, .ref vylaid, .ref vykey, .ref vytag, .ref vyroomKey, .ref vyroomTag, .int yruns, .ref vyrunAt, .ref vyrunMany, .int ywaitAt, .int ywaitMany, .ref vycost, .ref vyhadKey, .ref vyhadTag, .ref vyhadAt, .ref vyhadMany, .ref vyhadCost, .int ya0, .int ya1, .int yb0, .int yb1, .int yforward, .int yout])), (vyrules, .inl (cA, 4, .inl yrules)), (vykey, .inl (cA, 96, .inl ykey)), (vyroomKey, .inl (cA, 96, .inl yroomKey)), (vycost, .inl (cA, 12, .inl ycost))]) (kX6_keyA l D cA F yo vytext vyrules vylaid vykey vytag vyroomKey vyroomTag vyrunAt vyrunMany vycost vyhadKey vyhadTag vyhadAt vyhadMany vyhadCost  ylength ymany yruns ywaitAt ywaitMany ya0 ya1 yb0 yb1 yforward yout ykey yroomKey a2 r70 hc70) ⟨hx, hb, hml, hown, hts⟩ (cwV 1 hts gX6_passes_X6_keyA rfl rfl rfl (by decide +kernel) ⟨Nat.le_of_ble_eq_true rfl, Nat.le_of_ble_eq_true rfl⟩) hG hst hP hD hS hA 6 rfl rfl rfl [0, 2, 3] [1, 4] [2, 0, 3, 4, 1] rfl rfl rfl rfl rfl rfl hl.1 rfl rfl (Nat.le_of_ble_eq_true rfl) dX6_passes_70 ⟨Nat.zero_le _, Nat.zero_le _⟩ (fun H locs hP hD hS => ?_)
    obtain ⟨r73, ycost_73, hc73, h⟩ := bd2_some h
    refine ct_V (As := [.int a3, .int r70]) (rest := []) (st1 := [.int r73]) (wf := [(yo, .inr (6, [.int ylength, .ref vytext, .ref vyrules, .int ymany, .ref vylaid, .ref vykey, .ref vytag, .ref vyroomKey, .ref vyroomTag, .int yruns, .ref vyrunAt, .ref vyrunMany, .int ywaitAt, .int ywaitMany, .ref vycost, .ref vyhadKey, .ref vyhadTag, .ref vyhadAt, .ref vyhadMany, .ref vyhadCost, .int ya0, .int ya1, .int yb0, .int yb1, .int yforward, .int yout])), (vyrules, .inl (cA, 4, .inl yrules)), (vykey, .inl (cA, 96, .inl ykey)), (vyroomKey, .inl (cA, 96, .inl yroomKey)), (vycost, .inl (cA, 12, .inl ycost_73))]) (kX6_tests l D cA F yo vytext vyrules vylaid vykey vytag vyroomKey vyroomTag vyrunAt vyrunMany vycost vyhadKey vyhadTag vyhadAt vyhadMany vyhadCost  ylength ymany yruns ywaitAt ywaitMany ya0 ya1 yb0 yb1 yforward yout yrules ycost a3 r70 r73 ycost_73 hc73) ⟨hx, hb, hml, hown, hts⟩ (cwV 2 hts gX6_passes_X6_tests rfl rfl rfl (by decide +kernel) ⟨Nat.le_of_ble_eq_true rfl, Nat.le_of_ble_eq_true rfl⟩) hG hst hP hD hS hA 6 rfl rfl rfl [0, 1, 4] [2, 3] [2, 3, 0, 1, 4] rfl rfl rfl rfl rfl rfl hl.1 rfl rfl (Nat.le_of_ble_eq_true rfl) dX6_passes_73 ⟨Nat.zero_le _, Nat.zero_le _⟩ (fun H locs hP hD hS => ?_)
    obtain ⟨hz76, h⟩ := bz_some h
    cases h
    exact rt_z hx hb hr hlocks hz76 hP hD hS dX6_passes_76
  have h := i_f c1_2 h
  by_cases c1_3 : a1 = (3 : Int32)
  · have h := i_t c1_3 h
    refine lv_tableIn (tgt := 77) hx hb dX6_passes_1 (by rw [c1_3]; decide) (by rw [c1_3]; decide) (by rw [c1_3]; rfl) (by decide) ?_
    refine lv_aload_n hx hb dX6_passes_77 rfl (lv_at hl 0 rfl) ?_
    refine lv_aload_n hx hb dX6_passes_78 rfl (lv_at hl 0 rfl) ?_
    refine lv_iload_n hx hb dX6_passes_79 rfl (lv_at hl 2 rfl) ?_
    obtain ⟨r80, hc80, h⟩ := bd1_some h
    refine ct_V (As := [.int a2]) (rest := [.ref yo]) (st1 := [.int r80, .ref yo]) (wf := [(yo, .inr (6, [.int ylength, .ref vytext, .ref vyrules, .int ymany, .ref vylaid, .ref vykey, .ref vytag, .ref vyroomKey, .ref vyroomTag, .int yruns, .ref vyrunAt, .ref vyrunMany, .int ywaitAt, .int ywaitMany, .ref vycost, .ref vyhadKey, .ref vyhadTag, .ref vyhadAt, .ref vyhadMany, .ref vyhadCost, .int ya0, .int ya1, .int yb0, .int yb1, .int yforward, .int yout])), (vyrules, .inl (cA, 4, .inl yrules)), (vykey, .inl (cA, 96, .inl ykey)), (vyroomKey, .inl (cA, 96, .inl yroomKey)), (vycost, .inl (cA, 12, .inl ycost))]) (kX6_keyB l D cA F yo vytext vyrules vylaid vykey vytag vyroomKey vyroomTag vyrunAt vyrunMany vycost vyhadKey vyhadTag vyhadAt vyhadMany vyhadCost  ylength ymany yruns ywaitAt ywaitMany ya0 ya1 yb0 yb1 yforward yout ykey yroomKey a2 r80 hc80) ⟨hx, hb, hml, hown, hts⟩ (cwV 1 hts gX6_passes_X6_keyB rfl rfl rfl (by decide +kernel) ⟨Nat.le_of_ble_eq_true rfl, Nat.le_of_ble_eq_true rfl⟩) hG hst hP hD hS hA 6 rfl rfl rfl [0, 2, 3] [1, 4] [2, 0, 3, 4, 1] rfl rfl rfl rfl rfl rfl hl.1 rfl rfl (Nat.le_of_ble_eq_true rfl) dX6_passes_80 ⟨Nat.zero_le _, Nat.zero_le _⟩ (fun H locs hP hD hS => ?_)
    refine lv_iload_n hx hb dX6_passes_83 rfl (lv_at hl 3 rfl) ?_
    obtain ⟨r84, ycost_84, hc84, h⟩ := bd2_some h
    refine ct_V (As := [.int r80, .int a3]) (rest := []) (st1 := [.int r84]) (wf := [(yo, .inr (6, [.int ylength, .ref vytext, .ref vyrules, .int ymany, .ref vylaid, .ref vykey, .ref vytag, .ref vyroomKey, .ref vyroomTag, .int yruns, .ref vyrunAt, .ref vyrunMany, .int ywaitAt, .int ywaitMany, .ref vycost, .ref vyhadKey, .ref vyhadTag, .ref vyhadAt, .ref vyhadMany, .ref vyhadCost, .int ya0, .int ya1, .int yb0, .int yb1, .int yforward, .int yout])), (vyrules, .inl (cA, 4, .inl yrules)), (vykey, .inl (cA, 96, .inl ykey)), (vyroomKey, .inl (cA, 96, .inl yroomKey)), (vycost, .inl (cA, 12, .inl ycost_84))]) (kX6_tests l D cA F yo vytext vyrules vylaid vykey vytag vyroomKey vyroomTag vyrunAt vyrunMany vycost vyhadKey vyhadTag vyhadAt vyhadMany vyhadCost  ylength ymany yruns ywaitAt ywaitMany ya0 ya1 yb0 yb1 yforward yout yrules ycost r80 a3 r84 ycost_84 hc84) ⟨hx, hb, hml, hown, hts⟩ (cwV 2 hts gX6_passes_X6_tests rfl rfl rfl (by decide +kernel) ⟨Nat.le_of_ble_eq_true rfl, Nat.le_of_ble_eq_true rfl⟩) hG hst hP hD hS hA 6 rfl rfl rfl [0, 1, 4] [2, 3] [2, 3, 0, 1, 4] rfl rfl rfl rfl rfl rfl hl.1 rfl rfl (Nat.le_of_ble_eq_true rfl) dX6_passes_84 ⟨Nat.zero_le _, Nat.zero_le _⟩ (fun H locs hP hD hS => ?_)
    refine lv_if_ne (tgt := 94) hx hb dX6_passes_87 (by decide) (fun c87 => ?_) (fun c87 => ?_)
    · have h := i_f c87 h
      refine lv_iconst (v := (0 : Int32)) hx hb dX6_passes_94 (by decide) ?_
      obtain ⟨hz95, h⟩ := bz_some h
      cases h
      exact rt_z hx hb hr hlocks hz95 hP hD hS dX6_passes_95
    · have h := i_t c87 h
      refine lv_iconst (v := (1 : Int32)) hx hb dX6_passes_90 (by decide) ?_
      refine lv_goto (tgt := 95) hx hb dX6_passes_91 (by decide) ?_
      obtain ⟨hz95, h⟩ := bz_some h
      cases h
      exact rt_z hx hb hr hlocks hz95 hP hD hS dX6_passes_95
  have h := i_f c1_3 h
  by_cases c1_4 : a1 = (4 : Int32)
  · have h := i_t c1_4 h
    refine lv_tableIn (tgt := 96) hx hb dX6_passes_1 (by rw [c1_4]; decide) (by rw [c1_4]; decide) (by rw [c1_4]; rfl) (by decide) ?_
    refine lv_aload_n hx hb dX6_passes_96 rfl (lv_at hl 0 rfl) ?_
    refine lv_iload_n hx hb dX6_passes_97 rfl (lv_at hl 3 rfl) ?_
    refine lv_aload_n hx hb dX6_passes_98 rfl (lv_at hl 0 rfl) ?_
    refine va_get (D := D) (cl := vwCl) (ci := 6) (v := .ref vykey) (C := RX6) (T := TX6) (N := 26) hx hb hts hinX6 hown hG.1 hP 0 rfl rfl 5 (by decide) fl19 (fun _ h9 => h9) rfl dX6_passes_99 ?_
    refine lv_iload_n hx hb dX6_passes_102 rfl (lv_at hl 2 rfl) ?_
    obtain ⟨hi103, h⟩ := ck_some h
    refine va_iald hx hb hG.1 hP 2 0 rfl rfl hi103 dX6_passes_103 ?_
    obtain ⟨r104, ycost_104, hc104, h⟩ := bd2_some h
    refine ct_V (As := [.int a3, .int (ykey a2.toNatClampNeg)]) (rest := []) (st1 := [.int r104]) (wf := [(yo, .inr (6, [.int ylength, .ref vytext, .ref vyrules, .int ymany, .ref vylaid, .ref vykey, .ref vytag, .ref vyroomKey, .ref vyroomTag, .int yruns, .ref vyrunAt, .ref vyrunMany, .int ywaitAt, .int ywaitMany, .ref vycost, .ref vyhadKey, .ref vyhadTag, .ref vyhadAt, .ref vyhadMany, .ref vyhadCost, .int ya0, .int ya1, .int yb0, .int yb1, .int yforward, .int yout])), (vyrules, .inl (cA, 4, .inl yrules)), (vykey, .inl (cA, 96, .inl ykey)), (vyroomKey, .inl (cA, 96, .inl yroomKey)), (vycost, .inl (cA, 12, .inl ycost_104))]) (kX6_tests l D cA F yo vytext vyrules vylaid vykey vytag vyroomKey vyroomTag vyrunAt vyrunMany vycost vyhadKey vyhadTag vyhadAt vyhadMany vyhadCost  ylength ymany yruns ywaitAt ywaitMany ya0 ya1 yb0 yb1 yforward yout yrules ycost a3 (ykey a2.toNatClampNeg) r104 ycost_104 hc104) ⟨hx, hb, hml, hown, hts⟩ (cwV 2 hts gX6_passes_X6_tests rfl rfl rfl (by decide +kernel) ⟨Nat.le_of_ble_eq_true rfl, Nat.le_of_ble_eq_true rfl⟩) hG hst hP hD hS hA 6 rfl rfl rfl [0, 1, 4] [2, 3] [2, 3, 0, 1, 4] rfl rfl rfl rfl rfl rfl hl.1 rfl rfl (Nat.le_of_ble_eq_true rfl) dX6_passes_104 ⟨Nat.zero_le _, Nat.zero_le _⟩ (fun H locs hP hD hS => ?_)
    refine lv_if_ne (tgt := 114) hx hb dX6_passes_107 (by decide) (fun c107 => ?_) (fun c107 => ?_)
    · have h := i_f c107 h
      refine lv_iconst (v := (0 : Int32)) hx hb dX6_passes_114 (by decide) ?_
      obtain ⟨hz115, h⟩ := bz_some h
      cases h
      exact rt_z hx hb hr hlocks hz115 hP hD hS dX6_passes_115
    · have h := i_t c107 h
      refine lv_iconst (v := (1 : Int32)) hx hb dX6_passes_110 (by decide) ?_
      refine lv_goto (tgt := 115) hx hb dX6_passes_111 (by decide) ?_
      obtain ⟨hz115, h⟩ := bz_some h
      cases h
      exact rt_z hx hb hr hlocks hz115 hP hD hS dX6_passes_115
  have h := i_f c1_4 h
  have q1_0 := lv_neT c1_0 (a := 0) (by decide)
  have q1_1 := lv_neT c1_1 (a := 1) (by decide)
  have q1_2 := lv_neT c1_2 (a := 2) (by decide)
  have q1_3 := lv_neT c1_3 (a := 3) (by decide)
  have q1_4 := lv_neT c1_4 (a := 4) (by decide)
  refine lv_tableOut (tgt := 116) hx hb dX6_passes_1 (by omega) (by decide) ?_
  refine lv_aload_n hx hb dX6_passes_116 rfl (lv_at hl 0 rfl) ?_
  refine lv_aload_n hx hb dX6_passes_117 rfl (lv_at hl 0 rfl) ?_
  refine va_get (D := D) (cl := vwCl) (ci := 6) (v := .ref vykey) (C := RX6) (T := TX6) (N := 26) hx hb hts hinX6 hown hG.1 hP 0 rfl rfl 5 (by decide) fl19 (fun _ h9 => h9) rfl dX6_passes_118 ?_
  refine lv_iload_n hx hb dX6_passes_121 rfl (lv_at hl 2 rfl) ?_
  obtain ⟨hi122, h⟩ := ck_some h
  refine va_iald hx hb hG.1 hP 2 0 rfl rfl hi122 dX6_passes_122 ?_
  refine lv_iload_n hx hb dX6_passes_123 rfl (lv_at hl 3 rfl) ?_
  obtain ⟨r124, ycost_124, hc124, h⟩ := bd2_some h
  refine ct_V (As := [.int (ykey a2.toNatClampNeg), .int a3]) (rest := []) (st1 := [.int r124]) (wf := [(yo, .inr (6, [.int ylength, .ref vytext, .ref vyrules, .int ymany, .ref vylaid, .ref vykey, .ref vytag, .ref vyroomKey, .ref vyroomTag, .int yruns, .ref vyrunAt, .ref vyrunMany, .int ywaitAt, .int ywaitMany, .ref vycost, .ref vyhadKey, .ref vyhadTag, .ref vyhadAt, .ref vyhadMany, .ref vyhadCost, .int ya0, .int ya1, .int yb0, .int yb1, .int yforward, .int yout])), (vyrules, .inl (cA, 4, .inl yrules)), (vykey, .inl (cA, 96, .inl ykey)), (vyroomKey, .inl (cA, 96, .inl yroomKey)), (vycost, .inl (cA, 12, .inl ycost_124))]) (kX6_tests l D cA F yo vytext vyrules vylaid vykey vytag vyroomKey vyroomTag vyrunAt vyrunMany vycost vyhadKey vyhadTag vyhadAt vyhadMany vyhadCost  ylength ymany yruns ywaitAt ywaitMany ya0 ya1 yb0 yb1 yforward yout yrules ycost (ykey a2.toNatClampNeg) a3 r124 ycost_124 hc124) ⟨hx, hb, hml, hown, hts⟩ (cwV 2 hts gX6_passes_X6_tests rfl rfl rfl (by decide +kernel) ⟨Nat.le_of_ble_eq_true rfl, Nat.le_of_ble_eq_true rfl⟩) hG hst hP hD hS hA 6 rfl rfl rfl [0, 1, 4] [2, 3] [2, 3, 0, 1, 4] rfl rfl rfl rfl rfl rfl hl.1 rfl rfl (Nat.le_of_ble_eq_true rfl) dX6_passes_124 ⟨Nat.zero_le _, Nat.zero_le _⟩ (fun H locs hP hD hS => ?_)
  obtain ⟨hz127, h⟩ := bz_some h
  cases h
  exact rt_z hx hb hr hlocks hz127 hP hD hS dX6_passes_127
set_option maxHeartbeats 4000000 in
set_option maxRecDepth 100000 in
theorem kX6_seeks (l : Launch) (D : va_G) (cA : ClassId) (F : Nat) (yo : Nat) (vytext : Nat) (vyrules : Nat) (vylaid : Nat) (vykey : Nat) (vytag : Nat) (vyroomKey : Nat) (vyroomTag : Nat) (vyrunAt : Nat) (vyrunMany : Nat) (vycost : Nat) (vyhadKey : Nat) (vyhadTag : Nat) (vyhadAt : Nat) (vyhadMany : Nat) (vyhadCost : Nat) (ylength : Int32) (ymany : Int32) (yruns : Int32) (ywaitAt : Int32) (ywaitMany : Int32) (ya0 : Int32) (ya1 : Int32) (yb0 : Int32) (yb1 : Int32) (yforward : Int32) (yout : Int32) (yrules : (Nat → Int32)) (ykey : (Nat → Int32)) (yroomKey : (Nat → Int32)) (ycost : (Nat → Int32)) (a1 : Int32) (a2 : Int32) (a3 : Int32) (a4 : Int32) (a5 : Int32) (r0 : Int32) (ycost_9 : (Nat → Int32)) (h : mX6_seeks F yforward yrules ykey yroomKey ycost a1 a2 a3 a4 a5 = some (r0, ycost_9)) : Ct l yX6_seeks wsX6_seeks ({ frames := 4, cells := 0, slots := 0, locals := 87 }) D cA [.ref yo, .int a1, .int a2, .int a3, .int a4, .int a5] [(yo, .inr (6, [.int ylength, .ref vytext, .ref vyrules, .int ymany, .ref vylaid, .ref vykey, .ref vytag, .ref vyroomKey, .ref vyroomTag, .int yruns, .ref vyrunAt, .ref vyrunMany, .int ywaitAt, .int ywaitMany, .ref vycost, .ref vyhadKey, .ref vyhadTag, .ref vyhadAt, .ref vyhadMany, .ref vyhadCost, .int ya0, .int ya1, .int yb0, .int yb1, .int yforward, .int yout])), (vyrules, .inl (cA, 4, .inl yrules)), (vykey, .inl (cA, 96, .inl ykey)), (vyroomKey, .inl (cA, 96, .inl yroomKey)), (vycost, .inl (cA, 12, .inl ycost))] [(yo, .inr (6, [.int ylength, .ref vytext, .ref vyrules, .int ymany, .ref vylaid, .ref vykey, .ref vytag, .ref vyroomKey, .ref vyroomTag, .int yruns, .ref vyrunAt, .ref vyrunMany, .int ywaitAt, .int ywaitMany, .ref vycost, .ref vyhadKey, .ref vyhadTag, .ref vyhadAt, .ref vyhadMany, .ref vyhadCost, .int ya0, .int ya1, .int yb0, .int yb1, .int yforward, .int yout])), (vyrules, .inl (cA, 4, .inl yrules)), (vykey, .inl (cA, 96, .inl ykey)), (vyroomKey, .inl (cA, 96, .inl yroomKey)), (vycost, .inl (cA, 12, .inl ycost_9))] (some (.int r0)) := by
  refine Ct.of (cc := cX6_seeks) (maxL := 11) (ret := (some .int)) (by decide) rfl (Nat.le_of_ble_eq_true rfl) ?_
  intro p e s m below meth c A ls hcx hG hst hA hP hD hl
  obtain ⟨hx, hb, hml, hown, hts, hr, hlocks⟩ := id hcx
  have hown : s.vm.findClass RX6 = some m.cls := hown
  have hS : va_S A s.heap s.heap [] := va_S.rf
  have hl : lv_has ls 11 [(0, .ref yo), (1, .int a1), (2, .int a2), (3, .int a3), (4, .int a4), (5, .int a5)] := hl
  have hmX6_seeks_81 : ∀ (n81 : Nat) (x6 : Int32) (x7 : Int32) (ycost : (Nat → Int32)) (H : Heap) (locs : List Loc) (ls : Array Slot), mX6_seeks_81 F yforward yrules ykey yroomKey a1 a2 a3 a5 n81 x6 x7 ycost = some (r0, ycost_9) → va_P D vwCl [(yo, .inr (6, [.int ylength, .ref vytext, .ref vyrules, .int ymany, .ref vylaid, .ref vykey, .ref vytag, .ref vyroomKey, .ref vyroomTag, .int yruns, .ref vyrunAt, .ref vyrunMany, .int ywaitAt, .int ywaitMany, .ref vycost, .ref vyhadKey, .ref vyhadTag, .ref vyhadAt, .ref vyhadMany, .ref vyhadCost, .int ya0, .int ya1, .int yb0, .int yb1, .int yforward, .int yout])), (vyrules, .inl (cA, 4, .inl yrules)), (vykey, .inl (cA, 96, .inl ykey)), (vyroomKey, .inl (cA, 96, .inl yroomKey)), (vycost, .inl (cA, 12, .inl ycost))] H → va_D A [(yo, .inr (6, [.int ylength, .ref vytext, .ref vyrules, .int ymany, .ref vylaid, .ref vykey, .ref vytag, .ref vyroomKey, .ref vyroomTag, .int yruns, .ref vyrunAt, .ref vyrunMany, .int ywaitAt, .int ywaitMany, .ref vycost, .ref vyhadKey, .ref vyhadTag, .ref vyhadAt, .ref vyhadMany, .ref vyhadCost, .int ya0, .int ya1, .int yb0, .int yb1, .int yforward, .int yout])), (vyrules, .inl (cA, 4, .inl yrules)), (vykey, .inl (cA, 96, .inl ykey)), (vyroomKey, .inl (cA, 96, .inl yroomKey)), (vycost, .inl (cA, 12, .inl ycost))] → va_S A s.heap H locs → lv_has ls 11 [(0, .ref yo), (1, .int a1), (2, .int a2), (3, .int a3), (5, .int a5), (6, .int x6), (7, .int x7)] → W p l e ({ frames := 4, cells := 0, slots := 0, locals := 87 }) s m ([.ref yo, .int a1, .int a2, .int a3, .int a4, .int a5] : List Value).toArray below meth c H locs 0 0 (MQ below (Qw D A [(yo, .inr (6, [.int ylength, .ref vytext, .ref vyrules, .int ymany, .ref vylaid, .ref vykey, .ref vytag, .ref vyroomKey, .ref vyroomTag, .int yruns, .ref vyrunAt, .ref vyrunMany, .int ywaitAt, .int ywaitMany, .ref vycost, .ref vyhadKey, .ref vyhadTag, .ref vyhadAt, .ref vyhadMany, .ref vyhadCost, .int ya0, .int ya1, .int yb0, .int yb1, .int yforward, .int yout])), (vyrules, .inl (cA, 4, .inl yrules)), (vykey, .inl (cA, 96, .inl ykey)), (vyroomKey, .inl (cA, 96, .inl yroomKey)), (vycost, .inl (cA, 12, .inl ycost_9))] (some (.int r0))) ([.ref yo, .int a1, .int a2, .int a3, .int a4, .int a5] : List Value).toArray s 0 0 A) (F0 m 81 ls []) := by
    intro n81
    induction n81 with
    | zero => intro x6 x7 ycost H locs ls h; exact (no_some h).elim
    | succ n81 ih81 =>
      intro x6 x7 ycost H locs ls h hP hD hS hl
      rw [mX6_seeks_81] at h
      refine lv_iload hx hb dX6_seeks_81 (lv_at hl 5 rfl) ?_
      refine lv_iload hx hb dX6_seeks_83 (lv_at hl 6 rfl) ?_
      refine lv_icmp_ge (tgt := 129) hx hb dX6_seeks_85 (by decide) (fun c85 => ?_) (fun c85 => ?_)
      · have h := i_t c85 h
        refine lv_iload hx hb dX6_seeks_129 (lv_at hl 5 rfl) ?_
        cases h
        exact rt_i hx hb hr hlocks hP hD hS dX6_seeks_131
      · have h := i_f c85 h
        refine lv_iload hx hb dX6_seeks_88 (lv_at hl 5 rfl) ?_
        refine lv_iload hx hb dX6_seeks_90 (lv_at hl 6 rfl) ?_
        refine lv_iadd hx hb dX6_seeks_92 ?_
        refine lv_iconst (v := (2 : Int32)) hx hb dX6_seeks_93 (by decide) ?_
        refine lv_idiv hx hb dX6_seeks_94 (by decide) ?_
        refine lv_istore (lv' := [(10, .int ((x6 + x7) / (2 : Int32))), (0, .ref yo), (1, .int a1), (2, .int a2), (3, .int a3), (5, .int a5), (6, .int x6), (7, .int x7)]) hx hb dX6_seeks_95 hl (by decide) rfl (fun ls hl => ?_)
        refine lv_aload_n hx hb dX6_seeks_97 rfl (lv_at hl 1 rfl) ?_
        refine lv_iload_n hx hb dX6_seeks_98 rfl (lv_at hl 2 rfl) ?_
        refine lv_iload_n hx hb dX6_seeks_99 rfl (lv_at hl 3 rfl) ?_
        refine lv_iload_n hx hb dX6_seeks_100 rfl (lv_at hl 4 rfl) ?_
        refine lv_iload hx hb dX6_seeks_101 (lv_at hl 0 rfl) ?_
        refine lv_imul hx hb dX6_seeks_103 ?_
        refine lv_iadd hx hb dX6_seeks_104 ?_
        refine lv_iload hx hb dX6_seeks_105 (lv_at hl 5 rfl) ?_
        obtain ⟨r107, ycost_107, hc107, h⟩ := bd2_some h
        refine ct_V (As := [.int a1, .int (a2 + (a3 * ((x6 + x7) / (2 : Int32)))), .int a5]) (rest := []) (st1 := [.int r107]) (wf := [(yo, .inr (6, [.int ylength, .ref vytext, .ref vyrules, .int ymany, .ref vylaid, .ref vykey, .ref vytag, .ref vyroomKey, .ref vyroomTag, .int yruns, .ref vyrunAt, .ref vyrunMany, .int ywaitAt, .int ywaitMany, .ref vycost, .ref vyhadKey, .ref vyhadTag, .ref vyhadAt, .ref vyhadMany, .ref vyhadCost, .int ya0, .int ya1, .int yb0, .int yb1, .int yforward, .int yout])), (vyrules, .inl (cA, 4, .inl yrules)), (vykey, .inl (cA, 96, .inl ykey)), (vyroomKey, .inl (cA, 96, .inl yroomKey)), (vycost, .inl (cA, 12, .inl ycost_107))]) (kX6_passes l D cA F yo vytext vyrules vylaid vykey vytag vyroomKey vyroomTag vyrunAt vyrunMany vycost vyhadKey vyhadTag vyhadAt vyhadMany vyhadCost  ylength ymany yruns ywaitAt ywaitMany ya0 ya1 yb0 yb1 yforward yout yrules ykey yroomKey ycost a1 (a2 + (a3 * ((x6 + x7) / (2 : Int32)))) a5 r107 ycost_107 hc107) ⟨hx, hb, hml, hown, hts⟩ (cwV 3 hts gX6_seeks_X6_passes rfl rfl rfl (by decide +kernel) ⟨Nat.le_of_ble_eq_true rfl, Nat.le_of_ble_eq_true rfl⟩) hG hst hP hD hS hA 6 rfl rfl rfl [0, 1, 2, 3, 4] [] [0, 1, 2, 3, 4] rfl rfl rfl rfl rfl rfl hl.1 rfl rfl (Nat.le_of_ble_eq_true rfl) dX6_seeks_107 ⟨Nat.zero_le _, Nat.zero_le _⟩ (fun H locs hP hD hS => ?_)
        refine lv_if_eq (tgt := 122) hx hb dX6_seeks_110 (by decide) (fun c110 => ?_) (fun c110 => ?_)
        · have h := i_t c110 h
          refine lv_iload hx hb dX6_seeks_122 (lv_at hl 0 rfl) ?_
          refine lv_istore (lv' := [(7, .int ((x6 + x7) / (2 : Int32))), (10, .int ((x6 + x7) / (2 : Int32))), (0, .ref yo), (1, .int a1), (2, .int a2), (3, .int a3), (5, .int a5), (6, .int x6)]) hx hb dX6_seeks_124 hl (by decide) rfl (fun ls hl => ?_)
          refine lv_goto (tgt := 81) hx hb dX6_seeks_126 (by decide) ?_
          exact ih81 x6 ((x6 + x7) / (2 : Int32)) ycost_107 _ _ _ h hP hD hS (lv_sub hl [2, 3, 4, 5, 6, 7, 0] rfl)
        · have h := i_f c110 h
          refine lv_iload hx hb dX6_seeks_113 (lv_at hl 0 rfl) ?_
          refine lv_iconst (v := (1 : Int32)) hx hb dX6_seeks_115 (by decide) ?_
          refine lv_iadd hx hb dX6_seeks_116 ?_
          refine lv_istore (lv' := [(6, .int (((x6 + x7) / (2 : Int32)) + (1 : Int32))), (10, .int ((x6 + x7) / (2 : Int32))), (0, .ref yo), (1, .int a1), (2, .int a2), (3, .int a3), (5, .int a5), (7, .int x7)]) hx hb dX6_seeks_117 hl (by decide) rfl (fun ls hl => ?_)
          refine lv_goto (tgt := 126) hx hb dX6_seeks_119 (by decide) ?_
          refine lv_goto (tgt := 81) hx hb dX6_seeks_126 (by decide) ?_
          exact ih81 (((x6 + x7) / (2 : Int32)) + (1 : Int32)) x7 ycost_107 _ _ _ h hP hD hS (lv_sub hl [2, 3, 4, 5, 6, 0, 7] rfl)
  have hmX6_seeks_13 : ∀ (n13 : Nat) (x6 : Int32) (x7 : Int32) (x8 : Int32) (x9 : Int32) (ycost : (Nat → Int32)) (H : Heap) (locs : List Loc) (ls : Array Slot), mX6_seeks_13 F yforward yrules ykey yroomKey a1 a2 a3 a4 a5 n13 x6 x7 x8 x9 ycost = some (r0, ycost_9) → va_P D vwCl [(yo, .inr (6, [.int ylength, .ref vytext, .ref vyrules, .int ymany, .ref vylaid, .ref vykey, .ref vytag, .ref vyroomKey, .ref vyroomTag, .int yruns, .ref vyrunAt, .ref vyrunMany, .int ywaitAt, .int ywaitMany, .ref vycost, .ref vyhadKey, .ref vyhadTag, .ref vyhadAt, .ref vyhadMany, .ref vyhadCost, .int ya0, .int ya1, .int yb0, .int yb1, .int yforward, .int yout])), (vyrules, .inl (cA, 4, .inl yrules)), (vykey, .inl (cA, 96, .inl ykey)), (vyroomKey, .inl (cA, 96, .inl yroomKey)), (vycost, .inl (cA, 12, .inl ycost))] H → va_D A [(yo, .inr (6, [.int ylength, .ref vytext, .ref vyrules, .int ymany, .ref vylaid, .ref vykey, .ref vytag, .ref vyroomKey, .ref vyroomTag, .int yruns, .ref vyrunAt, .ref vyrunMany, .int ywaitAt, .int ywaitMany, .ref vycost, .ref vyhadKey, .ref vyhadTag, .ref vyhadAt, .ref vyhadMany, .ref vyhadCost, .int ya0, .int ya1, .int yb0, .int yb1, .int yforward, .int yout])), (vyrules, .inl (cA, 4, .inl yrules)), (vykey, .inl (cA, 96, .inl ykey)), (vyroomKey, .inl (cA, 96, .inl yroomKey)), (vycost, .inl (cA, 12, .inl ycost))] → va_S A s.heap H locs → lv_has ls 11 [(0, .ref yo), (1, .int a1), (2, .int a2), (3, .int a3), (4, .int a4), (5, .int a5), (6, .int x6), (7, .int x7), (8, .int x8), (9, .int x9)] → W p l e ({ frames := 4, cells := 0, slots := 0, locals := 87 }) s m ([.ref yo, .int a1, .int a2, .int a3, .int a4, .int a5] : List Value).toArray below meth c H locs 0 0 (MQ below (Qw D A [(yo, .inr (6, [.int ylength, .ref vytext, .ref vyrules, .int ymany, .ref vylaid, .ref vykey, .ref vytag, .ref vyroomKey, .ref vyroomTag, .int yruns, .ref vyrunAt, .ref vyrunMany, .int ywaitAt, .int ywaitMany, .ref vycost, .ref vyhadKey, .ref vyhadTag, .ref vyhadAt, .ref vyhadMany, .ref vyhadCost, .int ya0, .int ya1, .int yb0, .int yb1, .int yforward, .int yout])), (vyrules, .inl (cA, 4, .inl yrules)), (vykey, .inl (cA, 96, .inl ykey)), (vyroomKey, .inl (cA, 96, .inl yroomKey)), (vycost, .inl (cA, 12, .inl ycost_9))] (some (.int r0))) ([.ref yo, .int a1, .int a2, .int a3, .int a4, .int a5] : List Value).toArray s 0 0 A) (F0 m 13 ls []) := by
    intro n13
    induction n13 with
    | zero => intro x6 x7 x8 x9 ycost H locs ls h; exact (no_some h).elim
    | succ n13 ih13 =>
      have hmX6_seeks_68 : ∀ (x6 : Int32) (x8 : Int32) (x9 : Int32) (s0 : Int32) (ycost : (Nat → Int32)) (H : Heap) (locs : List Loc) (ls : Array Slot), mX6_seeks_68 F (fun p0 p1 p2 p3 p4 => mX6_seeks_13 F yforward yrules ykey yroomKey a1 a2 a3 a4 a5  n13 p0 p1 p2 p3 p4) x6 x8 x9 s0 ycost = some (r0, ycost_9) → va_P D vwCl [(yo, .inr (6, [.int ylength, .ref vytext, .ref vyrules, .int ymany, .ref vylaid, .ref vykey, .ref vytag, .ref vyroomKey, .ref vyroomTag, .int yruns, .ref vyrunAt, .ref vyrunMany, .int ywaitAt, .int ywaitMany, .ref vycost, .ref vyhadKey, .ref vyhadTag, .ref vyhadAt, .ref vyhadMany, .ref vyhadCost, .int ya0, .int ya1, .int yb0, .int yb1, .int yforward, .int yout])), (vyrules, .inl (cA, 4, .inl yrules)), (vykey, .inl (cA, 96, .inl ykey)), (vyroomKey, .inl (cA, 96, .inl yroomKey)), (vycost, .inl (cA, 12, .inl ycost))] H → va_D A [(yo, .inr (6, [.int ylength, .ref vytext, .ref vyrules, .int ymany, .ref vylaid, .ref vykey, .ref vytag, .ref vyroomKey, .ref vyroomTag, .int yruns, .ref vyrunAt, .ref vyrunMany, .int ywaitAt, .int ywaitMany, .ref vycost, .ref vyhadKey, .ref vyhadTag, .ref vyhadAt, .ref vyhadMany, .ref vyhadCost, .int ya0, .int ya1, .int yb0, .int yb1, .int yforward, .int yout])), (vyrules, .inl (cA, 4, .inl yrules)), (vykey, .inl (cA, 96, .inl ykey)), (vyroomKey, .inl (cA, 96, .inl yroomKey)), (vycost, .inl (cA, 12, .inl ycost))] → va_S A s.heap H locs → lv_has ls 11 [(0, .ref yo), (1, .int a1), (2, .int a2), (3, .int a3), (4, .int a4), (5, .int a5), (6, .int x6), (8, .int x8), (9, .int x9)] → W p l e ({ frames := 4, cells := 0, slots := 0, locals := 87 }) s m ([.ref yo, .int a1, .int a2, .int a3, .int a4, .int a5] : List Value).toArray below meth c H locs 0 0 (MQ below (Qw D A [(yo, .inr (6, [.int ylength, .ref vytext, .ref vyrules, .int ymany, .ref vylaid, .ref vykey, .ref vytag, .ref vyroomKey, .ref vyroomTag, .int yruns, .ref vyrunAt, .ref vyrunMany, .int ywaitAt, .int ywaitMany, .ref vycost, .ref vyhadKey, .ref vyhadTag, .ref vyhadAt, .ref vyhadMany, .ref vyhadCost, .int ya0, .int ya1, .int yb0, .int yb1, .int yforward, .int yout])), (vyrules, .inl (cA, 4, .inl yrules)), (vykey, .inl (cA, 96, .inl ykey)), (vyroomKey, .inl (cA, 96, .inl yroomKey)), (vycost, .inl (cA, 12, .inl ycost_9))] (some (.int r0))) ([.ref yo, .int a1, .int a2, .int a3, .int a4, .int a5] : List Value).toArray s 0 0 A) (F0 m 68 ls [.int s0]) := by
        intro x6 x8 x9 s0 ycost H locs ls h hP hD hS hl
        unfold mX6_seeks_68 at h
        refine lv_istore (lv' := [(7, .int s0), (0, .ref yo), (1, .int a1), (2, .int a2), (3, .int a3), (4, .int a4), (5, .int a5), (6, .int x6), (8, .int x8), (9, .int x9)]) hx hb dX6_seeks_68 hl (by decide) rfl (fun ls hl => ?_)
        refine lv_iconst (v := (2 : Int32)) hx hb dX6_seeks_70 (by decide) ?_
        refine lv_iload hx hb dX6_seeks_71 (lv_at hl 8 rfl) ?_
        refine lv_imul hx hb dX6_seeks_73 ?_
        refine lv_iconst (v := (2 : Int32)) hx hb dX6_seeks_74 (by decide) ?_
        refine lv_iadd hx hb dX6_seeks_75 ?_
        refine lv_istore (lv' := [(8, .int (((2 : Int32) * x8) + (2 : Int32))), (7, .int s0), (0, .ref yo), (1, .int a1), (2, .int a2), (3, .int a3), (4, .int a4), (5, .int a5), (6, .int x6), (9, .int x9)]) hx hb dX6_seeks_76 hl (by decide) rfl (fun ls hl => ?_)
        refine lv_goto (tgt := 13) hx hb dX6_seeks_78 (by decide) ?_
        exact ih13 x6 s0 (((2 : Int32) * x8) + (2 : Int32)) x9 ycost _ _ _ h hP hD hS (lv_sub hl [2, 3, 4, 5, 6, 7, 8, 1, 0, 9] rfl)
      have hmX6_seeks_54 : ∀ (x7 : Int32) (x8 : Int32) (x9 : Int32) (s0 : Int32) (ycost : (Nat → Int32)) (H : Heap) (locs : List Loc) (ls : Array Slot), mX6_seeks_54 F (fun p0 p1 p2 p3 p4 => mX6_seeks_13 F yforward yrules ykey yroomKey a1 a2 a3 a4 a5  n13 p0 p1 p2 p3 p4) x7 x8 x9 s0 ycost = some (r0, ycost_9) → va_P D vwCl [(yo, .inr (6, [.int ylength, .ref vytext, .ref vyrules, .int ymany, .ref vylaid, .ref vykey, .ref vytag, .ref vyroomKey, .ref vyroomTag, .int yruns, .ref vyrunAt, .ref vyrunMany, .int ywaitAt, .int ywaitMany, .ref vycost, .ref vyhadKey, .ref vyhadTag, .ref vyhadAt, .ref vyhadMany, .ref vyhadCost, .int ya0, .int ya1, .int yb0, .int yb1, .int yforward, .int yout])), (vyrules, .inl (cA, 4, .inl yrules)), (vykey, .inl (cA, 96, .inl ykey)), (vyroomKey, .inl (cA, 96, .inl yroomKey)), (vycost, .inl (cA, 12, .inl ycost))] H → va_D A [(yo, .inr (6, [.int ylength, .ref vytext, .ref vyrules, .int ymany, .ref vylaid, .ref vykey, .ref vytag, .ref vyroomKey, .ref vyroomTag, .int yruns, .ref vyrunAt, .ref vyrunMany, .int ywaitAt, .int ywaitMany, .ref vycost, .ref vyhadKey, .ref vyhadTag, .ref vyhadAt, .ref vyhadMany, .ref vyhadCost, .int ya0, .int ya1, .int yb0, .int yb1, .int yforward, .int yout])), (vyrules, .inl (cA, 4, .inl yrules)), (vykey, .inl (cA, 96, .inl ykey)), (vyroomKey, .inl (cA, 96, .inl yroomKey)), (vycost, .inl (cA, 12, .inl ycost))] → va_S A s.heap H locs → lv_has ls 11 [(0, .ref yo), (1, .int a1), (2, .int a2), (3, .int a3), (4, .int a4), (5, .int a5), (7, .int x7), (8, .int x8), (9, .int x9)] → W p l e ({ frames := 4, cells := 0, slots := 0, locals := 87 }) s m ([.ref yo, .int a1, .int a2, .int a3, .int a4, .int a5] : List Value).toArray below meth c H locs 0 0 (MQ below (Qw D A [(yo, .inr (6, [.int ylength, .ref vytext, .ref vyrules, .int ymany, .ref vylaid, .ref vykey, .ref vytag, .ref vyroomKey, .ref vyroomTag, .int yruns, .ref vyrunAt, .ref vyrunMany, .int ywaitAt, .int ywaitMany, .ref vycost, .ref vyhadKey, .ref vyhadTag, .ref vyhadAt, .ref vyhadMany, .ref vyhadCost, .int ya0, .int ya1, .int yb0, .int yb1, .int yforward, .int yout])), (vyrules, .inl (cA, 4, .inl yrules)), (vykey, .inl (cA, 96, .inl ykey)), (vyroomKey, .inl (cA, 96, .inl yroomKey)), (vycost, .inl (cA, 12, .inl ycost_9))] (some (.int r0))) ([.ref yo, .int a1, .int a2, .int a3, .int a4, .int a5] : List Value).toArray s 0 0 A) (F0 m 54 ls [.int s0]) := by
        intro x7 x8 x9 s0 ycost H locs ls h hP hD hS hl
        unfold mX6_seeks_54 at h
        refine lv_istore (lv' := [(6, .int s0), (0, .ref yo), (1, .int a1), (2, .int a2), (3, .int a3), (4, .int a4), (5, .int a5), (7, .int x7), (8, .int x8), (9, .int x9)]) hx hb dX6_seeks_54 hl (by decide) rfl (fun ls hl => ?_)
        refine lv_iload hx hb dX6_seeks_56 (lv_at hl 9 rfl) ?_
        refine lv_if_eq (tgt := 66) hx hb dX6_seeks_58 (by decide) (fun c58 => ?_) (fun c58 => ?_)
        · have h := i_t c58 h
          refine lv_iload hx hb dX6_seeks_66 (lv_at hl 8 rfl) ?_
          exact hmX6_seeks_68 s0 x8 x9 x8 ycost _ _ _ h hP hD hS (lv_sub hl [1, 2, 3, 4, 5, 6, 0, 8, 9] rfl)
        · have h := i_f c58 h
          refine lv_iload hx hb dX6_seeks_61 (lv_at hl 7 rfl) ?_
          refine lv_goto (tgt := 68) hx hb dX6_seeks_63 (by decide) ?_
          exact hmX6_seeks_68 s0 x8 x9 x7 ycost _ _ _ h hP hD hS (lv_sub hl [1, 2, 3, 4, 5, 6, 0, 8, 9] rfl)
      intro x6 x7 x8 x9 ycost H locs ls h hP hD hS hl
      rw [mX6_seeks_13] at h
      refine lv_iload hx hb dX6_seeks_13 (lv_at hl 9 rfl) ?_
      refine lv_if_eq (tgt := 81) hx hb dX6_seeks_15 (by decide) (fun c15 => ?_) (fun c15 => ?_)
      · have h := i_t c15 h
        exact hmX6_seeks_81 F x6 x7 ycost _ _ _ h hP hD hS (lv_sub hl [0, 1, 2, 3, 5, 6, 7] rfl)
      · have h := i_f c15 h
        refine lv_iload hx hb dX6_seeks_18 (lv_at hl 8 rfl) ?_
        refine lv_iload hx hb dX6_seeks_20 (lv_at hl 4 rfl) ?_
        refine lv_icmp_ge (tgt := 81) hx hb dX6_seeks_22 (by decide) (fun c22 => ?_) (fun c22 => ?_)
        · have h := i_t c22 h
          exact hmX6_seeks_81 F x6 x7 ycost _ _ _ h hP hD hS (lv_sub hl [0, 1, 2, 3, 5, 6, 7] rfl)
        · have h := i_f c22 h
          refine lv_aload_n hx hb dX6_seeks_25 rfl (lv_at hl 0 rfl) ?_
          refine lv_iload_n hx hb dX6_seeks_26 rfl (lv_at hl 1 rfl) ?_
          refine lv_iload_n hx hb dX6_seeks_27 rfl (lv_at hl 2 rfl) ?_
          refine lv_iload_n hx hb dX6_seeks_28 rfl (lv_at hl 3 rfl) ?_
          refine lv_iload hx hb dX6_seeks_29 (lv_at hl 8 rfl) ?_
          refine lv_imul hx hb dX6_seeks_31 ?_
          refine lv_iadd hx hb dX6_seeks_32 ?_
          refine lv_iload hx hb dX6_seeks_33 (lv_at hl 5 rfl) ?_
          obtain ⟨r35, ycost_35, hc35, h⟩ := bd2_some h
          refine ct_V (As := [.int a1, .int (a2 + (a3 * x8)), .int a5]) (rest := []) (st1 := [.int r35]) (wf := [(yo, .inr (6, [.int ylength, .ref vytext, .ref vyrules, .int ymany, .ref vylaid, .ref vykey, .ref vytag, .ref vyroomKey, .ref vyroomTag, .int yruns, .ref vyrunAt, .ref vyrunMany, .int ywaitAt, .int ywaitMany, .ref vycost, .ref vyhadKey, .ref vyhadTag, .ref vyhadAt, .ref vyhadMany, .ref vyhadCost, .int ya0, .int ya1, .int yb0, .int yb1, .int yforward, .int yout])), (vyrules, .inl (cA, 4, .inl yrules)), (vykey, .inl (cA, 96, .inl ykey)), (vyroomKey, .inl (cA, 96, .inl yroomKey)), (vycost, .inl (cA, 12, .inl ycost_35))]) (kX6_passes l D cA F yo vytext vyrules vylaid vykey vytag vyroomKey vyroomTag vyrunAt vyrunMany vycost vyhadKey vyhadTag vyhadAt vyhadMany vyhadCost  ylength ymany yruns ywaitAt ywaitMany ya0 ya1 yb0 yb1 yforward yout yrules ykey yroomKey ycost a1 (a2 + (a3 * x8)) a5 r35 ycost_35 hc35) ⟨hx, hb, hml, hown, hts⟩ (cwV 3 hts gX6_seeks_X6_passes rfl rfl rfl (by decide +kernel) ⟨Nat.le_of_ble_eq_true rfl, Nat.le_of_ble_eq_true rfl⟩) hG hst hP hD hS hA 6 rfl rfl rfl [0, 1, 2, 3, 4] [] [0, 1, 2, 3, 4] rfl rfl rfl rfl rfl rfl hl.1 rfl rfl (Nat.le_of_ble_eq_true rfl) dX6_seeks_35 ⟨Nat.zero_le _, Nat.zero_le _⟩ (fun H locs hP hD hS => ?_)
          refine lv_istore (lv' := [(9, .int r35), (0, .ref yo), (1, .int a1), (2, .int a2), (3, .int a3), (4, .int a4), (5, .int a5), (6, .int x6), (7, .int x7), (8, .int x8)]) hx hb dX6_seeks_38 hl (by decide) rfl (fun ls hl => ?_)
          refine lv_iload hx hb dX6_seeks_40 (lv_at hl 0 rfl) ?_
          refine lv_if_eq (tgt := 52) hx hb dX6_seeks_42 (by decide) (fun c42 => ?_) (fun c42 => ?_)
          · have h := i_t c42 h
            refine lv_iload hx hb dX6_seeks_52 (lv_at hl 7 rfl) ?_
            exact hmX6_seeks_54 x7 x8 r35 x6 ycost_35 _ _ _ h hP hD hS (lv_sub hl [1, 2, 3, 4, 5, 6, 8, 9, 0] rfl)
          · have h := i_f c42 h
            refine lv_iload hx hb dX6_seeks_45 (lv_at hl 9 rfl) ?_
            refine lv_iconst (v := (1 : Int32)) hx hb dX6_seeks_47 (by decide) ?_
            refine lv_iadd hx hb dX6_seeks_48 ?_
            refine lv_goto (tgt := 54) hx hb dX6_seeks_49 (by decide) ?_
            exact hmX6_seeks_54 x7 x8 r35 (x8 + (1 : Int32)) ycost_35 _ _ _ h hP hD hS (lv_sub hl [1, 2, 3, 4, 5, 6, 8, 9, 0] rfl)
  unfold mX6_seeks at h
  refine lv_iconst (v := (0 : Int32)) hx hb dX6_seeks_0 (by decide) ?_
  refine lv_istore (lv' := [(6, .int (0 : Int32)), (0, .ref yo), (1, .int a1), (2, .int a2), (3, .int a3), (4, .int a4), (5, .int a5)]) hx hb dX6_seeks_1 hl (by decide) rfl (fun ls hl => ?_)
  refine lv_iload hx hb dX6_seeks_3 (lv_at hl 5 rfl) ?_
  refine lv_istore (lv' := [(7, .int a4), (6, .int (0 : Int32)), (0, .ref yo), (1, .int a1), (2, .int a2), (3, .int a3), (4, .int a4), (5, .int a5)]) hx hb dX6_seeks_5 hl (by decide) rfl (fun ls hl => ?_)
  refine lv_iconst (v := (0 : Int32)) hx hb dX6_seeks_7 (by decide) ?_
  refine lv_istore (lv' := [(8, .int (0 : Int32)), (7, .int a4), (6, .int (0 : Int32)), (0, .ref yo), (1, .int a1), (2, .int a2), (3, .int a3), (4, .int a4), (5, .int a5)]) hx hb dX6_seeks_8 hl (by decide) rfl (fun ls hl => ?_)
  refine lv_iconst (v := (1 : Int32)) hx hb dX6_seeks_10 (by decide) ?_
  refine lv_istore (lv' := [(9, .int (1 : Int32)), (8, .int (0 : Int32)), (7, .int a4), (6, .int (0 : Int32)), (0, .ref yo), (1, .int a1), (2, .int a2), (3, .int a3), (4, .int a4), (5, .int a5)]) hx hb dX6_seeks_11 hl (by decide) rfl (fun ls hl => ?_)
  exact hmX6_seeks_13 F (0 : Int32) a4 (0 : Int32) (1 : Int32) ycost _ _ _ h hP hD hS (lv_sub hl [4, 5, 6, 7, 8, 9, 3, 2, 1, 0] rfl)
set_option maxHeartbeats 4000000 in
set_option maxRecDepth 100000 in
theorem kX6_puts (l : Launch) (D : va_G) (cA : ClassId) (F : Nat) (yo : Nat) (vytext : Nat) (vyrules : Nat) (vylaid : Nat) (vykey : Nat) (vytag : Nat) (vyroomKey : Nat) (vyroomTag : Nat) (vyrunAt : Nat) (vyrunMany : Nat) (vycost : Nat) (vyhadKey : Nat) (vyhadTag : Nat) (vyhadAt : Nat) (vyhadMany : Nat) (vyhadCost : Nat) (ylength : Int32) (ymany : Int32) (yruns : Int32) (ywaitAt : Int32) (ywaitMany : Int32) (ya0 : Int32) (ya1 : Int32) (yb0 : Int32) (yb1 : Int32) (yforward : Int32) (yout : Int32) (ykey : (Nat → Int32)) (ytag : (Nat → Int32)) (ycost : (Nat → Int32)) (a1 : Int32) (a2 : Int32) (yout_9 : Int32) (ykey_9 : (Nat → Int32)) (ytag_9 : (Nat → Int32)) (ycost_9 : (Nat → Int32)) (h : mX6_puts F yforward yout ykey ytag ycost a1 a2 = some (yout_9, ykey_9, ytag_9, ycost_9)) : Ct l yX6_puts wsX6_puts ({ frames := 0, cells := 0, slots := 0, locals := 0 }) D cA [.ref yo, .int a1, .int a2] [(yo, .inr (6, [.int ylength, .ref vytext, .ref vyrules, .int ymany, .ref vylaid, .ref vykey, .ref vytag, .ref vyroomKey, .ref vyroomTag, .int yruns, .ref vyrunAt, .ref vyrunMany, .int ywaitAt, .int ywaitMany, .ref vycost, .ref vyhadKey, .ref vyhadTag, .ref vyhadAt, .ref vyhadMany, .ref vyhadCost, .int ya0, .int ya1, .int yb0, .int yb1, .int yforward, .int yout])), (vykey, .inl (cA, 96, .inl ykey)), (vytag, .inl (cA, 96, .inl ytag)), (vycost, .inl (cA, 12, .inl ycost))] [(yo, .inr (6, [.int ylength, .ref vytext, .ref vyrules, .int ymany, .ref vylaid, .ref vykey, .ref vytag, .ref vyroomKey, .ref vyroomTag, .int yruns, .ref vyrunAt, .ref vyrunMany, .int ywaitAt, .int ywaitMany, .ref vycost, .ref vyhadKey, .ref vyhadTag, .ref vyhadAt, .ref vyhadMany, .ref vyhadCost, .int ya0, .int ya1, .int yb0, .int yb1, .int yforward, .int yout_9])), (vykey, .inl (cA, 96, .inl ykey_9)), (vytag, .inl (cA, 96, .inl ytag_9)), (vycost, .inl (cA, 12, .inl ycost_9))] (none) := by
  refine Ct.of (cc := cX6_puts) (maxL := 3) (ret := none) (by decide) rfl (Nat.le_of_ble_eq_true rfl) ?_
  intro p e s m below meth c A ls hcx hG hst hA hP hD hl
  obtain ⟨hx, hb, hml, hown, hts, hr, hlocks⟩ := id hcx
  have hown : s.vm.findClass RX6 = some m.cls := hown
  have hS : va_S A s.heap s.heap [] := va_S.rf
  have hl : lv_has ls 3 [(0, .ref yo), (1, .int a1), (2, .int a2)] := hl
  have hinX6 : ∀ w ∈ u_ws RX6 TX6 26, w ∈ wsX6_puts := by decide +kernel
  have fl19 := hts (.fieldLink RX6 19 "RunSorterModel" "key" "[I") (by decide +kernel)
  have fl159 := hts (.fieldLink RX6 159 "RunSorterModel" "out" "I") (by decide +kernel)
  have fl22 := hts (.fieldLink RX6 22 "RunSorterModel" "tag" "[I") (by decide +kernel)
  have fl144 := hts (.fieldLink RX6 144 "RunSorterModel" "forward" "Z") (by decide +kernel)
  have fl37 := hts (.fieldLink RX6 37 "RunSorterModel" "cost" "[I") (by decide +kernel)
  have hmX6_puts_37 : ∀ (s0 : Int32) (s1 : Int32) (yout : Int32) (ykey : (Nat → Int32)) (ytag : (Nat → Int32)) (ycost : (Nat → Int32)) (H : Heap) (locs : List Loc) (ls : Array Slot), mX6_puts_37 F s0 s1 yout ykey ytag ycost = some (yout_9, ykey_9, ytag_9, ycost_9) → va_P D vwCl [(yo, .inr (6, [.int ylength, .ref vytext, .ref vyrules, .int ymany, .ref vylaid, .ref vykey, .ref vytag, .ref vyroomKey, .ref vyroomTag, .int yruns, .ref vyrunAt, .ref vyrunMany, .int ywaitAt, .int ywaitMany, .ref vycost, .ref vyhadKey, .ref vyhadTag, .ref vyhadAt, .ref vyhadMany, .ref vyhadCost, .int ya0, .int ya1, .int yb0, .int yb1, .int yforward, .int yout])), (vykey, .inl (cA, 96, .inl ykey)), (vytag, .inl (cA, 96, .inl ytag)), (vycost, .inl (cA, 12, .inl ycost))] H → va_D A [(yo, .inr (6, [.int ylength, .ref vytext, .ref vyrules, .int ymany, .ref vylaid, .ref vykey, .ref vytag, .ref vyroomKey, .ref vyroomTag, .int yruns, .ref vyrunAt, .ref vyrunMany, .int ywaitAt, .int ywaitMany, .ref vycost, .ref vyhadKey, .ref vyhadTag, .ref vyhadAt, .ref vyhadMany, .ref vyhadCost, .int ya0, .int ya1, .int yb0, .int yb1, .int yforward, .int yout])), (vykey, .inl (cA, 96, .inl ykey)), (vytag, .inl (cA, 96, .inl ytag)), (vycost, .inl (cA, 12, .inl ycost))] → va_S A s.heap H locs → lv_has ls 3 [(0, .ref yo)] → W p l e ({ frames := 0, cells := 0, slots := 0, locals := 0 }) s m ([.ref yo, .int a1, .int a2] : List Value).toArray below meth c H locs 0 0 (MQ below (Qw D A [(yo, .inr (6, [.int ylength, .ref vytext, .ref vyrules, .int ymany, .ref vylaid, .ref vykey, .ref vytag, .ref vyroomKey, .ref vyroomTag, .int yruns, .ref vyrunAt, .ref vyrunMany, .int ywaitAt, .int ywaitMany, .ref vycost, .ref vyhadKey, .ref vyhadTag, .ref vyhadAt, .ref vyhadMany, .ref vyhadCost, .int ya0, .int ya1, .int yb0, .int yb1, .int yforward, .int yout_9])), (vykey, .inl (cA, 96, .inl ykey_9)), (vytag, .inl (cA, 96, .inl ytag_9)), (vycost, .inl (cA, 12, .inl ycost_9))] (none)) ([.ref yo, .int a1, .int a2] : List Value).toArray s 0 0 A) (F0 m 37 ls [.int s0, .int s1, .ref yo]) := by
    intro s0 s1 yout ykey ytag ycost H locs ls h hP hD hS hl
    unfold mX6_puts_37 at h
    refine lv_iadd hx hb dX6_puts_37 ?_
    refine va_put (D := D) (cl := vwCl) (ci := 6) (v := .int (s1 + s0)) (ty := .int) (C := RX6) (T := TX6) (N := 26) hx hb hts hinX6 tyX6 tyX6_ok nmX6 hown hG.1 hP hD hS 0 rfl rfl 25 (by decide) fl159 (fun _ h9 => h9) rfl (by decide +kernel) rfl rfl (Nat.le_of_ble_eq_true rfl) dX6_puts_38 (fun H locs hP hD hS => ?_)
    have hP : va_P D vwCl [(yo, .inr (6, [.int ylength, .ref vytext, .ref vyrules, .int ymany, .ref vylaid, .ref vykey, .ref vytag, .ref vyroomKey, .ref vyroomTag, .int yruns, .ref vyrunAt, .ref vyrunMany, .int ywaitAt, .int ywaitMany, .ref vycost, .ref vyhadKey, .ref vyhadTag, .ref vyhadAt, .ref vyhadMany, .ref vyhadCost, .int ya0, .int ya1, .int yb0, .int yb1, .int yforward, .int (s1 + s0)])), (vykey, .inl (cA, 96, .inl ykey)), (vytag, .inl (cA, 96, .inl ytag)), (vycost, .inl (cA, 12, .inl ycost))] H := hP
    have hD : va_D A [(yo, .inr (6, [.int ylength, .ref vytext, .ref vyrules, .int ymany, .ref vylaid, .ref vykey, .ref vytag, .ref vyroomKey, .ref vyroomTag, .int yruns, .ref vyrunAt, .ref vyrunMany, .int ywaitAt, .int ywaitMany, .ref vycost, .ref vyhadKey, .ref vyhadTag, .ref vyhadAt, .ref vyhadMany, .ref vyhadCost, .int ya0, .int ya1, .int yb0, .int yb1, .int yforward, .int (s1 + s0)])), (vykey, .inl (cA, 96, .inl ykey)), (vytag, .inl (cA, 96, .inl ytag)), (vycost, .inl (cA, 12, .inl ycost))] := hD
    refine lv_aload_n hx hb dX6_puts_41 rfl (lv_at hl 0 rfl) ?_
    refine va_get (D := D) (cl := vwCl) (ci := 6) (v := .ref vycost) (C := RX6) (T := TX6) (N := 26) hx hb hts hinX6 hown hG.1 hP 0 rfl rfl 14 (by decide) fl37 (fun _ h9 => h9) rfl dX6_puts_42 ?_
    refine lv_iconst (v := (1 : Int32)) hx hb dX6_puts_45 (by decide) ?_
    refine lv_dup2_11 hx hb dX6_puts_46 rfl rfl ?_
    obtain ⟨hi47, h⟩ := ck_some h
    refine va_iald hx hb hG.1 hP 3 0 rfl rfl hi47 dX6_puts_47 ?_
    refine lv_iconst (v := (1 : Int32)) hx hb dX6_puts_48 (by decide) ?_
    refine lv_iadd hx hb dX6_puts_49 ?_
    obtain ⟨hi50, h⟩ := ck_some h
    refine va_iast hx hb hG.1 hP hD hS 3 0 rfl rfl hi50 dX6_puts_50 (fun H locs hP hD hS => ?_)
    have hP : va_P D vwCl [(yo, .inr (6, [.int ylength, .ref vytext, .ref vyrules, .int ymany, .ref vylaid, .ref vykey, .ref vytag, .ref vyroomKey, .ref vyroomTag, .int yruns, .ref vyrunAt, .ref vyrunMany, .int ywaitAt, .int ywaitMany, .ref vycost, .ref vyhadKey, .ref vyhadTag, .ref vyhadAt, .ref vyhadMany, .ref vyhadCost, .int ya0, .int ya1, .int yb0, .int yb1, .int yforward, .int (s1 + s0)])), (vykey, .inl (cA, 96, .inl ykey)), (vytag, .inl (cA, 96, .inl ytag)), (vycost, .inl (cA, 12, .inl (upd ycost (1 : Int32).toNatClampNeg ((ycost (1 : Int32).toNatClampNeg) + (1 : Int32)))))] H := hP
    have hD : va_D A [(yo, .inr (6, [.int ylength, .ref vytext, .ref vyrules, .int ymany, .ref vylaid, .ref vykey, .ref vytag, .ref vyroomKey, .ref vyroomTag, .int yruns, .ref vyrunAt, .ref vyrunMany, .int ywaitAt, .int ywaitMany, .ref vycost, .ref vyhadKey, .ref vyhadTag, .ref vyhadAt, .ref vyhadMany, .ref vyhadCost, .int ya0, .int ya1, .int yb0, .int yb1, .int yforward, .int (s1 + s0)])), (vykey, .inl (cA, 96, .inl ykey)), (vytag, .inl (cA, 96, .inl ytag)), (vycost, .inl (cA, 12, .inl (upd ycost (1 : Int32).toNatClampNeg ((ycost (1 : Int32).toNatClampNeg) + (1 : Int32)))))] := hD
    cases h
    exact rt_v hx hb hr hlocks hP hD hS dX6_puts_51
  unfold mX6_puts at h
  refine lv_aload_n hx hb dX6_puts_0 rfl (lv_at hl 0 rfl) ?_
  refine va_get (D := D) (cl := vwCl) (ci := 6) (v := .ref vykey) (C := RX6) (T := TX6) (N := 26) hx hb hts hinX6 hown hG.1 hP 0 rfl rfl 5 (by decide) fl19 (fun _ h9 => h9) rfl dX6_puts_1 ?_
  refine lv_aload_n hx hb dX6_puts_4 rfl (lv_at hl 0 rfl) ?_
  refine va_get (D := D) (cl := vwCl) (ci := 6) (v := .int yout) (C := RX6) (T := TX6) (N := 26) hx hb hts hinX6 hown hG.1 hP 0 rfl rfl 25 (by decide) fl159 (fun _ h9 => h9) rfl dX6_puts_5 ?_
  refine lv_iload_n hx hb dX6_puts_8 rfl (lv_at hl 1 rfl) ?_
  obtain ⟨hi9, h⟩ := ck_some h
  refine va_iast hx hb hG.1 hP hD hS 1 0 rfl rfl hi9 dX6_puts_9 (fun H locs hP hD hS => ?_)
  have hP : va_P D vwCl [(yo, .inr (6, [.int ylength, .ref vytext, .ref vyrules, .int ymany, .ref vylaid, .ref vykey, .ref vytag, .ref vyroomKey, .ref vyroomTag, .int yruns, .ref vyrunAt, .ref vyrunMany, .int ywaitAt, .int ywaitMany, .ref vycost, .ref vyhadKey, .ref vyhadTag, .ref vyhadAt, .ref vyhadMany, .ref vyhadCost, .int ya0, .int ya1, .int yb0, .int yb1, .int yforward, .int yout])), (vykey, .inl (cA, 96, .inl (upd ykey yout.toNatClampNeg a1))), (vytag, .inl (cA, 96, .inl ytag)), (vycost, .inl (cA, 12, .inl ycost))] H := hP
  have hD : va_D A [(yo, .inr (6, [.int ylength, .ref vytext, .ref vyrules, .int ymany, .ref vylaid, .ref vykey, .ref vytag, .ref vyroomKey, .ref vyroomTag, .int yruns, .ref vyrunAt, .ref vyrunMany, .int ywaitAt, .int ywaitMany, .ref vycost, .ref vyhadKey, .ref vyhadTag, .ref vyhadAt, .ref vyhadMany, .ref vyhadCost, .int ya0, .int ya1, .int yb0, .int yb1, .int yforward, .int yout])), (vykey, .inl (cA, 96, .inl (upd ykey yout.toNatClampNeg a1))), (vytag, .inl (cA, 96, .inl ytag)), (vycost, .inl (cA, 12, .inl ycost))] := hD
  refine lv_aload_n hx hb dX6_puts_10 rfl (lv_at hl 0 rfl) ?_
  refine va_get (D := D) (cl := vwCl) (ci := 6) (v := .ref vytag) (C := RX6) (T := TX6) (N := 26) hx hb hts hinX6 hown hG.1 hP 0 rfl rfl 6 (by decide) fl22 (fun _ h9 => h9) rfl dX6_puts_11 ?_
  refine lv_aload_n hx hb dX6_puts_14 rfl (lv_at hl 0 rfl) ?_
  refine va_get (D := D) (cl := vwCl) (ci := 6) (v := .int yout) (C := RX6) (T := TX6) (N := 26) hx hb hts hinX6 hown hG.1 hP 0 rfl rfl 25 (by decide) fl159 (fun _ h9 => h9) rfl dX6_puts_15 ?_
  refine lv_iload_n hx hb dX6_puts_18 rfl (lv_at hl 2 rfl) ?_
  obtain ⟨hi19, h⟩ := ck_some h
  refine va_iast hx hb hG.1 hP hD hS 2 0 rfl rfl hi19 dX6_puts_19 (fun H locs hP hD hS => ?_)
  have hP : va_P D vwCl [(yo, .inr (6, [.int ylength, .ref vytext, .ref vyrules, .int ymany, .ref vylaid, .ref vykey, .ref vytag, .ref vyroomKey, .ref vyroomTag, .int yruns, .ref vyrunAt, .ref vyrunMany, .int ywaitAt, .int ywaitMany, .ref vycost, .ref vyhadKey, .ref vyhadTag, .ref vyhadAt, .ref vyhadMany, .ref vyhadCost, .int ya0, .int ya1, .int yb0, .int yb1, .int yforward, .int yout])), (vykey, .inl (cA, 96, .inl (upd ykey yout.toNatClampNeg a1))), (vytag, .inl (cA, 96, .inl (upd ytag yout.toNatClampNeg a2))), (vycost, .inl (cA, 12, .inl ycost))] H := hP
  have hD : va_D A [(yo, .inr (6, [.int ylength, .ref vytext, .ref vyrules, .int ymany, .ref vylaid, .ref vykey, .ref vytag, .ref vyroomKey, .ref vyroomTag, .int yruns, .ref vyrunAt, .ref vyrunMany, .int ywaitAt, .int ywaitMany, .ref vycost, .ref vyhadKey, .ref vyhadTag, .ref vyhadAt, .ref vyhadMany, .ref vyhadCost, .int ya0, .int ya1, .int yb0, .int yb1, .int yforward, .int yout])), (vykey, .inl (cA, 96, .inl (upd ykey yout.toNatClampNeg a1))), (vytag, .inl (cA, 96, .inl (upd ytag yout.toNatClampNeg a2))), (vycost, .inl (cA, 12, .inl ycost))] := hD
  refine lv_aload_n hx hb dX6_puts_20 rfl (lv_at hl 0 rfl) ?_
  refine lv_dup hx hb dX6_puts_21 rfl ?_
  refine va_get (D := D) (cl := vwCl) (ci := 6) (v := .int yout) (C := RX6) (T := TX6) (N := 26) hx hb hts hinX6 hown hG.1 hP 0 rfl rfl 25 (by decide) fl159 (fun _ h9 => h9) rfl dX6_puts_22 ?_
  refine lv_aload_n hx hb dX6_puts_25 rfl (lv_at hl 0 rfl) ?_
  refine va_get (D := D) (cl := vwCl) (ci := 6) (v := .int yforward) (C := RX6) (T := TX6) (N := 26) hx hb hts hinX6 hown hG.1 hP 0 rfl rfl 24 (by decide) fl144 (fun _ h9 => h9) rfl dX6_puts_26 ?_
  refine lv_if_eq (tgt := 36) hx hb dX6_puts_29 (by decide) (fun c29 => ?_) (fun c29 => ?_)
  · have h := i_t c29 h
    refine lv_iconst (v := (-1 : Int32)) hx hb dX6_puts_36 (by decide) ?_
    exact hmX6_puts_37 (-1 : Int32) yout yout (upd ykey yout.toNatClampNeg a1) (upd ytag yout.toNatClampNeg a2) ycost _ _ _ h hP hD hS (lv_sub hl [0] rfl)
  · have h := i_f c29 h
    refine lv_iconst (v := (1 : Int32)) hx hb dX6_puts_32 (by decide) ?_
    refine lv_goto (tgt := 37) hx hb dX6_puts_33 (by decide) ?_
    exact hmX6_puts_37 (1 : Int32) yout yout (upd ykey yout.toNatClampNeg a1) (upd ytag yout.toNatClampNeg a2) ycost _ _ _ h hP hD hS (lv_sub hl [0] rfl)
set_option maxHeartbeats 4000000 in
set_option maxRecDepth 100000 in
theorem kX6_takeA (l : Launch) (D : va_G) (cA : ClassId) (F : Nat) (yo : Nat) (vytext : Nat) (vyrules : Nat) (vylaid : Nat) (vykey : Nat) (vytag : Nat) (vyroomKey : Nat) (vyroomTag : Nat) (vyrunAt : Nat) (vyrunMany : Nat) (vycost : Nat) (vyhadKey : Nat) (vyhadTag : Nat) (vyhadAt : Nat) (vyhadMany : Nat) (vyhadCost : Nat) (ylength : Int32) (ymany : Int32) (yruns : Int32) (ywaitAt : Int32) (ywaitMany : Int32) (ya0 : Int32) (ya1 : Int32) (yb0 : Int32) (yb1 : Int32) (yforward : Int32) (yout : Int32) (ykey : (Nat → Int32)) (ytag : (Nat → Int32)) (yroomKey : (Nat → Int32)) (yroomTag : (Nat → Int32)) (ycost : (Nat → Int32)) (a1 : Int32) (ya0_9 : Int32) (ya1_9 : Int32) (yout_9 : Int32) (ykey_9 : (Nat → Int32)) (ytag_9 : (Nat → Int32)) (ycost_9 : (Nat → Int32)) (h : mX6_takeA F ya0 ya1 yforward yout ykey ytag yroomKey yroomTag ycost a1 = some (ya0_9, ya1_9, yout_9, ykey_9, ytag_9, ycost_9)) : Ct l yX6_takeA wsX6_takeA ({ frames := 1, cells := 0, slots := 0, locals := 22 }) D cA [.ref yo, .int a1] [(yo, .inr (6, [.int ylength, .ref vytext, .ref vyrules, .int ymany, .ref vylaid, .ref vykey, .ref vytag, .ref vyroomKey, .ref vyroomTag, .int yruns, .ref vyrunAt, .ref vyrunMany, .int ywaitAt, .int ywaitMany, .ref vycost, .ref vyhadKey, .ref vyhadTag, .ref vyhadAt, .ref vyhadMany, .ref vyhadCost, .int ya0, .int ya1, .int yb0, .int yb1, .int yforward, .int yout])), (vykey, .inl (cA, 96, .inl ykey)), (vytag, .inl (cA, 96, .inl ytag)), (vyroomKey, .inl (cA, 96, .inl yroomKey)), (vyroomTag, .inl (cA, 96, .inl yroomTag)), (vycost, .inl (cA, 12, .inl ycost))] [(yo, .inr (6, [.int ylength, .ref vytext, .ref vyrules, .int ymany, .ref vylaid, .ref vykey, .ref vytag, .ref vyroomKey, .ref vyroomTag, .int yruns, .ref vyrunAt, .ref vyrunMany, .int ywaitAt, .int ywaitMany, .ref vycost, .ref vyhadKey, .ref vyhadTag, .ref vyhadAt, .ref vyhadMany, .ref vyhadCost, .int ya0_9, .int ya1_9, .int yb0, .int yb1, .int yforward, .int yout_9])), (vykey, .inl (cA, 96, .inl ykey_9)), (vytag, .inl (cA, 96, .inl ytag_9)), (vyroomKey, .inl (cA, 96, .inl yroomKey)), (vyroomTag, .inl (cA, 96, .inl yroomTag)), (vycost, .inl (cA, 12, .inl ycost_9))] (none) := by
  refine Ct.of (cc := cX6_takeA) (maxL := 4) (ret := none) (by decide) rfl (Nat.le_of_ble_eq_true rfl) ?_
  intro p e s m below meth c A ls hcx hG hst hA hP hD hl
  obtain ⟨hx, hb, hml, hown, hts, hr, hlocks⟩ := id hcx
  have hown : s.vm.findClass RX6 = some m.cls := hown
  have hS : va_S A s.heap s.heap [] := va_S.rf
  have hl : lv_has ls 4 [(0, .ref yo), (1, .int a1)] := hl
  have hinX6 : ∀ w ∈ u_ws RX6 TX6 26, w ∈ wsX6_takeA := by decide +kernel
  have fl165 := hts (.fieldLink RX6 165 "RunSorterModel" "a1" "I") (by decide +kernel)
  have fl162 := hts (.fieldLink RX6 162 "RunSorterModel" "a0" "I") (by decide +kernel)
  have fl144 := hts (.fieldLink RX6 144 "RunSorterModel" "forward" "Z") (by decide +kernel)
  have fl22 := hts (.fieldLink RX6 22 "RunSorterModel" "tag" "[I") (by decide +kernel)
  have fl28 := hts (.fieldLink RX6 28 "RunSorterModel" "roomTag" "[I") (by decide +kernel)
  have hmX6_takeA_2 : ∀ (n2 : Nat) (x2 : Int32) (ya0 : Int32) (ya1 : Int32) (yout : Int32) (ykey : (Nat → Int32)) (ytag : (Nat → Int32)) (ycost : (Nat → Int32)) (H : Heap) (locs : List Loc) (ls : Array Slot), mX6_takeA_2 F yforward yroomKey yroomTag a1 n2 x2 ya0 ya1 yout ykey ytag ycost = some (ya0_9, ya1_9, yout_9, ykey_9, ytag_9, ycost_9) → va_P D vwCl [(yo, .inr (6, [.int ylength, .ref vytext, .ref vyrules, .int ymany, .ref vylaid, .ref vykey, .ref vytag, .ref vyroomKey, .ref vyroomTag, .int yruns, .ref vyrunAt, .ref vyrunMany, .int ywaitAt, .int ywaitMany, .ref vycost, .ref vyhadKey, .ref vyhadTag, .ref vyhadAt, .ref vyhadMany, .ref vyhadCost, .int ya0, .int ya1, .int yb0, .int yb1, .int yforward, .int yout])), (vykey, .inl (cA, 96, .inl ykey)), (vytag, .inl (cA, 96, .inl ytag)), (vyroomKey, .inl (cA, 96, .inl yroomKey)), (vyroomTag, .inl (cA, 96, .inl yroomTag)), (vycost, .inl (cA, 12, .inl ycost))] H → va_D A [(yo, .inr (6, [.int ylength, .ref vytext, .ref vyrules, .int ymany, .ref vylaid, .ref vykey, .ref vytag, .ref vyroomKey, .ref vyroomTag, .int yruns, .ref vyrunAt, .ref vyrunMany, .int ywaitAt, .int ywaitMany, .ref vycost, .ref vyhadKey, .ref vyhadTag, .ref vyhadAt, .ref vyhadMany, .ref vyhadCost, .int ya0, .int ya1, .int yb0, .int yb1, .int yforward, .int yout])), (vykey, .inl (cA, 96, .inl ykey)), (vytag, .inl (cA, 96, .inl ytag)), (vyroomKey, .inl (cA, 96, .inl yroomKey)), (vyroomTag, .inl (cA, 96, .inl yroomTag)), (vycost, .inl (cA, 12, .inl ycost))] → va_S A s.heap H locs → lv_has ls 4 [(0, .ref yo), (1, .int a1), (2, .int x2)] → W p l e ({ frames := 1, cells := 0, slots := 0, locals := 22 }) s m ([.ref yo, .int a1] : List Value).toArray below meth c H locs 0 0 (MQ below (Qw D A [(yo, .inr (6, [.int ylength, .ref vytext, .ref vyrules, .int ymany, .ref vylaid, .ref vykey, .ref vytag, .ref vyroomKey, .ref vyroomTag, .int yruns, .ref vyrunAt, .ref vyrunMany, .int ywaitAt, .int ywaitMany, .ref vycost, .ref vyhadKey, .ref vyhadTag, .ref vyhadAt, .ref vyhadMany, .ref vyhadCost, .int ya0_9, .int ya1_9, .int yb0, .int yb1, .int yforward, .int yout_9])), (vykey, .inl (cA, 96, .inl ykey_9)), (vytag, .inl (cA, 96, .inl ytag_9)), (vyroomKey, .inl (cA, 96, .inl yroomKey)), (vyroomTag, .inl (cA, 96, .inl yroomTag)), (vycost, .inl (cA, 12, .inl ycost_9))] (none)) ([.ref yo, .int a1] : List Value).toArray s 0 0 A) (F0 m 2 ls []) := by
    intro n2
    induction n2 with
    | zero => intro x2 ya0 ya1 yout ykey ytag ycost H locs ls h; exact (no_some h).elim
    | succ n2 ih2 =>
      have hmX6_takeA_97 : ∀ (x2 : Int32) (s0 : Int32) (s1 : Int32) (ya0 : Int32) (ya1 : Int32) (yout : Int32) (ykey : (Nat → Int32)) (ytag : (Nat → Int32)) (ycost : (Nat → Int32)) (H : Heap) (locs : List Loc) (ls : Array Slot), mX6_takeA_97 F (fun p0 p1 p2 p3 p4 p5 p6 => mX6_takeA_2 F yforward yroomKey yroomTag a1  n2 p0 p1 p2 p3 p4 p5 p6) x2 s0 s1 ya0 ya1 yout ykey ytag ycost = some (ya0_9, ya1_9, yout_9, ykey_9, ytag_9, ycost_9) → va_P D vwCl [(yo, .inr (6, [.int ylength, .ref vytext, .ref vyrules, .int ymany, .ref vylaid, .ref vykey, .ref vytag, .ref vyroomKey, .ref vyroomTag, .int yruns, .ref vyrunAt, .ref vyrunMany, .int ywaitAt, .int ywaitMany, .ref vycost, .ref vyhadKey, .ref vyhadTag, .ref vyhadAt, .ref vyhadMany, .ref vyhadCost, .int ya0, .int ya1, .int yb0, .int yb1, .int yforward, .int yout])), (vykey, .inl (cA, 96, .inl ykey)), (vytag, .inl (cA, 96, .inl ytag)), (vyroomKey, .inl (cA, 96, .inl yroomKey)), (vyroomTag, .inl (cA, 96, .inl yroomTag)), (vycost, .inl (cA, 12, .inl ycost))] H → va_D A [(yo, .inr (6, [.int ylength, .ref vytext, .ref vyrules, .int ymany, .ref vylaid, .ref vykey, .ref vytag, .ref vyroomKey, .ref vyroomTag, .int yruns, .ref vyrunAt, .ref vyrunMany, .int ywaitAt, .int ywaitMany, .ref vycost, .ref vyhadKey, .ref vyhadTag, .ref vyhadAt, .ref vyhadMany, .ref vyhadCost, .int ya0, .int ya1, .int yb0, .int yb1, .int yforward, .int yout])), (vykey, .inl (cA, 96, .inl ykey)), (vytag, .inl (cA, 96, .inl ytag)), (vyroomKey, .inl (cA, 96, .inl yroomKey)), (vyroomTag, .inl (cA, 96, .inl yroomTag)), (vycost, .inl (cA, 12, .inl ycost))] → va_S A s.heap H locs → lv_has ls 4 [(0, .ref yo), (1, .int a1), (2, .int x2)] → W p l e ({ frames := 1, cells := 0, slots := 0, locals := 22 }) s m ([.ref yo, .int a1] : List Value).toArray below meth c H locs 0 0 (MQ below (Qw D A [(yo, .inr (6, [.int ylength, .ref vytext, .ref vyrules, .int ymany, .ref vylaid, .ref vykey, .ref vytag, .ref vyroomKey, .ref vyroomTag, .int yruns, .ref vyrunAt, .ref vyrunMany, .int ywaitAt, .int ywaitMany, .ref vycost, .ref vyhadKey, .ref vyhadTag, .ref vyhadAt, .ref vyhadMany, .ref vyhadCost, .int ya0_9, .int ya1_9, .int yb0, .int yb1, .int yforward, .int yout_9])), (vykey, .inl (cA, 96, .inl ykey_9)), (vytag, .inl (cA, 96, .inl ytag_9)), (vyroomKey, .inl (cA, 96, .inl yroomKey)), (vyroomTag, .inl (cA, 96, .inl yroomTag)), (vycost, .inl (cA, 12, .inl ycost_9))] (none)) ([.ref yo, .int a1] : List Value).toArray s 0 0 A) (F0 m 97 ls [.int s0, .int s1, .ref yo]) := by
        intro x2 s0 s1 ya0 ya1 yout ykey ytag ycost H locs ls h hP hD hS hl
        unfold mX6_takeA_97 at h
        refine lv_isub hx hb dX6_takeA_97 ?_
        refine va_put (D := D) (cl := vwCl) (ci := 6) (v := .int (s1 - s0)) (ty := .int) (C := RX6) (T := TX6) (N := 26) hx hb hts hinX6 tyX6 tyX6_ok nmX6 hown hG.1 hP hD hS 0 rfl rfl 21 (by decide) fl165 (fun _ h9 => h9) rfl (by decide +kernel) rfl rfl (Nat.le_of_ble_eq_true rfl) dX6_takeA_98 (fun H locs hP hD hS => ?_)
        have hP : va_P D vwCl [(yo, .inr (6, [.int ylength, .ref vytext, .ref vyrules, .int ymany, .ref vylaid, .ref vykey, .ref vytag, .ref vyroomKey, .ref vyroomTag, .int yruns, .ref vyrunAt, .ref vyrunMany, .int ywaitAt, .int ywaitMany, .ref vycost, .ref vyhadKey, .ref vyhadTag, .ref vyhadAt, .ref vyhadMany, .ref vyhadCost, .int ya0, .int (s1 - s0), .int yb0, .int yb1, .int yforward, .int yout])), (vykey, .inl (cA, 96, .inl ykey)), (vytag, .inl (cA, 96, .inl ytag)), (vyroomKey, .inl (cA, 96, .inl yroomKey)), (vyroomTag, .inl (cA, 96, .inl yroomTag)), (vycost, .inl (cA, 12, .inl ycost))] H := hP
        have hD : va_D A [(yo, .inr (6, [.int ylength, .ref vytext, .ref vyrules, .int ymany, .ref vylaid, .ref vykey, .ref vytag, .ref vyroomKey, .ref vyroomTag, .int yruns, .ref vyrunAt, .ref vyrunMany, .int ywaitAt, .int ywaitMany, .ref vycost, .ref vyhadKey, .ref vyhadTag, .ref vyhadAt, .ref vyhadMany, .ref vyhadCost, .int ya0, .int (s1 - s0), .int yb0, .int yb1, .int yforward, .int yout])), (vykey, .inl (cA, 96, .inl ykey)), (vytag, .inl (cA, 96, .inl ytag)), (vyroomKey, .inl (cA, 96, .inl yroomKey)), (vyroomTag, .inl (cA, 96, .inl yroomTag)), (vycost, .inl (cA, 12, .inl ycost))] := hD
        refine lv_iinc (v := x2 + (1 : Int32)) (lv' := [(2, .int (x2 + (1 : Int32))), (0, .ref yo), (1, .int a1)]) hx hb dX6_takeA_101 hl (k := 2) rfl (congrArg (fun z => x2 + z) (by decide)) (by decide) rfl (fun ls hl => ?_)
        refine lv_goto (tgt := 2) hx hb dX6_takeA_104 (by decide) ?_
        exact ih2 (x2 + (1 : Int32)) ya0 (s1 - s0) yout ykey ytag ycost _ _ _ h hP hD hS (lv_sub hl [1, 2, 0] rfl)
      have hmX6_takeA_76 : ∀ (x2 : Int32) (s0 : Int32) (s1 : Int32) (ya0 : Int32) (ya1 : Int32) (yout : Int32) (ykey : (Nat → Int32)) (ytag : (Nat → Int32)) (ycost : (Nat → Int32)) (H : Heap) (locs : List Loc) (ls : Array Slot), mX6_takeA_76 F yforward (fun p0 p1 p2 p3 p4 p5 p6 => mX6_takeA_2 F yforward yroomKey yroomTag a1  n2 p0 p1 p2 p3 p4 p5 p6) x2 s0 s1 ya0 ya1 yout ykey ytag ycost = some (ya0_9, ya1_9, yout_9, ykey_9, ytag_9, ycost_9) → va_P D vwCl [(yo, .inr (6, [.int ylength, .ref vytext, .ref vyrules, .int ymany, .ref vylaid, .ref vykey, .ref vytag, .ref vyroomKey, .ref vyroomTag, .int yruns, .ref vyrunAt, .ref vyrunMany, .int ywaitAt, .int ywaitMany, .ref vycost, .ref vyhadKey, .ref vyhadTag, .ref vyhadAt, .ref vyhadMany, .ref vyhadCost, .int ya0, .int ya1, .int yb0, .int yb1, .int yforward, .int yout])), (vykey, .inl (cA, 96, .inl ykey)), (vytag, .inl (cA, 96, .inl ytag)), (vyroomKey, .inl (cA, 96, .inl yroomKey)), (vyroomTag, .inl (cA, 96, .inl yroomTag)), (vycost, .inl (cA, 12, .inl ycost))] H → va_D A [(yo, .inr (6, [.int ylength, .ref vytext, .ref vyrules, .int ymany, .ref vylaid, .ref vykey, .ref vytag, .ref vyroomKey, .ref vyroomTag, .int yruns, .ref vyrunAt, .ref vyrunMany, .int ywaitAt, .int ywaitMany, .ref vycost, .ref vyhadKey, .ref vyhadTag, .ref vyhadAt, .ref vyhadMany, .ref vyhadCost, .int ya0, .int ya1, .int yb0, .int yb1, .int yforward, .int yout])), (vykey, .inl (cA, 96, .inl ykey)), (vytag, .inl (cA, 96, .inl ytag)), (vyroomKey, .inl (cA, 96, .inl yroomKey)), (vyroomTag, .inl (cA, 96, .inl yroomTag)), (vycost, .inl (cA, 12, .inl ycost))] → va_S A s.heap H locs → lv_has ls 4 [(0, .ref yo), (1, .int a1), (2, .int x2)] → W p l e ({ frames := 1, cells := 0, slots := 0, locals := 22 }) s m ([.ref yo, .int a1] : List Value).toArray below meth c H locs 0 0 (MQ below (Qw D A [(yo, .inr (6, [.int ylength, .ref vytext, .ref vyrules, .int ymany, .ref vylaid, .ref vykey, .ref vytag, .ref vyroomKey, .ref vyroomTag, .int yruns, .ref vyrunAt, .ref vyrunMany, .int ywaitAt, .int ywaitMany, .ref vycost, .ref vyhadKey, .ref vyhadTag, .ref vyhadAt, .ref vyhadMany, .ref vyhadCost, .int ya0_9, .int ya1_9, .int yb0, .int yb1, .int yforward, .int yout_9])), (vykey, .inl (cA, 96, .inl ykey_9)), (vytag, .inl (cA, 96, .inl ytag_9)), (vyroomKey, .inl (cA, 96, .inl yroomKey)), (vyroomTag, .inl (cA, 96, .inl yroomTag)), (vycost, .inl (cA, 12, .inl ycost_9))] (none)) ([.ref yo, .int a1] : List Value).toArray s 0 0 A) (F0 m 76 ls [.int s0, .int s1, .ref yo]) := by
        intro x2 s0 s1 ya0 ya1 yout ykey ytag ycost H locs ls h hP hD hS hl
        unfold mX6_takeA_76 at h
        refine lv_iadd hx hb dX6_takeA_76 ?_
        refine va_put (D := D) (cl := vwCl) (ci := 6) (v := .int (s1 + s0)) (ty := .int) (C := RX6) (T := TX6) (N := 26) hx hb hts hinX6 tyX6 tyX6_ok nmX6 hown hG.1 hP hD hS 0 rfl rfl 20 (by decide) fl162 (fun _ h9 => h9) rfl (by decide +kernel) rfl rfl (Nat.le_of_ble_eq_true rfl) dX6_takeA_77 (fun H locs hP hD hS => ?_)
        have hP : va_P D vwCl [(yo, .inr (6, [.int ylength, .ref vytext, .ref vyrules, .int ymany, .ref vylaid, .ref vykey, .ref vytag, .ref vyroomKey, .ref vyroomTag, .int yruns, .ref vyrunAt, .ref vyrunMany, .int ywaitAt, .int ywaitMany, .ref vycost, .ref vyhadKey, .ref vyhadTag, .ref vyhadAt, .ref vyhadMany, .ref vyhadCost, .int (s1 + s0), .int ya1, .int yb0, .int yb1, .int yforward, .int yout])), (vykey, .inl (cA, 96, .inl ykey)), (vytag, .inl (cA, 96, .inl ytag)), (vyroomKey, .inl (cA, 96, .inl yroomKey)), (vyroomTag, .inl (cA, 96, .inl yroomTag)), (vycost, .inl (cA, 12, .inl ycost))] H := hP
        have hD : va_D A [(yo, .inr (6, [.int ylength, .ref vytext, .ref vyrules, .int ymany, .ref vylaid, .ref vykey, .ref vytag, .ref vyroomKey, .ref vyroomTag, .int yruns, .ref vyrunAt, .ref vyrunMany, .int ywaitAt, .int ywaitMany, .ref vycost, .ref vyhadKey, .ref vyhadTag, .ref vyhadAt, .ref vyhadMany, .ref vyhadCost, .int (s1 + s0), .int ya1, .int yb0, .int yb1, .int yforward, .int yout])), (vykey, .inl (cA, 96, .inl ykey)), (vytag, .inl (cA, 96, .inl ytag)), (vyroomKey, .inl (cA, 96, .inl yroomKey)), (vyroomTag, .inl (cA, 96, .inl yroomTag)), (vycost, .inl (cA, 12, .inl ycost))] := hD
        refine lv_aload_n hx hb dX6_takeA_80 rfl (lv_at hl 0 rfl) ?_
        refine lv_dup hx hb dX6_takeA_81 rfl ?_
        refine va_get (D := D) (cl := vwCl) (ci := 6) (v := .int ya1) (C := RX6) (T := TX6) (N := 26) hx hb hts hinX6 hown hG.1 hP 0 rfl rfl 21 (by decide) fl165 (fun _ h9 => h9) rfl dX6_takeA_82 ?_
        refine lv_aload_n hx hb dX6_takeA_85 rfl (lv_at hl 0 rfl) ?_
        refine va_get (D := D) (cl := vwCl) (ci := 6) (v := .int yforward) (C := RX6) (T := TX6) (N := 26) hx hb hts hinX6 hown hG.1 hP 0 rfl rfl 24 (by decide) fl144 (fun _ h9 => h9) rfl dX6_takeA_86 ?_
        refine lv_if_eq (tgt := 96) hx hb dX6_takeA_89 (by decide) (fun c89 => ?_) (fun c89 => ?_)
        · have h := i_t c89 h
          refine lv_iconst (v := (1 : Int32)) hx hb dX6_takeA_96 (by decide) ?_
          exact hmX6_takeA_97 x2 (1 : Int32) ya1 (s1 + s0) ya1 yout ykey ytag ycost _ _ _ h hP hD hS hl
        · have h := i_f c89 h
          refine lv_iconst (v := (0 : Int32)) hx hb dX6_takeA_92 (by decide) ?_
          refine lv_goto (tgt := 97) hx hb dX6_takeA_93 (by decide) ?_
          exact hmX6_takeA_97 x2 (0 : Int32) ya1 (s1 + s0) ya1 yout ykey ytag ycost _ _ _ h hP hD hS hl
      have hmX6_takeA_56 : ∀ (x2 : Int32) (s0 : Int32) (s1 : Int32) (ya0 : Int32) (ya1 : Int32) (yout : Int32) (ykey : (Nat → Int32)) (ytag : (Nat → Int32)) (ycost : (Nat → Int32)) (H : Heap) (locs : List Loc) (ls : Array Slot), mX6_takeA_56 F yforward (fun p0 p1 p2 p3 p4 p5 p6 => mX6_takeA_2 F yforward yroomKey yroomTag a1  n2 p0 p1 p2 p3 p4 p5 p6) x2 s0 s1 ya0 ya1 yout ykey ytag ycost = some (ya0_9, ya1_9, yout_9, ykey_9, ytag_9, ycost_9) → va_P D vwCl [(yo, .inr (6, [.int ylength, .ref vytext, .ref vyrules, .int ymany, .ref vylaid, .ref vykey, .ref vytag, .ref vyroomKey, .ref vyroomTag, .int yruns, .ref vyrunAt, .ref vyrunMany, .int ywaitAt, .int ywaitMany, .ref vycost, .ref vyhadKey, .ref vyhadTag, .ref vyhadAt, .ref vyhadMany, .ref vyhadCost, .int ya0, .int ya1, .int yb0, .int yb1, .int yforward, .int yout])), (vykey, .inl (cA, 96, .inl ykey)), (vytag, .inl (cA, 96, .inl ytag)), (vyroomKey, .inl (cA, 96, .inl yroomKey)), (vyroomTag, .inl (cA, 96, .inl yroomTag)), (vycost, .inl (cA, 12, .inl ycost))] H → va_D A [(yo, .inr (6, [.int ylength, .ref vytext, .ref vyrules, .int ymany, .ref vylaid, .ref vykey, .ref vytag, .ref vyroomKey, .ref vyroomTag, .int yruns, .ref vyrunAt, .ref vyrunMany, .int ywaitAt, .int ywaitMany, .ref vycost, .ref vyhadKey, .ref vyhadTag, .ref vyhadAt, .ref vyhadMany, .ref vyhadCost, .int ya0, .int ya1, .int yb0, .int yb1, .int yforward, .int yout])), (vykey, .inl (cA, 96, .inl ykey)), (vytag, .inl (cA, 96, .inl ytag)), (vyroomKey, .inl (cA, 96, .inl yroomKey)), (vyroomTag, .inl (cA, 96, .inl yroomTag)), (vycost, .inl (cA, 12, .inl ycost))] → va_S A s.heap H locs → lv_has ls 4 [(0, .ref yo), (1, .int a1), (2, .int x2)] → W p l e ({ frames := 1, cells := 0, slots := 0, locals := 22 }) s m ([.ref yo, .int a1] : List Value).toArray below meth c H locs 0 0 (MQ below (Qw D A [(yo, .inr (6, [.int ylength, .ref vytext, .ref vyrules, .int ymany, .ref vylaid, .ref vykey, .ref vytag, .ref vyroomKey, .ref vyroomTag, .int yruns, .ref vyrunAt, .ref vyrunMany, .int ywaitAt, .int ywaitMany, .ref vycost, .ref vyhadKey, .ref vyhadTag, .ref vyhadAt, .ref vyhadMany, .ref vyhadCost, .int ya0_9, .int ya1_9, .int yb0, .int yb1, .int yforward, .int yout_9])), (vykey, .inl (cA, 96, .inl ykey_9)), (vytag, .inl (cA, 96, .inl ytag_9)), (vyroomKey, .inl (cA, 96, .inl yroomKey)), (vyroomTag, .inl (cA, 96, .inl yroomTag)), (vycost, .inl (cA, 12, .inl ycost_9))] (none)) ([.ref yo, .int a1] : List Value).toArray s 0 0 A) (F0 m 56 ls [.int s0, .int s1, .ref yo]) := by
        intro x2 s0 s1 ya0 ya1 yout ykey ytag ycost H locs ls h hP hD hS hl
        unfold mX6_takeA_56 at h
        obtain ⟨yout_56, ykey_56, ytag_56, ycost_56, hc56, h⟩ := bd4_some h
        refine ct_V (As := [.int s1, .int s0]) (rest := []) (st1 := []) (wf := [(yo, .inr (6, [.int ylength, .ref vytext, .ref vyrules, .int ymany, .ref vylaid, .ref vykey, .ref vytag, .ref vyroomKey, .ref vyroomTag, .int yruns, .ref vyrunAt, .ref vyrunMany, .int ywaitAt, .int ywaitMany, .ref vycost, .ref vyhadKey, .ref vyhadTag, .ref vyhadAt, .ref vyhadMany, .ref vyhadCost, .int ya0, .int ya1, .int yb0, .int yb1, .int yforward, .int yout_56])), (vykey, .inl (cA, 96, .inl ykey_56)), (vytag, .inl (cA, 96, .inl ytag_56)), (vyroomKey, .inl (cA, 96, .inl yroomKey)), (vyroomTag, .inl (cA, 96, .inl yroomTag)), (vycost, .inl (cA, 12, .inl ycost_56))]) (kX6_puts l D cA F yo vytext vyrules vylaid vykey vytag vyroomKey vyroomTag vyrunAt vyrunMany vycost vyhadKey vyhadTag vyhadAt vyhadMany vyhadCost  ylength ymany yruns ywaitAt ywaitMany ya0 ya1 yb0 yb1 yforward yout ykey ytag ycost s1 s0 yout_56 ykey_56 ytag_56 ycost_56 hc56) ⟨hx, hb, hml, hown, hts⟩ (cwV 2 hts gX6_takeA_X6_puts rfl rfl rfl (by decide +kernel) ⟨Nat.le_of_ble_eq_true rfl, Nat.le_of_ble_eq_true rfl⟩) hG hst hP hD hS hA 6 rfl rfl rfl [0, 1, 2, 5] [3, 4] [2, 3, 4, 0, 1, 5] rfl rfl rfl rfl rfl rfl hl.1 rfl rfl (Nat.le_of_ble_eq_true rfl) dX6_takeA_56 ⟨Nat.zero_le _, Nat.zero_le _⟩ (fun H locs hP hD hS => ?_)
        refine lv_aload_n hx hb dX6_takeA_59 rfl (lv_at hl 0 rfl) ?_
        refine lv_dup hx hb dX6_takeA_60 rfl ?_
        refine va_get (D := D) (cl := vwCl) (ci := 6) (v := .int ya0) (C := RX6) (T := TX6) (N := 26) hx hb hts hinX6 hown hG.1 hP 0 rfl rfl 20 (by decide) fl162 (fun _ h9 => h9) rfl dX6_takeA_61 ?_
        refine lv_aload_n hx hb dX6_takeA_64 rfl (lv_at hl 0 rfl) ?_
        refine va_get (D := D) (cl := vwCl) (ci := 6) (v := .int yforward) (C := RX6) (T := TX6) (N := 26) hx hb hts hinX6 hown hG.1 hP 0 rfl rfl 24 (by decide) fl144 (fun _ h9 => h9) rfl dX6_takeA_65 ?_
        refine lv_if_eq (tgt := 75) hx hb dX6_takeA_68 (by decide) (fun c68 => ?_) (fun c68 => ?_)
        · have h := i_t c68 h
          refine lv_iconst (v := (0 : Int32)) hx hb dX6_takeA_75 (by decide) ?_
          exact hmX6_takeA_76 x2 (0 : Int32) ya0 ya0 ya1 yout_56 ykey_56 ytag_56 ycost_56 _ _ _ h hP hD hS hl
        · have h := i_f c68 h
          refine lv_iconst (v := (1 : Int32)) hx hb dX6_takeA_71 (by decide) ?_
          refine lv_goto (tgt := 76) hx hb dX6_takeA_72 (by decide) ?_
          exact hmX6_takeA_76 x2 (1 : Int32) ya0 ya0 ya1 yout_56 ykey_56 ytag_56 ycost_56 _ _ _ h hP hD hS hl
      have hmX6_takeA_27 : ∀ (x2 : Int32) (s0 : Int32) (ya0 : Int32) (ya1 : Int32) (yout : Int32) (ykey : (Nat → Int32)) (ytag : (Nat → Int32)) (ycost : (Nat → Int32)) (H : Heap) (locs : List Loc) (ls : Array Slot), mX6_takeA_27 F yforward yroomKey yroomTag (fun p0 p1 p2 p3 p4 p5 p6 => mX6_takeA_2 F yforward yroomKey yroomTag a1  n2 p0 p1 p2 p3 p4 p5 p6) x2 s0 ya0 ya1 yout ykey ytag ycost = some (ya0_9, ya1_9, yout_9, ykey_9, ytag_9, ycost_9) → va_P D vwCl [(yo, .inr (6, [.int ylength, .ref vytext, .ref vyrules, .int ymany, .ref vylaid, .ref vykey, .ref vytag, .ref vyroomKey, .ref vyroomTag, .int yruns, .ref vyrunAt, .ref vyrunMany, .int ywaitAt, .int ywaitMany, .ref vycost, .ref vyhadKey, .ref vyhadTag, .ref vyhadAt, .ref vyhadMany, .ref vyhadCost, .int ya0, .int ya1, .int yb0, .int yb1, .int yforward, .int yout])), (vykey, .inl (cA, 96, .inl ykey)), (vytag, .inl (cA, 96, .inl ytag)), (vyroomKey, .inl (cA, 96, .inl yroomKey)), (vyroomTag, .inl (cA, 96, .inl yroomTag)), (vycost, .inl (cA, 12, .inl ycost))] H → va_D A [(yo, .inr (6, [.int ylength, .ref vytext, .ref vyrules, .int ymany, .ref vylaid, .ref vykey, .ref vytag, .ref vyroomKey, .ref vyroomTag, .int yruns, .ref vyrunAt, .ref vyrunMany, .int ywaitAt, .int ywaitMany, .ref vycost, .ref vyhadKey, .ref vyhadTag, .ref vyhadAt, .ref vyhadMany, .ref vyhadCost, .int ya0, .int ya1, .int yb0, .int yb1, .int yforward, .int yout])), (vykey, .inl (cA, 96, .inl ykey)), (vytag, .inl (cA, 96, .inl ytag)), (vyroomKey, .inl (cA, 96, .inl yroomKey)), (vyroomTag, .inl (cA, 96, .inl yroomTag)), (vycost, .inl (cA, 12, .inl ycost))] → va_S A s.heap H locs → lv_has ls 4 [(0, .ref yo), (1, .int a1), (2, .int x2)] → W p l e ({ frames := 1, cells := 0, slots := 0, locals := 22 }) s m ([.ref yo, .int a1] : List Value).toArray below meth c H locs 0 0 (MQ below (Qw D A [(yo, .inr (6, [.int ylength, .ref vytext, .ref vyrules, .int ymany, .ref vylaid, .ref vykey, .ref vytag, .ref vyroomKey, .ref vyroomTag, .int yruns, .ref vyrunAt, .ref vyrunMany, .int ywaitAt, .int ywaitMany, .ref vycost, .ref vyhadKey, .ref vyhadTag, .ref vyhadAt, .ref vyhadMany, .ref vyhadCost, .int ya0_9, .int ya1_9, .int yb0, .int yb1, .int yforward, .int yout_9])), (vykey, .inl (cA, 96, .inl ykey_9)), (vytag, .inl (cA, 96, .inl ytag_9)), (vyroomKey, .inl (cA, 96, .inl yroomKey)), (vyroomTag, .inl (cA, 96, .inl yroomTag)), (vycost, .inl (cA, 12, .inl ycost_9))] (none)) ([.ref yo, .int a1] : List Value).toArray s 0 0 A) (F0 m 27 ls [.int s0]) := by
        intro x2 s0 ya0 ya1 yout ykey ytag ycost H locs ls h hP hD hS hl
        unfold mX6_takeA_27 at h
        refine lv_istore_n (lv' := [(3, .int s0), (0, .ref yo), (1, .int a1), (2, .int x2)]) hx hb dX6_takeA_27 rfl hl (by decide) rfl (fun ls hl => ?_)
        refine lv_aload_n hx hb dX6_takeA_28 rfl (lv_at hl 1 rfl) ?_
        refine lv_aload_n hx hb dX6_takeA_29 rfl (lv_at hl 1 rfl) ?_
        refine lv_iload_n hx hb dX6_takeA_30 rfl (lv_at hl 0 rfl) ?_
        obtain ⟨r31, hc31, h⟩ := bd1_some h
        refine ct_V (As := [.int s0]) (rest := [.ref yo]) (st1 := [.int r31, .ref yo]) (wf := [(yo, .inr (6, [.int ylength, .ref vytext, .ref vyrules, .int ymany, .ref vylaid, .ref vykey, .ref vytag, .ref vyroomKey, .ref vyroomTag, .int yruns, .ref vyrunAt, .ref vyrunMany, .int ywaitAt, .int ywaitMany, .ref vycost, .ref vyhadKey, .ref vyhadTag, .ref vyhadAt, .ref vyhadMany, .ref vyhadCost, .int ya0, .int ya1, .int yb0, .int yb1, .int yforward, .int yout])), (vykey, .inl (cA, 96, .inl ykey)), (vytag, .inl (cA, 96, .inl ytag)), (vyroomKey, .inl (cA, 96, .inl yroomKey)), (vyroomTag, .inl (cA, 96, .inl yroomTag)), (vycost, .inl (cA, 12, .inl ycost))]) (kX6_keyA l D cA F yo vytext vyrules vylaid vykey vytag vyroomKey vyroomTag vyrunAt vyrunMany vycost vyhadKey vyhadTag vyhadAt vyhadMany vyhadCost  ylength ymany yruns ywaitAt ywaitMany ya0 ya1 yb0 yb1 yforward yout ykey yroomKey s0 r31 hc31) ⟨hx, hb, hml, hown, hts⟩ (cwV 1 hts gX6_takeA_X6_keyA rfl rfl rfl (by decide +kernel) ⟨Nat.le_of_ble_eq_true rfl, Nat.le_of_ble_eq_true rfl⟩) hG hst hP hD hS hA 6 rfl rfl rfl [0, 1, 3] [2, 4, 5] [3, 4, 0, 5, 1, 2] rfl rfl rfl rfl rfl rfl hl.1 rfl rfl (Nat.le_of_ble_eq_true rfl) dX6_takeA_31 ⟨Nat.zero_le _, Nat.zero_le _⟩ (fun H locs hP hD hS => ?_)
        refine lv_aload_n hx hb dX6_takeA_34 rfl (lv_at hl 1 rfl) ?_
        refine va_get (D := D) (cl := vwCl) (ci := 6) (v := .int yforward) (C := RX6) (T := TX6) (N := 26) hx hb hts hinX6 hown hG.1 hP 0 rfl rfl 24 (by decide) fl144 (fun _ h9 => h9) rfl dX6_takeA_35 ?_
        refine lv_if_eq (tgt := 50) hx hb dX6_takeA_38 (by decide) (fun c38 => ?_) (fun c38 => ?_)
        · have h := i_t c38 h
          refine lv_aload_n hx hb dX6_takeA_50 rfl (lv_at hl 1 rfl) ?_
          refine va_get (D := D) (cl := vwCl) (ci := 6) (v := .ref vytag) (C := RX6) (T := TX6) (N := 26) hx hb hts hinX6 hown hG.1 hP 0 rfl rfl 6 (by decide) fl22 (fun _ h9 => h9) rfl dX6_takeA_51 ?_
          refine lv_iload_n hx hb dX6_takeA_54 rfl (lv_at hl 0 rfl) ?_
          obtain ⟨hi55, h⟩ := ck_some h
          refine va_iald hx hb hG.1 hP 2 0 rfl rfl hi55 dX6_takeA_55 ?_
          exact hmX6_takeA_56 x2 (ytag s0.toNatClampNeg) r31 ya0 ya1 yout ykey ytag ycost _ _ _ h hP hD hS (lv_sub hl [1, 2, 3] rfl)
        · have h := i_f c38 h
          refine lv_aload_n hx hb dX6_takeA_41 rfl (lv_at hl 1 rfl) ?_
          refine va_get (D := D) (cl := vwCl) (ci := 6) (v := .ref vyroomTag) (C := RX6) (T := TX6) (N := 26) hx hb hts hinX6 hown hG.1 hP 0 rfl rfl 8 (by decide) fl28 (fun _ h9 => h9) rfl dX6_takeA_42 ?_
          refine lv_iload_n hx hb dX6_takeA_45 rfl (lv_at hl 0 rfl) ?_
          obtain ⟨hi46, h⟩ := ck_some h
          refine va_iald hx hb hG.1 hP 4 0 rfl rfl hi46 dX6_takeA_46 ?_
          refine lv_goto (tgt := 56) hx hb dX6_takeA_47 (by decide) ?_
          exact hmX6_takeA_56 x2 (yroomTag s0.toNatClampNeg) r31 ya0 ya1 yout ykey ytag ycost _ _ _ h hP hD hS (lv_sub hl [1, 2, 3] rfl)
      intro x2 ya0 ya1 yout ykey ytag ycost H locs ls h hP hD hS hl
      rw [mX6_takeA_2] at h
      refine lv_iload_n hx hb dX6_takeA_2 rfl (lv_at hl 2 rfl) ?_
      refine lv_iload_n hx hb dX6_takeA_3 rfl (lv_at hl 1 rfl) ?_
      refine lv_icmp_ge (tgt := 107) hx hb dX6_takeA_4 (by decide) (fun c4 => ?_) (fun c4 => ?_)
      · have h := i_t c4 h
        cases h
        exact rt_v hx hb hr hlocks hP hD hS dX6_takeA_107
      · have h := i_f c4 h
        refine lv_aload_n hx hb dX6_takeA_7 rfl (lv_at hl 0 rfl) ?_
        refine va_get (D := D) (cl := vwCl) (ci := 6) (v := .int yforward) (C := RX6) (T := TX6) (N := 26) hx hb hts hinX6 hown hG.1 hP 0 rfl rfl 24 (by decide) fl144 (fun _ h9 => h9) rfl dX6_takeA_8 ?_
        refine lv_if_eq (tgt := 21) hx hb dX6_takeA_11 (by decide) (fun c11 => ?_) (fun c11 => ?_)
        · have h := i_t c11 h
          refine lv_aload_n hx hb dX6_takeA_21 rfl (lv_at hl 0 rfl) ?_
          refine va_get (D := D) (cl := vwCl) (ci := 6) (v := .int ya1) (C := RX6) (T := TX6) (N := 26) hx hb hts hinX6 hown hG.1 hP 0 rfl rfl 21 (by decide) fl165 (fun _ h9 => h9) rfl dX6_takeA_22 ?_
          refine lv_iconst (v := (1 : Int32)) hx hb dX6_takeA_25 (by decide) ?_
          refine lv_isub hx hb dX6_takeA_26 ?_
          exact hmX6_takeA_27 x2 (ya1 - (1 : Int32)) ya0 ya1 yout ykey ytag ycost _ _ _ h hP hD hS hl
        · have h := i_f c11 h
          refine lv_aload_n hx hb dX6_takeA_14 rfl (lv_at hl 0 rfl) ?_
          refine va_get (D := D) (cl := vwCl) (ci := 6) (v := .int ya0) (C := RX6) (T := TX6) (N := 26) hx hb hts hinX6 hown hG.1 hP 0 rfl rfl 20 (by decide) fl162 (fun _ h9 => h9) rfl dX6_takeA_15 ?_
          refine lv_goto (tgt := 27) hx hb dX6_takeA_18 (by decide) ?_
          exact hmX6_takeA_27 x2 ya0 ya0 ya1 yout ykey ytag ycost _ _ _ h hP hD hS hl
  unfold mX6_takeA at h
  refine lv_iconst (v := (0 : Int32)) hx hb dX6_takeA_0 (by decide) ?_
  refine lv_istore_n (lv' := [(2, .int (0 : Int32)), (0, .ref yo), (1, .int a1)]) hx hb dX6_takeA_1 rfl hl (by decide) rfl (fun ls hl => ?_)
  exact hmX6_takeA_2 F (0 : Int32) ya0 ya1 yout ykey ytag ycost _ _ _ h hP hD hS (lv_sub hl [1, 2, 0] rfl)
set_option maxHeartbeats 4000000 in
set_option maxRecDepth 100000 in
theorem kX6_takeB (l : Launch) (D : va_G) (cA : ClassId) (F : Nat) (yo : Nat) (vytext : Nat) (vyrules : Nat) (vylaid : Nat) (vykey : Nat) (vytag : Nat) (vyroomKey : Nat) (vyroomTag : Nat) (vyrunAt : Nat) (vyrunMany : Nat) (vycost : Nat) (vyhadKey : Nat) (vyhadTag : Nat) (vyhadAt : Nat) (vyhadMany : Nat) (vyhadCost : Nat) (ylength : Int32) (ymany : Int32) (yruns : Int32) (ywaitAt : Int32) (ywaitMany : Int32) (ya0 : Int32) (ya1 : Int32) (yb0 : Int32) (yb1 : Int32) (yforward : Int32) (yout : Int32) (ykey : (Nat → Int32)) (ytag : (Nat → Int32)) (yroomKey : (Nat → Int32)) (yroomTag : (Nat → Int32)) (ycost : (Nat → Int32)) (a1 : Int32) (yb0_9 : Int32) (yb1_9 : Int32) (yout_9 : Int32) (ykey_9 : (Nat → Int32)) (ytag_9 : (Nat → Int32)) (ycost_9 : (Nat → Int32)) (h : mX6_takeB F yb0 yb1 yforward yout ykey ytag yroomKey yroomTag ycost a1 = some (yb0_9, yb1_9, yout_9, ykey_9, ytag_9, ycost_9)) : Ct l yX6_takeB wsX6_takeB ({ frames := 1, cells := 0, slots := 0, locals := 22 }) D cA [.ref yo, .int a1] [(yo, .inr (6, [.int ylength, .ref vytext, .ref vyrules, .int ymany, .ref vylaid, .ref vykey, .ref vytag, .ref vyroomKey, .ref vyroomTag, .int yruns, .ref vyrunAt, .ref vyrunMany, .int ywaitAt, .int ywaitMany, .ref vycost, .ref vyhadKey, .ref vyhadTag, .ref vyhadAt, .ref vyhadMany, .ref vyhadCost, .int ya0, .int ya1, .int yb0, .int yb1, .int yforward, .int yout])), (vykey, .inl (cA, 96, .inl ykey)), (vytag, .inl (cA, 96, .inl ytag)), (vyroomKey, .inl (cA, 96, .inl yroomKey)), (vyroomTag, .inl (cA, 96, .inl yroomTag)), (vycost, .inl (cA, 12, .inl ycost))] [(yo, .inr (6, [.int ylength, .ref vytext, .ref vyrules, .int ymany, .ref vylaid, .ref vykey, .ref vytag, .ref vyroomKey, .ref vyroomTag, .int yruns, .ref vyrunAt, .ref vyrunMany, .int ywaitAt, .int ywaitMany, .ref vycost, .ref vyhadKey, .ref vyhadTag, .ref vyhadAt, .ref vyhadMany, .ref vyhadCost, .int ya0, .int ya1, .int yb0_9, .int yb1_9, .int yforward, .int yout_9])), (vykey, .inl (cA, 96, .inl ykey_9)), (vytag, .inl (cA, 96, .inl ytag_9)), (vyroomKey, .inl (cA, 96, .inl yroomKey)), (vyroomTag, .inl (cA, 96, .inl yroomTag)), (vycost, .inl (cA, 12, .inl ycost_9))] (none) := by
  refine Ct.of (cc := cX6_takeB) (maxL := 4) (ret := none) (by decide) rfl (Nat.le_of_ble_eq_true rfl) ?_
  intro p e s m below meth c A ls hcx hG hst hA hP hD hl
  obtain ⟨hx, hb, hml, hown, hts, hr, hlocks⟩ := id hcx
  have hown : s.vm.findClass RX6 = some m.cls := hown
  have hS : va_S A s.heap s.heap [] := va_S.rf
  have hl : lv_has ls 4 [(0, .ref yo), (1, .int a1)] := hl
  have hinX6 : ∀ w ∈ u_ws RX6 TX6 26, w ∈ wsX6_takeB := by decide +kernel
  have fl174 := hts (.fieldLink RX6 174 "RunSorterModel" "b1" "I") (by decide +kernel)
  have fl171 := hts (.fieldLink RX6 171 "RunSorterModel" "b0" "I") (by decide +kernel)
  have fl144 := hts (.fieldLink RX6 144 "RunSorterModel" "forward" "Z") (by decide +kernel)
  have fl28 := hts (.fieldLink RX6 28 "RunSorterModel" "roomTag" "[I") (by decide +kernel)
  have fl22 := hts (.fieldLink RX6 22 "RunSorterModel" "tag" "[I") (by decide +kernel)
  have hmX6_takeB_2 : ∀ (n2 : Nat) (x2 : Int32) (yb0 : Int32) (yb1 : Int32) (yout : Int32) (ykey : (Nat → Int32)) (ytag : (Nat → Int32)) (ycost : (Nat → Int32)) (H : Heap) (locs : List Loc) (ls : Array Slot), mX6_takeB_2 F yforward yroomKey yroomTag a1 n2 x2 yb0 yb1 yout ykey ytag ycost = some (yb0_9, yb1_9, yout_9, ykey_9, ytag_9, ycost_9) → va_P D vwCl [(yo, .inr (6, [.int ylength, .ref vytext, .ref vyrules, .int ymany, .ref vylaid, .ref vykey, .ref vytag, .ref vyroomKey, .ref vyroomTag, .int yruns, .ref vyrunAt, .ref vyrunMany, .int ywaitAt, .int ywaitMany, .ref vycost, .ref vyhadKey, .ref vyhadTag, .ref vyhadAt, .ref vyhadMany, .ref vyhadCost, .int ya0, .int ya1, .int yb0, .int yb1, .int yforward, .int yout])), (vykey, .inl (cA, 96, .inl ykey)), (vytag, .inl (cA, 96, .inl ytag)), (vyroomKey, .inl (cA, 96, .inl yroomKey)), (vyroomTag, .inl (cA, 96, .inl yroomTag)), (vycost, .inl (cA, 12, .inl ycost))] H → va_D A [(yo, .inr (6, [.int ylength, .ref vytext, .ref vyrules, .int ymany, .ref vylaid, .ref vykey, .ref vytag, .ref vyroomKey, .ref vyroomTag, .int yruns, .ref vyrunAt, .ref vyrunMany, .int ywaitAt, .int ywaitMany, .ref vycost, .ref vyhadKey, .ref vyhadTag, .ref vyhadAt, .ref vyhadMany, .ref vyhadCost, .int ya0, .int ya1, .int yb0, .int yb1, .int yforward, .int yout])), (vykey, .inl (cA, 96, .inl ykey)), (vytag, .inl (cA, 96, .inl ytag)), (vyroomKey, .inl (cA, 96, .inl yroomKey)), (vyroomTag, .inl (cA, 96, .inl yroomTag)), (vycost, .inl (cA, 12, .inl ycost))] → va_S A s.heap H locs → lv_has ls 4 [(0, .ref yo), (1, .int a1), (2, .int x2)] → W p l e ({ frames := 1, cells := 0, slots := 0, locals := 22 }) s m ([.ref yo, .int a1] : List Value).toArray below meth c H locs 0 0 (MQ below (Qw D A [(yo, .inr (6, [.int ylength, .ref vytext, .ref vyrules, .int ymany, .ref vylaid, .ref vykey, .ref vytag, .ref vyroomKey, .ref vyroomTag, .int yruns, .ref vyrunAt, .ref vyrunMany, .int ywaitAt, .int ywaitMany, .ref vycost, .ref vyhadKey, .ref vyhadTag, .ref vyhadAt, .ref vyhadMany, .ref vyhadCost, .int ya0, .int ya1, .int yb0_9, .int yb1_9, .int yforward, .int yout_9])), (vykey, .inl (cA, 96, .inl ykey_9)), (vytag, .inl (cA, 96, .inl ytag_9)), (vyroomKey, .inl (cA, 96, .inl yroomKey)), (vyroomTag, .inl (cA, 96, .inl yroomTag)), (vycost, .inl (cA, 12, .inl ycost_9))] (none)) ([.ref yo, .int a1] : List Value).toArray s 0 0 A) (F0 m 2 ls []) := by
    intro n2
    induction n2 with
    | zero => intro x2 yb0 yb1 yout ykey ytag ycost H locs ls h; exact (no_some h).elim
    | succ n2 ih2 =>
      have hmX6_takeB_97 : ∀ (x2 : Int32) (s0 : Int32) (s1 : Int32) (yb0 : Int32) (yb1 : Int32) (yout : Int32) (ykey : (Nat → Int32)) (ytag : (Nat → Int32)) (ycost : (Nat → Int32)) (H : Heap) (locs : List Loc) (ls : Array Slot), mX6_takeB_97 F (fun p0 p1 p2 p3 p4 p5 p6 => mX6_takeB_2 F yforward yroomKey yroomTag a1  n2 p0 p1 p2 p3 p4 p5 p6) x2 s0 s1 yb0 yb1 yout ykey ytag ycost = some (yb0_9, yb1_9, yout_9, ykey_9, ytag_9, ycost_9) → va_P D vwCl [(yo, .inr (6, [.int ylength, .ref vytext, .ref vyrules, .int ymany, .ref vylaid, .ref vykey, .ref vytag, .ref vyroomKey, .ref vyroomTag, .int yruns, .ref vyrunAt, .ref vyrunMany, .int ywaitAt, .int ywaitMany, .ref vycost, .ref vyhadKey, .ref vyhadTag, .ref vyhadAt, .ref vyhadMany, .ref vyhadCost, .int ya0, .int ya1, .int yb0, .int yb1, .int yforward, .int yout])), (vykey, .inl (cA, 96, .inl ykey)), (vytag, .inl (cA, 96, .inl ytag)), (vyroomKey, .inl (cA, 96, .inl yroomKey)), (vyroomTag, .inl (cA, 96, .inl yroomTag)), (vycost, .inl (cA, 12, .inl ycost))] H → va_D A [(yo, .inr (6, [.int ylength, .ref vytext, .ref vyrules, .int ymany, .ref vylaid, .ref vykey, .ref vytag, .ref vyroomKey, .ref vyroomTag, .int yruns, .ref vyrunAt, .ref vyrunMany, .int ywaitAt, .int ywaitMany, .ref vycost, .ref vyhadKey, .ref vyhadTag, .ref vyhadAt, .ref vyhadMany, .ref vyhadCost, .int ya0, .int ya1, .int yb0, .int yb1, .int yforward, .int yout])), (vykey, .inl (cA, 96, .inl ykey)), (vytag, .inl (cA, 96, .inl ytag)), (vyroomKey, .inl (cA, 96, .inl yroomKey)), (vyroomTag, .inl (cA, 96, .inl yroomTag)), (vycost, .inl (cA, 12, .inl ycost))] → va_S A s.heap H locs → lv_has ls 4 [(0, .ref yo), (1, .int a1), (2, .int x2)] → W p l e ({ frames := 1, cells := 0, slots := 0, locals := 22 }) s m ([.ref yo, .int a1] : List Value).toArray below meth c H locs 0 0 (MQ below (Qw D A [(yo, .inr (6, [.int ylength, .ref vytext, .ref vyrules, .int ymany, .ref vylaid, .ref vykey, .ref vytag, .ref vyroomKey, .ref vyroomTag, .int yruns, .ref vyrunAt, .ref vyrunMany, .int ywaitAt, .int ywaitMany, .ref vycost, .ref vyhadKey, .ref vyhadTag, .ref vyhadAt, .ref vyhadMany, .ref vyhadCost, .int ya0, .int ya1, .int yb0_9, .int yb1_9, .int yforward, .int yout_9])), (vykey, .inl (cA, 96, .inl ykey_9)), (vytag, .inl (cA, 96, .inl ytag_9)), (vyroomKey, .inl (cA, 96, .inl yroomKey)), (vyroomTag, .inl (cA, 96, .inl yroomTag)), (vycost, .inl (cA, 12, .inl ycost_9))] (none)) ([.ref yo, .int a1] : List Value).toArray s 0 0 A) (F0 m 97 ls [.int s0, .int s1, .ref yo]) := by
        intro x2 s0 s1 yb0 yb1 yout ykey ytag ycost H locs ls h hP hD hS hl
        unfold mX6_takeB_97 at h
        refine lv_isub hx hb dX6_takeB_97 ?_
        refine va_put (D := D) (cl := vwCl) (ci := 6) (v := .int (s1 - s0)) (ty := .int) (C := RX6) (T := TX6) (N := 26) hx hb hts hinX6 tyX6 tyX6_ok nmX6 hown hG.1 hP hD hS 0 rfl rfl 23 (by decide) fl174 (fun _ h9 => h9) rfl (by decide +kernel) rfl rfl (Nat.le_of_ble_eq_true rfl) dX6_takeB_98 (fun H locs hP hD hS => ?_)
        have hP : va_P D vwCl [(yo, .inr (6, [.int ylength, .ref vytext, .ref vyrules, .int ymany, .ref vylaid, .ref vykey, .ref vytag, .ref vyroomKey, .ref vyroomTag, .int yruns, .ref vyrunAt, .ref vyrunMany, .int ywaitAt, .int ywaitMany, .ref vycost, .ref vyhadKey, .ref vyhadTag, .ref vyhadAt, .ref vyhadMany, .ref vyhadCost, .int ya0, .int ya1, .int yb0, .int (s1 - s0), .int yforward, .int yout])), (vykey, .inl (cA, 96, .inl ykey)), (vytag, .inl (cA, 96, .inl ytag)), (vyroomKey, .inl (cA, 96, .inl yroomKey)), (vyroomTag, .inl (cA, 96, .inl yroomTag)), (vycost, .inl (cA, 12, .inl ycost))] H := hP
        have hD : va_D A [(yo, .inr (6, [.int ylength, .ref vytext, .ref vyrules, .int ymany, .ref vylaid, .ref vykey, .ref vytag, .ref vyroomKey, .ref vyroomTag, .int yruns, .ref vyrunAt, .ref vyrunMany, .int ywaitAt, .int ywaitMany, .ref vycost, .ref vyhadKey, .ref vyhadTag, .ref vyhadAt, .ref vyhadMany, .ref vyhadCost, .int ya0, .int ya1, .int yb0, .int (s1 - s0), .int yforward, .int yout])), (vykey, .inl (cA, 96, .inl ykey)), (vytag, .inl (cA, 96, .inl ytag)), (vyroomKey, .inl (cA, 96, .inl yroomKey)), (vyroomTag, .inl (cA, 96, .inl yroomTag)), (vycost, .inl (cA, 12, .inl ycost))] := hD
        refine lv_iinc (v := x2 + (1 : Int32)) (lv' := [(2, .int (x2 + (1 : Int32))), (0, .ref yo), (1, .int a1)]) hx hb dX6_takeB_101 hl (k := 2) rfl (congrArg (fun z => x2 + z) (by decide)) (by decide) rfl (fun ls hl => ?_)
        refine lv_goto (tgt := 2) hx hb dX6_takeB_104 (by decide) ?_
        exact ih2 (x2 + (1 : Int32)) yb0 (s1 - s0) yout ykey ytag ycost _ _ _ h hP hD hS (lv_sub hl [1, 2, 0] rfl)
      have hmX6_takeB_76 : ∀ (x2 : Int32) (s0 : Int32) (s1 : Int32) (yb0 : Int32) (yb1 : Int32) (yout : Int32) (ykey : (Nat → Int32)) (ytag : (Nat → Int32)) (ycost : (Nat → Int32)) (H : Heap) (locs : List Loc) (ls : Array Slot), mX6_takeB_76 F yforward (fun p0 p1 p2 p3 p4 p5 p6 => mX6_takeB_2 F yforward yroomKey yroomTag a1  n2 p0 p1 p2 p3 p4 p5 p6) x2 s0 s1 yb0 yb1 yout ykey ytag ycost = some (yb0_9, yb1_9, yout_9, ykey_9, ytag_9, ycost_9) → va_P D vwCl [(yo, .inr (6, [.int ylength, .ref vytext, .ref vyrules, .int ymany, .ref vylaid, .ref vykey, .ref vytag, .ref vyroomKey, .ref vyroomTag, .int yruns, .ref vyrunAt, .ref vyrunMany, .int ywaitAt, .int ywaitMany, .ref vycost, .ref vyhadKey, .ref vyhadTag, .ref vyhadAt, .ref vyhadMany, .ref vyhadCost, .int ya0, .int ya1, .int yb0, .int yb1, .int yforward, .int yout])), (vykey, .inl (cA, 96, .inl ykey)), (vytag, .inl (cA, 96, .inl ytag)), (vyroomKey, .inl (cA, 96, .inl yroomKey)), (vyroomTag, .inl (cA, 96, .inl yroomTag)), (vycost, .inl (cA, 12, .inl ycost))] H → va_D A [(yo, .inr (6, [.int ylength, .ref vytext, .ref vyrules, .int ymany, .ref vylaid, .ref vykey, .ref vytag, .ref vyroomKey, .ref vyroomTag, .int yruns, .ref vyrunAt, .ref vyrunMany, .int ywaitAt, .int ywaitMany, .ref vycost, .ref vyhadKey, .ref vyhadTag, .ref vyhadAt, .ref vyhadMany, .ref vyhadCost, .int ya0, .int ya1, .int yb0, .int yb1, .int yforward, .int yout])), (vykey, .inl (cA, 96, .inl ykey)), (vytag, .inl (cA, 96, .inl ytag)), (vyroomKey, .inl (cA, 96, .inl yroomKey)), (vyroomTag, .inl (cA, 96, .inl yroomTag)), (vycost, .inl (cA, 12, .inl ycost))] → va_S A s.heap H locs → lv_has ls 4 [(0, .ref yo), (1, .int a1), (2, .int x2)] → W p l e ({ frames := 1, cells := 0, slots := 0, locals := 22 }) s m ([.ref yo, .int a1] : List Value).toArray below meth c H locs 0 0 (MQ below (Qw D A [(yo, .inr (6, [.int ylength, .ref vytext, .ref vyrules, .int ymany, .ref vylaid, .ref vykey, .ref vytag, .ref vyroomKey, .ref vyroomTag, .int yruns, .ref vyrunAt, .ref vyrunMany, .int ywaitAt, .int ywaitMany, .ref vycost, .ref vyhadKey, .ref vyhadTag, .ref vyhadAt, .ref vyhadMany, .ref vyhadCost, .int ya0, .int ya1, .int yb0_9, .int yb1_9, .int yforward, .int yout_9])), (vykey, .inl (cA, 96, .inl ykey_9)), (vytag, .inl (cA, 96, .inl ytag_9)), (vyroomKey, .inl (cA, 96, .inl yroomKey)), (vyroomTag, .inl (cA, 96, .inl yroomTag)), (vycost, .inl (cA, 12, .inl ycost_9))] (none)) ([.ref yo, .int a1] : List Value).toArray s 0 0 A) (F0 m 76 ls [.int s0, .int s1, .ref yo]) := by
        intro x2 s0 s1 yb0 yb1 yout ykey ytag ycost H locs ls h hP hD hS hl
        unfold mX6_takeB_76 at h
        refine lv_iadd hx hb dX6_takeB_76 ?_
        refine va_put (D := D) (cl := vwCl) (ci := 6) (v := .int (s1 + s0)) (ty := .int) (C := RX6) (T := TX6) (N := 26) hx hb hts hinX6 tyX6 tyX6_ok nmX6 hown hG.1 hP hD hS 0 rfl rfl 22 (by decide) fl171 (fun _ h9 => h9) rfl (by decide +kernel) rfl rfl (Nat.le_of_ble_eq_true rfl) dX6_takeB_77 (fun H locs hP hD hS => ?_)
        have hP : va_P D vwCl [(yo, .inr (6, [.int ylength, .ref vytext, .ref vyrules, .int ymany, .ref vylaid, .ref vykey, .ref vytag, .ref vyroomKey, .ref vyroomTag, .int yruns, .ref vyrunAt, .ref vyrunMany, .int ywaitAt, .int ywaitMany, .ref vycost, .ref vyhadKey, .ref vyhadTag, .ref vyhadAt, .ref vyhadMany, .ref vyhadCost, .int ya0, .int ya1, .int (s1 + s0), .int yb1, .int yforward, .int yout])), (vykey, .inl (cA, 96, .inl ykey)), (vytag, .inl (cA, 96, .inl ytag)), (vyroomKey, .inl (cA, 96, .inl yroomKey)), (vyroomTag, .inl (cA, 96, .inl yroomTag)), (vycost, .inl (cA, 12, .inl ycost))] H := hP
        have hD : va_D A [(yo, .inr (6, [.int ylength, .ref vytext, .ref vyrules, .int ymany, .ref vylaid, .ref vykey, .ref vytag, .ref vyroomKey, .ref vyroomTag, .int yruns, .ref vyrunAt, .ref vyrunMany, .int ywaitAt, .int ywaitMany, .ref vycost, .ref vyhadKey, .ref vyhadTag, .ref vyhadAt, .ref vyhadMany, .ref vyhadCost, .int ya0, .int ya1, .int (s1 + s0), .int yb1, .int yforward, .int yout])), (vykey, .inl (cA, 96, .inl ykey)), (vytag, .inl (cA, 96, .inl ytag)), (vyroomKey, .inl (cA, 96, .inl yroomKey)), (vyroomTag, .inl (cA, 96, .inl yroomTag)), (vycost, .inl (cA, 12, .inl ycost))] := hD
        refine lv_aload_n hx hb dX6_takeB_80 rfl (lv_at hl 0 rfl) ?_
        refine lv_dup hx hb dX6_takeB_81 rfl ?_
        refine va_get (D := D) (cl := vwCl) (ci := 6) (v := .int yb1) (C := RX6) (T := TX6) (N := 26) hx hb hts hinX6 hown hG.1 hP 0 rfl rfl 23 (by decide) fl174 (fun _ h9 => h9) rfl dX6_takeB_82 ?_
        refine lv_aload_n hx hb dX6_takeB_85 rfl (lv_at hl 0 rfl) ?_
        refine va_get (D := D) (cl := vwCl) (ci := 6) (v := .int yforward) (C := RX6) (T := TX6) (N := 26) hx hb hts hinX6 hown hG.1 hP 0 rfl rfl 24 (by decide) fl144 (fun _ h9 => h9) rfl dX6_takeB_86 ?_
        refine lv_if_eq (tgt := 96) hx hb dX6_takeB_89 (by decide) (fun c89 => ?_) (fun c89 => ?_)
        · have h := i_t c89 h
          refine lv_iconst (v := (1 : Int32)) hx hb dX6_takeB_96 (by decide) ?_
          exact hmX6_takeB_97 x2 (1 : Int32) yb1 (s1 + s0) yb1 yout ykey ytag ycost _ _ _ h hP hD hS hl
        · have h := i_f c89 h
          refine lv_iconst (v := (0 : Int32)) hx hb dX6_takeB_92 (by decide) ?_
          refine lv_goto (tgt := 97) hx hb dX6_takeB_93 (by decide) ?_
          exact hmX6_takeB_97 x2 (0 : Int32) yb1 (s1 + s0) yb1 yout ykey ytag ycost _ _ _ h hP hD hS hl
      have hmX6_takeB_56 : ∀ (x2 : Int32) (s0 : Int32) (s1 : Int32) (yb0 : Int32) (yb1 : Int32) (yout : Int32) (ykey : (Nat → Int32)) (ytag : (Nat → Int32)) (ycost : (Nat → Int32)) (H : Heap) (locs : List Loc) (ls : Array Slot), mX6_takeB_56 F yforward (fun p0 p1 p2 p3 p4 p5 p6 => mX6_takeB_2 F yforward yroomKey yroomTag a1  n2 p0 p1 p2 p3 p4 p5 p6) x2 s0 s1 yb0 yb1 yout ykey ytag ycost = some (yb0_9, yb1_9, yout_9, ykey_9, ytag_9, ycost_9) → va_P D vwCl [(yo, .inr (6, [.int ylength, .ref vytext, .ref vyrules, .int ymany, .ref vylaid, .ref vykey, .ref vytag, .ref vyroomKey, .ref vyroomTag, .int yruns, .ref vyrunAt, .ref vyrunMany, .int ywaitAt, .int ywaitMany, .ref vycost, .ref vyhadKey, .ref vyhadTag, .ref vyhadAt, .ref vyhadMany, .ref vyhadCost, .int ya0, .int ya1, .int yb0, .int yb1, .int yforward, .int yout])), (vykey, .inl (cA, 96, .inl ykey)), (vytag, .inl (cA, 96, .inl ytag)), (vyroomKey, .inl (cA, 96, .inl yroomKey)), (vyroomTag, .inl (cA, 96, .inl yroomTag)), (vycost, .inl (cA, 12, .inl ycost))] H → va_D A [(yo, .inr (6, [.int ylength, .ref vytext, .ref vyrules, .int ymany, .ref vylaid, .ref vykey, .ref vytag, .ref vyroomKey, .ref vyroomTag, .int yruns, .ref vyrunAt, .ref vyrunMany, .int ywaitAt, .int ywaitMany, .ref vycost, .ref vyhadKey, .ref vyhadTag, .ref vyhadAt, .ref vyhadMany, .ref vyhadCost, .int ya0, .int ya1, .int yb0, .int yb1, .int yforward, .int yout])), (vykey, .inl (cA, 96, .inl ykey)), (vytag, .inl (cA, 96, .inl ytag)), (vyroomKey, .inl (cA, 96, .inl yroomKey)), (vyroomTag, .inl (cA, 96, .inl yroomTag)), (vycost, .inl (cA, 12, .inl ycost))] → va_S A s.heap H locs → lv_has ls 4 [(0, .ref yo), (1, .int a1), (2, .int x2)] → W p l e ({ frames := 1, cells := 0, slots := 0, locals := 22 }) s m ([.ref yo, .int a1] : List Value).toArray below meth c H locs 0 0 (MQ below (Qw D A [(yo, .inr (6, [.int ylength, .ref vytext, .ref vyrules, .int ymany, .ref vylaid, .ref vykey, .ref vytag, .ref vyroomKey, .ref vyroomTag, .int yruns, .ref vyrunAt, .ref vyrunMany, .int ywaitAt, .int ywaitMany, .ref vycost, .ref vyhadKey, .ref vyhadTag, .ref vyhadAt, .ref vyhadMany, .ref vyhadCost, .int ya0, .int ya1, .int yb0_9, .int yb1_9, .int yforward, .int yout_9])), (vykey, .inl (cA, 96, .inl ykey_9)), (vytag, .inl (cA, 96, .inl ytag_9)), (vyroomKey, .inl (cA, 96, .inl yroomKey)), (vyroomTag, .inl (cA, 96, .inl yroomTag)), (vycost, .inl (cA, 12, .inl ycost_9))] (none)) ([.ref yo, .int a1] : List Value).toArray s 0 0 A) (F0 m 56 ls [.int s0, .int s1, .ref yo]) := by
        intro x2 s0 s1 yb0 yb1 yout ykey ytag ycost H locs ls h hP hD hS hl
        unfold mX6_takeB_56 at h
        obtain ⟨yout_56, ykey_56, ytag_56, ycost_56, hc56, h⟩ := bd4_some h
        refine ct_V (As := [.int s1, .int s0]) (rest := []) (st1 := []) (wf := [(yo, .inr (6, [.int ylength, .ref vytext, .ref vyrules, .int ymany, .ref vylaid, .ref vykey, .ref vytag, .ref vyroomKey, .ref vyroomTag, .int yruns, .ref vyrunAt, .ref vyrunMany, .int ywaitAt, .int ywaitMany, .ref vycost, .ref vyhadKey, .ref vyhadTag, .ref vyhadAt, .ref vyhadMany, .ref vyhadCost, .int ya0, .int ya1, .int yb0, .int yb1, .int yforward, .int yout_56])), (vykey, .inl (cA, 96, .inl ykey_56)), (vytag, .inl (cA, 96, .inl ytag_56)), (vyroomKey, .inl (cA, 96, .inl yroomKey)), (vyroomTag, .inl (cA, 96, .inl yroomTag)), (vycost, .inl (cA, 12, .inl ycost_56))]) (kX6_puts l D cA F yo vytext vyrules vylaid vykey vytag vyroomKey vyroomTag vyrunAt vyrunMany vycost vyhadKey vyhadTag vyhadAt vyhadMany vyhadCost  ylength ymany yruns ywaitAt ywaitMany ya0 ya1 yb0 yb1 yforward yout ykey ytag ycost s1 s0 yout_56 ykey_56 ytag_56 ycost_56 hc56) ⟨hx, hb, hml, hown, hts⟩ (cwV 2 hts gX6_takeB_X6_puts rfl rfl rfl (by decide +kernel) ⟨Nat.le_of_ble_eq_true rfl, Nat.le_of_ble_eq_true rfl⟩) hG hst hP hD hS hA 6 rfl rfl rfl [0, 1, 2, 5] [3, 4] [2, 3, 4, 0, 1, 5] rfl rfl rfl rfl rfl rfl hl.1 rfl rfl (Nat.le_of_ble_eq_true rfl) dX6_takeB_56 ⟨Nat.zero_le _, Nat.zero_le _⟩ (fun H locs hP hD hS => ?_)
        refine lv_aload_n hx hb dX6_takeB_59 rfl (lv_at hl 0 rfl) ?_
        refine lv_dup hx hb dX6_takeB_60 rfl ?_
        refine va_get (D := D) (cl := vwCl) (ci := 6) (v := .int yb0) (C := RX6) (T := TX6) (N := 26) hx hb hts hinX6 hown hG.1 hP 0 rfl rfl 22 (by decide) fl171 (fun _ h9 => h9) rfl dX6_takeB_61 ?_
        refine lv_aload_n hx hb dX6_takeB_64 rfl (lv_at hl 0 rfl) ?_
        refine va_get (D := D) (cl := vwCl) (ci := 6) (v := .int yforward) (C := RX6) (T := TX6) (N := 26) hx hb hts hinX6 hown hG.1 hP 0 rfl rfl 24 (by decide) fl144 (fun _ h9 => h9) rfl dX6_takeB_65 ?_
        refine lv_if_eq (tgt := 75) hx hb dX6_takeB_68 (by decide) (fun c68 => ?_) (fun c68 => ?_)
        · have h := i_t c68 h
          refine lv_iconst (v := (0 : Int32)) hx hb dX6_takeB_75 (by decide) ?_
          exact hmX6_takeB_76 x2 (0 : Int32) yb0 yb0 yb1 yout_56 ykey_56 ytag_56 ycost_56 _ _ _ h hP hD hS hl
        · have h := i_f c68 h
          refine lv_iconst (v := (1 : Int32)) hx hb dX6_takeB_71 (by decide) ?_
          refine lv_goto (tgt := 76) hx hb dX6_takeB_72 (by decide) ?_
          exact hmX6_takeB_76 x2 (1 : Int32) yb0 yb0 yb1 yout_56 ykey_56 ytag_56 ycost_56 _ _ _ h hP hD hS hl
      have hmX6_takeB_27 : ∀ (x2 : Int32) (s0 : Int32) (yb0 : Int32) (yb1 : Int32) (yout : Int32) (ykey : (Nat → Int32)) (ytag : (Nat → Int32)) (ycost : (Nat → Int32)) (H : Heap) (locs : List Loc) (ls : Array Slot), mX6_takeB_27 F yforward yroomKey yroomTag (fun p0 p1 p2 p3 p4 p5 p6 => mX6_takeB_2 F yforward yroomKey yroomTag a1  n2 p0 p1 p2 p3 p4 p5 p6) x2 s0 yb0 yb1 yout ykey ytag ycost = some (yb0_9, yb1_9, yout_9, ykey_9, ytag_9, ycost_9) → va_P D vwCl [(yo, .inr (6, [.int ylength, .ref vytext, .ref vyrules, .int ymany, .ref vylaid, .ref vykey, .ref vytag, .ref vyroomKey, .ref vyroomTag, .int yruns, .ref vyrunAt, .ref vyrunMany, .int ywaitAt, .int ywaitMany, .ref vycost, .ref vyhadKey, .ref vyhadTag, .ref vyhadAt, .ref vyhadMany, .ref vyhadCost, .int ya0, .int ya1, .int yb0, .int yb1, .int yforward, .int yout])), (vykey, .inl (cA, 96, .inl ykey)), (vytag, .inl (cA, 96, .inl ytag)), (vyroomKey, .inl (cA, 96, .inl yroomKey)), (vyroomTag, .inl (cA, 96, .inl yroomTag)), (vycost, .inl (cA, 12, .inl ycost))] H → va_D A [(yo, .inr (6, [.int ylength, .ref vytext, .ref vyrules, .int ymany, .ref vylaid, .ref vykey, .ref vytag, .ref vyroomKey, .ref vyroomTag, .int yruns, .ref vyrunAt, .ref vyrunMany, .int ywaitAt, .int ywaitMany, .ref vycost, .ref vyhadKey, .ref vyhadTag, .ref vyhadAt, .ref vyhadMany, .ref vyhadCost, .int ya0, .int ya1, .int yb0, .int yb1, .int yforward, .int yout])), (vykey, .inl (cA, 96, .inl ykey)), (vytag, .inl (cA, 96, .inl ytag)), (vyroomKey, .inl (cA, 96, .inl yroomKey)), (vyroomTag, .inl (cA, 96, .inl yroomTag)), (vycost, .inl (cA, 12, .inl ycost))] → va_S A s.heap H locs → lv_has ls 4 [(0, .ref yo), (1, .int a1), (2, .int x2)] → W p l e ({ frames := 1, cells := 0, slots := 0, locals := 22 }) s m ([.ref yo, .int a1] : List Value).toArray below meth c H locs 0 0 (MQ below (Qw D A [(yo, .inr (6, [.int ylength, .ref vytext, .ref vyrules, .int ymany, .ref vylaid, .ref vykey, .ref vytag, .ref vyroomKey, .ref vyroomTag, .int yruns, .ref vyrunAt, .ref vyrunMany, .int ywaitAt, .int ywaitMany, .ref vycost, .ref vyhadKey, .ref vyhadTag, .ref vyhadAt, .ref vyhadMany, .ref vyhadCost, .int ya0, .int ya1, .int yb0_9, .int yb1_9, .int yforward, .int yout_9])), (vykey, .inl (cA, 96, .inl ykey_9)), (vytag, .inl (cA, 96, .inl ytag_9)), (vyroomKey, .inl (cA, 96, .inl yroomKey)), (vyroomTag, .inl (cA, 96, .inl yroomTag)), (vycost, .inl (cA, 12, .inl ycost_9))] (none)) ([.ref yo, .int a1] : List Value).toArray s 0 0 A) (F0 m 27 ls [.int s0]) := by
        intro x2 s0 yb0 yb1 yout ykey ytag ycost H locs ls h hP hD hS hl
        unfold mX6_takeB_27 at h
        refine lv_istore_n (lv' := [(3, .int s0), (0, .ref yo), (1, .int a1), (2, .int x2)]) hx hb dX6_takeB_27 rfl hl (by decide) rfl (fun ls hl => ?_)
        refine lv_aload_n hx hb dX6_takeB_28 rfl (lv_at hl 1 rfl) ?_
        refine lv_aload_n hx hb dX6_takeB_29 rfl (lv_at hl 1 rfl) ?_
        refine lv_iload_n hx hb dX6_takeB_30 rfl (lv_at hl 0 rfl) ?_
        obtain ⟨r31, hc31, h⟩ := bd1_some h
        refine ct_V (As := [.int s0]) (rest := [.ref yo]) (st1 := [.int r31, .ref yo]) (wf := [(yo, .inr (6, [.int ylength, .ref vytext, .ref vyrules, .int ymany, .ref vylaid, .ref vykey, .ref vytag, .ref vyroomKey, .ref vyroomTag, .int yruns, .ref vyrunAt, .ref vyrunMany, .int ywaitAt, .int ywaitMany, .ref vycost, .ref vyhadKey, .ref vyhadTag, .ref vyhadAt, .ref vyhadMany, .ref vyhadCost, .int ya0, .int ya1, .int yb0, .int yb1, .int yforward, .int yout])), (vykey, .inl (cA, 96, .inl ykey)), (vytag, .inl (cA, 96, .inl ytag)), (vyroomKey, .inl (cA, 96, .inl yroomKey)), (vyroomTag, .inl (cA, 96, .inl yroomTag)), (vycost, .inl (cA, 12, .inl ycost))]) (kX6_keyB l D cA F yo vytext vyrules vylaid vykey vytag vyroomKey vyroomTag vyrunAt vyrunMany vycost vyhadKey vyhadTag vyhadAt vyhadMany vyhadCost  ylength ymany yruns ywaitAt ywaitMany ya0 ya1 yb0 yb1 yforward yout ykey yroomKey s0 r31 hc31) ⟨hx, hb, hml, hown, hts⟩ (cwV 1 hts gX6_takeB_X6_keyB rfl rfl rfl (by decide +kernel) ⟨Nat.le_of_ble_eq_true rfl, Nat.le_of_ble_eq_true rfl⟩) hG hst hP hD hS hA 6 rfl rfl rfl [0, 1, 3] [2, 4, 5] [3, 4, 0, 5, 1, 2] rfl rfl rfl rfl rfl rfl hl.1 rfl rfl (Nat.le_of_ble_eq_true rfl) dX6_takeB_31 ⟨Nat.zero_le _, Nat.zero_le _⟩ (fun H locs hP hD hS => ?_)
        refine lv_aload_n hx hb dX6_takeB_34 rfl (lv_at hl 1 rfl) ?_
        refine va_get (D := D) (cl := vwCl) (ci := 6) (v := .int yforward) (C := RX6) (T := TX6) (N := 26) hx hb hts hinX6 hown hG.1 hP 0 rfl rfl 24 (by decide) fl144 (fun _ h9 => h9) rfl dX6_takeB_35 ?_
        refine lv_if_eq (tgt := 50) hx hb dX6_takeB_38 (by decide) (fun c38 => ?_) (fun c38 => ?_)
        · have h := i_t c38 h
          refine lv_aload_n hx hb dX6_takeB_50 rfl (lv_at hl 1 rfl) ?_
          refine va_get (D := D) (cl := vwCl) (ci := 6) (v := .ref vyroomTag) (C := RX6) (T := TX6) (N := 26) hx hb hts hinX6 hown hG.1 hP 0 rfl rfl 8 (by decide) fl28 (fun _ h9 => h9) rfl dX6_takeB_51 ?_
          refine lv_iload_n hx hb dX6_takeB_54 rfl (lv_at hl 0 rfl) ?_
          obtain ⟨hi55, h⟩ := ck_some h
          refine va_iald hx hb hG.1 hP 4 0 rfl rfl hi55 dX6_takeB_55 ?_
          exact hmX6_takeB_56 x2 (yroomTag s0.toNatClampNeg) r31 yb0 yb1 yout ykey ytag ycost _ _ _ h hP hD hS (lv_sub hl [1, 2, 3] rfl)
        · have h := i_f c38 h
          refine lv_aload_n hx hb dX6_takeB_41 rfl (lv_at hl 1 rfl) ?_
          refine va_get (D := D) (cl := vwCl) (ci := 6) (v := .ref vytag) (C := RX6) (T := TX6) (N := 26) hx hb hts hinX6 hown hG.1 hP 0 rfl rfl 6 (by decide) fl22 (fun _ h9 => h9) rfl dX6_takeB_42 ?_
          refine lv_iload_n hx hb dX6_takeB_45 rfl (lv_at hl 0 rfl) ?_
          obtain ⟨hi46, h⟩ := ck_some h
          refine va_iald hx hb hG.1 hP 2 0 rfl rfl hi46 dX6_takeB_46 ?_
          refine lv_goto (tgt := 56) hx hb dX6_takeB_47 (by decide) ?_
          exact hmX6_takeB_56 x2 (ytag s0.toNatClampNeg) r31 yb0 yb1 yout ykey ytag ycost _ _ _ h hP hD hS (lv_sub hl [1, 2, 3] rfl)
      intro x2 yb0 yb1 yout ykey ytag ycost H locs ls h hP hD hS hl
      rw [mX6_takeB_2] at h
      refine lv_iload_n hx hb dX6_takeB_2 rfl (lv_at hl 2 rfl) ?_
      refine lv_iload_n hx hb dX6_takeB_3 rfl (lv_at hl 1 rfl) ?_
      refine lv_icmp_ge (tgt := 107) hx hb dX6_takeB_4 (by decide) (fun c4 => ?_) (fun c4 => ?_)
      · have h := i_t c4 h
        cases h
        exact rt_v hx hb hr hlocks hP hD hS dX6_takeB_107
      · have h := i_f c4 h
        refine lv_aload_n hx hb dX6_takeB_7 rfl (lv_at hl 0 rfl) ?_
        refine va_get (D := D) (cl := vwCl) (ci := 6) (v := .int yforward) (C := RX6) (T := TX6) (N := 26) hx hb hts hinX6 hown hG.1 hP 0 rfl rfl 24 (by decide) fl144 (fun _ h9 => h9) rfl dX6_takeB_8 ?_
        refine lv_if_eq (tgt := 21) hx hb dX6_takeB_11 (by decide) (fun c11 => ?_) (fun c11 => ?_)
        · have h := i_t c11 h
          refine lv_aload_n hx hb dX6_takeB_21 rfl (lv_at hl 0 rfl) ?_
          refine va_get (D := D) (cl := vwCl) (ci := 6) (v := .int yb1) (C := RX6) (T := TX6) (N := 26) hx hb hts hinX6 hown hG.1 hP 0 rfl rfl 23 (by decide) fl174 (fun _ h9 => h9) rfl dX6_takeB_22 ?_
          refine lv_iconst (v := (1 : Int32)) hx hb dX6_takeB_25 (by decide) ?_
          refine lv_isub hx hb dX6_takeB_26 ?_
          exact hmX6_takeB_27 x2 (yb1 - (1 : Int32)) yb0 yb1 yout ykey ytag ycost _ _ _ h hP hD hS hl
        · have h := i_f c11 h
          refine lv_aload_n hx hb dX6_takeB_14 rfl (lv_at hl 0 rfl) ?_
          refine va_get (D := D) (cl := vwCl) (ci := 6) (v := .int yb0) (C := RX6) (T := TX6) (N := 26) hx hb hts hinX6 hown hG.1 hP 0 rfl rfl 22 (by decide) fl171 (fun _ h9 => h9) rfl dX6_takeB_15 ?_
          refine lv_goto (tgt := 27) hx hb dX6_takeB_18 (by decide) ?_
          exact hmX6_takeB_27 x2 yb0 yb0 yb1 yout ykey ytag ycost _ _ _ h hP hD hS hl
  unfold mX6_takeB at h
  refine lv_iconst (v := (0 : Int32)) hx hb dX6_takeB_0 (by decide) ?_
  refine lv_istore_n (lv' := [(2, .int (0 : Int32)), (0, .ref yo), (1, .int a1)]) hx hb dX6_takeB_1 rfl hl (by decide) rfl (fun ls hl => ?_)
  exact hmX6_takeB_2 F (0 : Int32) yb0 yb1 yout ykey ytag ycost _ _ _ h hP hD hS (lv_sub hl [1, 2, 0] rfl)
set_option maxHeartbeats 4000000 in
set_option maxRecDepth 100000 in
theorem kX6_goesOn (l : Launch) (D : va_G) (cA : ClassId) (F : Nat) (yo : Nat) (vytext : Nat) (vyrules : Nat) (vylaid : Nat) (vykey : Nat) (vytag : Nat) (vyroomKey : Nat) (vyroomTag : Nat) (vyrunAt : Nat) (vyrunMany : Nat) (vycost : Nat) (vyhadKey : Nat) (vyhadTag : Nat) (vyhadAt : Nat) (vyhadMany : Nat) (vyhadCost : Nat) (ylength : Int32) (ymany : Int32) (yruns : Int32) (ywaitAt : Int32) (ywaitMany : Int32) (ya0 : Int32) (ya1 : Int32) (yb0 : Int32) (yb1 : Int32) (yforward : Int32) (yout : Int32) (r0 : Int32) (h : mX6_goesOn F ya0 ya1 yb0 yb1 = some r0) : Ct l yX6_goesOn wsX6_goesOn ({ frames := 0, cells := 0, slots := 0, locals := 0 }) D cA [.ref yo] [(yo, .inr (6, [.int ylength, .ref vytext, .ref vyrules, .int ymany, .ref vylaid, .ref vykey, .ref vytag, .ref vyroomKey, .ref vyroomTag, .int yruns, .ref vyrunAt, .ref vyrunMany, .int ywaitAt, .int ywaitMany, .ref vycost, .ref vyhadKey, .ref vyhadTag, .ref vyhadAt, .ref vyhadMany, .ref vyhadCost, .int ya0, .int ya1, .int yb0, .int yb1, .int yforward, .int yout]))] [(yo, .inr (6, [.int ylength, .ref vytext, .ref vyrules, .int ymany, .ref vylaid, .ref vykey, .ref vytag, .ref vyroomKey, .ref vyroomTag, .int yruns, .ref vyrunAt, .ref vyrunMany, .int ywaitAt, .int ywaitMany, .ref vycost, .ref vyhadKey, .ref vyhadTag, .ref vyhadAt, .ref vyhadMany, .ref vyhadCost, .int ya0, .int ya1, .int yb0, .int yb1, .int yforward, .int yout]))] (some (.int r0)) := by
  refine Ct.of (cc := cX6_goesOn) (maxL := 1) (ret := (some .boolean)) (by decide) rfl (Nat.le_of_ble_eq_true rfl) ?_
  intro p e s m below meth c A ls hcx hG hst hA hP hD hl
  obtain ⟨hx, hb, hml, hown, hts, hr, hlocks⟩ := id hcx
  have hown : s.vm.findClass RX6 = some m.cls := hown
  have hS : va_S A s.heap s.heap [] := va_S.rf
  have hl : lv_has ls 1 [(0, .ref yo)] := hl
  have hinX6 : ∀ w ∈ u_ws RX6 TX6 26, w ∈ wsX6_goesOn := by decide +kernel
  have fl162 := hts (.fieldLink RX6 162 "RunSorterModel" "a0" "I") (by decide +kernel)
  have fl165 := hts (.fieldLink RX6 165 "RunSorterModel" "a1" "I") (by decide +kernel)
  have fl171 := hts (.fieldLink RX6 171 "RunSorterModel" "b0" "I") (by decide +kernel)
  have fl174 := hts (.fieldLink RX6 174 "RunSorterModel" "b1" "I") (by decide +kernel)
  unfold mX6_goesOn at h
  refine lv_aload_n hx hb dX6_goesOn_0 rfl (lv_at hl 0 rfl) ?_
  refine va_get (D := D) (cl := vwCl) (ci := 6) (v := .int ya0) (C := RX6) (T := TX6) (N := 26) hx hb hts hinX6 hown hG.1 hP 0 rfl rfl 20 (by decide) fl162 (fun _ h9 => h9) rfl dX6_goesOn_1 ?_
  refine lv_aload_n hx hb dX6_goesOn_4 rfl (lv_at hl 0 rfl) ?_
  refine va_get (D := D) (cl := vwCl) (ci := 6) (v := .int ya1) (C := RX6) (T := TX6) (N := 26) hx hb hts hinX6 hown hG.1 hP 0 rfl rfl 21 (by decide) fl165 (fun _ h9 => h9) rfl dX6_goesOn_5 ?_
  refine lv_icmp_ge (tgt := 26) hx hb dX6_goesOn_8 (by decide) (fun c8 => ?_) (fun c8 => ?_)
  · have h := i_t c8 h
    refine lv_iconst (v := (0 : Int32)) hx hb dX6_goesOn_26 (by decide) ?_
    obtain ⟨hz27, h⟩ := bz_some h
    cases h
    exact rt_z hx hb hr hlocks hz27 hP hD hS dX6_goesOn_27
  · have h := i_f c8 h
    refine lv_aload_n hx hb dX6_goesOn_11 rfl (lv_at hl 0 rfl) ?_
    refine va_get (D := D) (cl := vwCl) (ci := 6) (v := .int yb0) (C := RX6) (T := TX6) (N := 26) hx hb hts hinX6 hown hG.1 hP 0 rfl rfl 22 (by decide) fl171 (fun _ h9 => h9) rfl dX6_goesOn_12 ?_
    refine lv_aload_n hx hb dX6_goesOn_15 rfl (lv_at hl 0 rfl) ?_
    refine va_get (D := D) (cl := vwCl) (ci := 6) (v := .int yb1) (C := RX6) (T := TX6) (N := 26) hx hb hts hinX6 hown hG.1 hP 0 rfl rfl 23 (by decide) fl174 (fun _ h9 => h9) rfl dX6_goesOn_16 ?_
    refine lv_icmp_ge (tgt := 26) hx hb dX6_goesOn_19 (by decide) (fun c19 => ?_) (fun c19 => ?_)
    · have h := i_t c19 h
      refine lv_iconst (v := (0 : Int32)) hx hb dX6_goesOn_26 (by decide) ?_
      obtain ⟨hz27, h⟩ := bz_some h
      cases h
      exact rt_z hx hb hr hlocks hz27 hP hD hS dX6_goesOn_27
    · have h := i_f c19 h
      refine lv_iconst (v := (1 : Int32)) hx hb dX6_goesOn_22 (by decide) ?_
      refine lv_goto (tgt := 27) hx hb dX6_goesOn_23 (by decide) ?_
      obtain ⟨hz27, h⟩ := bz_some h
      cases h
      exact rt_z hx hb hr hlocks hz27 hP hD hS dX6_goesOn_27
