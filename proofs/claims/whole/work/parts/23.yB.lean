/-! contracts, by program (wip/whole/gen.py) -/
set_option maxHeartbeats 4000000 in
set_option maxRecDepth 100000 in
theorem kX6_isLess (l : Launch) (D : va_G) (cA : ClassId) (F : Nat) (yo : Nat) (vytext : Nat) (vyrules : Nat) (vylaid : Nat) (vykey : Nat) (vytag : Nat) (vyroomKey : Nat) (vyroomTag : Nat) (vyrunAt : Nat) (vyrunMany : Nat) (vycost : Nat) (vyhadKey : Nat) (vyhadTag : Nat) (vyhadAt : Nat) (vyhadMany : Nat) (vyhadCost : Nat) (ylength : Int32) (ymany : Int32) (yruns : Int32) (ywaitAt : Int32) (ywaitMany : Int32) (ya0 : Int32) (ya1 : Int32) (yb0 : Int32) (yb1 : Int32) (yforward : Int32) (yout : Int32) (yrules : (Nat → Int32)) (a1 : Int32) (a2 : Int32) (r0 : Int32) (h : mX6_isLess F yrules a1 a2 = some r0) : Ct l yX6_isLess wsX6_isLess ({ frames := 1, cells := 0, slots := 0, locals := 20 }) D cA [.ref yo, .int a1, .int a2] [(yo, .inr (6, [.int ylength, .ref vytext, .ref vyrules, .int ymany, .ref vylaid, .ref vykey, .ref vytag, .ref vyroomKey, .ref vyroomTag, .int yruns, .ref vyrunAt, .ref vyrunMany, .int ywaitAt, .int ywaitMany, .ref vycost, .ref vyhadKey, .ref vyhadTag, .ref vyhadAt, .ref vyhadMany, .ref vyhadCost, .int ya0, .int ya1, .int yb0, .int yb1, .int yforward, .int yout])), (vyrules, .inl (cA, 4, .inl yrules))] [(yo, .inr (6, [.int ylength, .ref vytext, .ref vyrules, .int ymany, .ref vylaid, .ref vykey, .ref vytag, .ref vyroomKey, .ref vyroomTag, .int yruns, .ref vyrunAt, .ref vyrunMany, .int ywaitAt, .int ywaitMany, .ref vycost, .ref vyhadKey, .ref vyhadTag, .ref vyhadAt, .ref vyhadMany, .ref vyhadCost, .int ya0, .int ya1, .int yb0, .int yb1, .int yforward, .int yout])), (vyrules, .inl (cA, 4, .inl yrules))] (some (.int r0)) := by
  refine Ct.of (cc := cX6_isLess) (maxL := 3) (ret := (some .boolean)) (by decide) rfl (Nat.le_of_ble_eq_true rfl) ?_
  intro p e s m below meth c A ls hcx hG hst hA hP hD hl
  obtain ⟨hx, hb, hml, hown, hts, hr, hlocks⟩ := id hcx
  have hown : s.vm.findClass RX6 = some m.cls := hown
  have hS : va_S A s.heap s.heap [] := va_S.rf
  have hl : lv_has ls 3 [(0, .ref yo), (1, .int a1), (2, .int a2)] := hl
  have hinX6 : ∀ w ∈ u_ws RX6 TX6 26, w ∈ wsX6_isLess := by decide +kernel
  have fl13 := hts (.fieldLink RX6 13 "RunSorterModel" "rules" "[I") (by decide +kernel)
  unfold mX6_isLess at h
  refine lv_aload_n hx hb dX6_isLess_0 rfl (lv_at hl 0 rfl) ?_
  refine va_get (D := D) (cl := vwCl) (ci := 6) (v := .ref vyrules) (C := RX6) (T := TX6) (N := 26) hx hb hts hinX6 hown hG.1 hP 0 rfl rfl 2 (by decide) fl13 (fun _ h9 => h9) rfl dX6_isLess_1 ?_
  refine lv_iconst (v := (0 : Int32)) hx hb dX6_isLess_4 (by decide) ?_
  obtain ⟨hi5, h⟩ := ck_some h
  refine va_iald hx hb hG.1 hP 1 0 rfl rfl hi5 dX6_isLess_5 ?_
  by_cases c6_0 : (yrules (0 : Int32).toNatClampNeg) = (0 : Int32)
  · have h := i_t c6_0 h
    refine lv_tableIn (tgt := 32) hx hb dX6_isLess_6 (by rw [c6_0]; decide) (by rw [c6_0]; decide) (by rw [c6_0]; rfl) (by decide) ?_
    refine lv_iload_n hx hb dX6_isLess_32 rfl (lv_at hl 1 rfl) ?_
    refine lv_iload_n hx hb dX6_isLess_33 rfl (lv_at hl 2 rfl) ?_
    refine lv_icmp_ge (tgt := 41) hx hb dX6_isLess_34 (by decide) (fun c34 => ?_) (fun c34 => ?_)
    · have h := i_t c34 h
      refine lv_iconst (v := (0 : Int32)) hx hb dX6_isLess_41 (by decide) ?_
      obtain ⟨hz42, h⟩ := bz_some h
      cases h
      exact rt_z hx hb hr hlocks hz42 hP hD hS dX6_isLess_42
    · have h := i_f c34 h
      refine lv_iconst (v := (1 : Int32)) hx hb dX6_isLess_37 (by decide) ?_
      refine lv_goto (tgt := 42) hx hb dX6_isLess_38 (by decide) ?_
      obtain ⟨hz42, h⟩ := bz_some h
      cases h
      exact rt_z hx hb hr hlocks hz42 hP hD hS dX6_isLess_42
  have h := i_f c6_0 h
  by_cases c6_1 : (yrules (0 : Int32).toNatClampNeg) = (1 : Int32)
  · have h := i_t c6_1 h
    refine lv_tableIn (tgt := 43) hx hb dX6_isLess_6 (by rw [c6_1]; decide) (by rw [c6_1]; decide) (by rw [c6_1]; rfl) (by decide) ?_
    refine lv_iload_n hx hb dX6_isLess_43 rfl (lv_at hl 1 rfl) ?_
    refine lv_iload_n hx hb dX6_isLess_44 rfl (lv_at hl 2 rfl) ?_
    refine lv_icmp_le (tgt := 52) hx hb dX6_isLess_45 (by decide) (fun c45 => ?_) (fun c45 => ?_)
    · have h := i_t c45 h
      refine lv_iconst (v := (0 : Int32)) hx hb dX6_isLess_52 (by decide) ?_
      obtain ⟨hz53, h⟩ := bz_some h
      cases h
      exact rt_z hx hb hr hlocks hz53 hP hD hS dX6_isLess_53
    · have h := i_f c45 h
      refine lv_iconst (v := (1 : Int32)) hx hb dX6_isLess_48 (by decide) ?_
      refine lv_goto (tgt := 53) hx hb dX6_isLess_49 (by decide) ?_
      obtain ⟨hz53, h⟩ := bz_some h
      cases h
      exact rt_z hx hb hr hlocks hz53 hP hD hS dX6_isLess_53
  have h := i_f c6_1 h
  by_cases c6_2 : (yrules (0 : Int32).toNatClampNeg) = (2 : Int32)
  · have h := i_t c6_2 h
    refine lv_tableIn (tgt := 54) hx hb dX6_isLess_6 (by rw [c6_2]; decide) (by rw [c6_2]; decide) (by rw [c6_2]; rfl) (by decide) ?_
    refine lv_iload_n hx hb dX6_isLess_54 rfl (lv_at hl 1 rfl) ?_
    refine lv_iconst (v := (5 : Int32)) hx hb dX6_isLess_55 (by decide) ?_
    refine lv_irem hx hb dX6_isLess_56 (by decide) ?_
    refine lv_iload_n hx hb dX6_isLess_57 rfl (lv_at hl 2 rfl) ?_
    refine lv_iconst (v := (5 : Int32)) hx hb dX6_isLess_58 (by decide) ?_
    refine lv_irem hx hb dX6_isLess_59 (by decide) ?_
    refine lv_icmp_ge (tgt := 67) hx hb dX6_isLess_60 (by decide) (fun c60 => ?_) (fun c60 => ?_)
    · have h := i_t c60 h
      refine lv_iconst (v := (0 : Int32)) hx hb dX6_isLess_67 (by decide) ?_
      obtain ⟨hz68, h⟩ := bz_some h
      cases h
      exact rt_z hx hb hr hlocks hz68 hP hD hS dX6_isLess_68
    · have h := i_f c60 h
      refine lv_iconst (v := (1 : Int32)) hx hb dX6_isLess_63 (by decide) ?_
      refine lv_goto (tgt := 68) hx hb dX6_isLess_64 (by decide) ?_
      obtain ⟨hz68, h⟩ := bz_some h
      cases h
      exact rt_z hx hb hr hlocks hz68 hP hD hS dX6_isLess_68
  have h := i_f c6_2 h
  have q6_0 := lv_neT c6_0 (a := 0) (by decide)
  have q6_1 := lv_neT c6_1 (a := 1) (by decide)
  have q6_2 := lv_neT c6_2 (a := 2) (by decide)
  refine lv_tableOut (tgt := 69) hx hb dX6_isLess_6 (by omega) (by decide) ?_
  refine lv_iload_n hx hb dX6_isLess_69 rfl (lv_at hl 1 rfl) ?_
  obtain ⟨r70, hc70, h⟩ := bd1_some h
  refine ct_S (As := [.int a1]) (rest := []) (st1 := [.int r70]) (wf := [(yo, .inr (6, [.int ylength, .ref vytext, .ref vyrules, .int ymany, .ref vylaid, .ref vykey, .ref vytag, .ref vyroomKey, .ref vyroomTag, .int yruns, .ref vyrunAt, .ref vyrunMany, .int ywaitAt, .int ywaitMany, .ref vycost, .ref vyhadKey, .ref vyhadTag, .ref vyhadAt, .ref vyhadMany, .ref vyhadCost, .int ya0, .int ya1, .int yb0, .int yb1, .int yforward, .int yout])), (vyrules, .inl (cA, 4, .inl yrules))]) (kX6_isVowel l D cA F    a1 r70 hc70) ⟨hx, hb, hml, hown, hts⟩ (va_cwS 1 hts gX6_isLess_X6_isVowel rfl rfl rfl (by decide +kernel) ⟨Nat.le_of_ble_eq_true rfl, Nat.le_of_ble_eq_true rfl⟩) hG hst hP hD hS hA [] [0, 1] [0, 1] rfl rfl rfl rfl rfl rfl hl.1 rfl rfl (Nat.le_of_ble_eq_true rfl) dX6_isLess_70 ⟨Nat.zero_le _, Nat.zero_le _⟩ (fun H locs hP hD hS => ?_)
  refine lv_if_eq (tgt := 87) hx hb dX6_isLess_73 (by decide) (fun c73 => ?_) (fun c73 => ?_)
  · have h := i_t c73 h
    refine lv_iconst (v := (0 : Int32)) hx hb dX6_isLess_87 (by decide) ?_
    obtain ⟨hz88, h⟩ := bz_some h
    cases h
    exact rt_z hx hb hr hlocks hz88 hP hD hS dX6_isLess_88
  · have h := i_f c73 h
    refine lv_iload_n hx hb dX6_isLess_76 rfl (lv_at hl 2 rfl) ?_
    obtain ⟨r77, hc77, h⟩ := bd1_some h
    refine ct_S (As := [.int a2]) (rest := []) (st1 := [.int r77]) (wf := [(yo, .inr (6, [.int ylength, .ref vytext, .ref vyrules, .int ymany, .ref vylaid, .ref vykey, .ref vytag, .ref vyroomKey, .ref vyroomTag, .int yruns, .ref vyrunAt, .ref vyrunMany, .int ywaitAt, .int ywaitMany, .ref vycost, .ref vyhadKey, .ref vyhadTag, .ref vyhadAt, .ref vyhadMany, .ref vyhadCost, .int ya0, .int ya1, .int yb0, .int yb1, .int yforward, .int yout])), (vyrules, .inl (cA, 4, .inl yrules))]) (kX6_isVowel l D cA F    a2 r77 hc77) ⟨hx, hb, hml, hown, hts⟩ (va_cwS 1 hts gX6_isLess_X6_isVowel rfl rfl rfl (by decide +kernel) ⟨Nat.le_of_ble_eq_true rfl, Nat.le_of_ble_eq_true rfl⟩) hG hst hP hD hS hA [] [0, 1] [0, 1] rfl rfl rfl rfl rfl rfl hl.1 rfl rfl (Nat.le_of_ble_eq_true rfl) dX6_isLess_77 ⟨Nat.zero_le _, Nat.zero_le _⟩ (fun H locs hP hD hS => ?_)
    refine lv_if_ne (tgt := 87) hx hb dX6_isLess_80 (by decide) (fun c80 => ?_) (fun c80 => ?_)
    · have h := i_f c80 h
      refine lv_iconst (v := (0 : Int32)) hx hb dX6_isLess_87 (by decide) ?_
      obtain ⟨hz88, h⟩ := bz_some h
      cases h
      exact rt_z hx hb hr hlocks hz88 hP hD hS dX6_isLess_88
    · have h := i_t c80 h
      refine lv_iconst (v := (1 : Int32)) hx hb dX6_isLess_83 (by decide) ?_
      refine lv_goto (tgt := 88) hx hb dX6_isLess_84 (by decide) ?_
      obtain ⟨hz88, h⟩ := bz_some h
      cases h
      exact rt_z hx hb hr hlocks hz88 hP hD hS dX6_isLess_88
set_option maxHeartbeats 4000000 in
set_option maxRecDepth 100000 in
theorem kX6_tests (l : Launch) (D : va_G) (cA : ClassId) (F : Nat) (yo : Nat) (vytext : Nat) (vyrules : Nat) (vylaid : Nat) (vykey : Nat) (vytag : Nat) (vyroomKey : Nat) (vyroomTag : Nat) (vyrunAt : Nat) (vyrunMany : Nat) (vycost : Nat) (vyhadKey : Nat) (vyhadTag : Nat) (vyhadAt : Nat) (vyhadMany : Nat) (vyhadCost : Nat) (ylength : Int32) (ymany : Int32) (yruns : Int32) (ywaitAt : Int32) (ywaitMany : Int32) (ya0 : Int32) (ya1 : Int32) (yb0 : Int32) (yb1 : Int32) (yforward : Int32) (yout : Int32) (yrules : (Nat → Int32)) (ycost : (Nat → Int32)) (a1 : Int32) (a2 : Int32) (r0 : Int32) (ycost_9 : (Nat → Int32)) (h : mX6_tests F yrules ycost a1 a2 = some (r0, ycost_9)) : Ct l yX6_tests wsX6_tests ({ frames := 2, cells := 0, slots := 0, locals := 42 }) D cA [.ref yo, .int a1, .int a2] [(yo, .inr (6, [.int ylength, .ref vytext, .ref vyrules, .int ymany, .ref vylaid, .ref vykey, .ref vytag, .ref vyroomKey, .ref vyroomTag, .int yruns, .ref vyrunAt, .ref vyrunMany, .int ywaitAt, .int ywaitMany, .ref vycost, .ref vyhadKey, .ref vyhadTag, .ref vyhadAt, .ref vyhadMany, .ref vyhadCost, .int ya0, .int ya1, .int yb0, .int yb1, .int yforward, .int yout])), (vyrules, .inl (cA, 4, .inl yrules)), (vycost, .inl (cA, 12, .inl ycost))] [(yo, .inr (6, [.int ylength, .ref vytext, .ref vyrules, .int ymany, .ref vylaid, .ref vykey, .ref vytag, .ref vyroomKey, .ref vyroomTag, .int yruns, .ref vyrunAt, .ref vyrunMany, .int ywaitAt, .int ywaitMany, .ref vycost, .ref vyhadKey, .ref vyhadTag, .ref vyhadAt, .ref vyhadMany, .ref vyhadCost, .int ya0, .int ya1, .int yb0, .int yb1, .int yforward, .int yout])), (vyrules, .inl (cA, 4, .inl yrules)), (vycost, .inl (cA, 12, .inl ycost_9))] (some (.int r0)) := by
  refine Ct.of (cc := cX6_tests) (maxL := 3) (ret := (some .boolean)) (by decide) rfl (Nat.le_of_ble_eq_true rfl) ?_
  intro p e s m below meth c A ls hcx hG hst hA hP hD hl
  obtain ⟨hx, hb, hml, hown, hts, hr, hlocks⟩ := id hcx
  have hown : s.vm.findClass RX6 = some m.cls := hown
  have hS : va_S A s.heap s.heap [] := va_S.rf
  have hl : lv_has ls 3 [(0, .ref yo), (1, .int a1), (2, .int a2)] := hl
  have hinX6 : ∀ w ∈ u_ws RX6 TX6 26, w ∈ wsX6_tests := by decide +kernel
  have fl37 := hts (.fieldLink RX6 37 "RunSorterModel" "cost" "[I") (by decide +kernel)
  unfold mX6_tests at h
  refine lv_aload_n hx hb dX6_tests_0 rfl (lv_at hl 0 rfl) ?_
  refine va_get (D := D) (cl := vwCl) (ci := 6) (v := .ref vycost) (C := RX6) (T := TX6) (N := 26) hx hb hts hinX6 hown hG.1 hP 0 rfl rfl 14 (by decide) fl37 (fun _ h9 => h9) rfl dX6_tests_1 ?_
  refine lv_iconst (v := (0 : Int32)) hx hb dX6_tests_4 (by decide) ?_
  refine lv_dup2_11 hx hb dX6_tests_5 rfl rfl ?_
  obtain ⟨hi6, h⟩ := ck_some h
  refine va_iald hx hb hG.1 hP 2 0 rfl rfl hi6 dX6_tests_6 ?_
  refine lv_iconst (v := (1 : Int32)) hx hb dX6_tests_7 (by decide) ?_
  refine lv_iadd hx hb dX6_tests_8 ?_
  obtain ⟨hi9, h⟩ := ck_some h
  refine va_iast hx hb hG.1 hP hD hS 2 0 rfl rfl hi9 dX6_tests_9 (fun H locs hP hD hS => ?_)
  have hP : va_P D vwCl [(yo, .inr (6, [.int ylength, .ref vytext, .ref vyrules, .int ymany, .ref vylaid, .ref vykey, .ref vytag, .ref vyroomKey, .ref vyroomTag, .int yruns, .ref vyrunAt, .ref vyrunMany, .int ywaitAt, .int ywaitMany, .ref vycost, .ref vyhadKey, .ref vyhadTag, .ref vyhadAt, .ref vyhadMany, .ref vyhadCost, .int ya0, .int ya1, .int yb0, .int yb1, .int yforward, .int yout])), (vyrules, .inl (cA, 4, .inl yrules)), (vycost, .inl (cA, 12, .inl (upd ycost (0 : Int32).toNatClampNeg ((ycost (0 : Int32).toNatClampNeg) + (1 : Int32)))))] H := hP
  have hD : va_D A [(yo, .inr (6, [.int ylength, .ref vytext, .ref vyrules, .int ymany, .ref vylaid, .ref vykey, .ref vytag, .ref vyroomKey, .ref vyroomTag, .int yruns, .ref vyrunAt, .ref vyrunMany, .int ywaitAt, .int ywaitMany, .ref vycost, .ref vyhadKey, .ref vyhadTag, .ref vyhadAt, .ref vyhadMany, .ref vyhadCost, .int ya0, .int ya1, .int yb0, .int yb1, .int yforward, .int yout])), (vyrules, .inl (cA, 4, .inl yrules)), (vycost, .inl (cA, 12, .inl (upd ycost (0 : Int32).toNatClampNeg ((ycost (0 : Int32).toNatClampNeg) + (1 : Int32)))))] := hD
  refine lv_aload_n hx hb dX6_tests_10 rfl (lv_at hl 0 rfl) ?_
  refine lv_iload_n hx hb dX6_tests_11 rfl (lv_at hl 1 rfl) ?_
  refine lv_iload_n hx hb dX6_tests_12 rfl (lv_at hl 2 rfl) ?_
  obtain ⟨r13, hc13, h⟩ := bd1_some h
  refine ct_V (As := [.int a1, .int a2]) (rest := []) (st1 := [.int r13]) (wf := [(yo, .inr (6, [.int ylength, .ref vytext, .ref vyrules, .int ymany, .ref vylaid, .ref vykey, .ref vytag, .ref vyroomKey, .ref vyroomTag, .int yruns, .ref vyrunAt, .ref vyrunMany, .int ywaitAt, .int ywaitMany, .ref vycost, .ref vyhadKey, .ref vyhadTag, .ref vyhadAt, .ref vyhadMany, .ref vyhadCost, .int ya0, .int ya1, .int yb0, .int yb1, .int yforward, .int yout])), (vyrules, .inl (cA, 4, .inl yrules)), (vycost, .inl (cA, 12, .inl (upd ycost (0 : Int32).toNatClampNeg ((ycost (0 : Int32).toNatClampNeg) + (1 : Int32)))))]) (kX6_isLess l D cA F yo vytext vyrules vylaid vykey vytag vyroomKey vyroomTag vyrunAt vyrunMany vycost vyhadKey vyhadTag vyhadAt vyhadMany vyhadCost  ylength ymany yruns ywaitAt ywaitMany ya0 ya1 yb0 yb1 yforward yout yrules a1 a2 r13 hc13) ⟨hx, hb, hml, hown, hts⟩ (cwV 2 hts gX6_tests_X6_isLess rfl rfl rfl (by decide +kernel) ⟨Nat.le_of_ble_eq_true rfl, Nat.le_of_ble_eq_true rfl⟩) hG hst hP hD hS hA 6 rfl rfl rfl [0, 1] [2] [1, 2, 0] rfl rfl rfl rfl rfl rfl hl.1 rfl rfl (Nat.le_of_ble_eq_true rfl) dX6_tests_13 ⟨Nat.zero_le _, Nat.zero_le _⟩ (fun H locs hP hD hS => ?_)
  obtain ⟨hz16, h⟩ := bz_some h
  cases h
  exact rt_z hx hb hr hlocks hz16 hP hD hS dX6_tests_16
set_option maxHeartbeats 4000000 in
set_option maxRecDepth 100000 in
theorem kX6_less (l : Launch) (D : va_G) (cA : ClassId) (F : Nat) (yo : Nat) (vytext : Nat) (vyrules : Nat) (vylaid : Nat) (vykey : Nat) (vytag : Nat) (vyroomKey : Nat) (vyroomTag : Nat) (vyrunAt : Nat) (vyrunMany : Nat) (vycost : Nat) (vyhadKey : Nat) (vyhadTag : Nat) (vyhadAt : Nat) (vyhadMany : Nat) (vyhadCost : Nat) (ylength : Int32) (ymany : Int32) (yruns : Int32) (ywaitAt : Int32) (ywaitMany : Int32) (ya0 : Int32) (ya1 : Int32) (yb0 : Int32) (yb1 : Int32) (yforward : Int32) (yout : Int32) (yrules : (Nat → Int32)) (a1 : Int32) (a2 : Int32) (r0 : Int32) (h : mX6_less F yrules a1 a2 = some r0) : Ct l yX6_less wsX6_less ({ frames := 2, cells := 0, slots := 0, locals := 42 }) D cA [.ref yo, .int a1, .int a2] [(yo, .inr (6, [.int ylength, .ref vytext, .ref vyrules, .int ymany, .ref vylaid, .ref vykey, .ref vytag, .ref vyroomKey, .ref vyroomTag, .int yruns, .ref vyrunAt, .ref vyrunMany, .int ywaitAt, .int ywaitMany, .ref vycost, .ref vyhadKey, .ref vyhadTag, .ref vyhadAt, .ref vyhadMany, .ref vyhadCost, .int ya0, .int ya1, .int yb0, .int yb1, .int yforward, .int yout])), (vyrules, .inl (cA, 4, .inl yrules))] [(yo, .inr (6, [.int ylength, .ref vytext, .ref vyrules, .int ymany, .ref vylaid, .ref vykey, .ref vytag, .ref vyroomKey, .ref vyroomTag, .int yruns, .ref vyrunAt, .ref vyrunMany, .int ywaitAt, .int ywaitMany, .ref vycost, .ref vyhadKey, .ref vyhadTag, .ref vyhadAt, .ref vyhadMany, .ref vyhadCost, .int ya0, .int ya1, .int yb0, .int yb1, .int yforward, .int yout])), (vyrules, .inl (cA, 4, .inl yrules))] (some (.int r0)) := by
  refine Ct.of (cc := cX6_less) (maxL := 3) (ret := (some .int)) (by decide) rfl (Nat.le_of_ble_eq_true rfl) ?_
  intro p e s m below meth c A ls hcx hG hst hA hP hD hl
  obtain ⟨hx, hb, hml, hown, hts, hr, hlocks⟩ := id hcx
  have hown : s.vm.findClass RX6 = some m.cls := hown
  have hS : va_S A s.heap s.heap [] := va_S.rf
  have hl : lv_has ls 3 [(0, .ref yo), (1, .int a1), (2, .int a2)] := hl
  unfold mX6_less at h
  refine lv_iload_n hx hb dX6_less_0 rfl (lv_at hl 1 rfl) ?_
  refine lv_i2l hx hb dX6_less_1 rfl ?_
  refine lv_lconst (v := (0 : Int64)) hx hb dX6_less_2 (by decide) ?_
  refine lv_ldc2 (v := (25 : Int64)) hx hb hown (hts (.constantLong RX6 100 (25)) (by decide +kernel)) dX6_less_3 ?_
  obtain ⟨r6, hc6, h⟩ := bd1_some h
  refine ct_S (As := [.long a1.toInt64, .long (0 : Int64), .long (25 : Int64)]) (rest := []) (st1 := [.int r6]) (wf := [(yo, .inr (6, [.int ylength, .ref vytext, .ref vyrules, .int ymany, .ref vylaid, .ref vykey, .ref vytag, .ref vyroomKey, .ref vyroomTag, .int yruns, .ref vyrunAt, .ref vyrunMany, .int ywaitAt, .int ywaitMany, .ref vycost, .ref vyhadKey, .ref vyhadTag, .ref vyhadAt, .ref vyhadMany, .ref vyhadCost, .int ya0, .int ya1, .int yb0, .int yb1, .int yforward, .int yout])), (vyrules, .inl (cA, 4, .inl yrules))]) (kX6_in l D cA F    a1.toInt64 (0 : Int64) (25 : Int64) r6 hc6) ⟨hx, hb, hml, hown, hts⟩ (va_cwS 3 hts gX6_less_X6_in rfl rfl rfl (by decide +kernel) ⟨Nat.le_of_ble_eq_true rfl, Nat.le_of_ble_eq_true rfl⟩) hG hst hP hD hS hA [] [0, 1] [0, 1] rfl rfl rfl rfl rfl rfl hl.1 rfl rfl (Nat.le_of_ble_eq_true rfl) dX6_less_6 ⟨Nat.zero_le _, Nat.zero_le _⟩ (fun H locs hP hD hS => ?_)
  refine lv_if_eq (tgt := 41) hx hb dX6_less_9 (by decide) (fun c9 => ?_) (fun c9 => ?_)
  · have h := i_t c9 h
    refine lv_iconst (v := (-1 : Int32)) hx hb dX6_less_41 (by decide) ?_
    cases h
    exact rt_i hx hb hr hlocks hP hD hS dX6_less_42
  · have h := i_f c9 h
    refine lv_iload_n hx hb dX6_less_12 rfl (lv_at hl 2 rfl) ?_
    refine lv_i2l hx hb dX6_less_13 rfl ?_
    refine lv_lconst (v := (0 : Int64)) hx hb dX6_less_14 (by decide) ?_
    refine lv_ldc2 (v := (25 : Int64)) hx hb hown (hts (.constantLong RX6 100 (25)) (by decide +kernel)) dX6_less_15 ?_
    obtain ⟨r18, hc18, h⟩ := bd1_some h
    refine ct_S (As := [.long a2.toInt64, .long (0 : Int64), .long (25 : Int64)]) (rest := []) (st1 := [.int r18]) (wf := [(yo, .inr (6, [.int ylength, .ref vytext, .ref vyrules, .int ymany, .ref vylaid, .ref vykey, .ref vytag, .ref vyroomKey, .ref vyroomTag, .int yruns, .ref vyrunAt, .ref vyrunMany, .int ywaitAt, .int ywaitMany, .ref vycost, .ref vyhadKey, .ref vyhadTag, .ref vyhadAt, .ref vyhadMany, .ref vyhadCost, .int ya0, .int ya1, .int yb0, .int yb1, .int yforward, .int yout])), (vyrules, .inl (cA, 4, .inl yrules))]) (kX6_in l D cA F    a2.toInt64 (0 : Int64) (25 : Int64) r18 hc18) ⟨hx, hb, hml, hown, hts⟩ (va_cwS 3 hts gX6_less_X6_in rfl rfl rfl (by decide +kernel) ⟨Nat.le_of_ble_eq_true rfl, Nat.le_of_ble_eq_true rfl⟩) hG hst hP hD hS hA [] [0, 1] [0, 1] rfl rfl rfl rfl rfl rfl hl.1 rfl rfl (Nat.le_of_ble_eq_true rfl) dX6_less_18 ⟨Nat.zero_le _, Nat.zero_le _⟩ (fun H locs hP hD hS => ?_)
    refine lv_if_eq (tgt := 41) hx hb dX6_less_21 (by decide) (fun c21 => ?_) (fun c21 => ?_)
    · have h := i_t c21 h
      refine lv_iconst (v := (-1 : Int32)) hx hb dX6_less_41 (by decide) ?_
      cases h
      exact rt_i hx hb hr hlocks hP hD hS dX6_less_42
    · have h := i_f c21 h
      refine lv_aload_n hx hb dX6_less_24 rfl (lv_at hl 0 rfl) ?_
      refine lv_iload_n hx hb dX6_less_25 rfl (lv_at hl 1 rfl) ?_
      refine lv_iload_n hx hb dX6_less_26 rfl (lv_at hl 2 rfl) ?_
      obtain ⟨r27, hc27, h⟩ := bd1_some h
      refine ct_V (As := [.int a1, .int a2]) (rest := []) (st1 := [.int r27]) (wf := [(yo, .inr (6, [.int ylength, .ref vytext, .ref vyrules, .int ymany, .ref vylaid, .ref vykey, .ref vytag, .ref vyroomKey, .ref vyroomTag, .int yruns, .ref vyrunAt, .ref vyrunMany, .int ywaitAt, .int ywaitMany, .ref vycost, .ref vyhadKey, .ref vyhadTag, .ref vyhadAt, .ref vyhadMany, .ref vyhadCost, .int ya0, .int ya1, .int yb0, .int yb1, .int yforward, .int yout])), (vyrules, .inl (cA, 4, .inl yrules))]) (kX6_isLess l D cA F yo vytext vyrules vylaid vykey vytag vyroomKey vyroomTag vyrunAt vyrunMany vycost vyhadKey vyhadTag vyhadAt vyhadMany vyhadCost  ylength ymany yruns ywaitAt ywaitMany ya0 ya1 yb0 yb1 yforward yout yrules a1 a2 r27 hc27) ⟨hx, hb, hml, hown, hts⟩ (cwV 2 hts gX6_less_X6_isLess rfl rfl rfl (by decide +kernel) ⟨Nat.le_of_ble_eq_true rfl, Nat.le_of_ble_eq_true rfl⟩) hG hst hP hD hS hA 6 rfl rfl rfl [0, 1] [] [0, 1] rfl rfl rfl rfl rfl rfl hl.1 rfl rfl (Nat.le_of_ble_eq_true rfl) dX6_less_27 ⟨Nat.zero_le _, Nat.zero_le _⟩ (fun H locs hP hD hS => ?_)
      refine lv_if_eq (tgt := 37) hx hb dX6_less_30 (by decide) (fun c30 => ?_) (fun c30 => ?_)
      · have h := i_t c30 h
        refine lv_iconst (v := (0 : Int32)) hx hb dX6_less_37 (by decide) ?_
        refine lv_goto (tgt := 42) hx hb dX6_less_38 (by decide) ?_
        cases h
        exact rt_i hx hb hr hlocks hP hD hS dX6_less_42
      · have h := i_f c30 h
        refine lv_iconst (v := (1 : Int32)) hx hb dX6_less_33 (by decide) ?_
        refine lv_goto (tgt := 42) hx hb dX6_less_34 (by decide) ?_
        cases h
        exact rt_i hx hb hr hlocks hP hD hS dX6_less_42
set_option maxHeartbeats 4000000 in
set_option maxRecDepth 100000 in
theorem kX6_inRuns (l : Launch) (D : va_G) (cA : ClassId) (F : Nat) (yo : Nat) (vytext : Nat) (vyrules : Nat) (vylaid : Nat) (vykey : Nat) (vytag : Nat) (vyroomKey : Nat) (vyroomTag : Nat) (vyrunAt : Nat) (vyrunMany : Nat) (vycost : Nat) (vyhadKey : Nat) (vyhadTag : Nat) (vyhadAt : Nat) (vyhadMany : Nat) (vyhadCost : Nat) (ylength : Int32) (ymany : Int32) (yruns : Int32) (ywaitAt : Int32) (ywaitMany : Int32) (ya0 : Int32) (ya1 : Int32) (yb0 : Int32) (yb1 : Int32) (yforward : Int32) (yout : Int32) (yrunMany : (Nat → Int32)) (r0 : Int32) (h : mX6_inRuns F yruns ywaitMany yrunMany = some r0) : Ct l yX6_inRuns wsX6_inRuns ({ frames := 0, cells := 0, slots := 0, locals := 0 }) D cA [.ref yo] [(yo, .inr (6, [.int ylength, .ref vytext, .ref vyrules, .int ymany, .ref vylaid, .ref vykey, .ref vytag, .ref vyroomKey, .ref vyroomTag, .int yruns, .ref vyrunAt, .ref vyrunMany, .int ywaitAt, .int ywaitMany, .ref vycost, .ref vyhadKey, .ref vyhadTag, .ref vyhadAt, .ref vyhadMany, .ref vyhadCost, .int ya0, .int ya1, .int yb0, .int yb1, .int yforward, .int yout])), (vyrunMany, .inl (cA, 96, .inl yrunMany))] [(yo, .inr (6, [.int ylength, .ref vytext, .ref vyrules, .int ymany, .ref vylaid, .ref vykey, .ref vytag, .ref vyroomKey, .ref vyroomTag, .int yruns, .ref vyrunAt, .ref vyrunMany, .int ywaitAt, .int ywaitMany, .ref vycost, .ref vyhadKey, .ref vyhadTag, .ref vyhadAt, .ref vyhadMany, .ref vyhadCost, .int ya0, .int ya1, .int yb0, .int yb1, .int yforward, .int yout])), (vyrunMany, .inl (cA, 96, .inl yrunMany))] (some (.int r0)) := by
  refine Ct.of (cc := cX6_inRuns) (maxL := 3) (ret := (some .int)) (by decide) rfl (Nat.le_of_ble_eq_true rfl) ?_
  intro p e s m below meth c A ls hcx hG hst hA hP hD hl
  obtain ⟨hx, hb, hml, hown, hts, hr, hlocks⟩ := id hcx
  have hown : s.vm.findClass RX6 = some m.cls := hown
  have hS : va_S A s.heap s.heap [] := va_S.rf
  have hl : lv_has ls 3 [(0, .ref yo)] := hl
  have hinX6 : ∀ w ∈ u_ws RX6 TX6 26, w ∈ wsX6_inRuns := by decide +kernel
  have fl87 := hts (.fieldLink RX6 87 "RunSorterModel" "waitMany" "I") (by decide +kernel)
  have fl81 := hts (.fieldLink RX6 81 "RunSorterModel" "runs" "I") (by decide +kernel)
  have fl34 := hts (.fieldLink RX6 34 "RunSorterModel" "runMany" "[I") (by decide +kernel)
  have hmX6_inRuns_7 : ∀ (n7 : Nat) (x1 : Int32) (x2 : Int32) (H : Heap) (locs : List Loc) (ls : Array Slot), mX6_inRuns_7 F yruns yrunMany n7 x1 x2 = some r0 → va_P D vwCl [(yo, .inr (6, [.int ylength, .ref vytext, .ref vyrules, .int ymany, .ref vylaid, .ref vykey, .ref vytag, .ref vyroomKey, .ref vyroomTag, .int yruns, .ref vyrunAt, .ref vyrunMany, .int ywaitAt, .int ywaitMany, .ref vycost, .ref vyhadKey, .ref vyhadTag, .ref vyhadAt, .ref vyhadMany, .ref vyhadCost, .int ya0, .int ya1, .int yb0, .int yb1, .int yforward, .int yout])), (vyrunMany, .inl (cA, 96, .inl yrunMany))] H → va_D A [(yo, .inr (6, [.int ylength, .ref vytext, .ref vyrules, .int ymany, .ref vylaid, .ref vykey, .ref vytag, .ref vyroomKey, .ref vyroomTag, .int yruns, .ref vyrunAt, .ref vyrunMany, .int ywaitAt, .int ywaitMany, .ref vycost, .ref vyhadKey, .ref vyhadTag, .ref vyhadAt, .ref vyhadMany, .ref vyhadCost, .int ya0, .int ya1, .int yb0, .int yb1, .int yforward, .int yout])), (vyrunMany, .inl (cA, 96, .inl yrunMany))] → va_S A s.heap H locs → lv_has ls 3 [(0, .ref yo), (1, .int x1), (2, .int x2)] → W p l e ({ frames := 0, cells := 0, slots := 0, locals := 0 }) s m ([.ref yo] : List Value).toArray below meth c H locs 0 0 (MQ below (Qw D A [(yo, .inr (6, [.int ylength, .ref vytext, .ref vyrules, .int ymany, .ref vylaid, .ref vykey, .ref vytag, .ref vyroomKey, .ref vyroomTag, .int yruns, .ref vyrunAt, .ref vyrunMany, .int ywaitAt, .int ywaitMany, .ref vycost, .ref vyhadKey, .ref vyhadTag, .ref vyhadAt, .ref vyhadMany, .ref vyhadCost, .int ya0, .int ya1, .int yb0, .int yb1, .int yforward, .int yout])), (vyrunMany, .inl (cA, 96, .inl yrunMany))] (some (.int r0))) ([.ref yo] : List Value).toArray s 0 0 A) (F0 m 7 ls []) := by
    intro n7
    induction n7 with
    | zero => intro x1 x2 H locs ls h; exact (no_some h).elim
    | succ n7 ih7 =>
      intro x1 x2 H locs ls h hP hD hS hl
      rw [mX6_inRuns_7] at h
      refine lv_iload_n hx hb dX6_inRuns_7 rfl (lv_at hl 2 rfl) ?_
      refine lv_aload_n hx hb dX6_inRuns_8 rfl (lv_at hl 0 rfl) ?_
      refine va_get (D := D) (cl := vwCl) (ci := 6) (v := .int yruns) (C := RX6) (T := TX6) (N := 26) hx hb hts hinX6 hown hG.1 hP 0 rfl rfl 9 (by decide) fl81 (fun _ h9 => h9) rfl dX6_inRuns_9 ?_
      refine lv_icmp_ge (tgt := 30) hx hb dX6_inRuns_12 (by decide) (fun c12 => ?_) (fun c12 => ?_)
      · have h := i_t c12 h
        refine lv_iload_n hx hb dX6_inRuns_30 rfl (lv_at hl 1 rfl) ?_
        cases h
        exact rt_i hx hb hr hlocks hP hD hS dX6_inRuns_31
      · have h := i_f c12 h
        refine lv_iload_n hx hb dX6_inRuns_15 rfl (lv_at hl 1 rfl) ?_
        refine lv_aload_n hx hb dX6_inRuns_16 rfl (lv_at hl 0 rfl) ?_
        refine va_get (D := D) (cl := vwCl) (ci := 6) (v := .ref vyrunMany) (C := RX6) (T := TX6) (N := 26) hx hb hts hinX6 hown hG.1 hP 0 rfl rfl 11 (by decide) fl34 (fun _ h9 => h9) rfl dX6_inRuns_17 ?_
        refine lv_iload_n hx hb dX6_inRuns_20 rfl (lv_at hl 2 rfl) ?_
        obtain ⟨hi21, h⟩ := ck_some h
        refine va_iald hx hb hG.1 hP 1 0 rfl rfl hi21 dX6_inRuns_21 ?_
        refine lv_iadd hx hb dX6_inRuns_22 ?_
        refine lv_istore_n (lv' := [(1, .int (x1 + (yrunMany x2.toNatClampNeg))), (0, .ref yo), (2, .int x2)]) hx hb dX6_inRuns_23 rfl hl (by decide) rfl (fun ls hl => ?_)
        refine lv_iinc (v := x2 + (1 : Int32)) (lv' := [(2, .int (x2 + (1 : Int32))), (1, .int (x1 + (yrunMany x2.toNatClampNeg))), (0, .ref yo)]) hx hb dX6_inRuns_24 hl (k := 2) rfl (congrArg (fun z => x2 + z) (by decide)) (by decide) rfl (fun ls hl => ?_)
        refine lv_goto (tgt := 7) hx hb dX6_inRuns_27 (by decide) ?_
        exact ih7 (x1 + (yrunMany x2.toNatClampNeg)) (x2 + (1 : Int32)) _ _ _ h hP hD hS (lv_sub hl [2, 1, 0] rfl)
  unfold mX6_inRuns at h
  refine lv_aload_n hx hb dX6_inRuns_0 rfl (lv_at hl 0 rfl) ?_
  refine va_get (D := D) (cl := vwCl) (ci := 6) (v := .int ywaitMany) (C := RX6) (T := TX6) (N := 26) hx hb hts hinX6 hown hG.1 hP 0 rfl rfl 13 (by decide) fl87 (fun _ h9 => h9) rfl dX6_inRuns_1 ?_
  refine lv_istore_n (lv' := [(1, .int ywaitMany), (0, .ref yo)]) hx hb dX6_inRuns_4 rfl hl (by decide) rfl (fun ls hl => ?_)
  refine lv_iconst (v := (0 : Int32)) hx hb dX6_inRuns_5 (by decide) ?_
  refine lv_istore_n (lv' := [(2, .int (0 : Int32)), (1, .int ywaitMany), (0, .ref yo)]) hx hb dX6_inRuns_6 rfl hl (by decide) rfl (fun ls hl => ?_)
  exact hmX6_inRuns_7 F ywaitMany (0 : Int32) _ _ _ h hP hD hS (lv_sub hl [2, 1, 0] rfl)
set_option maxHeartbeats 4000000 in
set_option maxRecDepth 100000 in
theorem kX6_turn (l : Launch) (D : va_G) (cA : ClassId) (F : Nat) (yo : Nat) (vytext : Nat) (vyrules : Nat) (vylaid : Nat) (vykey : Nat) (vytag : Nat) (vyroomKey : Nat) (vyroomTag : Nat) (vyrunAt : Nat) (vyrunMany : Nat) (vycost : Nat) (vyhadKey : Nat) (vyhadTag : Nat) (vyhadAt : Nat) (vyhadMany : Nat) (vyhadCost : Nat) (ylength : Int32) (ymany : Int32) (yruns : Int32) (ywaitAt : Int32) (ywaitMany : Int32) (ya0 : Int32) (ya1 : Int32) (yb0 : Int32) (yb1 : Int32) (yforward : Int32) (yout : Int32) (ykey : (Nat → Int32)) (ytag : (Nat → Int32)) (ycost : (Nat → Int32)) (a1 : Int32) (a2 : Int32) (ykey_9 : (Nat → Int32)) (ytag_9 : (Nat → Int32)) (ycost_9 : (Nat → Int32)) (h : mX6_turn F ykey ytag ycost a1 a2 = some (ykey_9, ytag_9, ycost_9)) : Ct l yX6_turn wsX6_turn ({ frames := 0, cells := 0, slots := 0, locals := 0 }) D cA [.ref yo, .int a1, .int a2] [(yo, .inr (6, [.int ylength, .ref vytext, .ref vyrules, .int ymany, .ref vylaid, .ref vykey, .ref vytag, .ref vyroomKey, .ref vyroomTag, .int yruns, .ref vyrunAt, .ref vyrunMany, .int ywaitAt, .int ywaitMany, .ref vycost, .ref vyhadKey, .ref vyhadTag, .ref vyhadAt, .ref vyhadMany, .ref vyhadCost, .int ya0, .int ya1, .int yb0, .int yb1, .int yforward, .int yout])), (vykey, .inl (cA, 96, .inl ykey)), (vytag, .inl (cA, 96, .inl ytag)), (vycost, .inl (cA, 12, .inl ycost))] [(yo, .inr (6, [.int ylength, .ref vytext, .ref vyrules, .int ymany, .ref vylaid, .ref vykey, .ref vytag, .ref vyroomKey, .ref vyroomTag, .int yruns, .ref vyrunAt, .ref vyrunMany, .int ywaitAt, .int ywaitMany, .ref vycost, .ref vyhadKey, .ref vyhadTag, .ref vyhadAt, .ref vyhadMany, .ref vyhadCost, .int ya0, .int ya1, .int yb0, .int yb1, .int yforward, .int yout])), (vykey, .inl (cA, 96, .inl ykey_9)), (vytag, .inl (cA, 96, .inl ytag_9)), (vycost, .inl (cA, 12, .inl ycost_9))] (none) := by
  refine Ct.of (cc := cX6_turn) (maxL := 7) (ret := none) (by decide) rfl (Nat.le_of_ble_eq_true rfl) ?_
  intro p e s m below meth c A ls hcx hG hst hA hP hD hl
  obtain ⟨hx, hb, hml, hown, hts, hr, hlocks⟩ := id hcx
  have hown : s.vm.findClass RX6 = some m.cls := hown
  have hS : va_S A s.heap s.heap [] := va_S.rf
  have hl : lv_has ls 7 [(0, .ref yo), (1, .int a1), (2, .int a2)] := hl
  have hinX6 : ∀ w ∈ u_ws RX6 TX6 26, w ∈ wsX6_turn := by decide +kernel
  have fl37 := hts (.fieldLink RX6 37 "RunSorterModel" "cost" "[I") (by decide +kernel)
  have fl19 := hts (.fieldLink RX6 19 "RunSorterModel" "key" "[I") (by decide +kernel)
  have fl22 := hts (.fieldLink RX6 22 "RunSorterModel" "tag" "[I") (by decide +kernel)
  have hmX6_turn_17 : ∀ (n17 : Nat) (x3 : Int32) (x4 : Int32) (ykey : (Nat → Int32)) (ytag : (Nat → Int32)) (ycost : (Nat → Int32)) (H : Heap) (locs : List Loc) (ls : Array Slot), mX6_turn_17 F n17 x3 x4 ykey ytag ycost = some (ykey_9, ytag_9, ycost_9) → va_P D vwCl [(yo, .inr (6, [.int ylength, .ref vytext, .ref vyrules, .int ymany, .ref vylaid, .ref vykey, .ref vytag, .ref vyroomKey, .ref vyroomTag, .int yruns, .ref vyrunAt, .ref vyrunMany, .int ywaitAt, .int ywaitMany, .ref vycost, .ref vyhadKey, .ref vyhadTag, .ref vyhadAt, .ref vyhadMany, .ref vyhadCost, .int ya0, .int ya1, .int yb0, .int yb1, .int yforward, .int yout])), (vykey, .inl (cA, 96, .inl ykey)), (vytag, .inl (cA, 96, .inl ytag)), (vycost, .inl (cA, 12, .inl ycost))] H → va_D A [(yo, .inr (6, [.int ylength, .ref vytext, .ref vyrules, .int ymany, .ref vylaid, .ref vykey, .ref vytag, .ref vyroomKey, .ref vyroomTag, .int yruns, .ref vyrunAt, .ref vyrunMany, .int ywaitAt, .int ywaitMany, .ref vycost, .ref vyhadKey, .ref vyhadTag, .ref vyhadAt, .ref vyhadMany, .ref vyhadCost, .int ya0, .int ya1, .int yb0, .int yb1, .int yforward, .int yout])), (vykey, .inl (cA, 96, .inl ykey)), (vytag, .inl (cA, 96, .inl ytag)), (vycost, .inl (cA, 12, .inl ycost))] → va_S A s.heap H locs → lv_has ls 7 [(0, .ref yo), (3, .int x3), (4, .int x4)] → W p l e ({ frames := 0, cells := 0, slots := 0, locals := 0 }) s m ([.ref yo, .int a1, .int a2] : List Value).toArray below meth c H locs 0 0 (MQ below (Qw D A [(yo, .inr (6, [.int ylength, .ref vytext, .ref vyrules, .int ymany, .ref vylaid, .ref vykey, .ref vytag, .ref vyroomKey, .ref vyroomTag, .int yruns, .ref vyrunAt, .ref vyrunMany, .int ywaitAt, .int ywaitMany, .ref vycost, .ref vyhadKey, .ref vyhadTag, .ref vyhadAt, .ref vyhadMany, .ref vyhadCost, .int ya0, .int ya1, .int yb0, .int yb1, .int yforward, .int yout])), (vykey, .inl (cA, 96, .inl ykey_9)), (vytag, .inl (cA, 96, .inl ytag_9)), (vycost, .inl (cA, 12, .inl ycost_9))] (none)) ([.ref yo, .int a1, .int a2] : List Value).toArray s 0 0 A) (F0 m 17 ls []) := by
    intro n17
    induction n17 with
    | zero => intro x3 x4 ykey ytag ycost H locs ls h; exact (no_some h).elim
    | succ n17 ih17 =>
      intro x3 x4 ykey ytag ycost H locs ls h hP hD hS hl
      rw [mX6_turn_17] at h
      refine lv_iload_n hx hb dX6_turn_17 rfl (lv_at hl 1 rfl) ?_
      refine lv_iload hx hb dX6_turn_18 (lv_at hl 2 rfl) ?_
      refine lv_icmp_ge (tgt := 102) hx hb dX6_turn_20 (by decide) (fun c20 => ?_) (fun c20 => ?_)
      · have h := i_t c20 h
        cases h
        exact rt_v hx hb hr hlocks hP hD hS dX6_turn_102
      · have h := i_f c20 h
        refine lv_aload_n hx hb dX6_turn_23 rfl (lv_at hl 0 rfl) ?_
        refine va_get (D := D) (cl := vwCl) (ci := 6) (v := .ref vykey) (C := RX6) (T := TX6) (N := 26) hx hb hts hinX6 hown hG.1 hP 0 rfl rfl 5 (by decide) fl19 (fun _ h9 => h9) rfl dX6_turn_24 ?_
        refine lv_iload_n hx hb dX6_turn_27 rfl (lv_at hl 1 rfl) ?_
        obtain ⟨hi28, h⟩ := ck_some h
        refine va_iald hx hb hG.1 hP 1 0 rfl rfl hi28 dX6_turn_28 ?_
        refine lv_istore (lv' := [(5, .int (ykey x3.toNatClampNeg)), (0, .ref yo), (3, .int x3), (4, .int x4)]) hx hb dX6_turn_29 hl (by decide) rfl (fun ls hl => ?_)
        refine lv_aload_n hx hb dX6_turn_31 rfl (lv_at hl 1 rfl) ?_
        refine va_get (D := D) (cl := vwCl) (ci := 6) (v := .ref vytag) (C := RX6) (T := TX6) (N := 26) hx hb hts hinX6 hown hG.1 hP 0 rfl rfl 6 (by decide) fl22 (fun _ h9 => h9) rfl dX6_turn_32 ?_
        refine lv_iload_n hx hb dX6_turn_35 rfl (lv_at hl 2 rfl) ?_
        obtain ⟨hi36, h⟩ := ck_some h
        refine va_iald hx hb hG.1 hP 2 0 rfl rfl hi36 dX6_turn_36 ?_
        refine lv_istore (lv' := [(6, .int (ytag x3.toNatClampNeg)), (5, .int (ykey x3.toNatClampNeg)), (0, .ref yo), (3, .int x3), (4, .int x4)]) hx hb dX6_turn_37 hl (by decide) rfl (fun ls hl => ?_)
        refine lv_aload_n hx hb dX6_turn_39 rfl (lv_at hl 2 rfl) ?_
        refine va_get (D := D) (cl := vwCl) (ci := 6) (v := .ref vykey) (C := RX6) (T := TX6) (N := 26) hx hb hts hinX6 hown hG.1 hP 0 rfl rfl 5 (by decide) fl19 (fun _ h9 => h9) rfl dX6_turn_40 ?_
        refine lv_iload_n hx hb dX6_turn_43 rfl (lv_at hl 3 rfl) ?_
        refine lv_aload_n hx hb dX6_turn_44 rfl (lv_at hl 2 rfl) ?_
        refine va_get (D := D) (cl := vwCl) (ci := 6) (v := .ref vykey) (C := RX6) (T := TX6) (N := 26) hx hb hts hinX6 hown hG.1 hP 0 rfl rfl 5 (by decide) fl19 (fun _ h9 => h9) rfl dX6_turn_45 ?_
        refine lv_iload hx hb dX6_turn_48 (lv_at hl 4 rfl) ?_
        obtain ⟨hi50, h⟩ := ck_some h
        refine va_iald hx hb hG.1 hP 1 0 rfl rfl hi50 dX6_turn_50 ?_
        obtain ⟨hi51, h⟩ := ck_some h
        refine va_iast hx hb hG.1 hP hD hS 1 0 rfl rfl hi51 dX6_turn_51 (fun H locs hP hD hS => ?_)
        have hP : va_P D vwCl [(yo, .inr (6, [.int ylength, .ref vytext, .ref vyrules, .int ymany, .ref vylaid, .ref vykey, .ref vytag, .ref vyroomKey, .ref vyroomTag, .int yruns, .ref vyrunAt, .ref vyrunMany, .int ywaitAt, .int ywaitMany, .ref vycost, .ref vyhadKey, .ref vyhadTag, .ref vyhadAt, .ref vyhadMany, .ref vyhadCost, .int ya0, .int ya1, .int yb0, .int yb1, .int yforward, .int yout])), (vykey, .inl (cA, 96, .inl (upd ykey x3.toNatClampNeg (ykey x4.toNatClampNeg)))), (vytag, .inl (cA, 96, .inl ytag)), (vycost, .inl (cA, 12, .inl ycost))] H := hP
        have hD : va_D A [(yo, .inr (6, [.int ylength, .ref vytext, .ref vyrules, .int ymany, .ref vylaid, .ref vykey, .ref vytag, .ref vyroomKey, .ref vyroomTag, .int yruns, .ref vyrunAt, .ref vyrunMany, .int ywaitAt, .int ywaitMany, .ref vycost, .ref vyhadKey, .ref vyhadTag, .ref vyhadAt, .ref vyhadMany, .ref vyhadCost, .int ya0, .int ya1, .int yb0, .int yb1, .int yforward, .int yout])), (vykey, .inl (cA, 96, .inl (upd ykey x3.toNatClampNeg (ykey x4.toNatClampNeg)))), (vytag, .inl (cA, 96, .inl ytag)), (vycost, .inl (cA, 12, .inl ycost))] := hD
        refine lv_aload_n hx hb dX6_turn_52 rfl (lv_at hl 2 rfl) ?_
        refine va_get (D := D) (cl := vwCl) (ci := 6) (v := .ref vytag) (C := RX6) (T := TX6) (N := 26) hx hb hts hinX6 hown hG.1 hP 0 rfl rfl 6 (by decide) fl22 (fun _ h9 => h9) rfl dX6_turn_53 ?_
        refine lv_iload_n hx hb dX6_turn_56 rfl (lv_at hl 3 rfl) ?_
        refine lv_aload_n hx hb dX6_turn_57 rfl (lv_at hl 2 rfl) ?_
        refine va_get (D := D) (cl := vwCl) (ci := 6) (v := .ref vytag) (C := RX6) (T := TX6) (N := 26) hx hb hts hinX6 hown hG.1 hP 0 rfl rfl 6 (by decide) fl22 (fun _ h9 => h9) rfl dX6_turn_58 ?_
        refine lv_iload hx hb dX6_turn_61 (lv_at hl 4 rfl) ?_
        obtain ⟨hi63, h⟩ := ck_some h
        refine va_iald hx hb hG.1 hP 2 0 rfl rfl hi63 dX6_turn_63 ?_
        obtain ⟨hi64, h⟩ := ck_some h
        refine va_iast hx hb hG.1 hP hD hS 2 0 rfl rfl hi64 dX6_turn_64 (fun H locs hP hD hS => ?_)
        have hP : va_P D vwCl [(yo, .inr (6, [.int ylength, .ref vytext, .ref vyrules, .int ymany, .ref vylaid, .ref vykey, .ref vytag, .ref vyroomKey, .ref vyroomTag, .int yruns, .ref vyrunAt, .ref vyrunMany, .int ywaitAt, .int ywaitMany, .ref vycost, .ref vyhadKey, .ref vyhadTag, .ref vyhadAt, .ref vyhadMany, .ref vyhadCost, .int ya0, .int ya1, .int yb0, .int yb1, .int yforward, .int yout])), (vykey, .inl (cA, 96, .inl (upd ykey x3.toNatClampNeg (ykey x4.toNatClampNeg)))), (vytag, .inl (cA, 96, .inl (upd ytag x3.toNatClampNeg (ytag x4.toNatClampNeg)))), (vycost, .inl (cA, 12, .inl ycost))] H := hP
        have hD : va_D A [(yo, .inr (6, [.int ylength, .ref vytext, .ref vyrules, .int ymany, .ref vylaid, .ref vykey, .ref vytag, .ref vyroomKey, .ref vyroomTag, .int yruns, .ref vyrunAt, .ref vyrunMany, .int ywaitAt, .int ywaitMany, .ref vycost, .ref vyhadKey, .ref vyhadTag, .ref vyhadAt, .ref vyhadMany, .ref vyhadCost, .int ya0, .int ya1, .int yb0, .int yb1, .int yforward, .int yout])), (vykey, .inl (cA, 96, .inl (upd ykey x3.toNatClampNeg (ykey x4.toNatClampNeg)))), (vytag, .inl (cA, 96, .inl (upd ytag x3.toNatClampNeg (ytag x4.toNatClampNeg)))), (vycost, .inl (cA, 12, .inl ycost))] := hD
        refine lv_aload_n hx hb dX6_turn_65 rfl (lv_at hl 2 rfl) ?_
        refine va_get (D := D) (cl := vwCl) (ci := 6) (v := .ref vykey) (C := RX6) (T := TX6) (N := 26) hx hb hts hinX6 hown hG.1 hP 0 rfl rfl 5 (by decide) fl19 (fun _ h9 => h9) rfl dX6_turn_66 ?_
        refine lv_iload hx hb dX6_turn_69 (lv_at hl 4 rfl) ?_
        refine lv_iload hx hb dX6_turn_71 (lv_at hl 1 rfl) ?_
        obtain ⟨hi73, h⟩ := ck_some h
        refine va_iast hx hb hG.1 hP hD hS 1 0 rfl rfl hi73 dX6_turn_73 (fun H locs hP hD hS => ?_)
        have hP : va_P D vwCl [(yo, .inr (6, [.int ylength, .ref vytext, .ref vyrules, .int ymany, .ref vylaid, .ref vykey, .ref vytag, .ref vyroomKey, .ref vyroomTag, .int yruns, .ref vyrunAt, .ref vyrunMany, .int ywaitAt, .int ywaitMany, .ref vycost, .ref vyhadKey, .ref vyhadTag, .ref vyhadAt, .ref vyhadMany, .ref vyhadCost, .int ya0, .int ya1, .int yb0, .int yb1, .int yforward, .int yout])), (vykey, .inl (cA, 96, .inl (upd (upd ykey x3.toNatClampNeg (ykey x4.toNatClampNeg)) x4.toNatClampNeg (ykey x3.toNatClampNeg)))), (vytag, .inl (cA, 96, .inl (upd ytag x3.toNatClampNeg (ytag x4.toNatClampNeg)))), (vycost, .inl (cA, 12, .inl ycost))] H := hP
        have hD : va_D A [(yo, .inr (6, [.int ylength, .ref vytext, .ref vyrules, .int ymany, .ref vylaid, .ref vykey, .ref vytag, .ref vyroomKey, .ref vyroomTag, .int yruns, .ref vyrunAt, .ref vyrunMany, .int ywaitAt, .int ywaitMany, .ref vycost, .ref vyhadKey, .ref vyhadTag, .ref vyhadAt, .ref vyhadMany, .ref vyhadCost, .int ya0, .int ya1, .int yb0, .int yb1, .int yforward, .int yout])), (vykey, .inl (cA, 96, .inl (upd (upd ykey x3.toNatClampNeg (ykey x4.toNatClampNeg)) x4.toNatClampNeg (ykey x3.toNatClampNeg)))), (vytag, .inl (cA, 96, .inl (upd ytag x3.toNatClampNeg (ytag x4.toNatClampNeg)))), (vycost, .inl (cA, 12, .inl ycost))] := hD
        refine lv_aload_n hx hb dX6_turn_74 rfl (lv_at hl 2 rfl) ?_
        refine va_get (D := D) (cl := vwCl) (ci := 6) (v := .ref vytag) (C := RX6) (T := TX6) (N := 26) hx hb hts hinX6 hown hG.1 hP 0 rfl rfl 6 (by decide) fl22 (fun _ h9 => h9) rfl dX6_turn_75 ?_
        refine lv_iload hx hb dX6_turn_78 (lv_at hl 4 rfl) ?_
        refine lv_iload hx hb dX6_turn_80 (lv_at hl 0 rfl) ?_
        obtain ⟨hi82, h⟩ := ck_some h
        refine va_iast hx hb hG.1 hP hD hS 2 0 rfl rfl hi82 dX6_turn_82 (fun H locs hP hD hS => ?_)
        have hP : va_P D vwCl [(yo, .inr (6, [.int ylength, .ref vytext, .ref vyrules, .int ymany, .ref vylaid, .ref vykey, .ref vytag, .ref vyroomKey, .ref vyroomTag, .int yruns, .ref vyrunAt, .ref vyrunMany, .int ywaitAt, .int ywaitMany, .ref vycost, .ref vyhadKey, .ref vyhadTag, .ref vyhadAt, .ref vyhadMany, .ref vyhadCost, .int ya0, .int ya1, .int yb0, .int yb1, .int yforward, .int yout])), (vykey, .inl (cA, 96, .inl (upd (upd ykey x3.toNatClampNeg (ykey x4.toNatClampNeg)) x4.toNatClampNeg (ykey x3.toNatClampNeg)))), (vytag, .inl (cA, 96, .inl (upd (upd ytag x3.toNatClampNeg (ytag x4.toNatClampNeg)) x4.toNatClampNeg (ytag x3.toNatClampNeg)))), (vycost, .inl (cA, 12, .inl ycost))] H := hP
        have hD : va_D A [(yo, .inr (6, [.int ylength, .ref vytext, .ref vyrules, .int ymany, .ref vylaid, .ref vykey, .ref vytag, .ref vyroomKey, .ref vyroomTag, .int yruns, .ref vyrunAt, .ref vyrunMany, .int ywaitAt, .int ywaitMany, .ref vycost, .ref vyhadKey, .ref vyhadTag, .ref vyhadAt, .ref vyhadMany, .ref vyhadCost, .int ya0, .int ya1, .int yb0, .int yb1, .int yforward, .int yout])), (vykey, .inl (cA, 96, .inl (upd (upd ykey x3.toNatClampNeg (ykey x4.toNatClampNeg)) x4.toNatClampNeg (ykey x3.toNatClampNeg)))), (vytag, .inl (cA, 96, .inl (upd (upd ytag x3.toNatClampNeg (ytag x4.toNatClampNeg)) x4.toNatClampNeg (ytag x3.toNatClampNeg)))), (vycost, .inl (cA, 12, .inl ycost))] := hD
        refine lv_aload_n hx hb dX6_turn_83 rfl (lv_at hl 2 rfl) ?_
        refine va_get (D := D) (cl := vwCl) (ci := 6) (v := .ref vycost) (C := RX6) (T := TX6) (N := 26) hx hb hts hinX6 hown hG.1 hP 0 rfl rfl 14 (by decide) fl37 (fun _ h9 => h9) rfl dX6_turn_84 ?_
        refine lv_iconst (v := (1 : Int32)) hx hb dX6_turn_87 (by decide) ?_
        refine lv_dup2_11 hx hb dX6_turn_88 rfl rfl ?_
        obtain ⟨hi89, h⟩ := ck_some h
        refine va_iald hx hb hG.1 hP 3 0 rfl rfl hi89 dX6_turn_89 ?_
        refine lv_iconst (v := (2 : Int32)) hx hb dX6_turn_90 (by decide) ?_
        refine lv_iadd hx hb dX6_turn_91 ?_
        obtain ⟨hi92, h⟩ := ck_some h
        refine va_iast hx hb hG.1 hP hD hS 3 0 rfl rfl hi92 dX6_turn_92 (fun H locs hP hD hS => ?_)
        have hP : va_P D vwCl [(yo, .inr (6, [.int ylength, .ref vytext, .ref vyrules, .int ymany, .ref vylaid, .ref vykey, .ref vytag, .ref vyroomKey, .ref vyroomTag, .int yruns, .ref vyrunAt, .ref vyrunMany, .int ywaitAt, .int ywaitMany, .ref vycost, .ref vyhadKey, .ref vyhadTag, .ref vyhadAt, .ref vyhadMany, .ref vyhadCost, .int ya0, .int ya1, .int yb0, .int yb1, .int yforward, .int yout])), (vykey, .inl (cA, 96, .inl (upd (upd ykey x3.toNatClampNeg (ykey x4.toNatClampNeg)) x4.toNatClampNeg (ykey x3.toNatClampNeg)))), (vytag, .inl (cA, 96, .inl (upd (upd ytag x3.toNatClampNeg (ytag x4.toNatClampNeg)) x4.toNatClampNeg (ytag x3.toNatClampNeg)))), (vycost, .inl (cA, 12, .inl (upd ycost (1 : Int32).toNatClampNeg ((ycost (1 : Int32).toNatClampNeg) + (2 : Int32)))))] H := hP
        have hD : va_D A [(yo, .inr (6, [.int ylength, .ref vytext, .ref vyrules, .int ymany, .ref vylaid, .ref vykey, .ref vytag, .ref vyroomKey, .ref vyroomTag, .int yruns, .ref vyrunAt, .ref vyrunMany, .int ywaitAt, .int ywaitMany, .ref vycost, .ref vyhadKey, .ref vyhadTag, .ref vyhadAt, .ref vyhadMany, .ref vyhadCost, .int ya0, .int ya1, .int yb0, .int yb1, .int yforward, .int yout])), (vykey, .inl (cA, 96, .inl (upd (upd ykey x3.toNatClampNeg (ykey x4.toNatClampNeg)) x4.toNatClampNeg (ykey x3.toNatClampNeg)))), (vytag, .inl (cA, 96, .inl (upd (upd ytag x3.toNatClampNeg (ytag x4.toNatClampNeg)) x4.toNatClampNeg (ytag x3.toNatClampNeg)))), (vycost, .inl (cA, 12, .inl (upd ycost (1 : Int32).toNatClampNeg ((ycost (1 : Int32).toNatClampNeg) + (2 : Int32)))))] := hD
        refine lv_iinc (v := x3 + (1 : Int32)) (lv' := [(3, .int (x3 + (1 : Int32))), (6, .int (ytag x3.toNatClampNeg)), (5, .int (ykey x3.toNatClampNeg)), (0, .ref yo), (4, .int x4)]) hx hb dX6_turn_93 hl (k := 3) rfl (congrArg (fun z => x3 + z) (by decide)) (by decide) rfl (fun ls hl => ?_)
        refine lv_iinc (v := x4 + (-1 : Int32)) (lv' := [(4, .int (x4 + (-1 : Int32))), (3, .int (x3 + (1 : Int32))), (6, .int (ytag x3.toNatClampNeg)), (5, .int (ykey x3.toNatClampNeg)), (0, .ref yo)]) hx hb dX6_turn_96 hl (k := 4) rfl (congrArg (fun z => x4 + z) (by decide)) (by decide) rfl (fun ls hl => ?_)
        refine lv_goto (tgt := 17) hx hb dX6_turn_99 (by decide) ?_
        exact ih17 (x3 + (1 : Int32)) (x4 + (-1 : Int32)) (upd (upd ykey x3.toNatClampNeg (ykey x4.toNatClampNeg)) x4.toNatClampNeg (ykey x3.toNatClampNeg)) (upd (upd ytag x3.toNatClampNeg (ytag x4.toNatClampNeg)) x4.toNatClampNeg (ytag x3.toNatClampNeg)) (upd ycost (1 : Int32).toNatClampNeg ((ycost (1 : Int32).toNatClampNeg) + (2 : Int32))) _ _ _ h hP hD hS (lv_sub hl [4, 1, 0] rfl)
  unfold mX6_turn at h
  refine lv_aload_n hx hb dX6_turn_0 rfl (lv_at hl 0 rfl) ?_
  refine va_get (D := D) (cl := vwCl) (ci := 6) (v := .ref vycost) (C := RX6) (T := TX6) (N := 26) hx hb hts hinX6 hown hG.1 hP 0 rfl rfl 14 (by decide) fl37 (fun _ h9 => h9) rfl dX6_turn_1 ?_
  refine lv_iconst (v := (3 : Int32)) hx hb dX6_turn_4 (by decide) ?_
  refine lv_dup2_11 hx hb dX6_turn_5 rfl rfl ?_
  obtain ⟨hi6, h⟩ := ck_some h
  refine va_iald hx hb hG.1 hP 3 0 rfl rfl hi6 dX6_turn_6 ?_
  refine lv_iconst (v := (1 : Int32)) hx hb dX6_turn_7 (by decide) ?_
  refine lv_iadd hx hb dX6_turn_8 ?_
  obtain ⟨hi9, h⟩ := ck_some h
  refine va_iast hx hb hG.1 hP hD hS 3 0 rfl rfl hi9 dX6_turn_9 (fun H locs hP hD hS => ?_)
  have hP : va_P D vwCl [(yo, .inr (6, [.int ylength, .ref vytext, .ref vyrules, .int ymany, .ref vylaid, .ref vykey, .ref vytag, .ref vyroomKey, .ref vyroomTag, .int yruns, .ref vyrunAt, .ref vyrunMany, .int ywaitAt, .int ywaitMany, .ref vycost, .ref vyhadKey, .ref vyhadTag, .ref vyhadAt, .ref vyhadMany, .ref vyhadCost, .int ya0, .int ya1, .int yb0, .int yb1, .int yforward, .int yout])), (vykey, .inl (cA, 96, .inl ykey)), (vytag, .inl (cA, 96, .inl ytag)), (vycost, .inl (cA, 12, .inl (upd ycost (3 : Int32).toNatClampNeg ((ycost (3 : Int32).toNatClampNeg) + (1 : Int32)))))] H := hP
  have hD : va_D A [(yo, .inr (6, [.int ylength, .ref vytext, .ref vyrules, .int ymany, .ref vylaid, .ref vykey, .ref vytag, .ref vyroomKey, .ref vyroomTag, .int yruns, .ref vyrunAt, .ref vyrunMany, .int ywaitAt, .int ywaitMany, .ref vycost, .ref vyhadKey, .ref vyhadTag, .ref vyhadAt, .ref vyhadMany, .ref vyhadCost, .int ya0, .int ya1, .int yb0, .int yb1, .int yforward, .int yout])), (vykey, .inl (cA, 96, .inl ykey)), (vytag, .inl (cA, 96, .inl ytag)), (vycost, .inl (cA, 12, .inl (upd ycost (3 : Int32).toNatClampNeg ((ycost (3 : Int32).toNatClampNeg) + (1 : Int32)))))] := hD
  refine lv_iload_n hx hb dX6_turn_10 rfl (lv_at hl 1 rfl) ?_
  refine lv_istore_n (lv' := [(3, .int a1), (0, .ref yo), (1, .int a1), (2, .int a2)]) hx hb dX6_turn_11 rfl hl (by decide) rfl (fun ls hl => ?_)
  refine lv_iload_n hx hb dX6_turn_12 rfl (lv_at hl 3 rfl) ?_
  refine lv_iconst (v := (1 : Int32)) hx hb dX6_turn_13 (by decide) ?_
  refine lv_isub hx hb dX6_turn_14 ?_
  refine lv_istore (lv' := [(4, .int (a2 - (1 : Int32))), (3, .int a1), (0, .ref yo), (1, .int a1), (2, .int a2)]) hx hb dX6_turn_15 hl (by decide) rfl (fun ls hl => ?_)
  exact hmX6_turn_17 F a1 (a2 - (1 : Int32)) ykey ytag (upd ycost (3 : Int32).toNatClampNeg ((ycost (3 : Int32).toNatClampNeg) + (1 : Int32))) _ _ _ h hP hD hS (lv_sub hl [2, 1, 0] rfl)
set_option maxHeartbeats 4000000 in
set_option maxRecDepth 100000 in
theorem kX6_put1 (l : Launch) (D : va_G) (cA : ClassId) (F : Nat) (yo : Nat) (vytext : Nat) (vyrules : Nat) (vylaid : Nat) (vykey : Nat) (vytag : Nat) (vyroomKey : Nat) (vyroomTag : Nat) (vyrunAt : Nat) (vyrunMany : Nat) (vycost : Nat) (vyhadKey : Nat) (vyhadTag : Nat) (vyhadAt : Nat) (vyhadMany : Nat) (vyhadCost : Nat) (ylength : Int32) (ymany : Int32) (yruns : Int32) (ywaitAt : Int32) (ywaitMany : Int32) (ya0 : Int32) (ya1 : Int32) (yb0 : Int32) (yb1 : Int32) (yforward : Int32) (yout : Int32) (yrules : (Nat → Int32)) (ykey : (Nat → Int32)) (ytag : (Nat → Int32)) (ycost : (Nat → Int32)) (a1 : Int32) (a2 : Int32) (ykey_9 : (Nat → Int32)) (ytag_9 : (Nat → Int32)) (ycost_9 : (Nat → Int32)) (h : mX6_put1 F yrules ykey ytag ycost a1 a2 = some (ykey_9, ytag_9, ycost_9)) : Ct l yX6_put1 wsX6_put1 ({ frames := 3, cells := 0, slots := 0, locals := 64 }) D cA [.ref yo, .int a1, .int a2] [(yo, .inr (6, [.int ylength, .ref vytext, .ref vyrules, .int ymany, .ref vylaid, .ref vykey, .ref vytag, .ref vyroomKey, .ref vyroomTag, .int yruns, .ref vyrunAt, .ref vyrunMany, .int ywaitAt, .int ywaitMany, .ref vycost, .ref vyhadKey, .ref vyhadTag, .ref vyhadAt, .ref vyhadMany, .ref vyhadCost, .int ya0, .int ya1, .int yb0, .int yb1, .int yforward, .int yout])), (vyrules, .inl (cA, 4, .inl yrules)), (vykey, .inl (cA, 96, .inl ykey)), (vytag, .inl (cA, 96, .inl ytag)), (vycost, .inl (cA, 12, .inl ycost))] [(yo, .inr (6, [.int ylength, .ref vytext, .ref vyrules, .int ymany, .ref vylaid, .ref vykey, .ref vytag, .ref vyroomKey, .ref vyroomTag, .int yruns, .ref vyrunAt, .ref vyrunMany, .int ywaitAt, .int ywaitMany, .ref vycost, .ref vyhadKey, .ref vyhadTag, .ref vyhadAt, .ref vyhadMany, .ref vyhadCost, .int ya0, .int ya1, .int yb0, .int yb1, .int yforward, .int yout])), (vyrules, .inl (cA, 4, .inl yrules)), (vykey, .inl (cA, 96, .inl ykey_9)), (vytag, .inl (cA, 96, .inl ytag_9)), (vycost, .inl (cA, 12, .inl ycost_9))] (none) := by
  refine Ct.of (cc := cX6_put1) (maxL := 9) (ret := none) (by decide) rfl (Nat.le_of_ble_eq_true rfl) ?_
  intro p e s m below meth c A ls hcx hG hst hA hP hD hl
  obtain ⟨hx, hb, hml, hown, hts, hr, hlocks⟩ := id hcx
  have hown : s.vm.findClass RX6 = some m.cls := hown
  have hS : va_S A s.heap s.heap [] := va_S.rf
  have hl : lv_has ls 9 [(0, .ref yo), (1, .int a1), (2, .int a2)] := hl
  have hinX6 : ∀ w ∈ u_ws RX6 TX6 26, w ∈ wsX6_put1 := by decide +kernel
  have fl19 := hts (.fieldLink RX6 19 "RunSorterModel" "key" "[I") (by decide +kernel)
  have fl22 := hts (.fieldLink RX6 22 "RunSorterModel" "tag" "[I") (by decide +kernel)
  have fl37 := hts (.fieldLink RX6 37 "RunSorterModel" "cost" "[I") (by decide +kernel)
  have hmX6_put1_88 : ∀ (n88 : Nat) (x3 : Int32) (x4 : Int32) (x7 : Int32) (x8 : Int32) (ykey : (Nat → Int32)) (ytag : (Nat → Int32)) (ycost : (Nat → Int32)) (H : Heap) (locs : List Loc) (ls : Array Slot), mX6_put1_88 F a2 n88 x3 x4 x7 x8 ykey ytag ycost = some (ykey_9, ytag_9, ycost_9) → va_P D vwCl [(yo, .inr (6, [.int ylength, .ref vytext, .ref vyrules, .int ymany, .ref vylaid, .ref vykey, .ref vytag, .ref vyroomKey, .ref vyroomTag, .int yruns, .ref vyrunAt, .ref vyrunMany, .int ywaitAt, .int ywaitMany, .ref vycost, .ref vyhadKey, .ref vyhadTag, .ref vyhadAt, .ref vyhadMany, .ref vyhadCost, .int ya0, .int ya1, .int yb0, .int yb1, .int yforward, .int yout])), (vyrules, .inl (cA, 4, .inl yrules)), (vykey, .inl (cA, 96, .inl ykey)), (vytag, .inl (cA, 96, .inl ytag)), (vycost, .inl (cA, 12, .inl ycost))] H → va_D A [(yo, .inr (6, [.int ylength, .ref vytext, .ref vyrules, .int ymany, .ref vylaid, .ref vykey, .ref vytag, .ref vyroomKey, .ref vyroomTag, .int yruns, .ref vyrunAt, .ref vyrunMany, .int ywaitAt, .int ywaitMany, .ref vycost, .ref vyhadKey, .ref vyhadTag, .ref vyhadAt, .ref vyhadMany, .ref vyhadCost, .int ya0, .int ya1, .int yb0, .int yb1, .int yforward, .int yout])), (vyrules, .inl (cA, 4, .inl yrules)), (vykey, .inl (cA, 96, .inl ykey)), (vytag, .inl (cA, 96, .inl ytag)), (vycost, .inl (cA, 12, .inl ycost))] → va_S A s.heap H locs → lv_has ls 9 [(0, .ref yo), (2, .int a2), (3, .int x3), (4, .int x4), (7, .int x7), (8, .int x8)] → W p l e ({ frames := 3, cells := 0, slots := 0, locals := 64 }) s m ([.ref yo, .int a1, .int a2] : List Value).toArray below meth c H locs 0 0 (MQ below (Qw D A [(yo, .inr (6, [.int ylength, .ref vytext, .ref vyrules, .int ymany, .ref vylaid, .ref vykey, .ref vytag, .ref vyroomKey, .ref vyroomTag, .int yruns, .ref vyrunAt, .ref vyrunMany, .int ywaitAt, .int ywaitMany, .ref vycost, .ref vyhadKey, .ref vyhadTag, .ref vyhadAt, .ref vyhadMany, .ref vyhadCost, .int ya0, .int ya1, .int yb0, .int yb1, .int yforward, .int yout])), (vyrules, .inl (cA, 4, .inl yrules)), (vykey, .inl (cA, 96, .inl ykey_9)), (vytag, .inl (cA, 96, .inl ytag_9)), (vycost, .inl (cA, 12, .inl ycost_9))] (none)) ([.ref yo, .int a1, .int a2] : List Value).toArray s 0 0 A) (F0 m 88 ls []) := by
    intro n88
    induction n88 with
    | zero => intro x3 x4 x7 x8 ykey ytag ycost H locs ls h; exact (no_some h).elim
    | succ n88 ih88 =>
      intro x3 x4 x7 x8 ykey ytag ycost H locs ls h hP hD hS hl
      rw [mX6_put1_88] at h
      refine lv_iload hx hb dX6_put1_88 (lv_at hl 5 rfl) ?_
      refine lv_iload hx hb dX6_put1_90 (lv_at hl 4 rfl) ?_
      refine lv_icmp_le (tgt := 133) hx hb dX6_put1_92 (by decide) (fun c92 => ?_) (fun c92 => ?_)
      · have h := i_t c92 h
        refine lv_aload_n hx hb dX6_put1_133 rfl (lv_at hl 0 rfl) ?_
        refine va_get (D := D) (cl := vwCl) (ci := 6) (v := .ref vykey) (C := RX6) (T := TX6) (N := 26) hx hb hts hinX6 hown hG.1 hP 0 rfl rfl 5 (by decide) fl19 (fun _ h9 => h9) rfl dX6_put1_134 ?_
        refine lv_iload hx hb dX6_put1_137 (lv_at hl 4 rfl) ?_
        refine lv_iload_n hx hb dX6_put1_139 rfl (lv_at hl 2 rfl) ?_
        obtain ⟨hi140, h⟩ := ck_some h
        refine va_iast hx hb hG.1 hP hD hS 2 0 rfl rfl hi140 dX6_put1_140 (fun H locs hP hD hS => ?_)
        have hP : va_P D vwCl [(yo, .inr (6, [.int ylength, .ref vytext, .ref vyrules, .int ymany, .ref vylaid, .ref vykey, .ref vytag, .ref vyroomKey, .ref vyroomTag, .int yruns, .ref vyrunAt, .ref vyrunMany, .int ywaitAt, .int ywaitMany, .ref vycost, .ref vyhadKey, .ref vyhadTag, .ref vyhadAt, .ref vyhadMany, .ref vyhadCost, .int ya0, .int ya1, .int yb0, .int yb1, .int yforward, .int yout])), (vyrules, .inl (cA, 4, .inl yrules)), (vykey, .inl (cA, 96, .inl (upd ykey x7.toNatClampNeg x3))), (vytag, .inl (cA, 96, .inl ytag)), (vycost, .inl (cA, 12, .inl ycost))] H := hP
        have hD : va_D A [(yo, .inr (6, [.int ylength, .ref vytext, .ref vyrules, .int ymany, .ref vylaid, .ref vykey, .ref vytag, .ref vyroomKey, .ref vyroomTag, .int yruns, .ref vyrunAt, .ref vyrunMany, .int ywaitAt, .int ywaitMany, .ref vycost, .ref vyhadKey, .ref vyhadTag, .ref vyhadAt, .ref vyhadMany, .ref vyhadCost, .int ya0, .int ya1, .int yb0, .int yb1, .int yforward, .int yout])), (vyrules, .inl (cA, 4, .inl yrules)), (vykey, .inl (cA, 96, .inl (upd ykey x7.toNatClampNeg x3))), (vytag, .inl (cA, 96, .inl ytag)), (vycost, .inl (cA, 12, .inl ycost))] := hD
        refine lv_aload_n hx hb dX6_put1_141 rfl (lv_at hl 0 rfl) ?_
        refine va_get (D := D) (cl := vwCl) (ci := 6) (v := .ref vytag) (C := RX6) (T := TX6) (N := 26) hx hb hts hinX6 hown hG.1 hP 0 rfl rfl 6 (by decide) fl22 (fun _ h9 => h9) rfl dX6_put1_142 ?_
        refine lv_iload hx hb dX6_put1_145 (lv_at hl 4 rfl) ?_
        refine lv_iload hx hb dX6_put1_147 (lv_at hl 3 rfl) ?_
        obtain ⟨hi149, h⟩ := ck_some h
        refine va_iast hx hb hG.1 hP hD hS 3 0 rfl rfl hi149 dX6_put1_149 (fun H locs hP hD hS => ?_)
        have hP : va_P D vwCl [(yo, .inr (6, [.int ylength, .ref vytext, .ref vyrules, .int ymany, .ref vylaid, .ref vykey, .ref vytag, .ref vyroomKey, .ref vyroomTag, .int yruns, .ref vyrunAt, .ref vyrunMany, .int ywaitAt, .int ywaitMany, .ref vycost, .ref vyhadKey, .ref vyhadTag, .ref vyhadAt, .ref vyhadMany, .ref vyhadCost, .int ya0, .int ya1, .int yb0, .int yb1, .int yforward, .int yout])), (vyrules, .inl (cA, 4, .inl yrules)), (vykey, .inl (cA, 96, .inl (upd ykey x7.toNatClampNeg x3))), (vytag, .inl (cA, 96, .inl (upd ytag x7.toNatClampNeg x4))), (vycost, .inl (cA, 12, .inl ycost))] H := hP
        have hD : va_D A [(yo, .inr (6, [.int ylength, .ref vytext, .ref vyrules, .int ymany, .ref vylaid, .ref vykey, .ref vytag, .ref vyroomKey, .ref vyroomTag, .int yruns, .ref vyrunAt, .ref vyrunMany, .int ywaitAt, .int ywaitMany, .ref vycost, .ref vyhadKey, .ref vyhadTag, .ref vyhadAt, .ref vyhadMany, .ref vyhadCost, .int ya0, .int ya1, .int yb0, .int yb1, .int yforward, .int yout])), (vyrules, .inl (cA, 4, .inl yrules)), (vykey, .inl (cA, 96, .inl (upd ykey x7.toNatClampNeg x3))), (vytag, .inl (cA, 96, .inl (upd ytag x7.toNatClampNeg x4))), (vycost, .inl (cA, 12, .inl ycost))] := hD
        refine lv_aload_n hx hb dX6_put1_150 rfl (lv_at hl 0 rfl) ?_
        refine va_get (D := D) (cl := vwCl) (ci := 6) (v := .ref vycost) (C := RX6) (T := TX6) (N := 26) hx hb hts hinX6 hown hG.1 hP 0 rfl rfl 14 (by decide) fl37 (fun _ h9 => h9) rfl dX6_put1_151 ?_
        refine lv_iconst (v := (1 : Int32)) hx hb dX6_put1_154 (by decide) ?_
        refine lv_dup2_11 hx hb dX6_put1_155 rfl rfl ?_
        obtain ⟨hi156, h⟩ := ck_some h
        refine va_iald hx hb hG.1 hP 4 0 rfl rfl hi156 dX6_put1_156 ?_
        refine lv_iload_n hx hb dX6_put1_157 rfl (lv_at hl 1 rfl) ?_
        refine lv_iload hx hb dX6_put1_158 (lv_at hl 4 rfl) ?_
        refine lv_isub hx hb dX6_put1_160 ?_
        refine lv_iconst (v := (1 : Int32)) hx hb dX6_put1_161 (by decide) ?_
        refine lv_iadd hx hb dX6_put1_162 ?_
        refine lv_iadd hx hb dX6_put1_163 ?_
        obtain ⟨hi164, h⟩ := ck_some h
        refine va_iast hx hb hG.1 hP hD hS 4 0 rfl rfl hi164 dX6_put1_164 (fun H locs hP hD hS => ?_)
        have hP : va_P D vwCl [(yo, .inr (6, [.int ylength, .ref vytext, .ref vyrules, .int ymany, .ref vylaid, .ref vykey, .ref vytag, .ref vyroomKey, .ref vyroomTag, .int yruns, .ref vyrunAt, .ref vyrunMany, .int ywaitAt, .int ywaitMany, .ref vycost, .ref vyhadKey, .ref vyhadTag, .ref vyhadAt, .ref vyhadMany, .ref vyhadCost, .int ya0, .int ya1, .int yb0, .int yb1, .int yforward, .int yout])), (vyrules, .inl (cA, 4, .inl yrules)), (vykey, .inl (cA, 96, .inl (upd ykey x7.toNatClampNeg x3))), (vytag, .inl (cA, 96, .inl (upd ytag x7.toNatClampNeg x4))), (vycost, .inl (cA, 12, .inl (upd ycost (1 : Int32).toNatClampNeg ((ycost (1 : Int32).toNatClampNeg) + ((a2 - x7) + (1 : Int32))))))] H := hP
        have hD : va_D A [(yo, .inr (6, [.int ylength, .ref vytext, .ref vyrules, .int ymany, .ref vylaid, .ref vykey, .ref vytag, .ref vyroomKey, .ref vyroomTag, .int yruns, .ref vyrunAt, .ref vyrunMany, .int ywaitAt, .int ywaitMany, .ref vycost, .ref vyhadKey, .ref vyhadTag, .ref vyhadAt, .ref vyhadMany, .ref vyhadCost, .int ya0, .int ya1, .int yb0, .int yb1, .int yforward, .int yout])), (vyrules, .inl (cA, 4, .inl yrules)), (vykey, .inl (cA, 96, .inl (upd ykey x7.toNatClampNeg x3))), (vytag, .inl (cA, 96, .inl (upd ytag x7.toNatClampNeg x4))), (vycost, .inl (cA, 12, .inl (upd ycost (1 : Int32).toNatClampNeg ((ycost (1 : Int32).toNatClampNeg) + ((a2 - x7) + (1 : Int32))))))] := hD
        cases h
        exact rt_v hx hb hr hlocks hP hD hS dX6_put1_165
      · have h := i_f c92 h
        refine lv_aload_n hx hb dX6_put1_95 rfl (lv_at hl 0 rfl) ?_
        refine va_get (D := D) (cl := vwCl) (ci := 6) (v := .ref vykey) (C := RX6) (T := TX6) (N := 26) hx hb hts hinX6 hown hG.1 hP 0 rfl rfl 5 (by decide) fl19 (fun _ h9 => h9) rfl dX6_put1_96 ?_
        refine lv_iload hx hb dX6_put1_99 (lv_at hl 5 rfl) ?_
        refine lv_aload_n hx hb dX6_put1_101 rfl (lv_at hl 0 rfl) ?_
        refine va_get (D := D) (cl := vwCl) (ci := 6) (v := .ref vykey) (C := RX6) (T := TX6) (N := 26) hx hb hts hinX6 hown hG.1 hP 0 rfl rfl 5 (by decide) fl19 (fun _ h9 => h9) rfl dX6_put1_102 ?_
        refine lv_iload hx hb dX6_put1_105 (lv_at hl 5 rfl) ?_
        refine lv_iconst (v := (1 : Int32)) hx hb dX6_put1_107 (by decide) ?_
        refine lv_isub hx hb dX6_put1_108 ?_
        obtain ⟨hi109, h⟩ := ck_some h
        refine va_iald hx hb hG.1 hP 2 0 rfl rfl hi109 dX6_put1_109 ?_
        obtain ⟨hi110, h⟩ := ck_some h
        refine va_iast hx hb hG.1 hP hD hS 2 0 rfl rfl hi110 dX6_put1_110 (fun H locs hP hD hS => ?_)
        have hP : va_P D vwCl [(yo, .inr (6, [.int ylength, .ref vytext, .ref vyrules, .int ymany, .ref vylaid, .ref vykey, .ref vytag, .ref vyroomKey, .ref vyroomTag, .int yruns, .ref vyrunAt, .ref vyrunMany, .int ywaitAt, .int ywaitMany, .ref vycost, .ref vyhadKey, .ref vyhadTag, .ref vyhadAt, .ref vyhadMany, .ref vyhadCost, .int ya0, .int ya1, .int yb0, .int yb1, .int yforward, .int yout])), (vyrules, .inl (cA, 4, .inl yrules)), (vykey, .inl (cA, 96, .inl (upd ykey x8.toNatClampNeg (ykey (x8 - (1 : Int32)).toNatClampNeg)))), (vytag, .inl (cA, 96, .inl ytag)), (vycost, .inl (cA, 12, .inl ycost))] H := hP
        have hD : va_D A [(yo, .inr (6, [.int ylength, .ref vytext, .ref vyrules, .int ymany, .ref vylaid, .ref vykey, .ref vytag, .ref vyroomKey, .ref vyroomTag, .int yruns, .ref vyrunAt, .ref vyrunMany, .int ywaitAt, .int ywaitMany, .ref vycost, .ref vyhadKey, .ref vyhadTag, .ref vyhadAt, .ref vyhadMany, .ref vyhadCost, .int ya0, .int ya1, .int yb0, .int yb1, .int yforward, .int yout])), (vyrules, .inl (cA, 4, .inl yrules)), (vykey, .inl (cA, 96, .inl (upd ykey x8.toNatClampNeg (ykey (x8 - (1 : Int32)).toNatClampNeg)))), (vytag, .inl (cA, 96, .inl ytag)), (vycost, .inl (cA, 12, .inl ycost))] := hD
        refine lv_aload_n hx hb dX6_put1_111 rfl (lv_at hl 0 rfl) ?_
        refine va_get (D := D) (cl := vwCl) (ci := 6) (v := .ref vytag) (C := RX6) (T := TX6) (N := 26) hx hb hts hinX6 hown hG.1 hP 0 rfl rfl 6 (by decide) fl22 (fun _ h9 => h9) rfl dX6_put1_112 ?_
        refine lv_iload hx hb dX6_put1_115 (lv_at hl 5 rfl) ?_
        refine lv_aload_n hx hb dX6_put1_117 rfl (lv_at hl 0 rfl) ?_
        refine va_get (D := D) (cl := vwCl) (ci := 6) (v := .ref vytag) (C := RX6) (T := TX6) (N := 26) hx hb hts hinX6 hown hG.1 hP 0 rfl rfl 6 (by decide) fl22 (fun _ h9 => h9) rfl dX6_put1_118 ?_
        refine lv_iload hx hb dX6_put1_121 (lv_at hl 5 rfl) ?_
        refine lv_iconst (v := (1 : Int32)) hx hb dX6_put1_123 (by decide) ?_
        refine lv_isub hx hb dX6_put1_124 ?_
        obtain ⟨hi125, h⟩ := ck_some h
        refine va_iald hx hb hG.1 hP 3 0 rfl rfl hi125 dX6_put1_125 ?_
        obtain ⟨hi126, h⟩ := ck_some h
        refine va_iast hx hb hG.1 hP hD hS 3 0 rfl rfl hi126 dX6_put1_126 (fun H locs hP hD hS => ?_)
        have hP : va_P D vwCl [(yo, .inr (6, [.int ylength, .ref vytext, .ref vyrules, .int ymany, .ref vylaid, .ref vykey, .ref vytag, .ref vyroomKey, .ref vyroomTag, .int yruns, .ref vyrunAt, .ref vyrunMany, .int ywaitAt, .int ywaitMany, .ref vycost, .ref vyhadKey, .ref vyhadTag, .ref vyhadAt, .ref vyhadMany, .ref vyhadCost, .int ya0, .int ya1, .int yb0, .int yb1, .int yforward, .int yout])), (vyrules, .inl (cA, 4, .inl yrules)), (vykey, .inl (cA, 96, .inl (upd ykey x8.toNatClampNeg (ykey (x8 - (1 : Int32)).toNatClampNeg)))), (vytag, .inl (cA, 96, .inl (upd ytag x8.toNatClampNeg (ytag (x8 - (1 : Int32)).toNatClampNeg)))), (vycost, .inl (cA, 12, .inl ycost))] H := hP
        have hD : va_D A [(yo, .inr (6, [.int ylength, .ref vytext, .ref vyrules, .int ymany, .ref vylaid, .ref vykey, .ref vytag, .ref vyroomKey, .ref vyroomTag, .int yruns, .ref vyrunAt, .ref vyrunMany, .int ywaitAt, .int ywaitMany, .ref vycost, .ref vyhadKey, .ref vyhadTag, .ref vyhadAt, .ref vyhadMany, .ref vyhadCost, .int ya0, .int ya1, .int yb0, .int yb1, .int yforward, .int yout])), (vyrules, .inl (cA, 4, .inl yrules)), (vykey, .inl (cA, 96, .inl (upd ykey x8.toNatClampNeg (ykey (x8 - (1 : Int32)).toNatClampNeg)))), (vytag, .inl (cA, 96, .inl (upd ytag x8.toNatClampNeg (ytag (x8 - (1 : Int32)).toNatClampNeg)))), (vycost, .inl (cA, 12, .inl ycost))] := hD
        refine lv_iinc (v := x8 + (-1 : Int32)) (lv' := [(8, .int (x8 + (-1 : Int32))), (0, .ref yo), (2, .int a2), (3, .int x3), (4, .int x4), (7, .int x7)]) hx hb dX6_put1_127 hl (k := 5) rfl (congrArg (fun z => x8 + z) (by decide)) (by decide) rfl (fun ls hl => ?_)
        refine lv_goto (tgt := 88) hx hb dX6_put1_130 (by decide) ?_
        exact ih88 x3 x4 x7 (x8 + (-1 : Int32)) (upd ykey x8.toNatClampNeg (ykey (x8 - (1 : Int32)).toNatClampNeg)) (upd ytag x8.toNatClampNeg (ytag (x8 - (1 : Int32)).toNatClampNeg)) ycost _ _ _ h hP hD hS (lv_sub hl [1, 2, 3, 4, 5, 0] rfl)
  have hmX6_put1_23 : ∀ (n23 : Nat) (x3 : Int32) (x4 : Int32) (x5 : Int32) (x6 : Int32) (ykey : (Nat → Int32)) (ytag : (Nat → Int32)) (ycost : (Nat → Int32)) (H : Heap) (locs : List Loc) (ls : Array Slot), mX6_put1_23 F yrules a1 a2 n23 x3 x4 x5 x6 ykey ytag ycost = some (ykey_9, ytag_9, ycost_9) → va_P D vwCl [(yo, .inr (6, [.int ylength, .ref vytext, .ref vyrules, .int ymany, .ref vylaid, .ref vykey, .ref vytag, .ref vyroomKey, .ref vyroomTag, .int yruns, .ref vyrunAt, .ref vyrunMany, .int ywaitAt, .int ywaitMany, .ref vycost, .ref vyhadKey, .ref vyhadTag, .ref vyhadAt, .ref vyhadMany, .ref vyhadCost, .int ya0, .int ya1, .int yb0, .int yb1, .int yforward, .int yout])), (vyrules, .inl (cA, 4, .inl yrules)), (vykey, .inl (cA, 96, .inl ykey)), (vytag, .inl (cA, 96, .inl ytag)), (vycost, .inl (cA, 12, .inl ycost))] H → va_D A [(yo, .inr (6, [.int ylength, .ref vytext, .ref vyrules, .int ymany, .ref vylaid, .ref vykey, .ref vytag, .ref vyroomKey, .ref vyroomTag, .int yruns, .ref vyrunAt, .ref vyrunMany, .int ywaitAt, .int ywaitMany, .ref vycost, .ref vyhadKey, .ref vyhadTag, .ref vyhadAt, .ref vyhadMany, .ref vyhadCost, .int ya0, .int ya1, .int yb0, .int yb1, .int yforward, .int yout])), (vyrules, .inl (cA, 4, .inl yrules)), (vykey, .inl (cA, 96, .inl ykey)), (vytag, .inl (cA, 96, .inl ytag)), (vycost, .inl (cA, 12, .inl ycost))] → va_S A s.heap H locs → lv_has ls 9 [(0, .ref yo), (1, .int a1), (2, .int a2), (3, .int x3), (4, .int x4), (5, .int x5), (6, .int x6)] → W p l e ({ frames := 3, cells := 0, slots := 0, locals := 64 }) s m ([.ref yo, .int a1, .int a2] : List Value).toArray below meth c H locs 0 0 (MQ below (Qw D A [(yo, .inr (6, [.int ylength, .ref vytext, .ref vyrules, .int ymany, .ref vylaid, .ref vykey, .ref vytag, .ref vyroomKey, .ref vyroomTag, .int yruns, .ref vyrunAt, .ref vyrunMany, .int ywaitAt, .int ywaitMany, .ref vycost, .ref vyhadKey, .ref vyhadTag, .ref vyhadAt, .ref vyhadMany, .ref vyhadCost, .int ya0, .int ya1, .int yb0, .int yb1, .int yforward, .int yout])), (vyrules, .inl (cA, 4, .inl yrules)), (vykey, .inl (cA, 96, .inl ykey_9)), (vytag, .inl (cA, 96, .inl ytag_9)), (vycost, .inl (cA, 12, .inl ycost_9))] (none)) ([.ref yo, .int a1, .int a2] : List Value).toArray s 0 0 A) (F0 m 23 ls []) := by
    intro n23
    induction n23 with
    | zero => intro x3 x4 x5 x6 ykey ytag ycost H locs ls h; exact (no_some h).elim
    | succ n23 ih23 =>
      intro x3 x4 x5 x6 ykey ytag ycost H locs ls h hP hD hS hl
      rw [mX6_put1_23] at h
      refine lv_iload hx hb dX6_put1_23 (lv_at hl 5 rfl) ?_
      refine lv_iload hx hb dX6_put1_25 (lv_at hl 6 rfl) ?_
      refine lv_icmp_ge (tgt := 72) hx hb dX6_put1_27 (by decide) (fun c27 => ?_) (fun c27 => ?_)
      · have h := i_t c27 h
        refine lv_iload_n hx hb dX6_put1_72 rfl (lv_at hl 1 rfl) ?_
        refine lv_iload hx hb dX6_put1_73 (lv_at hl 5 rfl) ?_
        refine lv_iadd hx hb dX6_put1_75 ?_
        refine lv_istore (lv' := [(7, .int (a1 + x5)), (0, .ref yo), (1, .int a1), (2, .int a2), (3, .int x3), (4, .int x4), (5, .int x5), (6, .int x6)]) hx hb dX6_put1_76 hl (by decide) rfl (fun ls hl => ?_)
        refine lv_iload hx hb dX6_put1_78 (lv_at hl 0 rfl) ?_
        refine lv_iload_n hx hb dX6_put1_80 rfl (lv_at hl 3 rfl) ?_
        refine lv_icmp_ne (tgt := 85) hx hb dX6_put1_81 (by decide) (fun c81 => ?_) (fun c81 => ?_)
        · have h := i_f c81 h
          refine lv_iload_n hx hb dX6_put1_85 rfl (lv_at hl 3 rfl) ?_
          refine lv_istore (lv' := [(8, .int a2), (7, .int (a1 + x5)), (0, .ref yo), (1, .int a1), (2, .int a2), (3, .int x3), (4, .int x4), (5, .int x5), (6, .int x6)]) hx hb dX6_put1_86 hl (by decide) rfl (fun ls hl => ?_)
          exact hmX6_put1_88 F x3 x4 (a1 + x5) a2 ykey ytag ycost _ _ _ h hP hD hS (lv_sub hl [2, 4, 5, 6, 1, 0] rfl)
        · have h := i_t c81 h
          cases h
          exact rt_v hx hb hr hlocks hP hD hS dX6_put1_84
      · have h := i_f c27 h
        refine lv_iload hx hb dX6_put1_30 (lv_at hl 5 rfl) ?_
        refine lv_iload hx hb dX6_put1_32 (lv_at hl 6 rfl) ?_
        refine lv_iadd hx hb dX6_put1_34 ?_
        refine lv_iconst (v := (2 : Int32)) hx hb dX6_put1_35 (by decide) ?_
        refine lv_idiv hx hb dX6_put1_36 (by decide) ?_
        refine lv_istore (lv' := [(7, .int ((x5 + x6) / (2 : Int32))), (0, .ref yo), (1, .int a1), (2, .int a2), (3, .int x3), (4, .int x4), (5, .int x5), (6, .int x6)]) hx hb dX6_put1_37 hl (by decide) rfl (fun ls hl => ?_)
        refine lv_aload_n hx hb dX6_put1_39 rfl (lv_at hl 1 rfl) ?_
        refine lv_iload_n hx hb dX6_put1_40 rfl (lv_at hl 4 rfl) ?_
        refine lv_aload_n hx hb dX6_put1_41 rfl (lv_at hl 1 rfl) ?_
        refine va_get (D := D) (cl := vwCl) (ci := 6) (v := .ref vykey) (C := RX6) (T := TX6) (N := 26) hx hb hts hinX6 hown hG.1 hP 0 rfl rfl 5 (by decide) fl19 (fun _ h9 => h9) rfl dX6_put1_42 ?_
        refine lv_iload_n hx hb dX6_put1_45 rfl (lv_at hl 2 rfl) ?_
        refine lv_iload hx hb dX6_put1_46 (lv_at hl 0 rfl) ?_
        refine lv_iadd hx hb dX6_put1_48 ?_
        obtain ⟨hi49, h⟩ := ck_some h
        refine va_iald hx hb hG.1 hP 2 0 rfl rfl hi49 dX6_put1_49 ?_
        obtain ⟨r50, ycost_50, hc50, h⟩ := bd2_some h
        refine ct_V (As := [.int x3, .int (ykey (a1 + ((x5 + x6) / (2 : Int32))).toNatClampNeg)]) (rest := []) (st1 := [.int r50]) (wf := [(yo, .inr (6, [.int ylength, .ref vytext, .ref vyrules, .int ymany, .ref vylaid, .ref vykey, .ref vytag, .ref vyroomKey, .ref vyroomTag, .int yruns, .ref vyrunAt, .ref vyrunMany, .int ywaitAt, .int ywaitMany, .ref vycost, .ref vyhadKey, .ref vyhadTag, .ref vyhadAt, .ref vyhadMany, .ref vyhadCost, .int ya0, .int ya1, .int yb0, .int yb1, .int yforward, .int yout])), (vyrules, .inl (cA, 4, .inl yrules)), (vykey, .inl (cA, 96, .inl ykey)), (vytag, .inl (cA, 96, .inl ytag)), (vycost, .inl (cA, 12, .inl ycost_50))]) (kX6_tests l D cA F yo vytext vyrules vylaid vykey vytag vyroomKey vyroomTag vyrunAt vyrunMany vycost vyhadKey vyhadTag vyhadAt vyhadMany vyhadCost  ylength ymany yruns ywaitAt ywaitMany ya0 ya1 yb0 yb1 yforward yout yrules ycost x3 (ykey (a1 + ((x5 + x6) / (2 : Int32))).toNatClampNeg) r50 ycost_50 hc50) ⟨hx, hb, hml, hown, hts⟩ (cwV 2 hts gX6_put1_X6_tests rfl rfl rfl (by decide +kernel) ⟨Nat.le_of_ble_eq_true rfl, Nat.le_of_ble_eq_true rfl⟩) hG hst hP hD hS hA 6 rfl rfl rfl [0, 1, 4] [2, 3] [2, 3, 0, 1, 4] rfl rfl rfl rfl rfl rfl hl.1 rfl rfl (Nat.le_of_ble_eq_true rfl) dX6_put1_50 ⟨Nat.zero_le _, Nat.zero_le _⟩ (fun H locs hP hD hS => ?_)
        refine lv_if_eq (tgt := 63) hx hb dX6_put1_53 (by decide) (fun c53 => ?_) (fun c53 => ?_)
        · have h := i_t c53 h
          refine lv_iload hx hb dX6_put1_63 (lv_at hl 0 rfl) ?_
          refine lv_iconst (v := (1 : Int32)) hx hb dX6_put1_65 (by decide) ?_
          refine lv_iadd hx hb dX6_put1_66 ?_
          refine lv_istore (lv' := [(5, .int (((x5 + x6) / (2 : Int32)) + (1 : Int32))), (7, .int ((x5 + x6) / (2 : Int32))), (0, .ref yo), (1, .int a1), (2, .int a2), (3, .int x3), (4, .int x4), (6, .int x6)]) hx hb dX6_put1_67 hl (by decide) rfl (fun ls hl => ?_)
          refine lv_goto (tgt := 23) hx hb dX6_put1_69 (by decide) ?_
          exact ih23 x3 x4 (((x5 + x6) / (2 : Int32)) + (1 : Int32)) x6 ykey ytag ycost_50 _ _ _ h hP hD hS (lv_sub hl [2, 3, 4, 5, 6, 0, 7] rfl)
        · have h := i_f c53 h
          refine lv_iload hx hb dX6_put1_56 (lv_at hl 0 rfl) ?_
          refine lv_istore (lv' := [(6, .int ((x5 + x6) / (2 : Int32))), (7, .int ((x5 + x6) / (2 : Int32))), (0, .ref yo), (1, .int a1), (2, .int a2), (3, .int x3), (4, .int x4), (5, .int x5)]) hx hb dX6_put1_58 hl (by decide) rfl (fun ls hl => ?_)
          refine lv_goto (tgt := 69) hx hb dX6_put1_60 (by decide) ?_
          refine lv_goto (tgt := 23) hx hb dX6_put1_69 (by decide) ?_
          exact ih23 x3 x4 x5 ((x5 + x6) / (2 : Int32)) ykey ytag ycost_50 _ _ _ h hP hD hS (lv_sub hl [2, 3, 4, 5, 6, 7, 0] rfl)
  unfold mX6_put1 at h
  refine lv_aload_n hx hb dX6_put1_0 rfl (lv_at hl 0 rfl) ?_
  refine va_get (D := D) (cl := vwCl) (ci := 6) (v := .ref vykey) (C := RX6) (T := TX6) (N := 26) hx hb hts hinX6 hown hG.1 hP 0 rfl rfl 5 (by decide) fl19 (fun _ h9 => h9) rfl dX6_put1_1 ?_
  refine lv_iload_n hx hb dX6_put1_4 rfl (lv_at hl 2 rfl) ?_
  obtain ⟨hi5, h⟩ := ck_some h
  refine va_iald hx hb hG.1 hP 2 0 rfl rfl hi5 dX6_put1_5 ?_
  refine lv_istore_n (lv' := [(3, .int (ykey a2.toNatClampNeg)), (0, .ref yo), (1, .int a1), (2, .int a2)]) hx hb dX6_put1_6 rfl hl (by decide) rfl (fun ls hl => ?_)
  refine lv_aload_n hx hb dX6_put1_7 rfl (lv_at hl 1 rfl) ?_
  refine va_get (D := D) (cl := vwCl) (ci := 6) (v := .ref vytag) (C := RX6) (T := TX6) (N := 26) hx hb hts hinX6 hown hG.1 hP 0 rfl rfl 6 (by decide) fl22 (fun _ h9 => h9) rfl dX6_put1_8 ?_
  refine lv_iload_n hx hb dX6_put1_11 rfl (lv_at hl 3 rfl) ?_
  obtain ⟨hi12, h⟩ := ck_some h
  refine va_iald hx hb hG.1 hP 3 0 rfl rfl hi12 dX6_put1_12 ?_
  refine lv_istore (lv' := [(4, .int (ytag a2.toNatClampNeg)), (3, .int (ykey a2.toNatClampNeg)), (0, .ref yo), (1, .int a1), (2, .int a2)]) hx hb dX6_put1_13 hl (by decide) rfl (fun ls hl => ?_)
  refine lv_iconst (v := (0 : Int32)) hx hb dX6_put1_15 (by decide) ?_
  refine lv_istore (lv' := [(5, .int (0 : Int32)), (4, .int (ytag a2.toNatClampNeg)), (3, .int (ykey a2.toNatClampNeg)), (0, .ref yo), (1, .int a1), (2, .int a2)]) hx hb dX6_put1_16 hl (by decide) rfl (fun ls hl => ?_)
  refine lv_iload_n hx hb dX6_put1_18 rfl (lv_at hl 5 rfl) ?_
  refine lv_iload_n hx hb dX6_put1_19 rfl (lv_at hl 4 rfl) ?_
  refine lv_isub hx hb dX6_put1_20 ?_
  refine lv_istore (lv' := [(6, .int (a2 - a1)), (5, .int (0 : Int32)), (4, .int (ytag a2.toNatClampNeg)), (3, .int (ykey a2.toNatClampNeg)), (0, .ref yo), (1, .int a1), (2, .int a2)]) hx hb dX6_put1_21 hl (by decide) rfl (fun ls hl => ?_)
  exact hmX6_put1_23 F (ykey a2.toNatClampNeg) (ytag a2.toNatClampNeg) (0 : Int32) (a2 - a1) ykey ytag ycost _ _ _ h hP hD hS (lv_sub hl [4, 5, 6, 3, 2, 1, 0] rfl)
