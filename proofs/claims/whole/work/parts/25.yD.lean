/-! contracts, by program (wip/whole/gen.py) -/
set_option maxHeartbeats 4000000 in
set_option maxRecDepth 100000 in
theorem kX6_mergeNext (l : Launch) (D : va_G) (cA : ClassId) (F : Nat) (yo : Nat) (vytext : Nat) (vyrules : Nat) (vylaid : Nat) (vykey : Nat) (vytag : Nat) (vyroomKey : Nat) (vyroomTag : Nat) (vyrunAt : Nat) (vyrunMany : Nat) (vycost : Nat) (vyhadKey : Nat) (vyhadTag : Nat) (vyhadAt : Nat) (vyhadMany : Nat) (vyhadCost : Nat) (ylength : Int32) (ymany : Int32) (yruns : Int32) (ywaitAt : Int32) (ywaitMany : Int32) (ya0 : Int32) (ya1 : Int32) (yb0 : Int32) (yb1 : Int32) (yforward : Int32) (yout : Int32) (yrules : (Nat → Int32)) (yrunAt : (Nat → Int32)) (yrunMany : (Nat → Int32)) (r0 : Int32) (h : mX6_mergeNext F ymany yruns ywaitMany yrules yrunAt yrunMany = some r0) : Ct l yX6_mergeNext wsX6_mergeNext ({ frames := 1, cells := 0, slots := 0, locals := 24 }) D cA [.ref yo] [(yo, .inr (6, [.int ylength, .ref vytext, .ref vyrules, .int ymany, .ref vylaid, .ref vykey, .ref vytag, .ref vyroomKey, .ref vyroomTag, .int yruns, .ref vyrunAt, .ref vyrunMany, .int ywaitAt, .int ywaitMany, .ref vycost, .ref vyhadKey, .ref vyhadTag, .ref vyhadAt, .ref vyhadMany, .ref vyhadCost, .int ya0, .int ya1, .int yb0, .int yb1, .int yforward, .int yout])), (vyrules, .inl (cA, 4, .inl yrules)), (vyrunAt, .inl (cA, 96, .inl yrunAt)), (vyrunMany, .inl (cA, 96, .inl yrunMany))] [(yo, .inr (6, [.int ylength, .ref vytext, .ref vyrules, .int ymany, .ref vylaid, .ref vykey, .ref vytag, .ref vyroomKey, .ref vyroomTag, .int yruns, .ref vyrunAt, .ref vyrunMany, .int ywaitAt, .int ywaitMany, .ref vycost, .ref vyhadKey, .ref vyhadTag, .ref vyhadAt, .ref vyhadMany, .ref vyhadCost, .int ya0, .int ya1, .int yb0, .int yb1, .int yforward, .int yout])), (vyrules, .inl (cA, 4, .inl yrules)), (vyrunAt, .inl (cA, 96, .inl yrunAt)), (vyrunMany, .inl (cA, 96, .inl yrunMany))] (some (.int r0)) := by
  refine Ct.of (cc := cX6_mergeNext) (maxL := 6) (ret := (some .int)) (by decide) rfl (Nat.le_of_ble_eq_true rfl) ?_
  intro p e s m below meth c A ls hcx hG hst hA hP hD hl
  obtain ⟨hx, hb, hml, hown, hts, hr, hlocks⟩ := id hcx
  have hown : s.vm.findClass RX6 = some m.cls := hown
  have hS : va_S A s.heap s.heap [] := va_S.rf
  have hl : lv_has ls 6 [(0, .ref yo)] := hl
  have hinX6 : ∀ w ∈ u_ws RX6 TX6 26, w ∈ wsX6_mergeNext := by decide +kernel
  have fl81 := hts (.fieldLink RX6 81 "RunSorterModel" "runs" "I") (by decide +kernel)
  have fl34 := hts (.fieldLink RX6 34 "RunSorterModel" "runMany" "[I") (by decide +kernel)
  have fl55 := hts (.fieldLink RX6 55 "RunSorterModel" "many" "I") (by decide +kernel)
  have fl13 := hts (.fieldLink RX6 13 "RunSorterModel" "rules" "[I") (by decide +kernel)
  have fl87 := hts (.fieldLink RX6 87 "RunSorterModel" "waitMany" "I") (by decide +kernel)
  have fl31 := hts (.fieldLink RX6 31 "RunSorterModel" "runAt" "[I") (by decide +kernel)
  have hmX6_mergeNext_362 : ∀ (H : Heap) (locs : List Loc) (ls : Array Slot), mX6_mergeNext_362 F yruns = some r0 → va_P D vwCl [(yo, .inr (6, [.int ylength, .ref vytext, .ref vyrules, .int ymany, .ref vylaid, .ref vykey, .ref vytag, .ref vyroomKey, .ref vyroomTag, .int yruns, .ref vyrunAt, .ref vyrunMany, .int ywaitAt, .int ywaitMany, .ref vycost, .ref vyhadKey, .ref vyhadTag, .ref vyhadAt, .ref vyhadMany, .ref vyhadCost, .int ya0, .int ya1, .int yb0, .int yb1, .int yforward, .int yout])), (vyrules, .inl (cA, 4, .inl yrules)), (vyrunAt, .inl (cA, 96, .inl yrunAt)), (vyrunMany, .inl (cA, 96, .inl yrunMany))] H → va_D A [(yo, .inr (6, [.int ylength, .ref vytext, .ref vyrules, .int ymany, .ref vylaid, .ref vykey, .ref vytag, .ref vyroomKey, .ref vyroomTag, .int yruns, .ref vyrunAt, .ref vyrunMany, .int ywaitAt, .int ywaitMany, .ref vycost, .ref vyhadKey, .ref vyhadTag, .ref vyhadAt, .ref vyhadMany, .ref vyhadCost, .int ya0, .int ya1, .int yb0, .int yb1, .int yforward, .int yout])), (vyrules, .inl (cA, 4, .inl yrules)), (vyrunAt, .inl (cA, 96, .inl yrunAt)), (vyrunMany, .inl (cA, 96, .inl yrunMany))] → va_S A s.heap H locs → lv_has ls 6 [(0, .ref yo)] → W p l e ({ frames := 1, cells := 0, slots := 0, locals := 24 }) s m ([.ref yo] : List Value).toArray below meth c H locs 0 0 (MQ below (Qw D A [(yo, .inr (6, [.int ylength, .ref vytext, .ref vyrules, .int ymany, .ref vylaid, .ref vykey, .ref vytag, .ref vyroomKey, .ref vyroomTag, .int yruns, .ref vyrunAt, .ref vyrunMany, .int ywaitAt, .int ywaitMany, .ref vycost, .ref vyhadKey, .ref vyhadTag, .ref vyhadAt, .ref vyhadMany, .ref vyhadCost, .int ya0, .int ya1, .int yb0, .int yb1, .int yforward, .int yout])), (vyrules, .inl (cA, 4, .inl yrules)), (vyrunAt, .inl (cA, 96, .inl yrunAt)), (vyrunMany, .inl (cA, 96, .inl yrunMany))] (some (.int r0))) ([.ref yo] : List Value).toArray s 0 0 A) (F0 m 362 ls []) := by
    intro H locs ls h hP hD hS hl
    unfold mX6_mergeNext_362 at h
    refine lv_aload_n hx hb dX6_mergeNext_362 rfl (lv_at hl 0 rfl) ?_
    refine va_get (D := D) (cl := vwCl) (ci := 6) (v := .int yruns) (C := RX6) (T := TX6) (N := 26) hx hb hts hinX6 hown hG.1 hP 0 rfl rfl 9 (by decide) fl81 (fun _ h9 => h9) rfl dX6_mergeNext_363 ?_
    refine lv_iconst (v := (2 : Int32)) hx hb dX6_mergeNext_366 (by decide) ?_
    refine lv_isub hx hb dX6_mergeNext_367 ?_
    cases h
    exact rt_i hx hb hr hlocks hP hD hS dX6_mergeNext_368
  have hmX6_mergeNext_308 : ∀ (x1 : Int32) (x3 : Int32) (H : Heap) (locs : List Loc) (ls : Array Slot), mX6_mergeNext_308 F ymany yruns ywaitMany yrules yrunMany x1 x3 = some r0 → va_P D vwCl [(yo, .inr (6, [.int ylength, .ref vytext, .ref vyrules, .int ymany, .ref vylaid, .ref vykey, .ref vytag, .ref vyroomKey, .ref vyroomTag, .int yruns, .ref vyrunAt, .ref vyrunMany, .int ywaitAt, .int ywaitMany, .ref vycost, .ref vyhadKey, .ref vyhadTag, .ref vyhadAt, .ref vyhadMany, .ref vyhadCost, .int ya0, .int ya1, .int yb0, .int yb1, .int yforward, .int yout])), (vyrules, .inl (cA, 4, .inl yrules)), (vyrunAt, .inl (cA, 96, .inl yrunAt)), (vyrunMany, .inl (cA, 96, .inl yrunMany))] H → va_D A [(yo, .inr (6, [.int ylength, .ref vytext, .ref vyrules, .int ymany, .ref vylaid, .ref vykey, .ref vytag, .ref vyroomKey, .ref vyroomTag, .int yruns, .ref vyrunAt, .ref vyrunMany, .int ywaitAt, .int ywaitMany, .ref vycost, .ref vyhadKey, .ref vyhadTag, .ref vyhadAt, .ref vyhadMany, .ref vyhadCost, .int ya0, .int ya1, .int yb0, .int yb1, .int yforward, .int yout])), (vyrules, .inl (cA, 4, .inl yrules)), (vyrunAt, .inl (cA, 96, .inl yrunAt)), (vyrunMany, .inl (cA, 96, .inl yrunMany))] → va_S A s.heap H locs → lv_has ls 6 [(0, .ref yo), (1, .int x1), (3, .int x3)] → W p l e ({ frames := 1, cells := 0, slots := 0, locals := 24 }) s m ([.ref yo] : List Value).toArray below meth c H locs 0 0 (MQ below (Qw D A [(yo, .inr (6, [.int ylength, .ref vytext, .ref vyrules, .int ymany, .ref vylaid, .ref vykey, .ref vytag, .ref vyroomKey, .ref vyroomTag, .int yruns, .ref vyrunAt, .ref vyrunMany, .int ywaitAt, .int ywaitMany, .ref vycost, .ref vyhadKey, .ref vyhadTag, .ref vyhadAt, .ref vyhadMany, .ref vyhadCost, .int ya0, .int ya1, .int yb0, .int yb1, .int yforward, .int yout])), (vyrules, .inl (cA, 4, .inl yrules)), (vyrunAt, .inl (cA, 96, .inl yrunAt)), (vyrunMany, .inl (cA, 96, .inl yrunMany))] (some (.int r0))) ([.ref yo] : List Value).toArray s 0 0 A) (F0 m 308 ls []) := by
    intro x1 x3 H locs ls h hP hD hS hl
    unfold mX6_mergeNext_308 at h
    refine lv_aload_n hx hb dX6_mergeNext_308 rfl (lv_at hl 0 rfl) ?_
    obtain ⟨r309, hc309, h⟩ := bd1_some h
    refine ct_V (As := []) (rest := []) (st1 := [.int r309]) (wf := [(yo, .inr (6, [.int ylength, .ref vytext, .ref vyrules, .int ymany, .ref vylaid, .ref vykey, .ref vytag, .ref vyroomKey, .ref vyroomTag, .int yruns, .ref vyrunAt, .ref vyrunMany, .int ywaitAt, .int ywaitMany, .ref vycost, .ref vyhadKey, .ref vyhadTag, .ref vyhadAt, .ref vyhadMany, .ref vyhadCost, .int ya0, .int ya1, .int yb0, .int yb1, .int yforward, .int yout])), (vyrules, .inl (cA, 4, .inl yrules)), (vyrunAt, .inl (cA, 96, .inl yrunAt)), (vyrunMany, .inl (cA, 96, .inl yrunMany))]) (kX6_inRuns l D cA F yo vytext vyrules vylaid vykey vytag vyroomKey vyroomTag vyrunAt vyrunMany vycost vyhadKey vyhadTag vyhadAt vyhadMany vyhadCost  ylength ymany yruns ywaitAt ywaitMany ya0 ya1 yb0 yb1 yforward yout yrunMany  r309 hc309) ⟨hx, hb, hml, hown, hts⟩ (cwV 0 hts gX6_mergeNext_X6_inRuns rfl rfl rfl (by decide +kernel) ⟨Nat.le_of_ble_eq_true rfl, Nat.le_of_ble_eq_true rfl⟩) hG hst hP hD hS hA 6 rfl rfl rfl [0, 3] [1, 2] [2, 0, 1, 3] rfl rfl rfl rfl rfl rfl hl.1 rfl rfl (Nat.le_of_ble_eq_true rfl) dX6_mergeNext_309 ⟨Nat.zero_le _, Nat.zero_le _⟩ (fun H locs hP hD hS => ?_)
    refine lv_aload_n hx hb dX6_mergeNext_312 rfl (lv_at hl 0 rfl) ?_
    refine va_get (D := D) (cl := vwCl) (ci := 6) (v := .int ymany) (C := RX6) (T := TX6) (N := 26) hx hb hts hinX6 hown hG.1 hP 0 rfl rfl 3 (by decide) fl55 (fun _ h9 => h9) rfl dX6_mergeNext_313 ?_
    refine lv_icmp_lt (tgt := 327) hx hb dX6_mergeNext_316 (by decide) (fun c316 => ?_) (fun c316 => ?_)
    · have h := i_t c316 h
      refine lv_bipush (v := (-4 : Int32)) hx hb dX6_mergeNext_327 (by decide) ?_
      cases h
      exact rt_i hx hb hr hlocks hP hD hS dX6_mergeNext_329
    · have h := i_f c316 h
      refine lv_aload_n hx hb dX6_mergeNext_319 rfl (lv_at hl 0 rfl) ?_
      refine va_get (D := D) (cl := vwCl) (ci := 6) (v := .int yruns) (C := RX6) (T := TX6) (N := 26) hx hb hts hinX6 hown hG.1 hP 0 rfl rfl 9 (by decide) fl81 (fun _ h9 => h9) rfl dX6_mergeNext_320 ?_
      refine lv_iconst (v := (2 : Int32)) hx hb dX6_mergeNext_323 (by decide) ?_
      refine lv_icmp_ge (tgt := 330) hx hb dX6_mergeNext_324 (by decide) (fun c324 => ?_) (fun c324 => ?_)
      · have h := i_t c324 h
        refine lv_aload_n hx hb dX6_mergeNext_330 rfl (lv_at hl 0 rfl) ?_
        refine va_get (D := D) (cl := vwCl) (ci := 6) (v := .ref vyrules) (C := RX6) (T := TX6) (N := 26) hx hb hts hinX6 hown hG.1 hP 0 rfl rfl 2 (by decide) fl13 (fun _ h9 => h9) rfl dX6_mergeNext_331 ?_
        refine lv_iconst (v := (1 : Int32)) hx hb dX6_mergeNext_334 (by decide) ?_
        obtain ⟨hi335, h⟩ := ck_some h
        refine va_iald hx hb hG.1 hP 1 0 rfl rfl hi335 dX6_mergeNext_335 ?_
        refine lv_iconst (v := (2 : Int32)) hx hb dX6_mergeNext_336 (by decide) ?_
        refine lv_icmp_ne (tgt := 362) hx hb dX6_mergeNext_337 (by decide) (fun c337 => ?_) (fun c337 => ?_)
        · have h := i_f c337 h
          exact hmX6_mergeNext_362  _ _ _ h hP hD hS (lv_sub hl [0] rfl)
        · have h := i_t c337 h
          refine lv_aload_n hx hb dX6_mergeNext_340 rfl (lv_at hl 0 rfl) ?_
          refine va_get (D := D) (cl := vwCl) (ci := 6) (v := .int yruns) (C := RX6) (T := TX6) (N := 26) hx hb hts hinX6 hown hG.1 hP 0 rfl rfl 9 (by decide) fl81 (fun _ h9 => h9) rfl dX6_mergeNext_341 ?_
          refine lv_iconst (v := (2 : Int32)) hx hb dX6_mergeNext_344 (by decide) ?_
          refine lv_icmp_le (tgt := 362) hx hb dX6_mergeNext_345 (by decide) (fun c345 => ?_) (fun c345 => ?_)
          · have h := i_t c345 h
            exact hmX6_mergeNext_362  _ _ _ h hP hD hS (lv_sub hl [0] rfl)
          · have h := i_f c345 h
            refine lv_iload_n hx hb dX6_mergeNext_348 rfl (lv_at hl 2 rfl) ?_
            refine lv_iload_n hx hb dX6_mergeNext_349 rfl (lv_at hl 1 rfl) ?_
            refine lv_icmp_ge (tgt := 362) hx hb dX6_mergeNext_350 (by decide) (fun c350 => ?_) (fun c350 => ?_)
            · have h := i_t c350 h
              exact hmX6_mergeNext_362  _ _ _ h hP hD hS (lv_sub hl [0] rfl)
            · have h := i_f c350 h
              refine lv_aload_n hx hb dX6_mergeNext_353 rfl (lv_at hl 0 rfl) ?_
              refine va_get (D := D) (cl := vwCl) (ci := 6) (v := .int yruns) (C := RX6) (T := TX6) (N := 26) hx hb hts hinX6 hown hG.1 hP 0 rfl rfl 9 (by decide) fl81 (fun _ h9 => h9) rfl dX6_mergeNext_354 ?_
              refine lv_iconst (v := (3 : Int32)) hx hb dX6_mergeNext_357 (by decide) ?_
              refine lv_isub hx hb dX6_mergeNext_358 ?_
              refine lv_goto (tgt := 368) hx hb dX6_mergeNext_359 (by decide) ?_
              cases h
              exact rt_i hx hb hr hlocks hP hD hS dX6_mergeNext_368
      · have h := i_f c324 h
        refine lv_bipush (v := (-4 : Int32)) hx hb dX6_mergeNext_327 (by decide) ?_
        cases h
        exact rt_i hx hb hr hlocks hP hD hS dX6_mergeNext_329
  have hmX6_mergeNext_278 : ∀ (x1 : Int32) (x2 : Int32) (x3 : Int32) (H : Heap) (locs : List Loc) (ls : Array Slot), mX6_mergeNext_278 F ymany yruns ywaitMany yrules yrunMany x1 x2 x3 = some r0 → va_P D vwCl [(yo, .inr (6, [.int ylength, .ref vytext, .ref vyrules, .int ymany, .ref vylaid, .ref vykey, .ref vytag, .ref vyroomKey, .ref vyroomTag, .int yruns, .ref vyrunAt, .ref vyrunMany, .int ywaitAt, .int ywaitMany, .ref vycost, .ref vyhadKey, .ref vyhadTag, .ref vyhadAt, .ref vyhadMany, .ref vyhadCost, .int ya0, .int ya1, .int yb0, .int yb1, .int yforward, .int yout])), (vyrules, .inl (cA, 4, .inl yrules)), (vyrunAt, .inl (cA, 96, .inl yrunAt)), (vyrunMany, .inl (cA, 96, .inl yrunMany))] H → va_D A [(yo, .inr (6, [.int ylength, .ref vytext, .ref vyrules, .int ymany, .ref vylaid, .ref vykey, .ref vytag, .ref vyroomKey, .ref vyroomTag, .int yruns, .ref vyrunAt, .ref vyrunMany, .int ywaitAt, .int ywaitMany, .ref vycost, .ref vyhadKey, .ref vyhadTag, .ref vyhadAt, .ref vyhadMany, .ref vyhadCost, .int ya0, .int ya1, .int yb0, .int yb1, .int yforward, .int yout])), (vyrules, .inl (cA, 4, .inl yrules)), (vyrunAt, .inl (cA, 96, .inl yrunAt)), (vyrunMany, .inl (cA, 96, .inl yrunMany))] → va_S A s.heap H locs → lv_has ls 6 [(0, .ref yo), (1, .int x1), (2, .int x2), (3, .int x3)] → W p l e ({ frames := 1, cells := 0, slots := 0, locals := 24 }) s m ([.ref yo] : List Value).toArray below meth c H locs 0 0 (MQ below (Qw D A [(yo, .inr (6, [.int ylength, .ref vytext, .ref vyrules, .int ymany, .ref vylaid, .ref vykey, .ref vytag, .ref vyroomKey, .ref vyroomTag, .int yruns, .ref vyrunAt, .ref vyrunMany, .int ywaitAt, .int ywaitMany, .ref vycost, .ref vyhadKey, .ref vyhadTag, .ref vyhadAt, .ref vyhadMany, .ref vyhadCost, .int ya0, .int ya1, .int yb0, .int yb1, .int yforward, .int yout])), (vyrules, .inl (cA, 4, .inl yrules)), (vyrunAt, .inl (cA, 96, .inl yrunAt)), (vyrunMany, .inl (cA, 96, .inl yrunMany))] (some (.int r0))) ([.ref yo] : List Value).toArray s 0 0 A) (F0 m 278 ls []) := by
    intro x1 x2 x3 H locs ls h hP hD hS hl
    unfold mX6_mergeNext_278 at h
    refine lv_aload_n hx hb dX6_mergeNext_278 rfl (lv_at hl 0 rfl) ?_
    refine va_get (D := D) (cl := vwCl) (ci := 6) (v := .ref vyrules) (C := RX6) (T := TX6) (N := 26) hx hb hts hinX6 hown hG.1 hP 0 rfl rfl 2 (by decide) fl13 (fun _ h9 => h9) rfl dX6_mergeNext_279 ?_
    refine lv_iconst (v := (1 : Int32)) hx hb dX6_mergeNext_282 (by decide) ?_
    obtain ⟨hi283, h⟩ := ck_some h
    refine va_iald hx hb hG.1 hP 1 0 rfl rfl hi283 dX6_mergeNext_283 ?_
    refine lv_iconst (v := (2 : Int32)) hx hb dX6_mergeNext_284 (by decide) ?_
    refine lv_icmp_ne (tgt := 308) hx hb dX6_mergeNext_285 (by decide) (fun c285 => ?_) (fun c285 => ?_)
    · have h := i_f c285 h
      exact hmX6_mergeNext_308 x1 x3 _ _ _ h hP hD hS (lv_sub hl [0, 1, 3] rfl)
    · have h := i_t c285 h
      refine lv_aload_n hx hb dX6_mergeNext_288 rfl (lv_at hl 0 rfl) ?_
      refine va_get (D := D) (cl := vwCl) (ci := 6) (v := .int yruns) (C := RX6) (T := TX6) (N := 26) hx hb hts hinX6 hown hG.1 hP 0 rfl rfl 9 (by decide) fl81 (fun _ h9 => h9) rfl dX6_mergeNext_289 ?_
      refine lv_iconst (v := (1 : Int32)) hx hb dX6_mergeNext_292 (by decide) ?_
      refine lv_icmp_le (tgt := 308) hx hb dX6_mergeNext_293 (by decide) (fun c293 => ?_) (fun c293 => ?_)
      · have h := i_t c293 h
        exact hmX6_mergeNext_308 x1 x3 _ _ _ h hP hD hS (lv_sub hl [0, 1, 3] rfl)
      · have h := i_f c293 h
        refine lv_iload_n hx hb dX6_mergeNext_296 rfl (lv_at hl 2 rfl) ?_
        refine lv_iload_n hx hb dX6_mergeNext_297 rfl (lv_at hl 1 rfl) ?_
        refine lv_icmp_gt (tgt := 308) hx hb dX6_mergeNext_298 (by decide) (fun c298 => ?_) (fun c298 => ?_)
        · have h := i_t c298 h
          exact hmX6_mergeNext_308 x1 x3 _ _ _ h hP hD hS (lv_sub hl [0, 1, 3] rfl)
        · have h := i_f c298 h
          refine lv_aload_n hx hb dX6_mergeNext_301 rfl (lv_at hl 0 rfl) ?_
          refine va_get (D := D) (cl := vwCl) (ci := 6) (v := .int yruns) (C := RX6) (T := TX6) (N := 26) hx hb hts hinX6 hown hG.1 hP 0 rfl rfl 9 (by decide) fl81 (fun _ h9 => h9) rfl dX6_mergeNext_302 ?_
          refine lv_iconst (v := (2 : Int32)) hx hb dX6_mergeNext_305 (by decide) ?_
          refine lv_isub hx hb dX6_mergeNext_306 ?_
          cases h
          exact rt_i hx hb hr hlocks hP hD hS dX6_mergeNext_307
  have hmX6_mergeNext_257 : ∀ (x1 : Int32) (x3 : Int32) (H : Heap) (locs : List Loc) (ls : Array Slot), mX6_mergeNext_257 F yruns x1 x3 = some r0 → va_P D vwCl [(yo, .inr (6, [.int ylength, .ref vytext, .ref vyrules, .int ymany, .ref vylaid, .ref vykey, .ref vytag, .ref vyroomKey, .ref vyroomTag, .int yruns, .ref vyrunAt, .ref vyrunMany, .int ywaitAt, .int ywaitMany, .ref vycost, .ref vyhadKey, .ref vyhadTag, .ref vyhadAt, .ref vyhadMany, .ref vyhadCost, .int ya0, .int ya1, .int yb0, .int yb1, .int yforward, .int yout])), (vyrules, .inl (cA, 4, .inl yrules)), (vyrunAt, .inl (cA, 96, .inl yrunAt)), (vyrunMany, .inl (cA, 96, .inl yrunMany))] H → va_D A [(yo, .inr (6, [.int ylength, .ref vytext, .ref vyrules, .int ymany, .ref vylaid, .ref vykey, .ref vytag, .ref vyroomKey, .ref vyroomTag, .int yruns, .ref vyrunAt, .ref vyrunMany, .int ywaitAt, .int ywaitMany, .ref vycost, .ref vyhadKey, .ref vyhadTag, .ref vyhadAt, .ref vyhadMany, .ref vyhadCost, .int ya0, .int ya1, .int yb0, .int yb1, .int yforward, .int yout])), (vyrules, .inl (cA, 4, .inl yrules)), (vyrunAt, .inl (cA, 96, .inl yrunAt)), (vyrunMany, .inl (cA, 96, .inl yrunMany))] → va_S A s.heap H locs → lv_has ls 6 [(0, .ref yo), (1, .int x1), (3, .int x3)] → W p l e ({ frames := 1, cells := 0, slots := 0, locals := 24 }) s m ([.ref yo] : List Value).toArray below meth c H locs 0 0 (MQ below (Qw D A [(yo, .inr (6, [.int ylength, .ref vytext, .ref vyrules, .int ymany, .ref vylaid, .ref vykey, .ref vytag, .ref vyroomKey, .ref vyroomTag, .int yruns, .ref vyrunAt, .ref vyrunMany, .int ywaitAt, .int ywaitMany, .ref vycost, .ref vyhadKey, .ref vyhadTag, .ref vyhadAt, .ref vyhadMany, .ref vyhadCost, .int ya0, .int ya1, .int yb0, .int yb1, .int yforward, .int yout])), (vyrules, .inl (cA, 4, .inl yrules)), (vyrunAt, .inl (cA, 96, .inl yrunAt)), (vyrunMany, .inl (cA, 96, .inl yrunMany))] (some (.int r0))) ([.ref yo] : List Value).toArray s 0 0 A) (F0 m 257 ls []) := by
    intro x1 x3 H locs ls h hP hD hS hl
    unfold mX6_mergeNext_257 at h
    refine lv_iload_n hx hb dX6_mergeNext_257 rfl (lv_at hl 2 rfl) ?_
    refine lv_iload_n hx hb dX6_mergeNext_258 rfl (lv_at hl 1 rfl) ?_
    refine lv_icmp_ge (tgt := 271) hx hb dX6_mergeNext_259 (by decide) (fun c259 => ?_) (fun c259 => ?_)
    · have h := i_t c259 h
      refine lv_aload_n hx hb dX6_mergeNext_271 rfl (lv_at hl 0 rfl) ?_
      refine va_get (D := D) (cl := vwCl) (ci := 6) (v := .int yruns) (C := RX6) (T := TX6) (N := 26) hx hb hts hinX6 hown hG.1 hP 0 rfl rfl 9 (by decide) fl81 (fun _ h9 => h9) rfl dX6_mergeNext_272 ?_
      refine lv_iconst (v := (2 : Int32)) hx hb dX6_mergeNext_275 (by decide) ?_
      refine lv_isub hx hb dX6_mergeNext_276 ?_
      cases h
      exact rt_i hx hb hr hlocks hP hD hS dX6_mergeNext_277
    · have h := i_f c259 h
      refine lv_aload_n hx hb dX6_mergeNext_262 rfl (lv_at hl 0 rfl) ?_
      refine va_get (D := D) (cl := vwCl) (ci := 6) (v := .int yruns) (C := RX6) (T := TX6) (N := 26) hx hb hts hinX6 hown hG.1 hP 0 rfl rfl 9 (by decide) fl81 (fun _ h9 => h9) rfl dX6_mergeNext_263 ?_
      refine lv_iconst (v := (3 : Int32)) hx hb dX6_mergeNext_266 (by decide) ?_
      refine lv_isub hx hb dX6_mergeNext_267 ?_
      refine lv_goto (tgt := 277) hx hb dX6_mergeNext_268 (by decide) ?_
      cases h
      exact rt_i hx hb hr hlocks hP hD hS dX6_mergeNext_277
  have hmX6_mergeNext_241 : ∀ (x1 : Int32) (x2 : Int32) (x3 : Int32) (x4 : Int32) (H : Heap) (locs : List Loc) (ls : Array Slot), mX6_mergeNext_241 F ymany yruns ywaitMany yrules yrunMany x1 x2 x3 x4 = some r0 → va_P D vwCl [(yo, .inr (6, [.int ylength, .ref vytext, .ref vyrules, .int ymany, .ref vylaid, .ref vykey, .ref vytag, .ref vyroomKey, .ref vyroomTag, .int yruns, .ref vyrunAt, .ref vyrunMany, .int ywaitAt, .int ywaitMany, .ref vycost, .ref vyhadKey, .ref vyhadTag, .ref vyhadAt, .ref vyhadMany, .ref vyhadCost, .int ya0, .int ya1, .int yb0, .int yb1, .int yforward, .int yout])), (vyrules, .inl (cA, 4, .inl yrules)), (vyrunAt, .inl (cA, 96, .inl yrunAt)), (vyrunMany, .inl (cA, 96, .inl yrunMany))] H → va_D A [(yo, .inr (6, [.int ylength, .ref vytext, .ref vyrules, .int ymany, .ref vylaid, .ref vykey, .ref vytag, .ref vyroomKey, .ref vyroomTag, .int yruns, .ref vyrunAt, .ref vyrunMany, .int ywaitAt, .int ywaitMany, .ref vycost, .ref vyhadKey, .ref vyhadTag, .ref vyhadAt, .ref vyhadMany, .ref vyhadCost, .int ya0, .int ya1, .int yb0, .int yb1, .int yforward, .int yout])), (vyrules, .inl (cA, 4, .inl yrules)), (vyrunAt, .inl (cA, 96, .inl yrunAt)), (vyrunMany, .inl (cA, 96, .inl yrunMany))] → va_S A s.heap H locs → lv_has ls 6 [(0, .ref yo), (1, .int x1), (2, .int x2), (3, .int x3), (4, .int x4)] → W p l e ({ frames := 1, cells := 0, slots := 0, locals := 24 }) s m ([.ref yo] : List Value).toArray below meth c H locs 0 0 (MQ below (Qw D A [(yo, .inr (6, [.int ylength, .ref vytext, .ref vyrules, .int ymany, .ref vylaid, .ref vykey, .ref vytag, .ref vyroomKey, .ref vyroomTag, .int yruns, .ref vyrunAt, .ref vyrunMany, .int ywaitAt, .int ywaitMany, .ref vycost, .ref vyhadKey, .ref vyhadTag, .ref vyhadAt, .ref vyhadMany, .ref vyhadCost, .int ya0, .int ya1, .int yb0, .int yb1, .int yforward, .int yout])), (vyrules, .inl (cA, 4, .inl yrules)), (vyrunAt, .inl (cA, 96, .inl yrunAt)), (vyrunMany, .inl (cA, 96, .inl yrunMany))] (some (.int r0))) ([.ref yo] : List Value).toArray s 0 0 A) (F0 m 241 ls []) := by
    intro x1 x2 x3 x4 H locs ls h hP hD hS hl
    unfold mX6_mergeNext_241 at h
    refine lv_aload_n hx hb dX6_mergeNext_241 rfl (lv_at hl 0 rfl) ?_
    refine va_get (D := D) (cl := vwCl) (ci := 6) (v := .int yruns) (C := RX6) (T := TX6) (N := 26) hx hb hts hinX6 hown hG.1 hP 0 rfl rfl 9 (by decide) fl81 (fun _ h9 => h9) rfl dX6_mergeNext_242 ?_
    refine lv_iconst (v := (3 : Int32)) hx hb dX6_mergeNext_245 (by decide) ?_
    refine lv_icmp_le (tgt := 278) hx hb dX6_mergeNext_246 (by decide) (fun c246 => ?_) (fun c246 => ?_)
    · have h := i_t c246 h
      exact hmX6_mergeNext_278 x1 x2 x3 _ _ _ h hP hD hS (lv_sub hl [0, 1, 2, 3] rfl)
    · have h := i_f c246 h
      refine lv_iload hx hb dX6_mergeNext_249 (lv_at hl 4 rfl) ?_
      refine lv_iload_n hx hb dX6_mergeNext_251 rfl (lv_at hl 3 rfl) ?_
      refine lv_iload_n hx hb dX6_mergeNext_252 rfl (lv_at hl 2 rfl) ?_
      refine lv_iadd hx hb dX6_mergeNext_253 ?_
      refine lv_icmp_gt (tgt := 278) hx hb dX6_mergeNext_254 (by decide) (fun c254 => ?_) (fun c254 => ?_)
      · have h := i_t c254 h
        exact hmX6_mergeNext_278 x1 x2 x3 _ _ _ h hP hD hS (lv_sub hl [0, 1, 2, 3] rfl)
      · have h := i_f c254 h
        exact hmX6_mergeNext_257 x1 x3 _ _ _ h hP hD hS (lv_sub hl [0, 1, 3] rfl)
  have hmX6_mergeNext_216 : ∀ (x1 : Int32) (x2 : Int32) (x3 : Int32) (x4 : Int32) (H : Heap) (locs : List Loc) (ls : Array Slot), mX6_mergeNext_216 F ymany yruns ywaitMany yrules yrunMany x1 x2 x3 x4 = some r0 → va_P D vwCl [(yo, .inr (6, [.int ylength, .ref vytext, .ref vyrules, .int ymany, .ref vylaid, .ref vykey, .ref vytag, .ref vyroomKey, .ref vyroomTag, .int yruns, .ref vyrunAt, .ref vyrunMany, .int ywaitAt, .int ywaitMany, .ref vycost, .ref vyhadKey, .ref vyhadTag, .ref vyhadAt, .ref vyhadMany, .ref vyhadCost, .int ya0, .int ya1, .int yb0, .int yb1, .int yforward, .int yout])), (vyrules, .inl (cA, 4, .inl yrules)), (vyrunAt, .inl (cA, 96, .inl yrunAt)), (vyrunMany, .inl (cA, 96, .inl yrunMany))] H → va_D A [(yo, .inr (6, [.int ylength, .ref vytext, .ref vyrules, .int ymany, .ref vylaid, .ref vykey, .ref vytag, .ref vyroomKey, .ref vyroomTag, .int yruns, .ref vyrunAt, .ref vyrunMany, .int ywaitAt, .int ywaitMany, .ref vycost, .ref vyhadKey, .ref vyhadTag, .ref vyhadAt, .ref vyhadMany, .ref vyhadCost, .int ya0, .int ya1, .int yb0, .int yb1, .int yforward, .int yout])), (vyrules, .inl (cA, 4, .inl yrules)), (vyrunAt, .inl (cA, 96, .inl yrunAt)), (vyrunMany, .inl (cA, 96, .inl yrunMany))] → va_S A s.heap H locs → lv_has ls 6 [(0, .ref yo), (1, .int x1), (2, .int x2), (3, .int x3), (4, .int x4)] → W p l e ({ frames := 1, cells := 0, slots := 0, locals := 24 }) s m ([.ref yo] : List Value).toArray below meth c H locs 0 0 (MQ below (Qw D A [(yo, .inr (6, [.int ylength, .ref vytext, .ref vyrules, .int ymany, .ref vylaid, .ref vykey, .ref vytag, .ref vyroomKey, .ref vyroomTag, .int yruns, .ref vyrunAt, .ref vyrunMany, .int ywaitAt, .int ywaitMany, .ref vycost, .ref vyhadKey, .ref vyhadTag, .ref vyhadAt, .ref vyhadMany, .ref vyhadCost, .int ya0, .int ya1, .int yb0, .int yb1, .int yforward, .int yout])), (vyrules, .inl (cA, 4, .inl yrules)), (vyrunAt, .inl (cA, 96, .inl yrunAt)), (vyrunMany, .inl (cA, 96, .inl yrunMany))] (some (.int r0))) ([.ref yo] : List Value).toArray s 0 0 A) (F0 m 216 ls []) := by
    intro x1 x2 x3 x4 H locs ls h hP hD hS hl
    unfold mX6_mergeNext_216 at h
    refine lv_aload_n hx hb dX6_mergeNext_216 rfl (lv_at hl 0 rfl) ?_
    refine va_get (D := D) (cl := vwCl) (ci := 6) (v := .ref vyrules) (C := RX6) (T := TX6) (N := 26) hx hb hts hinX6 hown hG.1 hP 0 rfl rfl 2 (by decide) fl13 (fun _ h9 => h9) rfl dX6_mergeNext_217 ?_
    refine lv_iconst (v := (1 : Int32)) hx hb dX6_mergeNext_220 (by decide) ?_
    obtain ⟨hi221, h⟩ := ck_some h
    refine va_iald hx hb hG.1 hP 1 0 rfl rfl hi221 dX6_mergeNext_221 ?_
    refine lv_iconst (v := (2 : Int32)) hx hb dX6_mergeNext_222 (by decide) ?_
    refine lv_icmp_ne (tgt := 278) hx hb dX6_mergeNext_223 (by decide) (fun c223 => ?_) (fun c223 => ?_)
    · have h := i_f c223 h
      exact hmX6_mergeNext_278 x1 x2 x3 _ _ _ h hP hD hS (lv_sub hl [0, 1, 2, 3] rfl)
    · have h := i_t c223 h
      refine lv_aload_n hx hb dX6_mergeNext_226 rfl (lv_at hl 0 rfl) ?_
      refine va_get (D := D) (cl := vwCl) (ci := 6) (v := .int yruns) (C := RX6) (T := TX6) (N := 26) hx hb hts hinX6 hown hG.1 hP 0 rfl rfl 9 (by decide) fl81 (fun _ h9 => h9) rfl dX6_mergeNext_227 ?_
      refine lv_iconst (v := (2 : Int32)) hx hb dX6_mergeNext_230 (by decide) ?_
      refine lv_icmp_le (tgt := 241) hx hb dX6_mergeNext_231 (by decide) (fun c231 => ?_) (fun c231 => ?_)
      · have h := i_t c231 h
        exact hmX6_mergeNext_241 x1 x2 x3 x4 _ _ _ h hP hD hS hl
      · have h := i_f c231 h
        refine lv_iload_n hx hb dX6_mergeNext_234 rfl (lv_at hl 3 rfl) ?_
        refine lv_iload_n hx hb dX6_mergeNext_235 rfl (lv_at hl 2 rfl) ?_
        refine lv_iload_n hx hb dX6_mergeNext_236 rfl (lv_at hl 1 rfl) ?_
        refine lv_iadd hx hb dX6_mergeNext_237 ?_
        refine lv_icmp_le (tgt := 257) hx hb dX6_mergeNext_238 (by decide) (fun c238 => ?_) (fun c238 => ?_)
        · have h := i_t c238 h
          exact hmX6_mergeNext_257 x1 x3 _ _ _ h hP hD hS (lv_sub hl [0, 1, 3] rfl)
        · have h := i_f c238 h
          exact hmX6_mergeNext_241 x1 x2 x3 x4 _ _ _ h hP hD hS hl
  have hmX6_mergeNext_165 : ∀ (s0 : Int32) (H : Heap) (locs : List Loc) (ls : Array Slot), mX6_mergeNext_165 F yruns s0 = some r0 → va_P D vwCl [(yo, .inr (6, [.int ylength, .ref vytext, .ref vyrules, .int ymany, .ref vylaid, .ref vykey, .ref vytag, .ref vyroomKey, .ref vyroomTag, .int yruns, .ref vyrunAt, .ref vyrunMany, .int ywaitAt, .int ywaitMany, .ref vycost, .ref vyhadKey, .ref vyhadTag, .ref vyhadAt, .ref vyhadMany, .ref vyhadCost, .int ya0, .int ya1, .int yb0, .int yb1, .int yforward, .int yout])), (vyrules, .inl (cA, 4, .inl yrules)), (vyrunAt, .inl (cA, 96, .inl yrunAt)), (vyrunMany, .inl (cA, 96, .inl yrunMany))] H → va_D A [(yo, .inr (6, [.int ylength, .ref vytext, .ref vyrules, .int ymany, .ref vylaid, .ref vykey, .ref vytag, .ref vyroomKey, .ref vyroomTag, .int yruns, .ref vyrunAt, .ref vyrunMany, .int ywaitAt, .int ywaitMany, .ref vycost, .ref vyhadKey, .ref vyhadTag, .ref vyhadAt, .ref vyhadMany, .ref vyhadCost, .int ya0, .int ya1, .int yb0, .int yb1, .int yforward, .int yout])), (vyrules, .inl (cA, 4, .inl yrules)), (vyrunAt, .inl (cA, 96, .inl yrunAt)), (vyrunMany, .inl (cA, 96, .inl yrunMany))] → va_S A s.heap H locs → lv_has ls 6 [(0, .ref yo)] → W p l e ({ frames := 1, cells := 0, slots := 0, locals := 24 }) s m ([.ref yo] : List Value).toArray below meth c H locs 0 0 (MQ below (Qw D A [(yo, .inr (6, [.int ylength, .ref vytext, .ref vyrules, .int ymany, .ref vylaid, .ref vykey, .ref vytag, .ref vyroomKey, .ref vyroomTag, .int yruns, .ref vyrunAt, .ref vyrunMany, .int ywaitAt, .int ywaitMany, .ref vycost, .ref vyhadKey, .ref vyhadTag, .ref vyhadAt, .ref vyhadMany, .ref vyhadCost, .int ya0, .int ya1, .int yb0, .int yb1, .int yforward, .int yout])), (vyrules, .inl (cA, 4, .inl yrules)), (vyrunAt, .inl (cA, 96, .inl yrunAt)), (vyrunMany, .inl (cA, 96, .inl yrunMany))] (some (.int r0))) ([.ref yo] : List Value).toArray s 0 0 A) (F0 m 165 ls [.int s0]) := by
    intro s0 H locs ls h hP hD hS hl
    unfold mX6_mergeNext_165 at h
    refine lv_istore (lv' := [(5, .int s0), (0, .ref yo)]) hx hb dX6_mergeNext_165 hl (by decide) rfl (fun ls hl => ?_)
    refine lv_iload hx hb dX6_mergeNext_167 (lv_at hl 0 rfl) ?_
    refine lv_if_eq (tgt := 181) hx hb dX6_mergeNext_169 (by decide) (fun c169 => ?_) (fun c169 => ?_)
    · have h := i_t c169 h
      refine lv_bipush (v := (-4 : Int32)) hx hb dX6_mergeNext_181 (by decide) ?_
      cases h
      exact rt_i hx hb hr hlocks hP hD hS dX6_mergeNext_183
    · have h := i_f c169 h
      refine lv_aload_n hx hb dX6_mergeNext_172 rfl (lv_at hl 1 rfl) ?_
      refine va_get (D := D) (cl := vwCl) (ci := 6) (v := .int yruns) (C := RX6) (T := TX6) (N := 26) hx hb hts hinX6 hown hG.1 hP 0 rfl rfl 9 (by decide) fl81 (fun _ h9 => h9) rfl dX6_mergeNext_173 ?_
      refine lv_iconst (v := (2 : Int32)) hx hb dX6_mergeNext_176 (by decide) ?_
      refine lv_isub hx hb dX6_mergeNext_177 ?_
      refine lv_goto (tgt := 183) hx hb dX6_mergeNext_178 (by decide) ?_
      cases h
      exact rt_i hx hb hr hlocks hP hD hS dX6_mergeNext_183
  have hmX6_mergeNext_94 : ∀ (x1 : Int32) (x2 : Int32) (x3 : Int32) (s0 : Int32) (H : Heap) (locs : List Loc) (ls : Array Slot), mX6_mergeNext_94 F ymany yruns ywaitMany yrules yrunAt yrunMany x1 x2 x3 s0 = some r0 → va_P D vwCl [(yo, .inr (6, [.int ylength, .ref vytext, .ref vyrules, .int ymany, .ref vylaid, .ref vykey, .ref vytag, .ref vyroomKey, .ref vyroomTag, .int yruns, .ref vyrunAt, .ref vyrunMany, .int ywaitAt, .int ywaitMany, .ref vycost, .ref vyhadKey, .ref vyhadTag, .ref vyhadAt, .ref vyhadMany, .ref vyhadCost, .int ya0, .int ya1, .int yb0, .int yb1, .int yforward, .int yout])), (vyrules, .inl (cA, 4, .inl yrules)), (vyrunAt, .inl (cA, 96, .inl yrunAt)), (vyrunMany, .inl (cA, 96, .inl yrunMany))] H → va_D A [(yo, .inr (6, [.int ylength, .ref vytext, .ref vyrules, .int ymany, .ref vylaid, .ref vykey, .ref vytag, .ref vyroomKey, .ref vyroomTag, .int yruns, .ref vyrunAt, .ref vyrunMany, .int ywaitAt, .int ywaitMany, .ref vycost, .ref vyhadKey, .ref vyhadTag, .ref vyhadAt, .ref vyhadMany, .ref vyhadCost, .int ya0, .int ya1, .int yb0, .int yb1, .int yforward, .int yout])), (vyrules, .inl (cA, 4, .inl yrules)), (vyrunAt, .inl (cA, 96, .inl yrunAt)), (vyrunMany, .inl (cA, 96, .inl yrunMany))] → va_S A s.heap H locs → lv_has ls 6 [(0, .ref yo), (1, .int x1), (2, .int x2), (3, .int x3)] → W p l e ({ frames := 1, cells := 0, slots := 0, locals := 24 }) s m ([.ref yo] : List Value).toArray below meth c H locs 0 0 (MQ below (Qw D A [(yo, .inr (6, [.int ylength, .ref vytext, .ref vyrules, .int ymany, .ref vylaid, .ref vykey, .ref vytag, .ref vyroomKey, .ref vyroomTag, .int yruns, .ref vyrunAt, .ref vyrunMany, .int ywaitAt, .int ywaitMany, .ref vycost, .ref vyhadKey, .ref vyhadTag, .ref vyhadAt, .ref vyhadMany, .ref vyhadCost, .int ya0, .int ya1, .int yb0, .int yb1, .int yforward, .int yout])), (vyrules, .inl (cA, 4, .inl yrules)), (vyrunAt, .inl (cA, 96, .inl yrunAt)), (vyrunMany, .inl (cA, 96, .inl yrunMany))] (some (.int r0))) ([.ref yo] : List Value).toArray s 0 0 A) (F0 m 94 ls [.int s0]) := by
    intro x1 x2 x3 s0 H locs ls h hP hD hS hl
    unfold mX6_mergeNext_94 at h
    refine lv_istore (lv' := [(4, .int s0), (0, .ref yo), (1, .int x1), (2, .int x2), (3, .int x3)]) hx hb dX6_mergeNext_94 hl (by decide) rfl (fun ls hl => ?_)
    refine lv_aload_n hx hb dX6_mergeNext_96 rfl (lv_at hl 1 rfl) ?_
    refine va_get (D := D) (cl := vwCl) (ci := 6) (v := .int ywaitMany) (C := RX6) (T := TX6) (N := 26) hx hb hts hinX6 hown hG.1 hP 0 rfl rfl 13 (by decide) fl87 (fun _ h9 => h9) rfl dX6_mergeNext_97 ?_
    refine lv_if_le (tgt := 184) hx hb dX6_mergeNext_100 (by decide) (fun c100 => ?_) (fun c100 => ?_)
    · have h := i_t c100 h
      refine lv_aload_n hx hb dX6_mergeNext_184 rfl (lv_at hl 1 rfl) ?_
      refine va_get (D := D) (cl := vwCl) (ci := 6) (v := .ref vyrules) (C := RX6) (T := TX6) (N := 26) hx hb hts hinX6 hown hG.1 hP 0 rfl rfl 2 (by decide) fl13 (fun _ h9 => h9) rfl dX6_mergeNext_185 ?_
      refine lv_iconst (v := (1 : Int32)) hx hb dX6_mergeNext_188 (by decide) ?_
      obtain ⟨hi189, h⟩ := ck_some h
      refine va_iald hx hb hG.1 hP 1 0 rfl rfl hi189 dX6_mergeNext_189 ?_
      refine lv_iconst (v := (1 : Int32)) hx hb dX6_mergeNext_190 (by decide) ?_
      refine lv_icmp_ne (tgt := 216) hx hb dX6_mergeNext_191 (by decide) (fun c191 => ?_) (fun c191 => ?_)
      · have h := i_f c191 h
        exact hmX6_mergeNext_216 x1 x2 x3 s0 _ _ _ h hP hD hS (lv_sub hl [1, 2, 3, 4, 0] rfl)
      · have h := i_t c191 h
        refine lv_aload_n hx hb dX6_mergeNext_194 rfl (lv_at hl 1 rfl) ?_
        refine va_get (D := D) (cl := vwCl) (ci := 6) (v := .int yruns) (C := RX6) (T := TX6) (N := 26) hx hb hts hinX6 hown hG.1 hP 0 rfl rfl 9 (by decide) fl81 (fun _ h9 => h9) rfl dX6_mergeNext_195 ?_
        refine lv_iconst (v := (1 : Int32)) hx hb dX6_mergeNext_198 (by decide) ?_
        refine lv_icmp_le (tgt := 216) hx hb dX6_mergeNext_199 (by decide) (fun c199 => ?_) (fun c199 => ?_)
        · have h := i_t c199 h
          exact hmX6_mergeNext_216 x1 x2 x3 s0 _ _ _ h hP hD hS (lv_sub hl [1, 2, 3, 4, 0] rfl)
        · have h := i_f c199 h
          refine lv_iload_n hx hb dX6_mergeNext_202 rfl (lv_at hl 3 rfl) ?_
          refine lv_iconst (v := (2 : Int32)) hx hb dX6_mergeNext_203 (by decide) ?_
          refine lv_iload_n hx hb dX6_mergeNext_204 rfl (lv_at hl 2 rfl) ?_
          refine lv_imul hx hb dX6_mergeNext_205 ?_
          refine lv_icmp_gt (tgt := 216) hx hb dX6_mergeNext_206 (by decide) (fun c206 => ?_) (fun c206 => ?_)
          · have h := i_t c206 h
            exact hmX6_mergeNext_216 x1 x2 x3 s0 _ _ _ h hP hD hS (lv_sub hl [1, 2, 3, 4, 0] rfl)
          · have h := i_f c206 h
            refine lv_aload_n hx hb dX6_mergeNext_209 rfl (lv_at hl 1 rfl) ?_
            refine va_get (D := D) (cl := vwCl) (ci := 6) (v := .int yruns) (C := RX6) (T := TX6) (N := 26) hx hb hts hinX6 hown hG.1 hP 0 rfl rfl 9 (by decide) fl81 (fun _ h9 => h9) rfl dX6_mergeNext_210 ?_
            refine lv_iconst (v := (2 : Int32)) hx hb dX6_mergeNext_213 (by decide) ?_
            refine lv_isub hx hb dX6_mergeNext_214 ?_
            cases h
            exact rt_i hx hb hr hlocks hP hD hS dX6_mergeNext_215
    · have h := i_f c100 h
      refine lv_aload_n hx hb dX6_mergeNext_103 rfl (lv_at hl 1 rfl) ?_
      refine va_get (D := D) (cl := vwCl) (ci := 6) (v := .ref vyrules) (C := RX6) (T := TX6) (N := 26) hx hb hts hinX6 hown hG.1 hP 0 rfl rfl 2 (by decide) fl13 (fun _ h9 => h9) rfl dX6_mergeNext_104 ?_
      refine lv_iconst (v := (1 : Int32)) hx hb dX6_mergeNext_107 (by decide) ?_
      obtain ⟨hi108, h⟩ := ck_some h
      refine va_iald hx hb hG.1 hP 1 0 rfl rfl hi108 dX6_mergeNext_108 ?_
      refine lv_if_ne (tgt := 164) hx hb dX6_mergeNext_109 (by decide) (fun c109 => ?_) (fun c109 => ?_)
      · have h := i_f c109 h
        refine lv_iconst (v := (0 : Int32)) hx hb dX6_mergeNext_164 (by decide) ?_
        exact hmX6_mergeNext_165 (0 : Int32) _ _ _ h hP hD hS (lv_sub hl [1] rfl)
      · have h := i_t c109 h
        refine lv_aload_n hx hb dX6_mergeNext_112 rfl (lv_at hl 1 rfl) ?_
        refine va_get (D := D) (cl := vwCl) (ci := 6) (v := .int yruns) (C := RX6) (T := TX6) (N := 26) hx hb hts hinX6 hown hG.1 hP 0 rfl rfl 9 (by decide) fl81 (fun _ h9 => h9) rfl dX6_mergeNext_113 ?_
        refine lv_iconst (v := (1 : Int32)) hx hb dX6_mergeNext_116 (by decide) ?_
        refine lv_icmp_le (tgt := 164) hx hb dX6_mergeNext_117 (by decide) (fun c117 => ?_) (fun c117 => ?_)
        · have h := i_t c117 h
          refine lv_iconst (v := (0 : Int32)) hx hb dX6_mergeNext_164 (by decide) ?_
          exact hmX6_mergeNext_165 (0 : Int32) _ _ _ h hP hD hS (lv_sub hl [1] rfl)
        · have h := i_f c117 h
          refine lv_aload_n hx hb dX6_mergeNext_120 rfl (lv_at hl 1 rfl) ?_
          refine lv_aload_n hx hb dX6_mergeNext_121 rfl (lv_at hl 1 rfl) ?_
          refine va_get (D := D) (cl := vwCl) (ci := 6) (v := .ref vyrunAt) (C := RX6) (T := TX6) (N := 26) hx hb hts hinX6 hown hG.1 hP 0 rfl rfl 10 (by decide) fl31 (fun _ h9 => h9) rfl dX6_mergeNext_122 ?_
          refine lv_aload_n hx hb dX6_mergeNext_125 rfl (lv_at hl 1 rfl) ?_
          refine va_get (D := D) (cl := vwCl) (ci := 6) (v := .int yruns) (C := RX6) (T := TX6) (N := 26) hx hb hts hinX6 hown hG.1 hP 0 rfl rfl 9 (by decide) fl81 (fun _ h9 => h9) rfl dX6_mergeNext_126 ?_
          refine lv_iconst (v := (2 : Int32)) hx hb dX6_mergeNext_129 (by decide) ?_
          refine lv_isub hx hb dX6_mergeNext_130 ?_
          obtain ⟨hi131, h⟩ := ck_some h
          refine va_iald hx hb hG.1 hP 2 0 rfl rfl hi131 dX6_mergeNext_131 ?_
          refine lv_iload_n hx hb dX6_mergeNext_132 rfl (lv_at hl 3 rfl) ?_
          refine lv_iload_n hx hb dX6_mergeNext_133 rfl (lv_at hl 2 rfl) ?_
          obtain ⟨r134, hc134, h⟩ := bd1_some h
          refine ct_V (As := [.int (yrunAt (yruns - (2 : Int32)).toNatClampNeg), .int x2, .int x1]) (rest := []) (st1 := [.int r134]) (wf := [(yo, .inr (6, [.int ylength, .ref vytext, .ref vyrules, .int ymany, .ref vylaid, .ref vykey, .ref vytag, .ref vyroomKey, .ref vyroomTag, .int yruns, .ref vyrunAt, .ref vyrunMany, .int ywaitAt, .int ywaitMany, .ref vycost, .ref vyhadKey, .ref vyhadTag, .ref vyhadAt, .ref vyhadMany, .ref vyhadCost, .int ya0, .int ya1, .int yb0, .int yb1, .int yforward, .int yout])), (vyrules, .inl (cA, 4, .inl yrules)), (vyrunAt, .inl (cA, 96, .inl yrunAt)), (vyrunMany, .inl (cA, 96, .inl yrunMany))]) (kX6_power l D cA F yo vytext vyrules vylaid vykey vytag vyroomKey vyroomTag vyrunAt vyrunMany vycost vyhadKey vyhadTag vyhadAt vyhadMany vyhadCost  ylength ymany yruns ywaitAt ywaitMany ya0 ya1 yb0 yb1 yforward yout (yrunAt (yruns - (2 : Int32)).toNatClampNeg) x2 x1 r134 hc134) ⟨hx, hb, hml, hown, hts⟩ (cwV 3 hts gX6_mergeNext_X6_power rfl rfl rfl (by decide +kernel) ⟨Nat.le_of_ble_eq_true rfl, Nat.le_of_ble_eq_true rfl⟩) hG hst hP hD hS hA 6 rfl rfl rfl [0] [1, 2, 3] [3, 0, 1, 2] rfl rfl rfl rfl rfl rfl hl.1 rfl rfl (Nat.le_of_ble_eq_true rfl) dX6_mergeNext_134 ⟨Nat.zero_le _, Nat.zero_le _⟩ (fun H locs hP hD hS => ?_)
          refine lv_aload_n hx hb dX6_mergeNext_137 rfl (lv_at hl 1 rfl) ?_
          refine lv_aload_n hx hb dX6_mergeNext_138 rfl (lv_at hl 1 rfl) ?_
          refine va_get (D := D) (cl := vwCl) (ci := 6) (v := .ref vyrunAt) (C := RX6) (T := TX6) (N := 26) hx hb hts hinX6 hown hG.1 hP 0 rfl rfl 10 (by decide) fl31 (fun _ h9 => h9) rfl dX6_mergeNext_139 ?_
          refine lv_aload_n hx hb dX6_mergeNext_142 rfl (lv_at hl 1 rfl) ?_
          refine va_get (D := D) (cl := vwCl) (ci := 6) (v := .int yruns) (C := RX6) (T := TX6) (N := 26) hx hb hts hinX6 hown hG.1 hP 0 rfl rfl 9 (by decide) fl81 (fun _ h9 => h9) rfl dX6_mergeNext_143 ?_
          refine lv_iconst (v := (1 : Int32)) hx hb dX6_mergeNext_146 (by decide) ?_
          refine lv_isub hx hb dX6_mergeNext_147 ?_
          obtain ⟨hi148, h⟩ := ck_some h
          refine va_iald hx hb hG.1 hP 2 0 rfl rfl hi148 dX6_mergeNext_148 ?_
          refine lv_iload_n hx hb dX6_mergeNext_149 rfl (lv_at hl 2 rfl) ?_
          refine lv_aload_n hx hb dX6_mergeNext_150 rfl (lv_at hl 1 rfl) ?_
          refine va_get (D := D) (cl := vwCl) (ci := 6) (v := .int ywaitMany) (C := RX6) (T := TX6) (N := 26) hx hb hts hinX6 hown hG.1 hP 0 rfl rfl 13 (by decide) fl87 (fun _ h9 => h9) rfl dX6_mergeNext_151 ?_
          obtain ⟨r154, hc154, h⟩ := bd1_some h
          refine ct_V (As := [.int (yrunAt (yruns - (1 : Int32)).toNatClampNeg), .int x1, .int ywaitMany]) (rest := [.int r134]) (st1 := [.int r154, .int r134]) (wf := [(yo, .inr (6, [.int ylength, .ref vytext, .ref vyrules, .int ymany, .ref vylaid, .ref vykey, .ref vytag, .ref vyroomKey, .ref vyroomTag, .int yruns, .ref vyrunAt, .ref vyrunMany, .int ywaitAt, .int ywaitMany, .ref vycost, .ref vyhadKey, .ref vyhadTag, .ref vyhadAt, .ref vyhadMany, .ref vyhadCost, .int ya0, .int ya1, .int yb0, .int yb1, .int yforward, .int yout])), (vyrules, .inl (cA, 4, .inl yrules)), (vyrunAt, .inl (cA, 96, .inl yrunAt)), (vyrunMany, .inl (cA, 96, .inl yrunMany))]) (kX6_power l D cA F yo vytext vyrules vylaid vykey vytag vyroomKey vyroomTag vyrunAt vyrunMany vycost vyhadKey vyhadTag vyhadAt vyhadMany vyhadCost  ylength ymany yruns ywaitAt ywaitMany ya0 ya1 yb0 yb1 yforward yout (yrunAt (yruns - (1 : Int32)).toNatClampNeg) x1 ywaitMany r154 hc154) ⟨hx, hb, hml, hown, hts⟩ (cwV 3 hts gX6_mergeNext_X6_power rfl rfl rfl (by decide +kernel) ⟨Nat.le_of_ble_eq_true rfl, Nat.le_of_ble_eq_true rfl⟩) hG hst hP hD hS hA 6 rfl rfl rfl [0] [1, 2, 3] [3, 0, 1, 2] rfl rfl rfl rfl rfl rfl hl.1 rfl rfl (Nat.le_of_ble_eq_true rfl) dX6_mergeNext_154 ⟨Nat.zero_le _, Nat.zero_le _⟩ (fun H locs hP hD hS => ?_)
          refine lv_icmp_le (tgt := 164) hx hb dX6_mergeNext_157 (by decide) (fun c157 => ?_) (fun c157 => ?_)
          · have h := i_t c157 h
            refine lv_iconst (v := (0 : Int32)) hx hb dX6_mergeNext_164 (by decide) ?_
            exact hmX6_mergeNext_165 (0 : Int32) _ _ _ h hP hD hS (lv_sub hl [1] rfl)
          · have h := i_f c157 h
            refine lv_iconst (v := (1 : Int32)) hx hb dX6_mergeNext_160 (by decide) ?_
            refine lv_goto (tgt := 165) hx hb dX6_mergeNext_161 (by decide) ?_
            exact hmX6_mergeNext_165 (1 : Int32) _ _ _ h hP hD hS (lv_sub hl [1] rfl)
  have hmX6_mergeNext_70 : ∀ (x1 : Int32) (x2 : Int32) (s0 : Int32) (H : Heap) (locs : List Loc) (ls : Array Slot), mX6_mergeNext_70 F ymany yruns ywaitMany yrules yrunAt yrunMany x1 x2 s0 = some r0 → va_P D vwCl [(yo, .inr (6, [.int ylength, .ref vytext, .ref vyrules, .int ymany, .ref vylaid, .ref vykey, .ref vytag, .ref vyroomKey, .ref vyroomTag, .int yruns, .ref vyrunAt, .ref vyrunMany, .int ywaitAt, .int ywaitMany, .ref vycost, .ref vyhadKey, .ref vyhadTag, .ref vyhadAt, .ref vyhadMany, .ref vyhadCost, .int ya0, .int ya1, .int yb0, .int yb1, .int yforward, .int yout])), (vyrules, .inl (cA, 4, .inl yrules)), (vyrunAt, .inl (cA, 96, .inl yrunAt)), (vyrunMany, .inl (cA, 96, .inl yrunMany))] H → va_D A [(yo, .inr (6, [.int ylength, .ref vytext, .ref vyrules, .int ymany, .ref vylaid, .ref vykey, .ref vytag, .ref vyroomKey, .ref vyroomTag, .int yruns, .ref vyrunAt, .ref vyrunMany, .int ywaitAt, .int ywaitMany, .ref vycost, .ref vyhadKey, .ref vyhadTag, .ref vyhadAt, .ref vyhadMany, .ref vyhadCost, .int ya0, .int ya1, .int yb0, .int yb1, .int yforward, .int yout])), (vyrules, .inl (cA, 4, .inl yrules)), (vyrunAt, .inl (cA, 96, .inl yrunAt)), (vyrunMany, .inl (cA, 96, .inl yrunMany))] → va_S A s.heap H locs → lv_has ls 6 [(0, .ref yo), (1, .int x1), (2, .int x2)] → W p l e ({ frames := 1, cells := 0, slots := 0, locals := 24 }) s m ([.ref yo] : List Value).toArray below meth c H locs 0 0 (MQ below (Qw D A [(yo, .inr (6, [.int ylength, .ref vytext, .ref vyrules, .int ymany, .ref vylaid, .ref vykey, .ref vytag, .ref vyroomKey, .ref vyroomTag, .int yruns, .ref vyrunAt, .ref vyrunMany, .int ywaitAt, .int ywaitMany, .ref vycost, .ref vyhadKey, .ref vyhadTag, .ref vyhadAt, .ref vyhadMany, .ref vyhadCost, .int ya0, .int ya1, .int yb0, .int yb1, .int yforward, .int yout])), (vyrules, .inl (cA, 4, .inl yrules)), (vyrunAt, .inl (cA, 96, .inl yrunAt)), (vyrunMany, .inl (cA, 96, .inl yrunMany))] (some (.int r0))) ([.ref yo] : List Value).toArray s 0 0 A) (F0 m 70 ls [.int s0]) := by
    intro x1 x2 s0 H locs ls h hP hD hS hl
    unfold mX6_mergeNext_70 at h
    refine lv_istore_n (lv' := [(3, .int s0), (0, .ref yo), (1, .int x1), (2, .int x2)]) hx hb dX6_mergeNext_70 rfl hl (by decide) rfl (fun ls hl => ?_)
    refine lv_aload_n hx hb dX6_mergeNext_71 rfl (lv_at hl 1 rfl) ?_
    refine va_get (D := D) (cl := vwCl) (ci := 6) (v := .int yruns) (C := RX6) (T := TX6) (N := 26) hx hb hts hinX6 hown hG.1 hP 0 rfl rfl 9 (by decide) fl81 (fun _ h9 => h9) rfl dX6_mergeNext_72 ?_
    refine lv_iconst (v := (3 : Int32)) hx hb dX6_mergeNext_75 (by decide) ?_
    refine lv_icmp_le (tgt := 93) hx hb dX6_mergeNext_76 (by decide) (fun c76 => ?_) (fun c76 => ?_)
    · have h := i_t c76 h
      refine lv_iconst (v := (0 : Int32)) hx hb dX6_mergeNext_93 (by decide) ?_
      exact hmX6_mergeNext_94 x1 x2 s0 (0 : Int32) _ _ _ h hP hD hS (lv_sub hl [1, 2, 3, 0] rfl)
    · have h := i_f c76 h
      refine lv_aload_n hx hb dX6_mergeNext_79 rfl (lv_at hl 1 rfl) ?_
      refine va_get (D := D) (cl := vwCl) (ci := 6) (v := .ref vyrunMany) (C := RX6) (T := TX6) (N := 26) hx hb hts hinX6 hown hG.1 hP 0 rfl rfl 11 (by decide) fl34 (fun _ h9 => h9) rfl dX6_mergeNext_80 ?_
      refine lv_aload_n hx hb dX6_mergeNext_83 rfl (lv_at hl 1 rfl) ?_
      refine va_get (D := D) (cl := vwCl) (ci := 6) (v := .int yruns) (C := RX6) (T := TX6) (N := 26) hx hb hts hinX6 hown hG.1 hP 0 rfl rfl 9 (by decide) fl81 (fun _ h9 => h9) rfl dX6_mergeNext_84 ?_
      refine lv_iconst (v := (4 : Int32)) hx hb dX6_mergeNext_87 (by decide) ?_
      refine lv_isub hx hb dX6_mergeNext_88 ?_
      obtain ⟨hi89, h⟩ := ck_some h
      refine va_iald hx hb hG.1 hP 3 0 rfl rfl hi89 dX6_mergeNext_89 ?_
      refine lv_goto (tgt := 94) hx hb dX6_mergeNext_90 (by decide) ?_
      exact hmX6_mergeNext_94 x1 x2 s0 (yrunMany (yruns - (4 : Int32)).toNatClampNeg) _ _ _ h hP hD hS (lv_sub hl [1, 2, 3, 0] rfl)
  have hmX6_mergeNext_46 : ∀ (x1 : Int32) (s0 : Int32) (H : Heap) (locs : List Loc) (ls : Array Slot), mX6_mergeNext_46 F ymany yruns ywaitMany yrules yrunAt yrunMany x1 s0 = some r0 → va_P D vwCl [(yo, .inr (6, [.int ylength, .ref vytext, .ref vyrules, .int ymany, .ref vylaid, .ref vykey, .ref vytag, .ref vyroomKey, .ref vyroomTag, .int yruns, .ref vyrunAt, .ref vyrunMany, .int ywaitAt, .int ywaitMany, .ref vycost, .ref vyhadKey, .ref vyhadTag, .ref vyhadAt, .ref vyhadMany, .ref vyhadCost, .int ya0, .int ya1, .int yb0, .int yb1, .int yforward, .int yout])), (vyrules, .inl (cA, 4, .inl yrules)), (vyrunAt, .inl (cA, 96, .inl yrunAt)), (vyrunMany, .inl (cA, 96, .inl yrunMany))] H → va_D A [(yo, .inr (6, [.int ylength, .ref vytext, .ref vyrules, .int ymany, .ref vylaid, .ref vykey, .ref vytag, .ref vyroomKey, .ref vyroomTag, .int yruns, .ref vyrunAt, .ref vyrunMany, .int ywaitAt, .int ywaitMany, .ref vycost, .ref vyhadKey, .ref vyhadTag, .ref vyhadAt, .ref vyhadMany, .ref vyhadCost, .int ya0, .int ya1, .int yb0, .int yb1, .int yforward, .int yout])), (vyrules, .inl (cA, 4, .inl yrules)), (vyrunAt, .inl (cA, 96, .inl yrunAt)), (vyrunMany, .inl (cA, 96, .inl yrunMany))] → va_S A s.heap H locs → lv_has ls 6 [(0, .ref yo), (1, .int x1)] → W p l e ({ frames := 1, cells := 0, slots := 0, locals := 24 }) s m ([.ref yo] : List Value).toArray below meth c H locs 0 0 (MQ below (Qw D A [(yo, .inr (6, [.int ylength, .ref vytext, .ref vyrules, .int ymany, .ref vylaid, .ref vykey, .ref vytag, .ref vyroomKey, .ref vyroomTag, .int yruns, .ref vyrunAt, .ref vyrunMany, .int ywaitAt, .int ywaitMany, .ref vycost, .ref vyhadKey, .ref vyhadTag, .ref vyhadAt, .ref vyhadMany, .ref vyhadCost, .int ya0, .int ya1, .int yb0, .int yb1, .int yforward, .int yout])), (vyrules, .inl (cA, 4, .inl yrules)), (vyrunAt, .inl (cA, 96, .inl yrunAt)), (vyrunMany, .inl (cA, 96, .inl yrunMany))] (some (.int r0))) ([.ref yo] : List Value).toArray s 0 0 A) (F0 m 46 ls [.int s0]) := by
    intro x1 s0 H locs ls h hP hD hS hl
    unfold mX6_mergeNext_46 at h
    refine lv_istore_n (lv' := [(2, .int s0), (0, .ref yo), (1, .int x1)]) hx hb dX6_mergeNext_46 rfl hl (by decide) rfl (fun ls hl => ?_)
    refine lv_aload_n hx hb dX6_mergeNext_47 rfl (lv_at hl 1 rfl) ?_
    refine va_get (D := D) (cl := vwCl) (ci := 6) (v := .int yruns) (C := RX6) (T := TX6) (N := 26) hx hb hts hinX6 hown hG.1 hP 0 rfl rfl 9 (by decide) fl81 (fun _ h9 => h9) rfl dX6_mergeNext_48 ?_
    refine lv_iconst (v := (2 : Int32)) hx hb dX6_mergeNext_51 (by decide) ?_
    refine lv_icmp_le (tgt := 69) hx hb dX6_mergeNext_52 (by decide) (fun c52 => ?_) (fun c52 => ?_)
    · have h := i_t c52 h
      refine lv_iconst (v := (0 : Int32)) hx hb dX6_mergeNext_69 (by decide) ?_
      exact hmX6_mergeNext_70 x1 s0 (0 : Int32) _ _ _ h hP hD hS (lv_sub hl [1, 2, 0] rfl)
    · have h := i_f c52 h
      refine lv_aload_n hx hb dX6_mergeNext_55 rfl (lv_at hl 1 rfl) ?_
      refine va_get (D := D) (cl := vwCl) (ci := 6) (v := .ref vyrunMany) (C := RX6) (T := TX6) (N := 26) hx hb hts hinX6 hown hG.1 hP 0 rfl rfl 11 (by decide) fl34 (fun _ h9 => h9) rfl dX6_mergeNext_56 ?_
      refine lv_aload_n hx hb dX6_mergeNext_59 rfl (lv_at hl 1 rfl) ?_
      refine va_get (D := D) (cl := vwCl) (ci := 6) (v := .int yruns) (C := RX6) (T := TX6) (N := 26) hx hb hts hinX6 hown hG.1 hP 0 rfl rfl 9 (by decide) fl81 (fun _ h9 => h9) rfl dX6_mergeNext_60 ?_
      refine lv_iconst (v := (3 : Int32)) hx hb dX6_mergeNext_63 (by decide) ?_
      refine lv_isub hx hb dX6_mergeNext_64 ?_
      obtain ⟨hi65, h⟩ := ck_some h
      refine va_iald hx hb hG.1 hP 3 0 rfl rfl hi65 dX6_mergeNext_65 ?_
      refine lv_goto (tgt := 70) hx hb dX6_mergeNext_66 (by decide) ?_
      exact hmX6_mergeNext_70 x1 s0 (yrunMany (yruns - (3 : Int32)).toNatClampNeg) _ _ _ h hP hD hS (lv_sub hl [1, 2, 0] rfl)
  have hmX6_mergeNext_22 : ∀ (s0 : Int32) (H : Heap) (locs : List Loc) (ls : Array Slot), mX6_mergeNext_22 F ymany yruns ywaitMany yrules yrunAt yrunMany s0 = some r0 → va_P D vwCl [(yo, .inr (6, [.int ylength, .ref vytext, .ref vyrules, .int ymany, .ref vylaid, .ref vykey, .ref vytag, .ref vyroomKey, .ref vyroomTag, .int yruns, .ref vyrunAt, .ref vyrunMany, .int ywaitAt, .int ywaitMany, .ref vycost, .ref vyhadKey, .ref vyhadTag, .ref vyhadAt, .ref vyhadMany, .ref vyhadCost, .int ya0, .int ya1, .int yb0, .int yb1, .int yforward, .int yout])), (vyrules, .inl (cA, 4, .inl yrules)), (vyrunAt, .inl (cA, 96, .inl yrunAt)), (vyrunMany, .inl (cA, 96, .inl yrunMany))] H → va_D A [(yo, .inr (6, [.int ylength, .ref vytext, .ref vyrules, .int ymany, .ref vylaid, .ref vykey, .ref vytag, .ref vyroomKey, .ref vyroomTag, .int yruns, .ref vyrunAt, .ref vyrunMany, .int ywaitAt, .int ywaitMany, .ref vycost, .ref vyhadKey, .ref vyhadTag, .ref vyhadAt, .ref vyhadMany, .ref vyhadCost, .int ya0, .int ya1, .int yb0, .int yb1, .int yforward, .int yout])), (vyrules, .inl (cA, 4, .inl yrules)), (vyrunAt, .inl (cA, 96, .inl yrunAt)), (vyrunMany, .inl (cA, 96, .inl yrunMany))] → va_S A s.heap H locs → lv_has ls 6 [(0, .ref yo)] → W p l e ({ frames := 1, cells := 0, slots := 0, locals := 24 }) s m ([.ref yo] : List Value).toArray below meth c H locs 0 0 (MQ below (Qw D A [(yo, .inr (6, [.int ylength, .ref vytext, .ref vyrules, .int ymany, .ref vylaid, .ref vykey, .ref vytag, .ref vyroomKey, .ref vyroomTag, .int yruns, .ref vyrunAt, .ref vyrunMany, .int ywaitAt, .int ywaitMany, .ref vycost, .ref vyhadKey, .ref vyhadTag, .ref vyhadAt, .ref vyhadMany, .ref vyhadCost, .int ya0, .int ya1, .int yb0, .int yb1, .int yforward, .int yout])), (vyrules, .inl (cA, 4, .inl yrules)), (vyrunAt, .inl (cA, 96, .inl yrunAt)), (vyrunMany, .inl (cA, 96, .inl yrunMany))] (some (.int r0))) ([.ref yo] : List Value).toArray s 0 0 A) (F0 m 22 ls [.int s0]) := by
    intro s0 H locs ls h hP hD hS hl
    unfold mX6_mergeNext_22 at h
    refine lv_istore_n (lv' := [(1, .int s0), (0, .ref yo)]) hx hb dX6_mergeNext_22 rfl hl (by decide) rfl (fun ls hl => ?_)
    refine lv_aload_n hx hb dX6_mergeNext_23 rfl (lv_at hl 1 rfl) ?_
    refine va_get (D := D) (cl := vwCl) (ci := 6) (v := .int yruns) (C := RX6) (T := TX6) (N := 26) hx hb hts hinX6 hown hG.1 hP 0 rfl rfl 9 (by decide) fl81 (fun _ h9 => h9) rfl dX6_mergeNext_24 ?_
    refine lv_iconst (v := (1 : Int32)) hx hb dX6_mergeNext_27 (by decide) ?_
    refine lv_icmp_le (tgt := 45) hx hb dX6_mergeNext_28 (by decide) (fun c28 => ?_) (fun c28 => ?_)
    · have h := i_t c28 h
      refine lv_iconst (v := (0 : Int32)) hx hb dX6_mergeNext_45 (by decide) ?_
      exact hmX6_mergeNext_46 s0 (0 : Int32) _ _ _ h hP hD hS (lv_sub hl [1, 0] rfl)
    · have h := i_f c28 h
      refine lv_aload_n hx hb dX6_mergeNext_31 rfl (lv_at hl 1 rfl) ?_
      refine va_get (D := D) (cl := vwCl) (ci := 6) (v := .ref vyrunMany) (C := RX6) (T := TX6) (N := 26) hx hb hts hinX6 hown hG.1 hP 0 rfl rfl 11 (by decide) fl34 (fun _ h9 => h9) rfl dX6_mergeNext_32 ?_
      refine lv_aload_n hx hb dX6_mergeNext_35 rfl (lv_at hl 1 rfl) ?_
      refine va_get (D := D) (cl := vwCl) (ci := 6) (v := .int yruns) (C := RX6) (T := TX6) (N := 26) hx hb hts hinX6 hown hG.1 hP 0 rfl rfl 9 (by decide) fl81 (fun _ h9 => h9) rfl dX6_mergeNext_36 ?_
      refine lv_iconst (v := (2 : Int32)) hx hb dX6_mergeNext_39 (by decide) ?_
      refine lv_isub hx hb dX6_mergeNext_40 ?_
      obtain ⟨hi41, h⟩ := ck_some h
      refine va_iald hx hb hG.1 hP 3 0 rfl rfl hi41 dX6_mergeNext_41 ?_
      refine lv_goto (tgt := 46) hx hb dX6_mergeNext_42 (by decide) ?_
      exact hmX6_mergeNext_46 s0 (yrunMany (yruns - (2 : Int32)).toNatClampNeg) _ _ _ h hP hD hS (lv_sub hl [1, 0] rfl)
  unfold mX6_mergeNext at h
  refine lv_aload_n hx hb dX6_mergeNext_0 rfl (lv_at hl 0 rfl) ?_
  refine va_get (D := D) (cl := vwCl) (ci := 6) (v := .int yruns) (C := RX6) (T := TX6) (N := 26) hx hb hts hinX6 hown hG.1 hP 0 rfl rfl 9 (by decide) fl81 (fun _ h9 => h9) rfl dX6_mergeNext_1 ?_
  refine lv_if_le (tgt := 21) hx hb dX6_mergeNext_4 (by decide) (fun c4 => ?_) (fun c4 => ?_)
  · have h := i_t c4 h
    refine lv_iconst (v := (0 : Int32)) hx hb dX6_mergeNext_21 (by decide) ?_
    exact hmX6_mergeNext_22 (0 : Int32) _ _ _ h hP hD hS hl
  · have h := i_f c4 h
    refine lv_aload_n hx hb dX6_mergeNext_7 rfl (lv_at hl 0 rfl) ?_
    refine va_get (D := D) (cl := vwCl) (ci := 6) (v := .ref vyrunMany) (C := RX6) (T := TX6) (N := 26) hx hb hts hinX6 hown hG.1 hP 0 rfl rfl 11 (by decide) fl34 (fun _ h9 => h9) rfl dX6_mergeNext_8 ?_
    refine lv_aload_n hx hb dX6_mergeNext_11 rfl (lv_at hl 0 rfl) ?_
    refine va_get (D := D) (cl := vwCl) (ci := 6) (v := .int yruns) (C := RX6) (T := TX6) (N := 26) hx hb hts hinX6 hown hG.1 hP 0 rfl rfl 9 (by decide) fl81 (fun _ h9 => h9) rfl dX6_mergeNext_12 ?_
    refine lv_iconst (v := (1 : Int32)) hx hb dX6_mergeNext_15 (by decide) ?_
    refine lv_isub hx hb dX6_mergeNext_16 ?_
    obtain ⟨hi17, h⟩ := ck_some h
    refine va_iald hx hb hG.1 hP 3 0 rfl rfl hi17 dX6_mergeNext_17 ?_
    refine lv_goto (tgt := 22) hx hb dX6_mergeNext_18 (by decide) ?_
    exact hmX6_mergeNext_22 (yrunMany (yruns - (1 : Int32)).toNatClampNeg) _ _ _ h hP hD hS hl
set_option maxHeartbeats 4000000 in
set_option maxRecDepth 100000 in
theorem kX6_next (l : Launch) (D : va_G) (cA : ClassId) (F : Nat) (yo : Nat) (vytext : Nat) (vyrules : Nat) (vylaid : Nat) (vykey : Nat) (vytag : Nat) (vyroomKey : Nat) (vyroomTag : Nat) (vyrunAt : Nat) (vyrunMany : Nat) (vycost : Nat) (vyhadKey : Nat) (vyhadTag : Nat) (vyhadAt : Nat) (vyhadMany : Nat) (vyhadCost : Nat) (ylength : Int32) (ymany : Int32) (yruns : Int32) (ywaitAt : Int32) (ywaitMany : Int32) (ya0 : Int32) (ya1 : Int32) (yb0 : Int32) (yb1 : Int32) (yforward : Int32) (yout : Int32) (yrules : (Nat → Int32)) (yrunAt : (Nat → Int32)) (yrunMany : (Nat → Int32)) (r0 : Int32) (h : mX6_next F ymany yruns ywaitMany yrules yrunAt yrunMany = some r0) : Ct l yX6_next wsX6_next ({ frames := 2, cells := 0, slots := 0, locals := 49 }) D cA [.ref yo] [(yo, .inr (6, [.int ylength, .ref vytext, .ref vyrules, .int ymany, .ref vylaid, .ref vykey, .ref vytag, .ref vyroomKey, .ref vyroomTag, .int yruns, .ref vyrunAt, .ref vyrunMany, .int ywaitAt, .int ywaitMany, .ref vycost, .ref vyhadKey, .ref vyhadTag, .ref vyhadAt, .ref vyhadMany, .ref vyhadCost, .int ya0, .int ya1, .int yb0, .int yb1, .int yforward, .int yout])), (vyrules, .inl (cA, 4, .inl yrules)), (vyrunAt, .inl (cA, 96, .inl yrunAt)), (vyrunMany, .inl (cA, 96, .inl yrunMany))] [(yo, .inr (6, [.int ylength, .ref vytext, .ref vyrules, .int ymany, .ref vylaid, .ref vykey, .ref vytag, .ref vyroomKey, .ref vyroomTag, .int yruns, .ref vyrunAt, .ref vyrunMany, .int ywaitAt, .int ywaitMany, .ref vycost, .ref vyhadKey, .ref vyhadTag, .ref vyhadAt, .ref vyhadMany, .ref vyhadCost, .int ya0, .int ya1, .int yb0, .int yb1, .int yforward, .int yout])), (vyrules, .inl (cA, 4, .inl yrules)), (vyrunAt, .inl (cA, 96, .inl yrunAt)), (vyrunMany, .inl (cA, 96, .inl yrunMany))] (some (.int r0)) := by
  refine Ct.of (cc := cX6_next) (maxL := 1) (ret := (some .int)) (by decide) rfl (Nat.le_of_ble_eq_true rfl) ?_
  intro p e s m below meth c A ls hcx hG hst hA hP hD hl
  obtain ⟨hx, hb, hml, hown, hts, hr, hlocks⟩ := id hcx
  have hown : s.vm.findClass RX6 = some m.cls := hown
  have hS : va_S A s.heap s.heap [] := va_S.rf
  have hl : lv_has ls 1 [(0, .ref yo)] := hl
  have hinX6 : ∀ w ∈ u_ws RX6 TX6 26, w ∈ wsX6_next := by decide +kernel
  have fl87 := hts (.fieldLink RX6 87 "RunSorterModel" "waitMany" "I") (by decide +kernel)
  have fl55 := hts (.fieldLink RX6 55 "RunSorterModel" "many" "I") (by decide +kernel)
  unfold mX6_next at h
  refine lv_aload_n hx hb dX6_next_0 rfl (lv_at hl 0 rfl) ?_
  obtain ⟨r1, hc1, h⟩ := bd1_some h
  refine ct_V (As := []) (rest := []) (st1 := [.int r1]) (wf := [(yo, .inr (6, [.int ylength, .ref vytext, .ref vyrules, .int ymany, .ref vylaid, .ref vykey, .ref vytag, .ref vyroomKey, .ref vyroomTag, .int yruns, .ref vyrunAt, .ref vyrunMany, .int ywaitAt, .int ywaitMany, .ref vycost, .ref vyhadKey, .ref vyhadTag, .ref vyhadAt, .ref vyhadMany, .ref vyhadCost, .int ya0, .int ya1, .int yb0, .int yb1, .int yforward, .int yout])), (vyrules, .inl (cA, 4, .inl yrules)), (vyrunAt, .inl (cA, 96, .inl yrunAt)), (vyrunMany, .inl (cA, 96, .inl yrunMany))]) (kX6_mergeNext l D cA F yo vytext vyrules vylaid vykey vytag vyroomKey vyroomTag vyrunAt vyrunMany vycost vyhadKey vyhadTag vyhadAt vyhadMany vyhadCost  ylength ymany yruns ywaitAt ywaitMany ya0 ya1 yb0 yb1 yforward yout yrules yrunAt yrunMany  r1 hc1) ⟨hx, hb, hml, hown, hts⟩ (cwV 0 hts gX6_next_X6_mergeNext rfl rfl rfl (by decide +kernel) ⟨Nat.le_of_ble_eq_true rfl, Nat.le_of_ble_eq_true rfl⟩) hG hst hP hD hS hA 6 rfl rfl rfl [0, 1, 2, 3] [] [0, 1, 2, 3] rfl rfl rfl rfl rfl rfl hl.1 rfl rfl (Nat.le_of_ble_eq_true rfl) dX6_next_1 ⟨Nat.zero_le _, Nat.zero_le _⟩ (fun H locs hP hD hS => ?_)
  refine lv_bipush (v := (-4 : Int32)) hx hb dX6_next_4 (by decide) ?_
  refine lv_icmp_eq (tgt := 11) hx hb dX6_next_6 (by decide) (fun c6 => ?_) (fun c6 => ?_)
  · have h := i_t c6 h
    refine lv_aload_n hx hb dX6_next_11 rfl (lv_at hl 0 rfl) ?_
    refine va_get (D := D) (cl := vwCl) (ci := 6) (v := .int ywaitMany) (C := RX6) (T := TX6) (N := 26) hx hb hts hinX6 hown hG.1 hP 0 rfl rfl 13 (by decide) fl87 (fun _ h9 => h9) rfl dX6_next_12 ?_
    refine lv_if_le (tgt := 22) hx hb dX6_next_15 (by decide) (fun c15 => ?_) (fun c15 => ?_)
    · have h := i_t c15 h
      refine lv_aload_n hx hb dX6_next_22 rfl (lv_at hl 0 rfl) ?_
      obtain ⟨r23, hc23, h⟩ := bd1_some h
      refine ct_V (As := []) (rest := []) (st1 := [.int r23]) (wf := [(yo, .inr (6, [.int ylength, .ref vytext, .ref vyrules, .int ymany, .ref vylaid, .ref vykey, .ref vytag, .ref vyroomKey, .ref vyroomTag, .int yruns, .ref vyrunAt, .ref vyrunMany, .int ywaitAt, .int ywaitMany, .ref vycost, .ref vyhadKey, .ref vyhadTag, .ref vyhadAt, .ref vyhadMany, .ref vyhadCost, .int ya0, .int ya1, .int yb0, .int yb1, .int yforward, .int yout])), (vyrules, .inl (cA, 4, .inl yrules)), (vyrunAt, .inl (cA, 96, .inl yrunAt)), (vyrunMany, .inl (cA, 96, .inl yrunMany))]) (kX6_inRuns l D cA F yo vytext vyrules vylaid vykey vytag vyroomKey vyroomTag vyrunAt vyrunMany vycost vyhadKey vyhadTag vyhadAt vyhadMany vyhadCost  ylength ymany yruns ywaitAt ywaitMany ya0 ya1 yb0 yb1 yforward yout yrunMany  r23 hc23) ⟨hx, hb, hml, hown, hts⟩ (cwV 0 hts gX6_next_X6_inRuns rfl rfl rfl (by decide +kernel) ⟨Nat.le_of_ble_eq_true rfl, Nat.le_of_ble_eq_true rfl⟩) hG hst hP hD hS hA 6 rfl rfl rfl [0, 3] [1, 2] [2, 0, 1, 3] rfl rfl rfl rfl rfl rfl hl.1 rfl rfl (Nat.le_of_ble_eq_true rfl) dX6_next_23 ⟨Nat.zero_le _, Nat.zero_le _⟩ (fun H locs hP hD hS => ?_)
      refine lv_aload_n hx hb dX6_next_26 rfl (lv_at hl 0 rfl) ?_
      refine va_get (D := D) (cl := vwCl) (ci := 6) (v := .int ymany) (C := RX6) (T := TX6) (N := 26) hx hb hts hinX6 hown hG.1 hP 0 rfl rfl 3 (by decide) fl55 (fun _ h9 => h9) rfl dX6_next_27 ?_
      refine lv_icmp_ge (tgt := 37) hx hb dX6_next_30 (by decide) (fun c30 => ?_) (fun c30 => ?_)
      · have h := i_t c30 h
        refine lv_iconst (v := (0 : Int32)) hx hb dX6_next_37 (by decide) ?_
        cases h
        exact rt_i hx hb hr hlocks hP hD hS dX6_next_38
      · have h := i_f c30 h
        refine lv_iconst (v := (2 : Int32)) hx hb dX6_next_33 (by decide) ?_
        refine lv_goto (tgt := 38) hx hb dX6_next_34 (by decide) ?_
        cases h
        exact rt_i hx hb hr hlocks hP hD hS dX6_next_38
    · have h := i_f c15 h
      refine lv_iconst (v := (1 : Int32)) hx hb dX6_next_18 (by decide) ?_
      refine lv_goto (tgt := 38) hx hb dX6_next_19 (by decide) ?_
      cases h
      exact rt_i hx hb hr hlocks hP hD hS dX6_next_38
  · have h := i_f c6 h
    refine lv_iconst (v := (3 : Int32)) hx hb dX6_next_9 (by decide) ?_
    cases h
    exact rt_i hx hb hr hlocks hP hD hS dX6_next_10
