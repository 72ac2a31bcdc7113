/-! contracts, by program (wip/whole/gen.py) -/
set_option maxHeartbeats 4000000 in
set_option maxRecDepth 100000 in
theorem kX6_oneStep (l : Launch) (D : va_G) (cA : ClassId) (F : Nat) (yo : Nat) (vytext : Nat) (vyrules : Nat) (vylaid : Nat) (vykey : Nat) (vytag : Nat) (vyroomKey : Nat) (vyroomTag : Nat) (vyrunAt : Nat) (vyrunMany : Nat) (vycost : Nat) (vyhadKey : Nat) (vyhadTag : Nat) (vyhadAt : Nat) (vyhadMany : Nat) (vyhadCost : Nat) (ylength : Int32) (ymany : Int32) (yruns : Int32) (ywaitAt : Int32) (ywaitMany : Int32) (ya0 : Int32) (ya1 : Int32) (yb0 : Int32) (yb1 : Int32) (yforward : Int32) (yout : Int32) (yrules : (Nat → Int32)) (ykey : (Nat → Int32)) (ytag : (Nat → Int32)) (yroomKey : (Nat → Int32)) (yroomTag : (Nat → Int32)) (yrunAt : (Nat → Int32)) (yrunMany : (Nat → Int32)) (ycost : (Nat → Int32)) (yruns_9 : Int32) (ywaitAt_9 : Int32) (ywaitMany_9 : Int32) (ya0_9 : Int32) (ya1_9 : Int32) (yb0_9 : Int32) (yb1_9 : Int32) (yforward_9 : Int32) (yout_9 : Int32) (ykey_9 : (Nat → Int32)) (ytag_9 : (Nat → Int32)) (yroomKey_9 : (Nat → Int32)) (yroomTag_9 : (Nat → Int32)) (yrunAt_9 : (Nat → Int32)) (yrunMany_9 : (Nat → Int32)) (ycost_9 : (Nat → Int32)) (h : mX6_oneStep F ymany yruns ywaitAt ywaitMany ya0 ya1 yb0 yb1 yforward yout yrules ykey ytag yroomKey yroomTag yrunAt yrunMany ycost = some (yruns_9, ywaitAt_9, ywaitMany_9, ya0_9, ya1_9, yb0_9, yb1_9, yforward_9, yout_9, ykey_9, ytag_9, yroomKey_9, yroomTag_9, yrunAt_9, yrunMany_9, ycost_9)) : Ct l yX6_oneStep wsX6_oneStep ({ frames := 7, cells := 0, slots := 0, locals := 165 }) D cA [.ref yo] [(yo, .inr (6, [.int ylength, .ref vytext, .ref vyrules, .int ymany, .ref vylaid, .ref vykey, .ref vytag, .ref vyroomKey, .ref vyroomTag, .int yruns, .ref vyrunAt, .ref vyrunMany, .int ywaitAt, .int ywaitMany, .ref vycost, .ref vyhadKey, .ref vyhadTag, .ref vyhadAt, .ref vyhadMany, .ref vyhadCost, .int ya0, .int ya1, .int yb0, .int yb1, .int yforward, .int yout])), (vyrules, .inl (cA, 4, .inl yrules)), (vykey, .inl (cA, 96, .inl ykey)), (vytag, .inl (cA, 96, .inl ytag)), (vyroomKey, .inl (cA, 96, .inl yroomKey)), (vyroomTag, .inl (cA, 96, .inl yroomTag)), (vyrunAt, .inl (cA, 96, .inl yrunAt)), (vyrunMany, .inl (cA, 96, .inl yrunMany)), (vycost, .inl (cA, 12, .inl ycost))] [(yo, .inr (6, [.int ylength, .ref vytext, .ref vyrules, .int ymany, .ref vylaid, .ref vykey, .ref vytag, .ref vyroomKey, .ref vyroomTag, .int yruns_9, .ref vyrunAt, .ref vyrunMany, .int ywaitAt_9, .int ywaitMany_9, .ref vycost, .ref vyhadKey, .ref vyhadTag, .ref vyhadAt, .ref vyhadMany, .ref vyhadCost, .int ya0_9, .int ya1_9, .int yb0_9, .int yb1_9, .int yforward_9, .int yout_9])), (vyrules, .inl (cA, 4, .inl yrules)), (vykey, .inl (cA, 96, .inl ykey_9)), (vytag, .inl (cA, 96, .inl ytag_9)), (vyroomKey, .inl (cA, 96, .inl yroomKey_9)), (vyroomTag, .inl (cA, 96, .inl yroomTag_9)), (vyrunAt, .inl (cA, 96, .inl yrunAt_9)), (vyrunMany, .inl (cA, 96, .inl yrunMany_9)), (vycost, .inl (cA, 12, .inl ycost_9))] (none) := by
  refine Ct.of (cc := cX6_oneStep) (maxL := 4) (ret := none) (by decide) rfl (Nat.le_of_ble_eq_true rfl) ?_
  intro p e s m below meth c A ls hcx hG hst hA hP hD hl
  obtain ⟨hx, hb, hml, hown, hts, hr, hlocks⟩ := id hcx
  have hown : s.vm.findClass RX6 = some m.cls := hown
  have hS : va_S A s.heap s.heap [] := va_S.rf
  have hl : lv_has ls 4 [(0, .ref yo)] := hl
  have hinX6 : ∀ w ∈ u_ws RX6 TX6 26, w ∈ wsX6_oneStep := by decide +kernel
  have fl31 := hts (.fieldLink RX6 31 "RunSorterModel" "runAt" "[I") (by decide +kernel)
  have fl34 := hts (.fieldLink RX6 34 "RunSorterModel" "runMany" "[I") (by decide +kernel)
  have fl81 := hts (.fieldLink RX6 81 "RunSorterModel" "runs" "I") (by decide +kernel)
  have fl84 := hts (.fieldLink RX6 84 "RunSorterModel" "waitAt" "I") (by decide +kernel)
  have fl87 := hts (.fieldLink RX6 87 "RunSorterModel" "waitMany" "I") (by decide +kernel)
  have fl37 := hts (.fieldLink RX6 37 "RunSorterModel" "cost" "[I") (by decide +kernel)
  have hmX6_oneStep_203 : ∀ (yruns : Int32) (ywaitAt : Int32) (ywaitMany : Int32) (ya0 : Int32) (ya1 : Int32) (yb0 : Int32) (yb1 : Int32) (yforward : Int32) (yout : Int32) (ykey : (Nat → Int32)) (ytag : (Nat → Int32)) (yroomKey : (Nat → Int32)) (yroomTag : (Nat → Int32)) (yrunAt : (Nat → Int32)) (yrunMany : (Nat → Int32)) (ycost : (Nat → Int32)) (H : Heap) (locs : List Loc) (ls : Array Slot), mX6_oneStep_203 F yruns ywaitAt ywaitMany ya0 ya1 yb0 yb1 yforward yout ykey ytag yroomKey yroomTag yrunAt yrunMany ycost = some (yruns_9, ywaitAt_9, ywaitMany_9, ya0_9, ya1_9, yb0_9, yb1_9, yforward_9, yout_9, ykey_9, ytag_9, yroomKey_9, yroomTag_9, yrunAt_9, yrunMany_9, ycost_9) → va_P D vwCl [(yo, .inr (6, [.int ylength, .ref vytext, .ref vyrules, .int ymany, .ref vylaid, .ref vykey, .ref vytag, .ref vyroomKey, .ref vyroomTag, .int yruns, .ref vyrunAt, .ref vyrunMany, .int ywaitAt, .int ywaitMany, .ref vycost, .ref vyhadKey, .ref vyhadTag, .ref vyhadAt, .ref vyhadMany, .ref vyhadCost, .int ya0, .int ya1, .int yb0, .int yb1, .int yforward, .int yout])), (vyrules, .inl (cA, 4, .inl yrules)), (vykey, .inl (cA, 96, .inl ykey)), (vytag, .inl (cA, 96, .inl ytag)), (vyroomKey, .inl (cA, 96, .inl yroomKey)), (vyroomTag, .inl (cA, 96, .inl yroomTag)), (vyrunAt, .inl (cA, 96, .inl yrunAt)), (vyrunMany, .inl (cA, 96, .inl yrunMany)), (vycost, .inl (cA, 12, .inl ycost))] H → va_D A [(yo, .inr (6, [.int ylength, .ref vytext, .ref vyrules, .int ymany, .ref vylaid, .ref vykey, .ref vytag, .ref vyroomKey, .ref vyroomTag, .int yruns, .ref vyrunAt, .ref vyrunMany, .int ywaitAt, .int ywaitMany, .ref vycost, .ref vyhadKey, .ref vyhadTag, .ref vyhadAt, .ref vyhadMany, .ref vyhadCost, .int ya0, .int ya1, .int yb0, .int yb1, .int yforward, .int yout])), (vyrules, .inl (cA, 4, .inl yrules)), (vykey, .inl (cA, 96, .inl ykey)), (vytag, .inl (cA, 96, .inl ytag)), (vyroomKey, .inl (cA, 96, .inl yroomKey)), (vyroomTag, .inl (cA, 96, .inl yroomTag)), (vyrunAt, .inl (cA, 96, .inl yrunAt)), (vyrunMany, .inl (cA, 96, .inl yrunMany)), (vycost, .inl (cA, 12, .inl ycost))] → va_S A s.heap H locs → lv_has ls 4 [(0, .ref yo)] → W p l e ({ frames := 7, cells := 0, slots := 0, locals := 165 }) s m ([.ref yo] : List Value).toArray below meth c H locs 0 0 (MQ below (Qw D A [(yo, .inr (6, [.int ylength, .ref vytext, .ref vyrules, .int ymany, .ref vylaid, .ref vykey, .ref vytag, .ref vyroomKey, .ref vyroomTag, .int yruns_9, .ref vyrunAt, .ref vyrunMany, .int ywaitAt_9, .int ywaitMany_9, .ref vycost, .ref vyhadKey, .ref vyhadTag, .ref vyhadAt, .ref vyhadMany, .ref vyhadCost, .int ya0_9, .int ya1_9, .int yb0_9, .int yb1_9, .int yforward_9, .int yout_9])), (vyrules, .inl (cA, 4, .inl yrules)), (vykey, .inl (cA, 96, .inl ykey_9)), (vytag, .inl (cA, 96, .inl ytag_9)), (vyroomKey, .inl (cA, 96, .inl yroomKey_9)), (vyroomTag, .inl (cA, 96, .inl yroomTag_9)), (vyrunAt, .inl (cA, 96, .inl yrunAt_9)), (vyrunMany, .inl (cA, 96, .inl yrunMany_9)), (vycost, .inl (cA, 12, .inl ycost_9))] (none)) ([.ref yo] : List Value).toArray s 0 0 A) (F0 m 203 ls []) := by
    intro yruns ywaitAt ywaitMany ya0 ya1 yb0 yb1 yforward yout ykey ytag yroomKey yroomTag yrunAt yrunMany ycost H locs ls h hP hD hS hl
    unfold mX6_oneStep_203 at h
    refine lv_aload_n hx hb dX6_oneStep_203 rfl (lv_at hl 0 rfl) ?_
    refine va_get (D := D) (cl := vwCl) (ci := 6) (v := .ref vycost) (C := RX6) (T := TX6) (N := 26) hx hb hts hinX6 hown hG.1 hP 0 rfl rfl 14 (by decide) fl37 (fun _ h9 => h9) rfl dX6_oneStep_204 ?_
    refine lv_bipush (v := (11 : Int32)) hx hb dX6_oneStep_207 (by decide) ?_
    refine lv_dup2_11 hx hb dX6_oneStep_209 rfl rfl ?_
    obtain ⟨hi210, h⟩ := ck_some h
    refine va_iald hx hb hG.1 hP 8 0 rfl rfl hi210 dX6_oneStep_210 ?_
    refine lv_iconst (v := (1 : Int32)) hx hb dX6_oneStep_211 (by decide) ?_
    refine lv_iadd hx hb dX6_oneStep_212 ?_
    obtain ⟨hi213, h⟩ := ck_some h
    refine va_iast hx hb hG.1 hP hD hS 8 0 rfl rfl hi213 dX6_oneStep_213 (fun H locs hP hD hS => ?_)
    have hP : va_P D vwCl [(yo, .inr (6, [.int ylength, .ref vytext, .ref vyrules, .int ymany, .ref vylaid, .ref vykey, .ref vytag, .ref vyroomKey, .ref vyroomTag, .int yruns, .ref vyrunAt, .ref vyrunMany, .int ywaitAt, .int ywaitMany, .ref vycost, .ref vyhadKey, .ref vyhadTag, .ref vyhadAt, .ref vyhadMany, .ref vyhadCost, .int ya0, .int ya1, .int yb0, .int yb1, .int yforward, .int yout])), (vyrules, .inl (cA, 4, .inl yrules)), (vykey, .inl (cA, 96, .inl ykey)), (vytag, .inl (cA, 96, .inl ytag)), (vyroomKey, .inl (cA, 96, .inl yroomKey)), (vyroomTag, .inl (cA, 96, .inl yroomTag)), (vyrunAt, .inl (cA, 96, .inl yrunAt)), (vyrunMany, .inl (cA, 96, .inl yrunMany)), (vycost, .inl (cA, 12, .inl (upd ycost (11 : Int32).toNatClampNeg ((ycost (11 : Int32).toNatClampNeg) + (1 : Int32)))))] H := hP
    have hD : va_D A [(yo, .inr (6, [.int ylength, .ref vytext, .ref vyrules, .int ymany, .ref vylaid, .ref vykey, .ref vytag, .ref vyroomKey, .ref vyroomTag, .int yruns, .ref vyrunAt, .ref vyrunMany, .int ywaitAt, .int ywaitMany, .ref vycost, .ref vyhadKey, .ref vyhadTag, .ref vyhadAt, .ref vyhadMany, .ref vyhadCost, .int ya0, .int ya1, .int yb0, .int yb1, .int yforward, .int yout])), (vyrules, .inl (cA, 4, .inl yrules)), (vykey, .inl (cA, 96, .inl ykey)), (vytag, .inl (cA, 96, .inl ytag)), (vyroomKey, .inl (cA, 96, .inl yroomKey)), (vyroomTag, .inl (cA, 96, .inl yroomTag)), (vyrunAt, .inl (cA, 96, .inl yrunAt)), (vyrunMany, .inl (cA, 96, .inl yrunMany)), (vycost, .inl (cA, 12, .inl (upd ycost (11 : Int32).toNatClampNeg ((ycost (11 : Int32).toNatClampNeg) + (1 : Int32)))))] := hD
    cases h
    exact rt_v hx hb hr hlocks hP hD hS dX6_oneStep_214
  have hmX6_oneStep_161 : ∀ (n161 : Nat) (x3 : Int32) (yruns : Int32) (ywaitAt : Int32) (ywaitMany : Int32) (ya0 : Int32) (ya1 : Int32) (yb0 : Int32) (yb1 : Int32) (yforward : Int32) (yout : Int32) (ykey : (Nat → Int32)) (ytag : (Nat → Int32)) (yroomKey : (Nat → Int32)) (yroomTag : (Nat → Int32)) (yrunAt : (Nat → Int32)) (yrunMany : (Nat → Int32)) (ycost : (Nat → Int32)) (H : Heap) (locs : List Loc) (ls : Array Slot), mX6_oneStep_161 F n161 x3 yruns ywaitAt ywaitMany ya0 ya1 yb0 yb1 yforward yout ykey ytag yroomKey yroomTag yrunAt yrunMany ycost = some (yruns_9, ywaitAt_9, ywaitMany_9, ya0_9, ya1_9, yb0_9, yb1_9, yforward_9, yout_9, ykey_9, ytag_9, yroomKey_9, yroomTag_9, yrunAt_9, yrunMany_9, ycost_9) → va_P D vwCl [(yo, .inr (6, [.int ylength, .ref vytext, .ref vyrules, .int ymany, .ref vylaid, .ref vykey, .ref vytag, .ref vyroomKey, .ref vyroomTag, .int yruns, .ref vyrunAt, .ref vyrunMany, .int ywaitAt, .int ywaitMany, .ref vycost, .ref vyhadKey, .ref vyhadTag, .ref vyhadAt, .ref vyhadMany, .ref vyhadCost, .int ya0, .int ya1, .int yb0, .int yb1, .int yforward, .int yout])), (vyrules, .inl (cA, 4, .inl yrules)), (vykey, .inl (cA, 96, .inl ykey)), (vytag, .inl (cA, 96, .inl ytag)), (vyroomKey, .inl (cA, 96, .inl yroomKey)), (vyroomTag, .inl (cA, 96, .inl yroomTag)), (vyrunAt, .inl (cA, 96, .inl yrunAt)), (vyrunMany, .inl (cA, 96, .inl yrunMany)), (vycost, .inl (cA, 12, .inl ycost))] H → va_D A [(yo, .inr (6, [.int ylength, .ref vytext, .ref vyrules, .int ymany, .ref vylaid, .ref vykey, .ref vytag, .ref vyroomKey, .ref vyroomTag, .int yruns, .ref vyrunAt, .ref vyrunMany, .int ywaitAt, .int ywaitMany, .ref vycost, .ref vyhadKey, .ref vyhadTag, .ref vyhadAt, .ref vyhadMany, .ref vyhadCost, .int ya0, .int ya1, .int yb0, .int yb1, .int yforward, .int yout])), (vyrules, .inl (cA, 4, .inl yrules)), (vykey, .inl (cA, 96, .inl ykey)), (vytag, .inl (cA, 96, .inl ytag)), (vyroomKey, .inl (cA, 96, .inl yroomKey)), (vyroomTag, .inl (cA, 96, .inl yroomTag)), (vyrunAt, .inl (cA, 96, .inl yrunAt)), (vyrunMany, .inl (cA, 96, .inl yrunMany)), (vycost, .inl (cA, 12, .inl ycost))] → va_S A s.heap H locs → lv_has ls 4 [(0, .ref yo), (3, .int x3)] → W p l e ({ frames := 7, cells := 0, slots := 0, locals := 165 }) s m ([.ref yo] : List Value).toArray below meth c H locs 0 0 (MQ below (Qw D A [(yo, .inr (6, [.int ylength, .ref vytext, .ref vyrules, .int ymany, .ref vylaid, .ref vykey, .ref vytag, .ref vyroomKey, .ref vyroomTag, .int yruns_9, .ref vyrunAt, .ref vyrunMany, .int ywaitAt_9, .int ywaitMany_9, .ref vycost, .ref vyhadKey, .ref vyhadTag, .ref vyhadAt, .ref vyhadMany, .ref vyhadCost, .int ya0_9, .int ya1_9, .int yb0_9, .int yb1_9, .int yforward_9, .int yout_9])), (vyrules, .inl (cA, 4, .inl yrules)), (vykey, .inl (cA, 96, .inl ykey_9)), (vytag, .inl (cA, 96, .inl ytag_9)), (vyroomKey, .inl (cA, 96, .inl yroomKey_9)), (vyroomTag, .inl (cA, 96, .inl yroomTag_9)), (vyrunAt, .inl (cA, 96, .inl yrunAt_9)), (vyrunMany, .inl (cA, 96, .inl yrunMany_9)), (vycost, .inl (cA, 12, .inl ycost_9))] (none)) ([.ref yo] : List Value).toArray s 0 0 A) (F0 m 161 ls []) := by
    intro n161
    induction n161 with
    | zero => intro x3 yruns ywaitAt ywaitMany ya0 ya1 yb0 yb1 yforward yout ykey ytag yroomKey yroomTag yrunAt yrunMany ycost H locs ls h; exact (no_some h).elim
    | succ n161 ih161 =>
      intro x3 yruns ywaitAt ywaitMany ya0 ya1 yb0 yb1 yforward yout ykey ytag yroomKey yroomTag yrunAt yrunMany ycost H locs ls h hP hD hS hl
      rw [mX6_oneStep_161] at h
      refine lv_iload_n hx hb dX6_oneStep_161 rfl (lv_at hl 1 rfl) ?_
      refine lv_aload_n hx hb dX6_oneStep_162 rfl (lv_at hl 0 rfl) ?_
      refine va_get (D := D) (cl := vwCl) (ci := 6) (v := .int yruns) (C := RX6) (T := TX6) (N := 26) hx hb hts hinX6 hown hG.1 hP 0 rfl rfl 9 (by decide) fl81 (fun _ h9 => h9) rfl dX6_oneStep_163 ?_
      refine lv_icmp_ge (tgt := 203) hx hb dX6_oneStep_166 (by decide) (fun c166 => ?_) (fun c166 => ?_)
      · have h := i_t c166 h
        exact hmX6_oneStep_203 yruns ywaitAt ywaitMany ya0 ya1 yb0 yb1 yforward yout ykey ytag yroomKey yroomTag yrunAt yrunMany ycost _ _ _ h hP hD hS (lv_sub hl [0] rfl)
      · have h := i_f c166 h
        refine lv_aload_n hx hb dX6_oneStep_169 rfl (lv_at hl 0 rfl) ?_
        refine va_get (D := D) (cl := vwCl) (ci := 6) (v := .ref vyrunAt) (C := RX6) (T := TX6) (N := 26) hx hb hts hinX6 hown hG.1 hP 0 rfl rfl 10 (by decide) fl31 (fun _ h9 => h9) rfl dX6_oneStep_170 ?_
        refine lv_iload_n hx hb dX6_oneStep_173 rfl (lv_at hl 1 rfl) ?_
        refine lv_aload_n hx hb dX6_oneStep_174 rfl (lv_at hl 0 rfl) ?_
        refine va_get (D := D) (cl := vwCl) (ci := 6) (v := .ref vyrunAt) (C := RX6) (T := TX6) (N := 26) hx hb hts hinX6 hown hG.1 hP 0 rfl rfl 10 (by decide) fl31 (fun _ h9 => h9) rfl dX6_oneStep_175 ?_
        refine lv_iload_n hx hb dX6_oneStep_178 rfl (lv_at hl 1 rfl) ?_
        refine lv_iconst (v := (1 : Int32)) hx hb dX6_oneStep_179 (by decide) ?_
        refine lv_iadd hx hb dX6_oneStep_180 ?_
        obtain ⟨hi181, h⟩ := ck_some h
        refine va_iald hx hb hG.1 hP 6 0 rfl rfl hi181 dX6_oneStep_181 ?_
        obtain ⟨hi182, h⟩ := ck_some h
        refine va_iast hx hb hG.1 hP hD hS 6 0 rfl rfl hi182 dX6_oneStep_182 (fun H locs hP hD hS => ?_)
        have hP : va_P D vwCl [(yo, .inr (6, [.int ylength, .ref vytext, .ref vyrules, .int ymany, .ref vylaid, .ref vykey, .ref vytag, .ref vyroomKey, .ref vyroomTag, .int yruns, .ref vyrunAt, .ref vyrunMany, .int ywaitAt, .int ywaitMany, .ref vycost, .ref vyhadKey, .ref vyhadTag, .ref vyhadAt, .ref vyhadMany, .ref vyhadCost, .int ya0, .int ya1, .int yb0, .int yb1, .int yforward, .int yout])), (vyrules, .inl (cA, 4, .inl yrules)), (vykey, .inl (cA, 96, .inl ykey)), (vytag, .inl (cA, 96, .inl ytag)), (vyroomKey, .inl (cA, 96, .inl yroomKey)), (vyroomTag, .inl (cA, 96, .inl yroomTag)), (vyrunAt, .inl (cA, 96, .inl (upd yrunAt x3.toNatClampNeg (yrunAt (x3 + (1 : Int32)).toNatClampNeg)))), (vyrunMany, .inl (cA, 96, .inl yrunMany)), (vycost, .inl (cA, 12, .inl ycost))] H := hP
        have hD : va_D A [(yo, .inr (6, [.int ylength, .ref vytext, .ref vyrules, .int ymany, .ref vylaid, .ref vykey, .ref vytag, .ref vyroomKey, .ref vyroomTag, .int yruns, .ref vyrunAt, .ref vyrunMany, .int ywaitAt, .int ywaitMany, .ref vycost, .ref vyhadKey, .ref vyhadTag, .ref vyhadAt, .ref vyhadMany, .ref vyhadCost, .int ya0, .int ya1, .int yb0, .int yb1, .int yforward, .int yout])), (vyrules, .inl (cA, 4, .inl yrules)), (vykey, .inl (cA, 96, .inl ykey)), (vytag, .inl (cA, 96, .inl ytag)), (vyroomKey, .inl (cA, 96, .inl yroomKey)), (vyroomTag, .inl (cA, 96, .inl yroomTag)), (vyrunAt, .inl (cA, 96, .inl (upd yrunAt x3.toNatClampNeg (yrunAt (x3 + (1 : Int32)).toNatClampNeg)))), (vyrunMany, .inl (cA, 96, .inl yrunMany)), (vycost, .inl (cA, 12, .inl ycost))] := hD
        refine lv_aload_n hx hb dX6_oneStep_183 rfl (lv_at hl 0 rfl) ?_
        refine va_get (D := D) (cl := vwCl) (ci := 6) (v := .ref vyrunMany) (C := RX6) (T := TX6) (N := 26) hx hb hts hinX6 hown hG.1 hP 0 rfl rfl 11 (by decide) fl34 (fun _ h9 => h9) rfl dX6_oneStep_184 ?_
        refine lv_iload_n hx hb dX6_oneStep_187 rfl (lv_at hl 1 rfl) ?_
        refine lv_aload_n hx hb dX6_oneStep_188 rfl (lv_at hl 0 rfl) ?_
        refine va_get (D := D) (cl := vwCl) (ci := 6) (v := .ref vyrunMany) (C := RX6) (T := TX6) (N := 26) hx hb hts hinX6 hown hG.1 hP 0 rfl rfl 11 (by decide) fl34 (fun _ h9 => h9) rfl dX6_oneStep_189 ?_
        refine lv_iload_n hx hb dX6_oneStep_192 rfl (lv_at hl 1 rfl) ?_
        refine lv_iconst (v := (1 : Int32)) hx hb dX6_oneStep_193 (by decide) ?_
        refine lv_iadd hx hb dX6_oneStep_194 ?_
        obtain ⟨hi195, h⟩ := ck_some h
        refine va_iald hx hb hG.1 hP 7 0 rfl rfl hi195 dX6_oneStep_195 ?_
        obtain ⟨hi196, h⟩ := ck_some h
        refine va_iast hx hb hG.1 hP hD hS 7 0 rfl rfl hi196 dX6_oneStep_196 (fun H locs hP hD hS => ?_)
        have hP : va_P D vwCl [(yo, .inr (6, [.int ylength, .ref vytext, .ref vyrules, .int ymany, .ref vylaid, .ref vykey, .ref vytag, .ref vyroomKey, .ref vyroomTag, .int yruns, .ref vyrunAt, .ref vyrunMany, .int ywaitAt, .int ywaitMany, .ref vycost, .ref vyhadKey, .ref vyhadTag, .ref vyhadAt, .ref vyhadMany, .ref vyhadCost, .int ya0, .int ya1, .int yb0, .int yb1, .int yforward, .int yout])), (vyrules, .inl (cA, 4, .inl yrules)), (vykey, .inl (cA, 96, .inl ykey)), (vytag, .inl (cA, 96, .inl ytag)), (vyroomKey, .inl (cA, 96, .inl yroomKey)), (vyroomTag, .inl (cA, 96, .inl yroomTag)), (vyrunAt, .inl (cA, 96, .inl (upd yrunAt x3.toNatClampNeg (yrunAt (x3 + (1 : Int32)).toNatClampNeg)))), (vyrunMany, .inl (cA, 96, .inl (upd yrunMany x3.toNatClampNeg (yrunMany (x3 + (1 : Int32)).toNatClampNeg)))), (vycost, .inl (cA, 12, .inl ycost))] H := hP
        have hD : va_D A [(yo, .inr (6, [.int ylength, .ref vytext, .ref vyrules, .int ymany, .ref vylaid, .ref vykey, .ref vytag, .ref vyroomKey, .ref vyroomTag, .int yruns, .ref vyrunAt, .ref vyrunMany, .int ywaitAt, .int ywaitMany, .ref vycost, .ref vyhadKey, .ref vyhadTag, .ref vyhadAt, .ref vyhadMany, .ref vyhadCost, .int ya0, .int ya1, .int yb0, .int yb1, .int yforward, .int yout])), (vyrules, .inl (cA, 4, .inl yrules)), (vykey, .inl (cA, 96, .inl ykey)), (vytag, .inl (cA, 96, .inl ytag)), (vyroomKey, .inl (cA, 96, .inl yroomKey)), (vyroomTag, .inl (cA, 96, .inl yroomTag)), (vyrunAt, .inl (cA, 96, .inl (upd yrunAt x3.toNatClampNeg (yrunAt (x3 + (1 : Int32)).toNatClampNeg)))), (vyrunMany, .inl (cA, 96, .inl (upd yrunMany x3.toNatClampNeg (yrunMany (x3 + (1 : Int32)).toNatClampNeg)))), (vycost, .inl (cA, 12, .inl ycost))] := hD
        refine lv_iinc (v := x3 + (1 : Int32)) (lv' := [(3, .int (x3 + (1 : Int32))), (0, .ref yo)]) hx hb dX6_oneStep_197 hl (k := 1) rfl (congrArg (fun z => x3 + z) (by decide)) (by decide) rfl (fun ls hl => ?_)
        refine lv_goto (tgt := 161) hx hb dX6_oneStep_200 (by decide) ?_
        exact ih161 (x3 + (1 : Int32)) yruns ywaitAt ywaitMany ya0 ya1 yb0 yb1 yforward yout ykey ytag yroomKey yroomTag (upd yrunAt x3.toNatClampNeg (yrunAt (x3 + (1 : Int32)).toNatClampNeg)) (upd yrunMany x3.toNatClampNeg (yrunMany (x3 + (1 : Int32)).toNatClampNeg)) ycost _ _ _ h hP hD hS (lv_sub hl [1, 0] rfl)
  have hmX6_oneStep_85 : ∀ (s0 : Int32) (s1 : Int32) (yruns : Int32) (ywaitAt : Int32) (ywaitMany : Int32) (ya0 : Int32) (ya1 : Int32) (yb0 : Int32) (yb1 : Int32) (yforward : Int32) (yout : Int32) (ykey : (Nat → Int32)) (ytag : (Nat → Int32)) (yroomKey : (Nat → Int32)) (yroomTag : (Nat → Int32)) (yrunAt : (Nat → Int32)) (yrunMany : (Nat → Int32)) (ycost : (Nat → Int32)) (H : Heap) (locs : List Loc) (ls : Array Slot), mX6_oneStep_85 F s0 s1 yruns ywaitAt ywaitMany ya0 ya1 yb0 yb1 yforward yout ykey ytag yroomKey yroomTag yrunAt yrunMany ycost = some (yruns_9, ywaitAt_9, ywaitMany_9, ya0_9, ya1_9, yb0_9, yb1_9, yforward_9, yout_9, ykey_9, ytag_9, yroomKey_9, yroomTag_9, yrunAt_9, yrunMany_9, ycost_9) → va_P D vwCl [(yo, .inr (6, [.int ylength, .ref vytext, .ref vyrules, .int ymany, .ref vylaid, .ref vykey, .ref vytag, .ref vyroomKey, .ref vyroomTag, .int yruns, .ref vyrunAt, .ref vyrunMany, .int ywaitAt, .int ywaitMany, .ref vycost, .ref vyhadKey, .ref vyhadTag, .ref vyhadAt, .ref vyhadMany, .ref vyhadCost, .int ya0, .int ya1, .int yb0, .int yb1, .int yforward, .int yout])), (vyrules, .inl (cA, 4, .inl yrules)), (vykey, .inl (cA, 96, .inl ykey)), (vytag, .inl (cA, 96, .inl ytag)), (vyroomKey, .inl (cA, 96, .inl yroomKey)), (vyroomTag, .inl (cA, 96, .inl yroomTag)), (vyrunAt, .inl (cA, 96, .inl yrunAt)), (vyrunMany, .inl (cA, 96, .inl yrunMany)), (vycost, .inl (cA, 12, .inl ycost))] H → va_D A [(yo, .inr (6, [.int ylength, .ref vytext, .ref vyrules, .int ymany, .ref vylaid, .ref vykey, .ref vytag, .ref vyroomKey, .ref vyroomTag, .int yruns, .ref vyrunAt, .ref vyrunMany, .int ywaitAt, .int ywaitMany, .ref vycost, .ref vyhadKey, .ref vyhadTag, .ref vyhadAt, .ref vyhadMany, .ref vyhadCost, .int ya0, .int ya1, .int yb0, .int yb1, .int yforward, .int yout])), (vyrules, .inl (cA, 4, .inl yrules)), (vykey, .inl (cA, 96, .inl ykey)), (vytag, .inl (cA, 96, .inl ytag)), (vyroomKey, .inl (cA, 96, .inl yroomKey)), (vyroomTag, .inl (cA, 96, .inl yroomTag)), (vyrunAt, .inl (cA, 96, .inl yrunAt)), (vyrunMany, .inl (cA, 96, .inl yrunMany)), (vycost, .inl (cA, 12, .inl ycost))] → va_S A s.heap H locs → lv_has ls 4 [(0, .ref yo)] → W p l e ({ frames := 7, cells := 0, slots := 0, locals := 165 }) s m ([.ref yo] : List Value).toArray below meth c H locs 0 0 (MQ below (Qw D A [(yo, .inr (6, [.int ylength, .ref vytext, .ref vyrules, .int ymany, .ref vylaid, .ref vykey, .ref vytag, .ref vyroomKey, .ref vyroomTag, .int yruns_9, .ref vyrunAt, .ref vyrunMany, .int ywaitAt_9, .int ywaitMany_9, .ref vycost, .ref vyhadKey, .ref vyhadTag, .ref vyhadAt, .ref vyhadMany, .ref vyhadCost, .int ya0_9, .int ya1_9, .int yb0_9, .int yb1_9, .int yforward_9, .int yout_9])), (vyrules, .inl (cA, 4, .inl yrules)), (vykey, .inl (cA, 96, .inl ykey_9)), (vytag, .inl (cA, 96, .inl ytag_9)), (vyroomKey, .inl (cA, 96, .inl yroomKey_9)), (vyroomTag, .inl (cA, 96, .inl yroomTag_9)), (vyrunAt, .inl (cA, 96, .inl yrunAt_9)), (vyrunMany, .inl (cA, 96, .inl yrunMany_9)), (vycost, .inl (cA, 12, .inl ycost_9))] (none)) ([.ref yo] : List Value).toArray s 0 0 A) (F0 m 85 ls [.int s0, .int s1, .ref vycost]) := by
    intro s0 s1 yruns ywaitAt ywaitMany ya0 ya1 yb0 yb1 yforward yout ykey ytag yroomKey yroomTag yrunAt yrunMany ycost H locs ls h hP hD hS hl
    unfold mX6_oneStep_85 at h
    obtain ⟨hi85, h⟩ := ck_some h
    refine va_iast hx hb hG.1 hP hD hS 8 0 rfl rfl hi85 dX6_oneStep_85 (fun H locs hP hD hS => ?_)
    have hP : va_P D vwCl [(yo, .inr (6, [.int ylength, .ref vytext, .ref vyrules, .int ymany, .ref vylaid, .ref vykey, .ref vytag, .ref vyroomKey, .ref vyroomTag, .int yruns, .ref vyrunAt, .ref vyrunMany, .int ywaitAt, .int ywaitMany, .ref vycost, .ref vyhadKey, .ref vyhadTag, .ref vyhadAt, .ref vyhadMany, .ref vyhadCost, .int ya0, .int ya1, .int yb0, .int yb1, .int yforward, .int yout])), (vyrules, .inl (cA, 4, .inl yrules)), (vykey, .inl (cA, 96, .inl ykey)), (vytag, .inl (cA, 96, .inl ytag)), (vyroomKey, .inl (cA, 96, .inl yroomKey)), (vyroomTag, .inl (cA, 96, .inl yroomTag)), (vyrunAt, .inl (cA, 96, .inl yrunAt)), (vyrunMany, .inl (cA, 96, .inl yrunMany)), (vycost, .inl (cA, 12, .inl (upd ycost s1.toNatClampNeg s0)))] H := hP
    have hD : va_D A [(yo, .inr (6, [.int ylength, .ref vytext, .ref vyrules, .int ymany, .ref vylaid, .ref vykey, .ref vytag, .ref vyroomKey, .ref vyroomTag, .int yruns, .ref vyrunAt, .ref vyrunMany, .int ywaitAt, .int ywaitMany, .ref vycost, .ref vyhadKey, .ref vyhadTag, .ref vyhadAt, .ref vyhadMany, .ref vyhadCost, .int ya0, .int ya1, .int yb0, .int yb1, .int yforward, .int yout])), (vyrules, .inl (cA, 4, .inl yrules)), (vykey, .inl (cA, 96, .inl ykey)), (vytag, .inl (cA, 96, .inl ytag)), (vyroomKey, .inl (cA, 96, .inl yroomKey)), (vyroomTag, .inl (cA, 96, .inl yroomTag)), (vyrunAt, .inl (cA, 96, .inl yrunAt)), (vyrunMany, .inl (cA, 96, .inl yrunMany)), (vycost, .inl (cA, 12, .inl (upd ycost s1.toNatClampNeg s0)))] := hD
    refine lv_goto (tgt := 203) hx hb dX6_oneStep_86 (by decide) ?_
    exact hmX6_oneStep_203 yruns ywaitAt ywaitMany ya0 ya1 yb0 yb1 yforward yout ykey ytag yroomKey yroomTag yrunAt yrunMany (upd ycost s1.toNatClampNeg s0) _ _ _ h hP hD hS hl
  unfold mX6_oneStep at h
  refine lv_aload_n hx hb dX6_oneStep_0 rfl (lv_at hl 0 rfl) ?_
  obtain ⟨r1, hc1, h⟩ := bd1_some h
  refine ct_V (As := []) (rest := []) (st1 := [.int r1]) (wf := [(yo, .inr (6, [.int ylength, .ref vytext, .ref vyrules, .int ymany, .ref vylaid, .ref vykey, .ref vytag, .ref vyroomKey, .ref vyroomTag, .int yruns, .ref vyrunAt, .ref vyrunMany, .int ywaitAt, .int ywaitMany, .ref vycost, .ref vyhadKey, .ref vyhadTag, .ref vyhadAt, .ref vyhadMany, .ref vyhadCost, .int ya0, .int ya1, .int yb0, .int yb1, .int yforward, .int yout])), (vyrules, .inl (cA, 4, .inl yrules)), (vykey, .inl (cA, 96, .inl ykey)), (vytag, .inl (cA, 96, .inl ytag)), (vyroomKey, .inl (cA, 96, .inl yroomKey)), (vyroomTag, .inl (cA, 96, .inl yroomTag)), (vyrunAt, .inl (cA, 96, .inl yrunAt)), (vyrunMany, .inl (cA, 96, .inl yrunMany)), (vycost, .inl (cA, 12, .inl ycost))]) (kX6_next l D cA F yo vytext vyrules vylaid vykey vytag vyroomKey vyroomTag vyrunAt vyrunMany vycost vyhadKey vyhadTag vyhadAt vyhadMany vyhadCost  ylength ymany yruns ywaitAt ywaitMany ya0 ya1 yb0 yb1 yforward yout yrules yrunAt yrunMany  r1 hc1) ⟨hx, hb, hml, hown, hts⟩ (cwV 0 hts gX6_oneStep_X6_next rfl rfl rfl (by decide +kernel) ⟨Nat.le_of_ble_eq_true rfl, Nat.le_of_ble_eq_true rfl⟩) hG hst hP hD hS hA 6 rfl rfl rfl [0, 1, 6, 7] [2, 3, 4, 5, 8] [5, 6, 0, 1, 2, 3, 7, 8, 4] rfl rfl rfl rfl rfl rfl hl.1 rfl rfl (Nat.le_of_ble_eq_true rfl) dX6_oneStep_1 ⟨Nat.zero_le _, Nat.zero_le _⟩ (fun H locs hP hD hS => ?_)
  refine lv_istore_n (lv' := [(1, .int r1), (0, .ref yo)]) hx hb dX6_oneStep_4 rfl hl (by decide) rfl (fun ls hl => ?_)
  refine lv_iload_n hx hb dX6_oneStep_5 rfl (lv_at hl 0 rfl) ?_
  refine lv_iconst (v := (1 : Int32)) hx hb dX6_oneStep_6 (by decide) ?_
  refine lv_icmp_ne (tgt := 89) hx hb dX6_oneStep_7 (by decide) (fun c7 => ?_) (fun c7 => ?_)
  · have h := i_f c7 h
    refine lv_iload_n hx hb dX6_oneStep_89 rfl (lv_at hl 0 rfl) ?_
    refine lv_iconst (v := (2 : Int32)) hx hb dX6_oneStep_90 (by decide) ?_
    refine lv_icmp_ne (tgt := 101) hx hb dX6_oneStep_91 (by decide) (fun c91 => ?_) (fun c91 => ?_)
    · have h := i_f c91 h
      refine lv_aload_n hx hb dX6_oneStep_101 rfl (lv_at hl 1 rfl) ?_
      obtain ⟨r102, hc102, h⟩ := bd1_some h
      refine ct_V (As := []) (rest := []) (st1 := [.int r102]) (wf := [(yo, .inr (6, [.int ylength, .ref vytext, .ref vyrules, .int ymany, .ref vylaid, .ref vykey, .ref vytag, .ref vyroomKey, .ref vyroomTag, .int yruns, .ref vyrunAt, .ref vyrunMany, .int ywaitAt, .int ywaitMany, .ref vycost, .ref vyhadKey, .ref vyhadTag, .ref vyhadAt, .ref vyhadMany, .ref vyhadCost, .int ya0, .int ya1, .int yb0, .int yb1, .int yforward, .int yout])), (vyrules, .inl (cA, 4, .inl yrules)), (vykey, .inl (cA, 96, .inl ykey)), (vytag, .inl (cA, 96, .inl ytag)), (vyroomKey, .inl (cA, 96, .inl yroomKey)), (vyroomTag, .inl (cA, 96, .inl yroomTag)), (vyrunAt, .inl (cA, 96, .inl yrunAt)), (vyrunMany, .inl (cA, 96, .inl yrunMany)), (vycost, .inl (cA, 12, .inl ycost))]) (kX6_mergeNext l D cA F yo vytext vyrules vylaid vykey vytag vyroomKey vyroomTag vyrunAt vyrunMany vycost vyhadKey vyhadTag vyhadAt vyhadMany vyhadCost  ylength ymany yruns ywaitAt ywaitMany ya0 ya1 yb0 yb1 yforward yout yrules yrunAt yrunMany  r102 hc102) ⟨hx, hb, hml, hown, hts⟩ (cwV 0 hts gX6_oneStep_X6_mergeNext rfl rfl rfl (by decide +kernel) ⟨Nat.le_of_ble_eq_true rfl, Nat.le_of_ble_eq_true rfl⟩) hG hst hP hD hS hA 6 rfl rfl rfl [0, 1, 6, 7] [2, 3, 4, 5, 8] [5, 6, 0, 1, 2, 3, 7, 8, 4] rfl rfl rfl rfl rfl rfl hl.1 rfl rfl (Nat.le_of_ble_eq_true rfl) dX6_oneStep_102 ⟨Nat.zero_le _, Nat.zero_le _⟩ (fun H locs hP hD hS => ?_)
      refine lv_istore_n (lv' := [(2, .int r102), (1, .int r1), (0, .ref yo)]) hx hb dX6_oneStep_105 rfl hl (by decide) rfl (fun ls hl => ?_)
      refine lv_aload_n hx hb dX6_oneStep_106 rfl (lv_at hl 2 rfl) ?_
      refine lv_aload_n hx hb dX6_oneStep_107 rfl (lv_at hl 2 rfl) ?_
      refine va_get (D := D) (cl := vwCl) (ci := 6) (v := .ref vyrunAt) (C := RX6) (T := TX6) (N := 26) hx hb hts hinX6 hown hG.1 hP 0 rfl rfl 10 (by decide) fl31 (fun _ h9 => h9) rfl dX6_oneStep_108 ?_
      refine lv_iload_n hx hb dX6_oneStep_111 rfl (lv_at hl 0 rfl) ?_
      obtain ⟨hi112, h⟩ := ck_some h
      refine va_iald hx hb hG.1 hP 6 0 rfl rfl hi112 dX6_oneStep_112 ?_
      refine lv_aload_n hx hb dX6_oneStep_113 rfl (lv_at hl 2 rfl) ?_
      refine va_get (D := D) (cl := vwCl) (ci := 6) (v := .ref vyrunMany) (C := RX6) (T := TX6) (N := 26) hx hb hts hinX6 hown hG.1 hP 0 rfl rfl 11 (by decide) fl34 (fun _ h9 => h9) rfl dX6_oneStep_114 ?_
      refine lv_iload_n hx hb dX6_oneStep_117 rfl (lv_at hl 0 rfl) ?_
      obtain ⟨hi118, h⟩ := ck_some h
      refine va_iald hx hb hG.1 hP 7 0 rfl rfl hi118 dX6_oneStep_118 ?_
      refine lv_aload_n hx hb dX6_oneStep_119 rfl (lv_at hl 2 rfl) ?_
      refine va_get (D := D) (cl := vwCl) (ci := 6) (v := .ref vyrunMany) (C := RX6) (T := TX6) (N := 26) hx hb hts hinX6 hown hG.1 hP 0 rfl rfl 11 (by decide) fl34 (fun _ h9 => h9) rfl dX6_oneStep_120 ?_
      refine lv_iload_n hx hb dX6_oneStep_123 rfl (lv_at hl 0 rfl) ?_
      refine lv_iconst (v := (1 : Int32)) hx hb dX6_oneStep_124 (by decide) ?_
      refine lv_iadd hx hb dX6_oneStep_125 ?_
      obtain ⟨hi126, h⟩ := ck_some h
      refine va_iald hx hb hG.1 hP 7 0 rfl rfl hi126 dX6_oneStep_126 ?_
      obtain ⟨ya0_127, ya1_127, yb0_127, yb1_127, yforward_127, yout_127, ykey_127, ytag_127, yroomKey_127, yroomTag_127, ycost_127, hc127, h⟩ := bd11_some h
      refine ct_V (As := [.int (yrunAt r102.toNatClampNeg), .int (yrunMany r102.toNatClampNeg), .int (yrunMany (r102 + (1 : Int32)).toNatClampNeg)]) (rest := []) (st1 := []) (wf := [(yo, .inr (6, [.int ylength, .ref vytext, .ref vyrules, .int ymany, .ref vylaid, .ref vykey, .ref vytag, .ref vyroomKey, .ref vyroomTag, .int yruns, .ref vyrunAt, .ref vyrunMany, .int ywaitAt, .int ywaitMany, .ref vycost, .ref vyhadKey, .ref vyhadTag, .ref vyhadAt, .ref vyhadMany, .ref vyhadCost, .int ya0_127, .int ya1_127, .int yb0_127, .int yb1_127, .int yforward_127, .int yout_127])), (vyrules, .inl (cA, 4, .inl yrules)), (vykey, .inl (cA, 96, .inl ykey_127)), (vytag, .inl (cA, 96, .inl ytag_127)), (vyroomKey, .inl (cA, 96, .inl yroomKey_127)), (vyroomTag, .inl (cA, 96, .inl yroomTag_127)), (vyrunAt, .inl (cA, 96, .inl yrunAt)), (vyrunMany, .inl (cA, 96, .inl yrunMany)), (vycost, .inl (cA, 12, .inl ycost_127))]) (kX6_merge l D cA F yo vytext vyrules vylaid vykey vytag vyroomKey vyroomTag vyrunAt vyrunMany vycost vyhadKey vyhadTag vyhadAt vyhadMany vyhadCost  ylength ymany yruns ywaitAt ywaitMany ya0 ya1 yb0 yb1 yforward yout yrules ykey ytag yroomKey yroomTag ycost (yrunAt r102.toNatClampNeg) (yrunMany r102.toNatClampNeg) (yrunMany (r102 + (1 : Int32)).toNatClampNeg) ya0_127 ya1_127 yb0_127 yb1_127 yforward_127 yout_127 ykey_127 ytag_127 yroomKey_127 yroomTag_127 ycost_127 hc127) ⟨hx, hb, hml, hown, hts⟩ (cwV 3 hts gX6_oneStep_X6_merge rfl rfl rfl (by decide +kernel) ⟨Nat.le_of_ble_eq_true rfl, Nat.le_of_ble_eq_true rfl⟩) hG hst hP hD hS hA 6 rfl rfl rfl [0, 1, 2, 3, 4, 5, 8] [6, 7] [2, 3, 4, 5, 6, 7, 0, 1, 8] rfl rfl rfl rfl rfl rfl hl.1 rfl rfl (Nat.le_of_ble_eq_true rfl) dX6_oneStep_127 ⟨Nat.zero_le _, Nat.zero_le _⟩ (fun H locs hP hD hS => ?_)
      refine lv_aload_n hx hb dX6_oneStep_130 rfl (lv_at hl 2 rfl) ?_
      refine va_get (D := D) (cl := vwCl) (ci := 6) (v := .ref vyrunMany) (C := RX6) (T := TX6) (N := 26) hx hb hts hinX6 hown hG.1 hP 0 rfl rfl 11 (by decide) fl34 (fun _ h9 => h9) rfl dX6_oneStep_131 ?_
      refine lv_iload_n hx hb dX6_oneStep_134 rfl (lv_at hl 0 rfl) ?_
      refine lv_dup2_11 hx hb dX6_oneStep_135 rfl rfl ?_
      obtain ⟨hi136, h⟩ := ck_some h
      refine va_iald hx hb hG.1 hP 7 0 rfl rfl hi136 dX6_oneStep_136 ?_
      refine lv_aload_n hx hb dX6_oneStep_137 rfl (lv_at hl 2 rfl) ?_
      refine va_get (D := D) (cl := vwCl) (ci := 6) (v := .ref vyrunMany) (C := RX6) (T := TX6) (N := 26) hx hb hts hinX6 hown hG.1 hP 0 rfl rfl 11 (by decide) fl34 (fun _ h9 => h9) rfl dX6_oneStep_138 ?_
      refine lv_iload_n hx hb dX6_oneStep_141 rfl (lv_at hl 0 rfl) ?_
      refine lv_iconst (v := (1 : Int32)) hx hb dX6_oneStep_142 (by decide) ?_
      refine lv_iadd hx hb dX6_oneStep_143 ?_
      obtain ⟨hi144, h⟩ := ck_some h
      refine va_iald hx hb hG.1 hP 7 0 rfl rfl hi144 dX6_oneStep_144 ?_
      refine lv_iadd hx hb dX6_oneStep_145 ?_
      obtain ⟨hi146, h⟩ := ck_some h
      refine va_iast hx hb hG.1 hP hD hS 7 0 rfl rfl hi146 dX6_oneStep_146 (fun H locs hP hD hS => ?_)
      have hP : va_P D vwCl [(yo, .inr (6, [.int ylength, .ref vytext, .ref vyrules, .int ymany, .ref vylaid, .ref vykey, .ref vytag, .ref vyroomKey, .ref vyroomTag, .int yruns, .ref vyrunAt, .ref vyrunMany, .int ywaitAt, .int ywaitMany, .ref vycost, .ref vyhadKey, .ref vyhadTag, .ref vyhadAt, .ref vyhadMany, .ref vyhadCost, .int ya0_127, .int ya1_127, .int yb0_127, .int yb1_127, .int yforward_127, .int yout_127])), (vyrules, .inl (cA, 4, .inl yrules)), (vykey, .inl (cA, 96, .inl ykey_127)), (vytag, .inl (cA, 96, .inl ytag_127)), (vyroomKey, .inl (cA, 96, .inl yroomKey_127)), (vyroomTag, .inl (cA, 96, .inl yroomTag_127)), (vyrunAt, .inl (cA, 96, .inl yrunAt)), (vyrunMany, .inl (cA, 96, .inl (upd yrunMany r102.toNatClampNeg ((yrunMany r102.toNatClampNeg) + (yrunMany (r102 + (1 : Int32)).toNatClampNeg))))), (vycost, .inl (cA, 12, .inl ycost_127))] H := hP
      have hD : va_D A [(yo, .inr (6, [.int ylength, .ref vytext, .ref vyrules, .int ymany, .ref vylaid, .ref vykey, .ref vytag, .ref vyroomKey, .ref vyroomTag, .int yruns, .ref vyrunAt, .ref vyrunMany, .int ywaitAt, .int ywaitMany, .ref vycost, .ref vyhadKey, .ref vyhadTag, .ref vyhadAt, .ref vyhadMany, .ref vyhadCost, .int ya0_127, .int ya1_127, .int yb0_127, .int yb1_127, .int yforward_127, .int yout_127])), (vyrules, .inl (cA, 4, .inl yrules)), (vykey, .inl (cA, 96, .inl ykey_127)), (vytag, .inl (cA, 96, .inl ytag_127)), (vyroomKey, .inl (cA, 96, .inl yroomKey_127)), (vyroomTag, .inl (cA, 96, .inl yroomTag_127)), (vyrunAt, .inl (cA, 96, .inl yrunAt)), (vyrunMany, .inl (cA, 96, .inl (upd yrunMany r102.toNatClampNeg ((yrunMany r102.toNatClampNeg) + (yrunMany (r102 + (1 : Int32)).toNatClampNeg))))), (vycost, .inl (cA, 12, .inl ycost_127))] := hD
      refine lv_aload_n hx hb dX6_oneStep_147 rfl (lv_at hl 2 rfl) ?_
      refine lv_dup hx hb dX6_oneStep_148 rfl ?_
      refine va_get (D := D) (cl := vwCl) (ci := 6) (v := .int yruns) (C := RX6) (T := TX6) (N := 26) hx hb hts hinX6 hown hG.1 hP 0 rfl rfl 9 (by decide) fl81 (fun _ h9 => h9) rfl dX6_oneStep_149 ?_
      refine lv_iconst (v := (1 : Int32)) hx hb dX6_oneStep_152 (by decide) ?_
      refine lv_isub hx hb dX6_oneStep_153 ?_
      refine va_put (D := D) (cl := vwCl) (ci := 6) (v := .int (yruns - (1 : Int32))) (ty := .int) (C := RX6) (T := TX6) (N := 26) hx hb hts hinX6 tyX6 tyX6_ok nmX6 hown hG.1 hP hD hS 0 rfl rfl 9 (by decide) fl81 (fun _ h9 => h9) rfl (by decide +kernel) rfl rfl (Nat.le_of_ble_eq_true rfl) dX6_oneStep_154 (fun H locs hP hD hS => ?_)
      have hP : va_P D vwCl [(yo, .inr (6, [.int ylength, .ref vytext, .ref vyrules, .int ymany, .ref vylaid, .ref vykey, .ref vytag, .ref vyroomKey, .ref vyroomTag, .int (yruns - (1 : Int32)), .ref vyrunAt, .ref vyrunMany, .int ywaitAt, .int ywaitMany, .ref vycost, .ref vyhadKey, .ref vyhadTag, .ref vyhadAt, .ref vyhadMany, .ref vyhadCost, .int ya0_127, .int ya1_127, .int yb0_127, .int yb1_127, .int yforward_127, .int yout_127])), (vyrules, .inl (cA, 4, .inl yrules)), (vykey, .inl (cA, 96, .inl ykey_127)), (vytag, .inl (cA, 96, .inl ytag_127)), (vyroomKey, .inl (cA, 96, .inl yroomKey_127)), (vyroomTag, .inl (cA, 96, .inl yroomTag_127)), (vyrunAt, .inl (cA, 96, .inl yrunAt)), (vyrunMany, .inl (cA, 96, .inl (upd yrunMany r102.toNatClampNeg ((yrunMany r102.toNatClampNeg) + (yrunMany (r102 + (1 : Int32)).toNatClampNeg))))), (vycost, .inl (cA, 12, .inl ycost_127))] H := hP
      have hD : va_D A [(yo, .inr (6, [.int ylength, .ref vytext, .ref vyrules, .int ymany, .ref vylaid, .ref vykey, .ref vytag, .ref vyroomKey, .ref vyroomTag, .int (yruns - (1 : Int32)), .ref vyrunAt, .ref vyrunMany, .int ywaitAt, .int ywaitMany, .ref vycost, .ref vyhadKey, .ref vyhadTag, .ref vyhadAt, .ref vyhadMany, .ref vyhadCost, .int ya0_127, .int ya1_127, .int yb0_127, .int yb1_127, .int yforward_127, .int yout_127])), (vyrules, .inl (cA, 4, .inl yrules)), (vykey, .inl (cA, 96, .inl ykey_127)), (vytag, .inl (cA, 96, .inl ytag_127)), (vyroomKey, .inl (cA, 96, .inl yroomKey_127)), (vyroomTag, .inl (cA, 96, .inl yroomTag_127)), (vyrunAt, .inl (cA, 96, .inl yrunAt)), (vyrunMany, .inl (cA, 96, .inl (upd yrunMany r102.toNatClampNeg ((yrunMany r102.toNatClampNeg) + (yrunMany (r102 + (1 : Int32)).toNatClampNeg))))), (vycost, .inl (cA, 12, .inl ycost_127))] := hD
      refine lv_iload_n hx hb dX6_oneStep_157 rfl (lv_at hl 0 rfl) ?_
      refine lv_iconst (v := (1 : Int32)) hx hb dX6_oneStep_158 (by decide) ?_
      refine lv_iadd hx hb dX6_oneStep_159 ?_
      refine lv_istore_n (lv' := [(3, .int (r102 + (1 : Int32))), (2, .int r102), (1, .int r1), (0, .ref yo)]) hx hb dX6_oneStep_160 rfl hl (by decide) rfl (fun ls hl => ?_)
      exact hmX6_oneStep_161 F (r102 + (1 : Int32)) (yruns - (1 : Int32)) ywaitAt ywaitMany ya0_127 ya1_127 yb0_127 yb1_127 yforward_127 yout_127 ykey_127 ytag_127 yroomKey_127 yroomTag_127 yrunAt (upd yrunMany r102.toNatClampNeg ((yrunMany r102.toNatClampNeg) + (yrunMany (r102 + (1 : Int32)).toNatClampNeg))) ycost_127 _ _ _ h hP hD hS (lv_sub hl [3, 0] rfl)
    · have h := i_t c91 h
      refine lv_aload_n hx hb dX6_oneStep_94 rfl (lv_at hl 1 rfl) ?_
      obtain ⟨ywaitAt_95, ywaitMany_95, ykey_95, ytag_95, ycost_95, hc95, h⟩ := bd5_some h
      refine ct_V (As := []) (rest := []) (st1 := []) (wf := [(yo, .inr (6, [.int ylength, .ref vytext, .ref vyrules, .int ymany, .ref vylaid, .ref vykey, .ref vytag, .ref vyroomKey, .ref vyroomTag, .int yruns, .ref vyrunAt, .ref vyrunMany, .int ywaitAt_95, .int ywaitMany_95, .ref vycost, .ref vyhadKey, .ref vyhadTag, .ref vyhadAt, .ref vyhadMany, .ref vyhadCost, .int ya0, .int ya1, .int yb0, .int yb1, .int yforward, .int yout])), (vyrules, .inl (cA, 4, .inl yrules)), (vykey, .inl (cA, 96, .inl ykey_95)), (vytag, .inl (cA, 96, .inl ytag_95)), (vyroomKey, .inl (cA, 96, .inl yroomKey)), (vyroomTag, .inl (cA, 96, .inl yroomTag)), (vyrunAt, .inl (cA, 96, .inl yrunAt)), (vyrunMany, .inl (cA, 96, .inl yrunMany)), (vycost, .inl (cA, 12, .inl ycost_95))]) (kX6_find l D cA F yo vytext vyrules vylaid vykey vytag vyroomKey vyroomTag vyrunAt vyrunMany vycost vyhadKey vyhadTag vyhadAt vyhadMany vyhadCost  ylength ymany yruns ywaitAt ywaitMany ya0 ya1 yb0 yb1 yforward yout yrules ykey ytag yrunMany ycost  ywaitAt_95 ywaitMany_95 ykey_95 ytag_95 ycost_95 hc95) ⟨hx, hb, hml, hown, hts⟩ (cwV 0 hts gX6_oneStep_X6_find rfl rfl rfl (by decide +kernel) ⟨Nat.le_of_ble_eq_true rfl, Nat.le_of_ble_eq_true rfl⟩) hG hst hP hD hS hA 6 rfl rfl rfl [0, 1, 2, 3, 7, 8] [4, 5, 6] [3, 4, 5, 6, 0, 1, 2, 7, 8] rfl rfl rfl rfl rfl rfl hl.1 rfl rfl (Nat.le_of_ble_eq_true rfl) dX6_oneStep_95 ⟨Nat.zero_le _, Nat.zero_le _⟩ (fun H locs hP hD hS => ?_)
      refine lv_goto (tgt := 203) hx hb dX6_oneStep_98 (by decide) ?_
      exact hmX6_oneStep_203 yruns ywaitAt_95 ywaitMany_95 ya0 ya1 yb0 yb1 yforward yout ykey_95 ytag_95 yroomKey yroomTag yrunAt yrunMany ycost_95 _ _ _ h hP hD hS (lv_sub hl [1] rfl)
  · have h := i_t c7 h
    refine lv_aload_n hx hb dX6_oneStep_10 rfl (lv_at hl 1 rfl) ?_
    refine va_get (D := D) (cl := vwCl) (ci := 6) (v := .ref vyrunAt) (C := RX6) (T := TX6) (N := 26) hx hb hts hinX6 hown hG.1 hP 0 rfl rfl 10 (by decide) fl31 (fun _ h9 => h9) rfl dX6_oneStep_11 ?_
    refine lv_aload_n hx hb dX6_oneStep_14 rfl (lv_at hl 1 rfl) ?_
    refine va_get (D := D) (cl := vwCl) (ci := 6) (v := .int yruns) (C := RX6) (T := TX6) (N := 26) hx hb hts hinX6 hown hG.1 hP 0 rfl rfl 9 (by decide) fl81 (fun _ h9 => h9) rfl dX6_oneStep_15 ?_
    refine lv_aload_n hx hb dX6_oneStep_18 rfl (lv_at hl 1 rfl) ?_
    refine va_get (D := D) (cl := vwCl) (ci := 6) (v := .int ywaitAt) (C := RX6) (T := TX6) (N := 26) hx hb hts hinX6 hown hG.1 hP 0 rfl rfl 12 (by decide) fl84 (fun _ h9 => h9) rfl dX6_oneStep_19 ?_
    obtain ⟨hi22, h⟩ := ck_some h
    refine va_iast hx hb hG.1 hP hD hS 6 0 rfl rfl hi22 dX6_oneStep_22 (fun H locs hP hD hS => ?_)
    have hP : va_P D vwCl [(yo, .inr (6, [.int ylength, .ref vytext, .ref vyrules, .int ymany, .ref vylaid, .ref vykey, .ref vytag, .ref vyroomKey, .ref vyroomTag, .int yruns, .ref vyrunAt, .ref vyrunMany, .int ywaitAt, .int ywaitMany, .ref vycost, .ref vyhadKey, .ref vyhadTag, .ref vyhadAt, .ref vyhadMany, .ref vyhadCost, .int ya0, .int ya1, .int yb0, .int yb1, .int yforward, .int yout])), (vyrules, .inl (cA, 4, .inl yrules)), (vykey, .inl (cA, 96, .inl ykey)), (vytag, .inl (cA, 96, .inl ytag)), (vyroomKey, .inl (cA, 96, .inl yroomKey)), (vyroomTag, .inl (cA, 96, .inl yroomTag)), (vyrunAt, .inl (cA, 96, .inl (upd yrunAt yruns.toNatClampNeg ywaitAt))), (vyrunMany, .inl (cA, 96, .inl yrunMany)), (vycost, .inl (cA, 12, .inl ycost))] H := hP
    have hD : va_D A [(yo, .inr (6, [.int ylength, .ref vytext, .ref vyrules, .int ymany, .ref vylaid, .ref vykey, .ref vytag, .ref vyroomKey, .ref vyroomTag, .int yruns, .ref vyrunAt, .ref vyrunMany, .int ywaitAt, .int ywaitMany, .ref vycost, .ref vyhadKey, .ref vyhadTag, .ref vyhadAt, .ref vyhadMany, .ref vyhadCost, .int ya0, .int ya1, .int yb0, .int yb1, .int yforward, .int yout])), (vyrules, .inl (cA, 4, .inl yrules)), (vykey, .inl (cA, 96, .inl ykey)), (vytag, .inl (cA, 96, .inl ytag)), (vyroomKey, .inl (cA, 96, .inl yroomKey)), (vyroomTag, .inl (cA, 96, .inl yroomTag)), (vyrunAt, .inl (cA, 96, .inl (upd yrunAt yruns.toNatClampNeg ywaitAt))), (vyrunMany, .inl (cA, 96, .inl yrunMany)), (vycost, .inl (cA, 12, .inl ycost))] := hD
    refine lv_aload_n hx hb dX6_oneStep_23 rfl (lv_at hl 1 rfl) ?_
    refine va_get (D := D) (cl := vwCl) (ci := 6) (v := .ref vyrunMany) (C := RX6) (T := TX6) (N := 26) hx hb hts hinX6 hown hG.1 hP 0 rfl rfl 11 (by decide) fl34 (fun _ h9 => h9) rfl dX6_oneStep_24 ?_
    refine lv_aload_n hx hb dX6_oneStep_27 rfl (lv_at hl 1 rfl) ?_
    refine va_get (D := D) (cl := vwCl) (ci := 6) (v := .int yruns) (C := RX6) (T := TX6) (N := 26) hx hb hts hinX6 hown hG.1 hP 0 rfl rfl 9 (by decide) fl81 (fun _ h9 => h9) rfl dX6_oneStep_28 ?_
    refine lv_aload_n hx hb dX6_oneStep_31 rfl (lv_at hl 1 rfl) ?_
    refine va_get (D := D) (cl := vwCl) (ci := 6) (v := .int ywaitMany) (C := RX6) (T := TX6) (N := 26) hx hb hts hinX6 hown hG.1 hP 0 rfl rfl 13 (by decide) fl87 (fun _ h9 => h9) rfl dX6_oneStep_32 ?_
    obtain ⟨hi35, h⟩ := ck_some h
    refine va_iast hx hb hG.1 hP hD hS 7 0 rfl rfl hi35 dX6_oneStep_35 (fun H locs hP hD hS => ?_)
    have hP : va_P D vwCl [(yo, .inr (6, [.int ylength, .ref vytext, .ref vyrules, .int ymany, .ref vylaid, .ref vykey, .ref vytag, .ref vyroomKey, .ref vyroomTag, .int yruns, .ref vyrunAt, .ref vyrunMany, .int ywaitAt, .int ywaitMany, .ref vycost, .ref vyhadKey, .ref vyhadTag, .ref vyhadAt, .ref vyhadMany, .ref vyhadCost, .int ya0, .int ya1, .int yb0, .int yb1, .int yforward, .int yout])), (vyrules, .inl (cA, 4, .inl yrules)), (vykey, .inl (cA, 96, .inl ykey)), (vytag, .inl (cA, 96, .inl ytag)), (vyroomKey, .inl (cA, 96, .inl yroomKey)), (vyroomTag, .inl (cA, 96, .inl yroomTag)), (vyrunAt, .inl (cA, 96, .inl (upd yrunAt yruns.toNatClampNeg ywaitAt))), (vyrunMany, .inl (cA, 96, .inl (upd yrunMany yruns.toNatClampNeg ywaitMany))), (vycost, .inl (cA, 12, .inl ycost))] H := hP
    have hD : va_D A [(yo, .inr (6, [.int ylength, .ref vytext, .ref vyrules, .int ymany, .ref vylaid, .ref vykey, .ref vytag, .ref vyroomKey, .ref vyroomTag, .int yruns, .ref vyrunAt, .ref vyrunMany, .int ywaitAt, .int ywaitMany, .ref vycost, .ref vyhadKey, .ref vyhadTag, .ref vyhadAt, .ref vyhadMany, .ref vyhadCost, .int ya0, .int ya1, .int yb0, .int yb1, .int yforward, .int yout])), (vyrules, .inl (cA, 4, .inl yrules)), (vykey, .inl (cA, 96, .inl ykey)), (vytag, .inl (cA, 96, .inl ytag)), (vyroomKey, .inl (cA, 96, .inl yroomKey)), (vyroomTag, .inl (cA, 96, .inl yroomTag)), (vyrunAt, .inl (cA, 96, .inl (upd yrunAt yruns.toNatClampNeg ywaitAt))), (vyrunMany, .inl (cA, 96, .inl (upd yrunMany yruns.toNatClampNeg ywaitMany))), (vycost, .inl (cA, 12, .inl ycost))] := hD
    refine lv_aload_n hx hb dX6_oneStep_36 rfl (lv_at hl 1 rfl) ?_
    refine lv_dup hx hb dX6_oneStep_37 rfl ?_
    refine va_get (D := D) (cl := vwCl) (ci := 6) (v := .int yruns) (C := RX6) (T := TX6) (N := 26) hx hb hts hinX6 hown hG.1 hP 0 rfl rfl 9 (by decide) fl81 (fun _ h9 => h9) rfl dX6_oneStep_38 ?_
    refine lv_iconst (v := (1 : Int32)) hx hb dX6_oneStep_41 (by decide) ?_
    refine lv_iadd hx hb dX6_oneStep_42 ?_
    refine va_put (D := D) (cl := vwCl) (ci := 6) (v := .int (yruns + (1 : Int32))) (ty := .int) (C := RX6) (T := TX6) (N := 26) hx hb hts hinX6 tyX6 tyX6_ok nmX6 hown hG.1 hP hD hS 0 rfl rfl 9 (by decide) fl81 (fun _ h9 => h9) rfl (by decide +kernel) rfl rfl (Nat.le_of_ble_eq_true rfl) dX6_oneStep_43 (fun H locs hP hD hS => ?_)
    have hP : va_P D vwCl [(yo, .inr (6, [.int ylength, .ref vytext, .ref vyrules, .int ymany, .ref vylaid, .ref vykey, .ref vytag, .ref vyroomKey, .ref vyroomTag, .int (yruns + (1 : Int32)), .ref vyrunAt, .ref vyrunMany, .int ywaitAt, .int ywaitMany, .ref vycost, .ref vyhadKey, .ref vyhadTag, .ref vyhadAt, .ref vyhadMany, .ref vyhadCost, .int ya0, .int ya1, .int yb0, .int yb1, .int yforward, .int yout])), (vyrules, .inl (cA, 4, .inl yrules)), (vykey, .inl (cA, 96, .inl ykey)), (vytag, .inl (cA, 96, .inl ytag)), (vyroomKey, .inl (cA, 96, .inl yroomKey)), (vyroomTag, .inl (cA, 96, .inl yroomTag)), (vyrunAt, .inl (cA, 96, .inl (upd yrunAt yruns.toNatClampNeg ywaitAt))), (vyrunMany, .inl (cA, 96, .inl (upd yrunMany yruns.toNatClampNeg ywaitMany))), (vycost, .inl (cA, 12, .inl ycost))] H := hP
    have hD : va_D A [(yo, .inr (6, [.int ylength, .ref vytext, .ref vyrules, .int ymany, .ref vylaid, .ref vykey, .ref vytag, .ref vyroomKey, .ref vyroomTag, .int (yruns + (1 : Int32)), .ref vyrunAt, .ref vyrunMany, .int ywaitAt, .int ywaitMany, .ref vycost, .ref vyhadKey, .ref vyhadTag, .ref vyhadAt, .ref vyhadMany, .ref vyhadCost, .int ya0, .int ya1, .int yb0, .int yb1, .int yforward, .int yout])), (vyrules, .inl (cA, 4, .inl yrules)), (vykey, .inl (cA, 96, .inl ykey)), (vytag, .inl (cA, 96, .inl ytag)), (vyroomKey, .inl (cA, 96, .inl yroomKey)), (vyroomTag, .inl (cA, 96, .inl yroomTag)), (vyrunAt, .inl (cA, 96, .inl (upd yrunAt yruns.toNatClampNeg ywaitAt))), (vyrunMany, .inl (cA, 96, .inl (upd yrunMany yruns.toNatClampNeg ywaitMany))), (vycost, .inl (cA, 12, .inl ycost))] := hD
    refine lv_aload_n hx hb dX6_oneStep_46 rfl (lv_at hl 1 rfl) ?_
    refine lv_iconst (v := (0 : Int32)) hx hb dX6_oneStep_47 (by decide) ?_
    refine va_put (D := D) (cl := vwCl) (ci := 6) (v := .int (0 : Int32)) (ty := .int) (C := RX6) (T := TX6) (N := 26) hx hb hts hinX6 tyX6 tyX6_ok nmX6 hown hG.1 hP hD hS 0 rfl rfl 13 (by decide) fl87 (fun _ h9 => h9) rfl (by decide +kernel) rfl rfl (Nat.le_of_ble_eq_true rfl) dX6_oneStep_48 (fun H locs hP hD hS => ?_)
    have hP : va_P D vwCl [(yo, .inr (6, [.int ylength, .ref vytext, .ref vyrules, .int ymany, .ref vylaid, .ref vykey, .ref vytag, .ref vyroomKey, .ref vyroomTag, .int (yruns + (1 : Int32)), .ref vyrunAt, .ref vyrunMany, .int ywaitAt, .int (0 : Int32), .ref vycost, .ref vyhadKey, .ref vyhadTag, .ref vyhadAt, .ref vyhadMany, .ref vyhadCost, .int ya0, .int ya1, .int yb0, .int yb1, .int yforward, .int yout])), (vyrules, .inl (cA, 4, .inl yrules)), (vykey, .inl (cA, 96, .inl ykey)), (vytag, .inl (cA, 96, .inl ytag)), (vyroomKey, .inl (cA, 96, .inl yroomKey)), (vyroomTag, .inl (cA, 96, .inl yroomTag)), (vyrunAt, .inl (cA, 96, .inl (upd yrunAt yruns.toNatClampNeg ywaitAt))), (vyrunMany, .inl (cA, 96, .inl (upd yrunMany yruns.toNatClampNeg ywaitMany))), (vycost, .inl (cA, 12, .inl ycost))] H := hP
    have hD : va_D A [(yo, .inr (6, [.int ylength, .ref vytext, .ref vyrules, .int ymany, .ref vylaid, .ref vykey, .ref vytag, .ref vyroomKey, .ref vyroomTag, .int (yruns + (1 : Int32)), .ref vyrunAt, .ref vyrunMany, .int ywaitAt, .int (0 : Int32), .ref vycost, .ref vyhadKey, .ref vyhadTag, .ref vyhadAt, .ref vyhadMany, .ref vyhadCost, .int ya0, .int ya1, .int yb0, .int yb1, .int yforward, .int yout])), (vyrules, .inl (cA, 4, .inl yrules)), (vykey, .inl (cA, 96, .inl ykey)), (vytag, .inl (cA, 96, .inl ytag)), (vyroomKey, .inl (cA, 96, .inl yroomKey)), (vyroomTag, .inl (cA, 96, .inl yroomTag)), (vyrunAt, .inl (cA, 96, .inl (upd yrunAt yruns.toNatClampNeg ywaitAt))), (vyrunMany, .inl (cA, 96, .inl (upd yrunMany yruns.toNatClampNeg ywaitMany))), (vycost, .inl (cA, 12, .inl ycost))] := hD
    refine lv_aload_n hx hb dX6_oneStep_51 rfl (lv_at hl 1 rfl) ?_
    refine va_get (D := D) (cl := vwCl) (ci := 6) (v := .ref vycost) (C := RX6) (T := TX6) (N := 26) hx hb hts hinX6 hown hG.1 hP 0 rfl rfl 14 (by decide) fl37 (fun _ h9 => h9) rfl dX6_oneStep_52 ?_
    refine lv_bipush (v := (8 : Int32)) hx hb dX6_oneStep_55 (by decide) ?_
    refine lv_aload_n hx hb dX6_oneStep_57 rfl (lv_at hl 1 rfl) ?_
    refine va_get (D := D) (cl := vwCl) (ci := 6) (v := .int (yruns + (1 : Int32))) (C := RX6) (T := TX6) (N := 26) hx hb hts hinX6 hown hG.1 hP 0 rfl rfl 9 (by decide) fl81 (fun _ h9 => h9) rfl dX6_oneStep_58 ?_
    refine lv_aload_n hx hb dX6_oneStep_61 rfl (lv_at hl 1 rfl) ?_
    refine va_get (D := D) (cl := vwCl) (ci := 6) (v := .ref vycost) (C := RX6) (T := TX6) (N := 26) hx hb hts hinX6 hown hG.1 hP 0 rfl rfl 14 (by decide) fl37 (fun _ h9 => h9) rfl dX6_oneStep_62 ?_
    refine lv_bipush (v := (8 : Int32)) hx hb dX6_oneStep_65 (by decide) ?_
    obtain ⟨hi67, h⟩ := ck_some h
    refine va_iald hx hb hG.1 hP 8 0 rfl rfl hi67 dX6_oneStep_67 ?_
    refine lv_icmp_le (tgt := 78) hx hb dX6_oneStep_68 (by decide) (fun c68 => ?_) (fun c68 => ?_)
    · have h := i_t c68 h
      refine lv_aload_n hx hb dX6_oneStep_78 rfl (lv_at hl 1 rfl) ?_
      refine va_get (D := D) (cl := vwCl) (ci := 6) (v := .ref vycost) (C := RX6) (T := TX6) (N := 26) hx hb hts hinX6 hown hG.1 hP 0 rfl rfl 14 (by decide) fl37 (fun _ h9 => h9) rfl dX6_oneStep_79 ?_
      refine lv_bipush (v := (8 : Int32)) hx hb dX6_oneStep_82 (by decide) ?_
      obtain ⟨hi84, h⟩ := ck_some h
      refine va_iald hx hb hG.1 hP 8 0 rfl rfl hi84 dX6_oneStep_84 ?_
      exact hmX6_oneStep_85 (ycost (8 : Int32).toNatClampNeg) (8 : Int32) (yruns + (1 : Int32)) ywaitAt (0 : Int32) ya0 ya1 yb0 yb1 yforward yout ykey ytag yroomKey yroomTag (upd yrunAt yruns.toNatClampNeg ywaitAt) (upd yrunMany yruns.toNatClampNeg ywaitMany) ycost _ _ _ h hP hD hS (lv_sub hl [1] rfl)
    · have h := i_f c68 h
      refine lv_aload_n hx hb dX6_oneStep_71 rfl (lv_at hl 1 rfl) ?_
      refine va_get (D := D) (cl := vwCl) (ci := 6) (v := .int (yruns + (1 : Int32))) (C := RX6) (T := TX6) (N := 26) hx hb hts hinX6 hown hG.1 hP 0 rfl rfl 9 (by decide) fl81 (fun _ h9 => h9) rfl dX6_oneStep_72 ?_
      refine lv_goto (tgt := 85) hx hb dX6_oneStep_75 (by decide) ?_
      exact hmX6_oneStep_85 (yruns + (1 : Int32)) (8 : Int32) (yruns + (1 : Int32)) ywaitAt (0 : Int32) ya0 ya1 yb0 yb1 yforward yout ykey ytag yroomKey yroomTag (upd yrunAt yruns.toNatClampNeg ywaitAt) (upd yrunMany yruns.toNatClampNeg ywaitMany) ycost _ _ _ h hP hD hS (lv_sub hl [1] rfl)
set_option maxHeartbeats 4000000 in
set_option maxRecDepth 100000 in
theorem kX6_step (l : Launch) (D : va_G) (cA : ClassId) (F : Nat) (yo : Nat) (vytext : Nat) (vyrules : Nat) (vylaid : Nat) (vykey : Nat) (vytag : Nat) (vyroomKey : Nat) (vyroomTag : Nat) (vyrunAt : Nat) (vyrunMany : Nat) (vycost : Nat) (vyhadKey : Nat) (vyhadTag : Nat) (vyhadAt : Nat) (vyhadMany : Nat) (vyhadCost : Nat) (ylength : Int32) (ymany : Int32) (yruns : Int32) (ywaitAt : Int32) (ywaitMany : Int32) (ya0 : Int32) (ya1 : Int32) (yb0 : Int32) (yb1 : Int32) (yforward : Int32) (yout : Int32) (yrules : (Nat → Int32)) (ykey : (Nat → Int32)) (ytag : (Nat → Int32)) (yroomKey : (Nat → Int32)) (yroomTag : (Nat → Int32)) (yrunAt : (Nat → Int32)) (yrunMany : (Nat → Int32)) (ycost : (Nat → Int32)) (a1 : Int32) (r0 : Int32) (yruns_9 : Int32) (ywaitAt_9 : Int32) (ywaitMany_9 : Int32) (ya0_9 : Int32) (ya1_9 : Int32) (yb0_9 : Int32) (yb1_9 : Int32) (yforward_9 : Int32) (yout_9 : Int32) (ykey_9 : (Nat → Int32)) (ytag_9 : (Nat → Int32)) (yroomKey_9 : (Nat → Int32)) (yroomTag_9 : (Nat → Int32)) (yrunAt_9 : (Nat → Int32)) (yrunMany_9 : (Nat → Int32)) (ycost_9 : (Nat → Int32)) (h : mX6_step F ymany yruns ywaitAt ywaitMany ya0 ya1 yb0 yb1 yforward yout yrules ykey ytag yroomKey yroomTag yrunAt yrunMany ycost a1 = some (r0, yruns_9, ywaitAt_9, ywaitMany_9, ya0_9, ya1_9, yb0_9, yb1_9, yforward_9, yout_9, ykey_9, ytag_9, yroomKey_9, yroomTag_9, yrunAt_9, yrunMany_9, ycost_9)) : Ct l yX6_step wsX6_step ({ frames := 8, cells := 0, slots := 0, locals := 188 }) D cA [.ref yo, .int a1] [(yo, .inr (6, [.int ylength, .ref vytext, .ref vyrules, .int ymany, .ref vylaid, .ref vykey, .ref vytag, .ref vyroomKey, .ref vyroomTag, .int yruns, .ref vyrunAt, .ref vyrunMany, .int ywaitAt, .int ywaitMany, .ref vycost, .ref vyhadKey, .ref vyhadTag, .ref vyhadAt, .ref vyhadMany, .ref vyhadCost, .int ya0, .int ya1, .int yb0, .int yb1, .int yforward, .int yout])), (vyrules, .inl (cA, 4, .inl yrules)), (vykey, .inl (cA, 96, .inl ykey)), (vytag, .inl (cA, 96, .inl ytag)), (vyroomKey, .inl (cA, 96, .inl yroomKey)), (vyroomTag, .inl (cA, 96, .inl yroomTag)), (vyrunAt, .inl (cA, 96, .inl yrunAt)), (vyrunMany, .inl (cA, 96, .inl yrunMany)), (vycost, .inl (cA, 12, .inl ycost))] [(yo, .inr (6, [.int ylength, .ref vytext, .ref vyrules, .int ymany, .ref vylaid, .ref vykey, .ref vytag, .ref vyroomKey, .ref vyroomTag, .int yruns_9, .ref vyrunAt, .ref vyrunMany, .int ywaitAt_9, .int ywaitMany_9, .ref vycost, .ref vyhadKey, .ref vyhadTag, .ref vyhadAt, .ref vyhadMany, .ref vyhadCost, .int ya0_9, .int ya1_9, .int yb0_9, .int yb1_9, .int yforward_9, .int yout_9])), (vyrules, .inl (cA, 4, .inl yrules)), (vykey, .inl (cA, 96, .inl ykey_9)), (vytag, .inl (cA, 96, .inl ytag_9)), (vyroomKey, .inl (cA, 96, .inl yroomKey_9)), (vyroomTag, .inl (cA, 96, .inl yroomTag_9)), (vyrunAt, .inl (cA, 96, .inl yrunAt_9)), (vyrunMany, .inl (cA, 96, .inl yrunMany_9)), (vycost, .inl (cA, 12, .inl ycost_9))] (some (.int r0)) := by
  refine Ct.of (cc := cX6_step) (maxL := 3) (ret := (some .int)) (by decide) rfl (Nat.le_of_ble_eq_true rfl) ?_
  intro p e s m below meth c A ls hcx hG hst hA hP hD hl
  obtain ⟨hx, hb, hml, hown, hts, hr, hlocks⟩ := id hcx
  have hown : s.vm.findClass RX6 = some m.cls := hown
  have hS : va_S A s.heap s.heap [] := va_S.rf
  have hl : lv_has ls 3 [(0, .ref yo), (1, .int a1)] := hl
  have hmX6_step_16 : ∀ (n16 : Nat) (x2 : Int32) (yruns : Int32) (ywaitAt : Int32) (ywaitMany : Int32) (ya0 : Int32) (ya1 : Int32) (yb0 : Int32) (yb1 : Int32) (yforward : Int32) (yout : Int32) (ykey : (Nat → Int32)) (ytag : (Nat → Int32)) (yroomKey : (Nat → Int32)) (yroomTag : (Nat → Int32)) (yrunAt : (Nat → Int32)) (yrunMany : (Nat → Int32)) (ycost : (Nat → Int32)) (H : Heap) (locs : List Loc) (ls : Array Slot), mX6_step_16 F ymany yrules a1 n16 x2 yruns ywaitAt ywaitMany ya0 ya1 yb0 yb1 yforward yout ykey ytag yroomKey yroomTag yrunAt yrunMany ycost = some (r0, yruns_9, ywaitAt_9, ywaitMany_9, ya0_9, ya1_9, yb0_9, yb1_9, yforward_9, yout_9, ykey_9, ytag_9, yroomKey_9, yroomTag_9, yrunAt_9, yrunMany_9, ycost_9) → va_P D vwCl [(yo, .inr (6, [.int ylength, .ref vytext, .ref vyrules, .int ymany, .ref vylaid, .ref vykey, .ref vytag, .ref vyroomKey, .ref vyroomTag, .int yruns, .ref vyrunAt, .ref vyrunMany, .int ywaitAt, .int ywaitMany, .ref vycost, .ref vyhadKey, .ref vyhadTag, .ref vyhadAt, .ref vyhadMany, .ref vyhadCost, .int ya0, .int ya1, .int yb0, .int yb1, .int yforward, .int yout])), (vyrules, .inl (cA, 4, .inl yrules)), (vykey, .inl (cA, 96, .inl ykey)), (vytag, .inl (cA, 96, .inl ytag)), (vyroomKey, .inl (cA, 96, .inl yroomKey)), (vyroomTag, .inl (cA, 96, .inl yroomTag)), (vyrunAt, .inl (cA, 96, .inl yrunAt)), (vyrunMany, .inl (cA, 96, .inl yrunMany)), (vycost, .inl (cA, 12, .inl ycost))] H → va_D A [(yo, .inr (6, [.int ylength, .ref vytext, .ref vyrules, .int ymany, .ref vylaid, .ref vykey, .ref vytag, .ref vyroomKey, .ref vyroomTag, .int yruns, .ref vyrunAt, .ref vyrunMany, .int ywaitAt, .int ywaitMany, .ref vycost, .ref vyhadKey, .ref vyhadTag, .ref vyhadAt, .ref vyhadMany, .ref vyhadCost, .int ya0, .int ya1, .int yb0, .int yb1, .int yforward, .int yout])), (vyrules, .inl (cA, 4, .inl yrules)), (vykey, .inl (cA, 96, .inl ykey)), (vytag, .inl (cA, 96, .inl ytag)), (vyroomKey, .inl (cA, 96, .inl yroomKey)), (vyroomTag, .inl (cA, 96, .inl yroomTag)), (vyrunAt, .inl (cA, 96, .inl yrunAt)), (vyrunMany, .inl (cA, 96, .inl yrunMany)), (vycost, .inl (cA, 12, .inl ycost))] → va_S A s.heap H locs → lv_has ls 3 [(0, .ref yo), (1, .int a1), (2, .int x2)] → W p l e ({ frames := 8, cells := 0, slots := 0, locals := 188 }) s m ([.ref yo, .int a1] : List Value).toArray below meth c H locs 0 0 (MQ below (Qw D A [(yo, .inr (6, [.int ylength, .ref vytext, .ref vyrules, .int ymany, .ref vylaid, .ref vykey, .ref vytag, .ref vyroomKey, .ref vyroomTag, .int yruns_9, .ref vyrunAt, .ref vyrunMany, .int ywaitAt_9, .int ywaitMany_9, .ref vycost, .ref vyhadKey, .ref vyhadTag, .ref vyhadAt, .ref vyhadMany, .ref vyhadCost, .int ya0_9, .int ya1_9, .int yb0_9, .int yb1_9, .int yforward_9, .int yout_9])), (vyrules, .inl (cA, 4, .inl yrules)), (vykey, .inl (cA, 96, .inl ykey_9)), (vytag, .inl (cA, 96, .inl ytag_9)), (vyroomKey, .inl (cA, 96, .inl yroomKey_9)), (vyroomTag, .inl (cA, 96, .inl yroomTag_9)), (vyrunAt, .inl (cA, 96, .inl yrunAt_9)), (vyrunMany, .inl (cA, 96, .inl yrunMany_9)), (vycost, .inl (cA, 12, .inl ycost_9))] (some (.int r0))) ([.ref yo, .int a1] : List Value).toArray s 0 0 A) (F0 m 16 ls []) := by
    intro n16
    induction n16 with
    | zero => intro x2 yruns ywaitAt ywaitMany ya0 ya1 yb0 yb1 yforward yout ykey ytag yroomKey yroomTag yrunAt yrunMany ycost H locs ls h; exact (no_some h).elim
    | succ n16 ih16 =>
      intro x2 yruns ywaitAt ywaitMany ya0 ya1 yb0 yb1 yforward yout ykey ytag yroomKey yroomTag yrunAt yrunMany ycost H locs ls h hP hD hS hl
      rw [mX6_step_16] at h
      refine lv_iload_n hx hb dX6_step_16 rfl (lv_at hl 2 rfl) ?_
      refine lv_iload_n hx hb dX6_step_17 rfl (lv_at hl 1 rfl) ?_
      refine lv_icmp_ge (tgt := 38) hx hb dX6_step_18 (by decide) (fun c18 => ?_) (fun c18 => ?_)
      · have h := i_t c18 h
        refine lv_iload_n hx hb dX6_step_38 rfl (lv_at hl 2 rfl) ?_
        cases h
        exact rt_i hx hb hr hlocks hP hD hS dX6_step_39
      · have h := i_f c18 h
        refine lv_aload_n hx hb dX6_step_21 rfl (lv_at hl 0 rfl) ?_
        obtain ⟨r22, hc22, h⟩ := bd1_some h
        refine ct_V (As := []) (rest := []) (st1 := [.int r22]) (wf := [(yo, .inr (6, [.int ylength, .ref vytext, .ref vyrules, .int ymany, .ref vylaid, .ref vykey, .ref vytag, .ref vyroomKey, .ref vyroomTag, .int yruns, .ref vyrunAt, .ref vyrunMany, .int ywaitAt, .int ywaitMany, .ref vycost, .ref vyhadKey, .ref vyhadTag, .ref vyhadAt, .ref vyhadMany, .ref vyhadCost, .int ya0, .int ya1, .int yb0, .int yb1, .int yforward, .int yout])), (vyrules, .inl (cA, 4, .inl yrules)), (vykey, .inl (cA, 96, .inl ykey)), (vytag, .inl (cA, 96, .inl ytag)), (vyroomKey, .inl (cA, 96, .inl yroomKey)), (vyroomTag, .inl (cA, 96, .inl yroomTag)), (vyrunAt, .inl (cA, 96, .inl yrunAt)), (vyrunMany, .inl (cA, 96, .inl yrunMany)), (vycost, .inl (cA, 12, .inl ycost))]) (kX6_next l D cA F yo vytext vyrules vylaid vykey vytag vyroomKey vyroomTag vyrunAt vyrunMany vycost vyhadKey vyhadTag vyhadAt vyhadMany vyhadCost  ylength ymany yruns ywaitAt ywaitMany ya0 ya1 yb0 yb1 yforward yout yrules yrunAt yrunMany  r22 hc22) ⟨hx, hb, hml, hown, hts⟩ (cwV 0 hts gX6_step_X6_next rfl rfl rfl (by decide +kernel) ⟨Nat.le_of_ble_eq_true rfl, Nat.le_of_ble_eq_true rfl⟩) hG hst hP hD hS hA 6 rfl rfl rfl [0, 1, 6, 7] [2, 3, 4, 5, 8] [5, 6, 0, 1, 2, 3, 7, 8, 4] rfl rfl rfl rfl rfl rfl hl.1 rfl rfl (Nat.le_of_ble_eq_true rfl) dX6_step_22 ⟨Nat.zero_le _, Nat.zero_le _⟩ (fun H locs hP hD hS => ?_)
        refine lv_if_eq (tgt := 38) hx hb dX6_step_25 (by decide) (fun c25 => ?_) (fun c25 => ?_)
        · have h := i_t c25 h
          refine lv_iload_n hx hb dX6_step_38 rfl (lv_at hl 2 rfl) ?_
          cases h
          exact rt_i hx hb hr hlocks hP hD hS dX6_step_39
        · have h := i_f c25 h
          refine lv_aload_n hx hb dX6_step_28 rfl (lv_at hl 0 rfl) ?_
          obtain ⟨yruns_29, ywaitAt_29, ywaitMany_29, ya0_29, ya1_29, yb0_29, yb1_29, yforward_29, yout_29, ykey_29, ytag_29, yroomKey_29, yroomTag_29, yrunAt_29, yrunMany_29, ycost_29, hc29, h⟩ := bd16_some h
          refine ct_V (As := []) (rest := []) (st1 := []) (wf := [(yo, .inr (6, [.int ylength, .ref vytext, .ref vyrules, .int ymany, .ref vylaid, .ref vykey, .ref vytag, .ref vyroomKey, .ref vyroomTag, .int yruns_29, .ref vyrunAt, .ref vyrunMany, .int ywaitAt_29, .int ywaitMany_29, .ref vycost, .ref vyhadKey, .ref vyhadTag, .ref vyhadAt, .ref vyhadMany, .ref vyhadCost, .int ya0_29, .int ya1_29, .int yb0_29, .int yb1_29, .int yforward_29, .int yout_29])), (vyrules, .inl (cA, 4, .inl yrules)), (vykey, .inl (cA, 96, .inl ykey_29)), (vytag, .inl (cA, 96, .inl ytag_29)), (vyroomKey, .inl (cA, 96, .inl yroomKey_29)), (vyroomTag, .inl (cA, 96, .inl yroomTag_29)), (vyrunAt, .inl (cA, 96, .inl yrunAt_29)), (vyrunMany, .inl (cA, 96, .inl yrunMany_29)), (vycost, .inl (cA, 12, .inl ycost_29))]) (kX6_oneStep l D cA F yo vytext vyrules vylaid vykey vytag vyroomKey vyroomTag vyrunAt vyrunMany vycost vyhadKey vyhadTag vyhadAt vyhadMany vyhadCost  ylength ymany yruns ywaitAt ywaitMany ya0 ya1 yb0 yb1 yforward yout yrules ykey ytag yroomKey yroomTag yrunAt yrunMany ycost  yruns_29 ywaitAt_29 ywaitMany_29 ya0_29 ya1_29 yb0_29 yb1_29 yforward_29 yout_29 ykey_29 ytag_29 yroomKey_29 yroomTag_29 yrunAt_29 yrunMany_29 ycost_29 hc29) ⟨hx, hb, hml, hown, hts⟩ (cwV 0 hts gX6_step_X6_oneStep rfl rfl rfl (by decide +kernel) ⟨Nat.le_of_ble_eq_true rfl, Nat.le_of_ble_eq_true rfl⟩) hG hst hP hD hS hA 6 rfl rfl rfl [0, 1, 2, 3, 4, 5, 6, 7, 8] [] [0, 1, 2, 3, 4, 5, 6, 7, 8] rfl rfl rfl rfl rfl rfl hl.1 rfl rfl (Nat.le_of_ble_eq_true rfl) dX6_step_29 ⟨Nat.zero_le _, Nat.zero_le _⟩ (fun H locs hP hD hS => ?_)
          refine lv_iinc (v := x2 + (1 : Int32)) (lv' := [(2, .int (x2 + (1 : Int32))), (0, .ref yo), (1, .int a1)]) hx hb dX6_step_32 hl (k := 2) rfl (congrArg (fun z => x2 + z) (by decide)) (by decide) rfl (fun ls hl => ?_)
          refine lv_goto (tgt := 16) hx hb dX6_step_35 (by decide) ?_
          exact ih16 (x2 + (1 : Int32)) yruns_29 ywaitAt_29 ywaitMany_29 ya0_29 ya1_29 yb0_29 yb1_29 yforward_29 yout_29 ykey_29 ytag_29 yroomKey_29 yroomTag_29 yrunAt_29 yrunMany_29 ycost_29 _ _ _ h hP hD hS (lv_sub hl [1, 2, 0] rfl)
  unfold mX6_step at h
  refine lv_iload_n hx hb dX6_step_0 rfl (lv_at hl 1 rfl) ?_
  refine lv_i2l hx hb dX6_step_1 rfl ?_
  refine lv_lconst (v := (1 : Int64)) hx hb dX6_step_2 (by decide) ?_
  refine lv_ldc2 (v := (400 : Int64)) hx hb hown (hts (.constantLong RX6 139 (400)) (by decide +kernel)) dX6_step_3 ?_
  obtain ⟨r6, hc6, h⟩ := bd1_some h
  refine ct_S (As := [.long a1.toInt64, .long (1 : Int64), .long (400 : Int64)]) (rest := []) (st1 := [.int r6]) (wf := [(yo, .inr (6, [.int ylength, .ref vytext, .ref vyrules, .int ymany, .ref vylaid, .ref vykey, .ref vytag, .ref vyroomKey, .ref vyroomTag, .int yruns, .ref vyrunAt, .ref vyrunMany, .int ywaitAt, .int ywaitMany, .ref vycost, .ref vyhadKey, .ref vyhadTag, .ref vyhadAt, .ref vyhadMany, .ref vyhadCost, .int ya0, .int ya1, .int yb0, .int yb1, .int yforward, .int yout])), (vyrules, .inl (cA, 4, .inl yrules)), (vykey, .inl (cA, 96, .inl ykey)), (vytag, .inl (cA, 96, .inl ytag)), (vyroomKey, .inl (cA, 96, .inl yroomKey)), (vyroomTag, .inl (cA, 96, .inl yroomTag)), (vyrunAt, .inl (cA, 96, .inl yrunAt)), (vyrunMany, .inl (cA, 96, .inl yrunMany)), (vycost, .inl (cA, 12, .inl ycost))]) (kX6_in l D cA F    a1.toInt64 (1 : Int64) (400 : Int64) r6 hc6) ⟨hx, hb, hml, hown, hts⟩ (va_cwS 3 hts gX6_step_X6_in rfl rfl rfl (by decide +kernel) ⟨Nat.le_of_ble_eq_true rfl, Nat.le_of_ble_eq_true rfl⟩) hG hst hP hD hS hA [] [0, 1, 2, 3, 4, 5, 6, 7, 8] [0, 1, 2, 3, 4, 5, 6, 7, 8] rfl rfl rfl rfl rfl rfl hl.1 rfl rfl (Nat.le_of_ble_eq_true rfl) dX6_step_6 ⟨Nat.zero_le _, Nat.zero_le _⟩ (fun H locs hP hD hS => ?_)
  refine lv_if_ne (tgt := 14) hx hb dX6_step_9 (by decide) (fun c9 => ?_) (fun c9 => ?_)
  · have h := i_f c9 h
    refine lv_iconst (v := (0 : Int32)) hx hb dX6_step_14 (by decide) ?_
    refine lv_istore_n (lv' := [(2, .int (0 : Int32)), (0, .ref yo), (1, .int a1)]) hx hb dX6_step_15 rfl hl (by decide) rfl (fun ls hl => ?_)
    exact hmX6_step_16 F (0 : Int32) yruns ywaitAt ywaitMany ya0 ya1 yb0 yb1 yforward yout ykey ytag yroomKey yroomTag yrunAt yrunMany ycost _ _ _ h hP hD hS (lv_sub hl [1, 2, 0] rfl)
  · have h := i_t c9 h
    refine lv_iconst (v := (-1 : Int32)) hx hb dX6_step_12 (by decide) ?_
    cases h
    exact rt_i hx hb hr hlocks hP hD hS dX6_step_13
set_option maxHeartbeats 4000000 in
set_option maxRecDepth 100000 in
theorem kX6_at (l : Launch) (D : va_G) (cA : ClassId) (F : Nat) (yo : Nat) (vytext : Nat) (vyrules : Nat) (vylaid : Nat) (vykey : Nat) (vytag : Nat) (vyroomKey : Nat) (vyroomTag : Nat) (vyrunAt : Nat) (vyrunMany : Nat) (vycost : Nat) (vyhadKey : Nat) (vyhadTag : Nat) (vyhadAt : Nat) (vyhadMany : Nat) (vyhadCost : Nat) (ylength : Int32) (ymany : Int32) (yruns : Int32) (ywaitAt : Int32) (ywaitMany : Int32) (ya0 : Int32) (ya1 : Int32) (yb0 : Int32) (yb1 : Int32) (yforward : Int32) (yout : Int32) (ykey : (Nat → Int32)) (ytag : (Nat → Int32)) (a1 : Int32) (a2 : Int32) (r0 : Int32) (h : mX6_at F ymany ykey ytag a1 a2 = some r0) : Ct l yX6_at wsX6_at ({ frames := 2, cells := 0, slots := 0, locals := 46 }) D cA [.ref yo, .int a1, .int a2] [(yo, .inr (6, [.int ylength, .ref vytext, .ref vyrules, .int ymany, .ref vylaid, .ref vykey, .ref vytag, .ref vyroomKey, .ref vyroomTag, .int yruns, .ref vyrunAt, .ref vyrunMany, .int ywaitAt, .int ywaitMany, .ref vycost, .ref vyhadKey, .ref vyhadTag, .ref vyhadAt, .ref vyhadMany, .ref vyhadCost, .int ya0, .int ya1, .int yb0, .int yb1, .int yforward, .int yout])), (vykey, .inl (cA, 96, .inl ykey)), (vytag, .inl (cA, 96, .inl ytag))] [(yo, .inr (6, [.int ylength, .ref vytext, .ref vyrules, .int ymany, .ref vylaid, .ref vykey, .ref vytag, .ref vyroomKey, .ref vyroomTag, .int yruns, .ref vyrunAt, .ref vyrunMany, .int ywaitAt, .int ywaitMany, .ref vycost, .ref vyhadKey, .ref vyhadTag, .ref vyhadAt, .ref vyhadMany, .ref vyhadCost, .int ya0, .int ya1, .int yb0, .int yb1, .int yforward, .int yout])), (vykey, .inl (cA, 96, .inl ykey)), (vytag, .inl (cA, 96, .inl ytag))] (some (.int r0)) := by
  refine Ct.of (cc := cX6_at) (maxL := 3) (ret := (some .int)) (by decide) rfl (Nat.le_of_ble_eq_true rfl) ?_
  intro p e s m below meth c A ls hcx hG hst hA hP hD hl
  obtain ⟨hx, hb, hml, hown, hts, hr, hlocks⟩ := id hcx
  have hown : s.vm.findClass RX6 = some m.cls := hown
  have hS : va_S A s.heap s.heap [] := va_S.rf
  have hl : lv_has ls 3 [(0, .ref yo), (1, .int a1), (2, .int a2)] := hl
  have hinX6 : ∀ w ∈ u_ws RX6 TX6 26, w ∈ wsX6_at := by decide +kernel
  have fl22 := hts (.fieldLink RX6 22 "RunSorterModel" "tag" "[I") (by decide +kernel)
  have fl19 := hts (.fieldLink RX6 19 "RunSorterModel" "key" "[I") (by decide +kernel)
  unfold mX6_at at h
  refine lv_aload_n hx hb dX6_at_0 rfl (lv_at hl 0 rfl) ?_
  refine lv_iload_n hx hb dX6_at_1 rfl (lv_at hl 1 rfl) ?_
  obtain ⟨r2, hc2, h⟩ := bd1_some h
  refine ct_V (As := [.int a1]) (rest := []) (st1 := [.int r2]) (wf := [(yo, .inr (6, [.int ylength, .ref vytext, .ref vyrules, .int ymany, .ref vylaid, .ref vykey, .ref vytag, .ref vyroomKey, .ref vyroomTag, .int yruns, .ref vyrunAt, .ref vyrunMany, .int ywaitAt, .int ywaitMany, .ref vycost, .ref vyhadKey, .ref vyhadTag, .ref vyhadAt, .ref vyhadMany, .ref vyhadCost, .int ya0, .int ya1, .int yb0, .int yb1, .int yforward, .int yout])), (vykey, .inl (cA, 96, .inl ykey)), (vytag, .inl (cA, 96, .inl ytag))]) (kX6_isPlace l D cA F yo vytext vyrules vylaid vykey vytag vyroomKey vyroomTag vyrunAt vyrunMany vycost vyhadKey vyhadTag vyhadAt vyhadMany vyhadCost  ylength ymany yruns ywaitAt ywaitMany ya0 ya1 yb0 yb1 yforward yout a1 r2 hc2) ⟨hx, hb, hml, hown, hts⟩ (cwV 1 hts gX6_at_X6_isPlace rfl rfl rfl (by decide +kernel) ⟨Nat.le_of_ble_eq_true rfl, Nat.le_of_ble_eq_true rfl⟩) hG hst hP hD hS hA 6 rfl rfl rfl [0] [1, 2] [2, 0, 1] rfl rfl rfl rfl rfl rfl hl.1 rfl rfl (Nat.le_of_ble_eq_true rfl) dX6_at_2 ⟨Nat.zero_le _, Nat.zero_le _⟩ (fun H locs hP hD hS => ?_)
  refine lv_if_eq (tgt := 18) hx hb dX6_at_5 (by decide) (fun c5 => ?_) (fun c5 => ?_)
  · have h := i_t c5 h
    refine lv_iconst (v := (-1 : Int32)) hx hb dX6_at_18 (by decide) ?_
    cases h
    exact rt_i hx hb hr hlocks hP hD hS dX6_at_19
  · have h := i_f c5 h
    refine lv_iload_n hx hb dX6_at_8 rfl (lv_at hl 2 rfl) ?_
    refine lv_i2l hx hb dX6_at_9 rfl ?_
    refine lv_lconst (v := (0 : Int64)) hx hb dX6_at_10 (by decide) ?_
    refine lv_lconst (v := (1 : Int64)) hx hb dX6_at_11 (by decide) ?_
    obtain ⟨r12, hc12, h⟩ := bd1_some h
    refine ct_S (As := [.long a2.toInt64, .long (0 : Int64), .long (1 : Int64)]) (rest := []) (st1 := [.int r12]) (wf := [(yo, .inr (6, [.int ylength, .ref vytext, .ref vyrules, .int ymany, .ref vylaid, .ref vykey, .ref vytag, .ref vyroomKey, .ref vyroomTag, .int yruns, .ref vyrunAt, .ref vyrunMany, .int ywaitAt, .int ywaitMany, .ref vycost, .ref vyhadKey, .ref vyhadTag, .ref vyhadAt, .ref vyhadMany, .ref vyhadCost, .int ya0, .int ya1, .int yb0, .int yb1, .int yforward, .int yout])), (vykey, .inl (cA, 96, .inl ykey)), (vytag, .inl (cA, 96, .inl ytag))]) (kX6_in l D cA F    a2.toInt64 (0 : Int64) (1 : Int64) r12 hc12) ⟨hx, hb, hml, hown, hts⟩ (va_cwS 3 hts gX6_at_X6_in rfl rfl rfl (by decide +kernel) ⟨Nat.le_of_ble_eq_true rfl, Nat.le_of_ble_eq_true rfl⟩) hG hst hP hD hS hA [] [0, 1, 2] [0, 1, 2] rfl rfl rfl rfl rfl rfl hl.1 rfl rfl (Nat.le_of_ble_eq_true rfl) dX6_at_12 ⟨Nat.zero_le _, Nat.zero_le _⟩ (fun H locs hP hD hS => ?_)
    refine lv_if_ne (tgt := 20) hx hb dX6_at_15 (by decide) (fun c15 => ?_) (fun c15 => ?_)
    · have h := i_f c15 h
      refine lv_iload_n hx hb dX6_at_20 rfl (lv_at hl 2 rfl) ?_
      refine lv_if_ne (tgt := 33) hx hb dX6_at_21 (by decide) (fun c21 => ?_) (fun c21 => ?_)
      · have h := i_f c21 h
        refine lv_aload_n hx hb dX6_at_33 rfl (lv_at hl 0 rfl) ?_
        refine va_get (D := D) (cl := vwCl) (ci := 6) (v := .ref vytag) (C := RX6) (T := TX6) (N := 26) hx hb hts hinX6 hown hG.1 hP 0 rfl rfl 6 (by decide) fl22 (fun _ h9 => h9) rfl dX6_at_34 ?_
        refine lv_iload_n hx hb dX6_at_37 rfl (lv_at hl 1 rfl) ?_
        obtain ⟨hi38, h⟩ := ck_some h
        refine va_iald hx hb hG.1 hP 2 0 rfl rfl hi38 dX6_at_38 ?_
        cases h
        exact rt_i hx hb hr hlocks hP hD hS dX6_at_39
      · have h := i_t c21 h
        refine lv_aload_n hx hb dX6_at_24 rfl (lv_at hl 0 rfl) ?_
        refine va_get (D := D) (cl := vwCl) (ci := 6) (v := .ref vykey) (C := RX6) (T := TX6) (N := 26) hx hb hts hinX6 hown hG.1 hP 0 rfl rfl 5 (by decide) fl19 (fun _ h9 => h9) rfl dX6_at_25 ?_
        refine lv_iload_n hx hb dX6_at_28 rfl (lv_at hl 1 rfl) ?_
        obtain ⟨hi29, h⟩ := ck_some h
        refine va_iald hx hb hG.1 hP 1 0 rfl rfl hi29 dX6_at_29 ?_
        refine lv_goto (tgt := 39) hx hb dX6_at_30 (by decide) ?_
        cases h
        exact rt_i hx hb hr hlocks hP hD hS dX6_at_39
    · have h := i_t c15 h
      refine lv_iconst (v := (-1 : Int32)) hx hb dX6_at_18 (by decide) ?_
      cases h
      exact rt_i hx hb hr hlocks hP hD hS dX6_at_19
set_option maxHeartbeats 4000000 in
set_option maxRecDepth 100000 in
theorem kX6_place (l : Launch) (D : va_G) (cA : ClassId) (F : Nat) (yo : Nat) (vytext : Nat) (vyrules : Nat) (vylaid : Nat) (vykey : Nat) (vytag : Nat) (vyroomKey : Nat) (vyroomTag : Nat) (vyrunAt : Nat) (vyrunMany : Nat) (vycost : Nat) (vyhadKey : Nat) (vyhadTag : Nat) (vyhadAt : Nat) (vyhadMany : Nat) (vyhadCost : Nat) (ylength : Int32) (ymany : Int32) (yruns : Int32) (ywaitAt : Int32) (ywaitMany : Int32) (ya0 : Int32) (ya1 : Int32) (yb0 : Int32) (yb1 : Int32) (yforward : Int32) (yout : Int32) (ytag : (Nat → Int32)) (a1 : Int32) (r0 : Int32) (h : mX6_place F ymany ytag a1 = some r0) : Ct l yX6_place wsX6_place ({ frames := 2, cells := 0, slots := 0, locals := 46 }) D cA [.ref yo, .int a1] [(yo, .inr (6, [.int ylength, .ref vytext, .ref vyrules, .int ymany, .ref vylaid, .ref vykey, .ref vytag, .ref vyroomKey, .ref vyroomTag, .int yruns, .ref vyrunAt, .ref vyrunMany, .int ywaitAt, .int ywaitMany, .ref vycost, .ref vyhadKey, .ref vyhadTag, .ref vyhadAt, .ref vyhadMany, .ref vyhadCost, .int ya0, .int ya1, .int yb0, .int yb1, .int yforward, .int yout])), (vytag, .inl (cA, 96, .inl ytag))] [(yo, .inr (6, [.int ylength, .ref vytext, .ref vyrules, .int ymany, .ref vylaid, .ref vykey, .ref vytag, .ref vyroomKey, .ref vyroomTag, .int yruns, .ref vyrunAt, .ref vyrunMany, .int ywaitAt, .int ywaitMany, .ref vycost, .ref vyhadKey, .ref vyhadTag, .ref vyhadAt, .ref vyhadMany, .ref vyhadCost, .int ya0, .int ya1, .int yb0, .int yb1, .int yforward, .int yout])), (vytag, .inl (cA, 96, .inl ytag))] (some (.int r0)) := by
  refine Ct.of (cc := cX6_place) (maxL := 3) (ret := (some .int)) (by decide) rfl (Nat.le_of_ble_eq_true rfl) ?_
  intro p e s m below meth c A ls hcx hG hst hA hP hD hl
  obtain ⟨hx, hb, hml, hown, hts, hr, hlocks⟩ := id hcx
  have hown : s.vm.findClass RX6 = some m.cls := hown
  have hS : va_S A s.heap s.heap [] := va_S.rf
  have hl : lv_has ls 3 [(0, .ref yo), (1, .int a1)] := hl
  have hinX6 : ∀ w ∈ u_ws RX6 TX6 26, w ∈ wsX6_place := by decide +kernel
  have fl22 := hts (.fieldLink RX6 22 "RunSorterModel" "tag" "[I") (by decide +kernel)
  have hmX6_place_12 : ∀ (n12 : Nat) (x2 : Int32) (H : Heap) (locs : List Loc) (ls : Array Slot), mX6_place_12 F ytag a1 n12 x2 = some r0 → va_P D vwCl [(yo, .inr (6, [.int ylength, .ref vytext, .ref vyrules, .int ymany, .ref vylaid, .ref vykey, .ref vytag, .ref vyroomKey, .ref vyroomTag, .int yruns, .ref vyrunAt, .ref vyrunMany, .int ywaitAt, .int ywaitMany, .ref vycost, .ref vyhadKey, .ref vyhadTag, .ref vyhadAt, .ref vyhadMany, .ref vyhadCost, .int ya0, .int ya1, .int yb0, .int yb1, .int yforward, .int yout])), (vytag, .inl (cA, 96, .inl ytag))] H → va_D A [(yo, .inr (6, [.int ylength, .ref vytext, .ref vyrules, .int ymany, .ref vylaid, .ref vykey, .ref vytag, .ref vyroomKey, .ref vyroomTag, .int yruns, .ref vyrunAt, .ref vyrunMany, .int ywaitAt, .int ywaitMany, .ref vycost, .ref vyhadKey, .ref vyhadTag, .ref vyhadAt, .ref vyhadMany, .ref vyhadCost, .int ya0, .int ya1, .int yb0, .int yb1, .int yforward, .int yout])), (vytag, .inl (cA, 96, .inl ytag))] → va_S A s.heap H locs → lv_has ls 3 [(0, .ref yo), (1, .int a1), (2, .int x2)] → W p l e ({ frames := 2, cells := 0, slots := 0, locals := 46 }) s m ([.ref yo, .int a1] : List Value).toArray below meth c H locs 0 0 (MQ below (Qw D A [(yo, .inr (6, [.int ylength, .ref vytext, .ref vyrules, .int ymany, .ref vylaid, .ref vykey, .ref vytag, .ref vyroomKey, .ref vyroomTag, .int yruns, .ref vyrunAt, .ref vyrunMany, .int ywaitAt, .int ywaitMany, .ref vycost, .ref vyhadKey, .ref vyhadTag, .ref vyhadAt, .ref vyhadMany, .ref vyhadCost, .int ya0, .int ya1, .int yb0, .int yb1, .int yforward, .int yout])), (vytag, .inl (cA, 96, .inl ytag))] (some (.int r0))) ([.ref yo, .int a1] : List Value).toArray s 0 0 A) (F0 m 12 ls []) := by
    intro n12
    induction n12 with
    | zero => intro x2 H locs ls h; exact (no_some h).elim
    | succ n12 ih12 =>
      intro x2 H locs ls h hP hD hS hl
      rw [mX6_place_12] at h
      refine lv_aload_n hx hb dX6_place_12 rfl (lv_at hl 0 rfl) ?_
      refine va_get (D := D) (cl := vwCl) (ci := 6) (v := .ref vytag) (C := RX6) (T := TX6) (N := 26) hx hb hts hinX6 hown hG.1 hP 0 rfl rfl 6 (by decide) fl22 (fun _ h9 => h9) rfl dX6_place_13 ?_
      refine lv_iload_n hx hb dX6_place_16 rfl (lv_at hl 2 rfl) ?_
      obtain ⟨hi17, h⟩ := ck_some h
      refine va_iald hx hb hG.1 hP 1 0 rfl rfl hi17 dX6_place_17 ?_
      refine lv_iload_n hx hb dX6_place_18 rfl (lv_at hl 1 rfl) ?_
      refine lv_icmp_eq (tgt := 28) hx hb dX6_place_19 (by decide) (fun c19 => ?_) (fun c19 => ?_)
      · have h := i_t c19 h
        refine lv_iload_n hx hb dX6_place_28 rfl (lv_at hl 2 rfl) ?_
        cases h
        exact rt_i hx hb hr hlocks hP hD hS dX6_place_29
      · have h := i_f c19 h
        refine lv_iinc (v := x2 + (1 : Int32)) (lv' := [(2, .int (x2 + (1 : Int32))), (0, .ref yo), (1, .int a1)]) hx hb dX6_place_22 hl (k := 2) rfl (congrArg (fun z => x2 + z) (by decide)) (by decide) rfl (fun ls hl => ?_)
        refine lv_goto (tgt := 12) hx hb dX6_place_25 (by decide) ?_
        exact ih12 (x2 + (1 : Int32)) _ _ _ h hP hD hS (lv_sub hl [1, 2, 0] rfl)
  unfold mX6_place at h
  refine lv_aload_n hx hb dX6_place_0 rfl (lv_at hl 0 rfl) ?_
  refine lv_iload_n hx hb dX6_place_1 rfl (lv_at hl 1 rfl) ?_
  obtain ⟨r2, hc2, h⟩ := bd1_some h
  refine ct_V (As := [.int a1]) (rest := []) (st1 := [.int r2]) (wf := [(yo, .inr (6, [.int ylength, .ref vytext, .ref vyrules, .int ymany, .ref vylaid, .ref vykey, .ref vytag, .ref vyroomKey, .ref vyroomTag, .int yruns, .ref vyrunAt, .ref vyrunMany, .int ywaitAt, .int ywaitMany, .ref vycost, .ref vyhadKey, .ref vyhadTag, .ref vyhadAt, .ref vyhadMany, .ref vyhadCost, .int ya0, .int ya1, .int yb0, .int yb1, .int yforward, .int yout])), (vytag, .inl (cA, 96, .inl ytag))]) (kX6_isPlace l D cA F yo vytext vyrules vylaid vykey vytag vyroomKey vyroomTag vyrunAt vyrunMany vycost vyhadKey vyhadTag vyhadAt vyhadMany vyhadCost  ylength ymany yruns ywaitAt ywaitMany ya0 ya1 yb0 yb1 yforward yout a1 r2 hc2) ⟨hx, hb, hml, hown, hts⟩ (cwV 1 hts gX6_place_X6_isPlace rfl rfl rfl (by decide +kernel) ⟨Nat.le_of_ble_eq_true rfl, Nat.le_of_ble_eq_true rfl⟩) hG hst hP hD hS hA 6 rfl rfl rfl [0] [1] [1, 0] rfl rfl rfl rfl rfl rfl hl.1 rfl rfl (Nat.le_of_ble_eq_true rfl) dX6_place_2 ⟨Nat.zero_le _, Nat.zero_le _⟩ (fun H locs hP hD hS => ?_)
  refine lv_if_ne (tgt := 10) hx hb dX6_place_5 (by decide) (fun c5 => ?_) (fun c5 => ?_)
  · have h := i_f c5 h
    refine lv_iconst (v := (0 : Int32)) hx hb dX6_place_10 (by decide) ?_
    refine lv_istore_n (lv' := [(2, .int (0 : Int32)), (0, .ref yo), (1, .int a1)]) hx hb dX6_place_11 rfl hl (by decide) rfl (fun ls hl => ?_)
    exact hmX6_place_12 F (0 : Int32) _ _ _ h hP hD hS (lv_sub hl [1, 2, 0] rfl)
  · have h := i_t c5 h
    refine lv_iconst (v := (-1 : Int32)) hx hb dX6_place_8 (by decide) ?_
    cases h
    exact rt_i hx hb hr hlocks hP hD hS dX6_place_9
set_option maxHeartbeats 4000000 in
set_option maxRecDepth 100000 in
theorem kX6_run (l : Launch) (D : va_G) (cA : ClassId) (F : Nat) (yo : Nat) (vytext : Nat) (vyrules : Nat) (vylaid : Nat) (vykey : Nat) (vytag : Nat) (vyroomKey : Nat) (vyroomTag : Nat) (vyrunAt : Nat) (vyrunMany : Nat) (vycost : Nat) (vyhadKey : Nat) (vyhadTag : Nat) (vyhadAt : Nat) (vyhadMany : Nat) (vyhadCost : Nat) (ylength : Int32) (ymany : Int32) (yruns : Int32) (ywaitAt : Int32) (ywaitMany : Int32) (ya0 : Int32) (ya1 : Int32) (yb0 : Int32) (yb1 : Int32) (yforward : Int32) (yout : Int32) (yrunAt : (Nat → Int32)) (yrunMany : (Nat → Int32)) (a1 : Int32) (a2 : Int32) (r0 : Int32) (h : mX6_run F ymany yruns ywaitMany yrunAt yrunMany a1 a2 = some r0) : Ct l yX6_run wsX6_run ({ frames := 1, cells := 0, slots := 0, locals := 25 }) D cA [.ref yo, .int a1, .int a2] [(yo, .inr (6, [.int ylength, .ref vytext, .ref vyrules, .int ymany, .ref vylaid, .ref vykey, .ref vytag, .ref vyroomKey, .ref vyroomTag, .int yruns, .ref vyrunAt, .ref vyrunMany, .int ywaitAt, .int ywaitMany, .ref vycost, .ref vyhadKey, .ref vyhadTag, .ref vyhadAt, .ref vyhadMany, .ref vyhadCost, .int ya0, .int ya1, .int yb0, .int yb1, .int yforward, .int yout])), (vyrunAt, .inl (cA, 96, .inl yrunAt)), (vyrunMany, .inl (cA, 96, .inl yrunMany))] [(yo, .inr (6, [.int ylength, .ref vytext, .ref vyrules, .int ymany, .ref vylaid, .ref vykey, .ref vytag, .ref vyroomKey, .ref vyroomTag, .int yruns, .ref vyrunAt, .ref vyrunMany, .int ywaitAt, .int ywaitMany, .ref vycost, .ref vyhadKey, .ref vyhadTag, .ref vyhadAt, .ref vyhadMany, .ref vyhadCost, .int ya0, .int ya1, .int yb0, .int yb1, .int yforward, .int yout])), (vyrunAt, .inl (cA, 96, .inl yrunAt)), (vyrunMany, .inl (cA, 96, .inl yrunMany))] (some (.int r0)) := by
  refine Ct.of (cc := cX6_run) (maxL := 4) (ret := (some .int)) (by decide) rfl (Nat.le_of_ble_eq_true rfl) ?_
  intro p e s m below meth c A ls hcx hG hst hA hP hD hl
  obtain ⟨hx, hb, hml, hown, hts, hr, hlocks⟩ := id hcx
  have hown : s.vm.findClass RX6 = some m.cls := hown
  have hS : va_S A s.heap s.heap [] := va_S.rf
  have hl : lv_has ls 4 [(0, .ref yo), (1, .int a1), (2, .int a2)] := hl
  have hinX6 : ∀ w ∈ u_ws RX6 TX6 26, w ∈ wsX6_run := by decide +kernel
  have fl81 := hts (.fieldLink RX6 81 "RunSorterModel" "runs" "I") (by decide +kernel)
  have fl87 := hts (.fieldLink RX6 87 "RunSorterModel" "waitMany" "I") (by decide +kernel)
  have fl34 := hts (.fieldLink RX6 34 "RunSorterModel" "runMany" "[I") (by decide +kernel)
  have fl31 := hts (.fieldLink RX6 31 "RunSorterModel" "runAt" "[I") (by decide +kernel)
  have hmX6_run_95 : ∀ (s0 : Int32) (H : Heap) (locs : List Loc) (ls : Array Slot), mX6_run_95 F ymany yrunAt yrunMany a1 s0 = some r0 → va_P D vwCl [(yo, .inr (6, [.int ylength, .ref vytext, .ref vyrules, .int ymany, .ref vylaid, .ref vykey, .ref vytag, .ref vyroomKey, .ref vyroomTag, .int yruns, .ref vyrunAt, .ref vyrunMany, .int ywaitAt, .int ywaitMany, .ref vycost, .ref vyhadKey, .ref vyhadTag, .ref vyhadAt, .ref vyhadMany, .ref vyhadCost, .int ya0, .int ya1, .int yb0, .int yb1, .int yforward, .int yout])), (vyrunAt, .inl (cA, 96, .inl yrunAt)), (vyrunMany, .inl (cA, 96, .inl yrunMany))] H → va_D A [(yo, .inr (6, [.int ylength, .ref vytext, .ref vyrules, .int ymany, .ref vylaid, .ref vykey, .ref vytag, .ref vyroomKey, .ref vyroomTag, .int yruns, .ref vyrunAt, .ref vyrunMany, .int ywaitAt, .int ywaitMany, .ref vycost, .ref vyhadKey, .ref vyhadTag, .ref vyhadAt, .ref vyhadMany, .ref vyhadCost, .int ya0, .int ya1, .int yb0, .int yb1, .int yforward, .int yout])), (vyrunAt, .inl (cA, 96, .inl yrunAt)), (vyrunMany, .inl (cA, 96, .inl yrunMany))] → va_S A s.heap H locs → lv_has ls 4 [(0, .ref yo), (1, .int a1)] → W p l e ({ frames := 1, cells := 0, slots := 0, locals := 25 }) s m ([.ref yo, .int a1, .int a2] : List Value).toArray below meth c H locs 0 0 (MQ below (Qw D A [(yo, .inr (6, [.int ylength, .ref vytext, .ref vyrules, .int ymany, .ref vylaid, .ref vykey, .ref vytag, .ref vyroomKey, .ref vyroomTag, .int yruns, .ref vyrunAt, .ref vyrunMany, .int ywaitAt, .int ywaitMany, .ref vycost, .ref vyhadKey, .ref vyhadTag, .ref vyhadAt, .ref vyhadMany, .ref vyhadCost, .int ya0, .int ya1, .int yb0, .int yb1, .int yforward, .int yout])), (vyrunAt, .inl (cA, 96, .inl yrunAt)), (vyrunMany, .inl (cA, 96, .inl yrunMany))] (some (.int r0))) ([.ref yo, .int a1, .int a2] : List Value).toArray s 0 0 A) (F0 m 95 ls [.int s0]) := by
    intro s0 H locs ls h hP hD hS hl
    unfold mX6_run_95 at h
    refine lv_istore_n (lv' := [(3, .int s0), (0, .ref yo), (1, .int a1)]) hx hb dX6_run_95 rfl hl (by decide) rfl (fun ls hl => ?_)
    refine lv_iload_n hx hb dX6_run_96 rfl (lv_at hl 0 rfl) ?_
    refine lv_if_ne (tgt := 105) hx hb dX6_run_97 (by decide) (fun c97 => ?_) (fun c97 => ?_)
    · have h := i_f c97 h
      refine lv_aload_n hx hb dX6_run_105 rfl (lv_at hl 1 rfl) ?_
      refine lv_aload_n hx hb dX6_run_106 rfl (lv_at hl 1 rfl) ?_
      refine va_get (D := D) (cl := vwCl) (ci := 6) (v := .ref vyrunAt) (C := RX6) (T := TX6) (N := 26) hx hb hts hinX6 hown hG.1 hP 0 rfl rfl 10 (by decide) fl31 (fun _ h9 => h9) rfl dX6_run_107 ?_
      refine lv_iload_n hx hb dX6_run_110 rfl (lv_at hl 2 rfl) ?_
      obtain ⟨hi111, h⟩ := ck_some h
      refine va_iald hx hb hG.1 hP 1 0 rfl rfl hi111 dX6_run_111 ?_
      refine lv_aload_n hx hb dX6_run_112 rfl (lv_at hl 1 rfl) ?_
      refine va_get (D := D) (cl := vwCl) (ci := 6) (v := .ref vyrunMany) (C := RX6) (T := TX6) (N := 26) hx hb hts hinX6 hown hG.1 hP 0 rfl rfl 11 (by decide) fl34 (fun _ h9 => h9) rfl dX6_run_113 ?_
      refine lv_iload_n hx hb dX6_run_116 rfl (lv_at hl 2 rfl) ?_
      obtain ⟨hi117, h⟩ := ck_some h
      refine va_iald hx hb hG.1 hP 2 0 rfl rfl hi117 dX6_run_117 ?_
      refine lv_iload_n hx hb dX6_run_118 rfl (lv_at hl 0 rfl) ?_
      obtain ⟨r119, hc119, h⟩ := bd1_some h
      refine ct_V (As := [.int (yrunAt a1.toNatClampNeg), .int (yrunMany a1.toNatClampNeg), .int s0]) (rest := []) (st1 := [.int r119]) (wf := [(yo, .inr (6, [.int ylength, .ref vytext, .ref vyrules, .int ymany, .ref vylaid, .ref vykey, .ref vytag, .ref vyroomKey, .ref vyroomTag, .int yruns, .ref vyrunAt, .ref vyrunMany, .int ywaitAt, .int ywaitMany, .ref vycost, .ref vyhadKey, .ref vyhadTag, .ref vyhadAt, .ref vyhadMany, .ref vyhadCost, .int ya0, .int ya1, .int yb0, .int yb1, .int yforward, .int yout])), (vyrunAt, .inl (cA, 96, .inl yrunAt)), (vyrunMany, .inl (cA, 96, .inl yrunMany))]) (kX6_power l D cA F yo vytext vyrules vylaid vykey vytag vyroomKey vyroomTag vyrunAt vyrunMany vycost vyhadKey vyhadTag vyhadAt vyhadMany vyhadCost  ylength ymany yruns ywaitAt ywaitMany ya0 ya1 yb0 yb1 yforward yout (yrunAt a1.toNatClampNeg) (yrunMany a1.toNatClampNeg) s0 r119 hc119) ⟨hx, hb, hml, hown, hts⟩ (cwV 3 hts gX6_run_X6_power rfl rfl rfl (by decide +kernel) ⟨Nat.le_of_ble_eq_true rfl, Nat.le_of_ble_eq_true rfl⟩) hG hst hP hD hS hA 6 rfl rfl rfl [0] [1, 2] [2, 0, 1] rfl rfl rfl rfl rfl rfl hl.1 rfl rfl (Nat.le_of_ble_eq_true rfl) dX6_run_119 ⟨Nat.zero_le _, Nat.zero_le _⟩ (fun H locs hP hD hS => ?_)
      cases h
      exact rt_i hx hb hr hlocks hP hD hS dX6_run_122
    · have h := i_t c97 h
      refine lv_bipush (v := (-4 : Int32)) hx hb dX6_run_100 (by decide) ?_
      refine lv_goto (tgt := 122) hx hb dX6_run_102 (by decide) ?_
      cases h
      exact rt_i hx hb hr hlocks hP hD hS dX6_run_122
  have hmX6_run_31 : ∀ (H : Heap) (locs : List Loc) (ls : Array Slot), mX6_run_31 F yruns a1 = some r0 → va_P D vwCl [(yo, .inr (6, [.int ylength, .ref vytext, .ref vyrules, .int ymany, .ref vylaid, .ref vykey, .ref vytag, .ref vyroomKey, .ref vyroomTag, .int yruns, .ref vyrunAt, .ref vyrunMany, .int ywaitAt, .int ywaitMany, .ref vycost, .ref vyhadKey, .ref vyhadTag, .ref vyhadAt, .ref vyhadMany, .ref vyhadCost, .int ya0, .int ya1, .int yb0, .int yb1, .int yforward, .int yout])), (vyrunAt, .inl (cA, 96, .inl yrunAt)), (vyrunMany, .inl (cA, 96, .inl yrunMany))] H → va_D A [(yo, .inr (6, [.int ylength, .ref vytext, .ref vyrules, .int ymany, .ref vylaid, .ref vykey, .ref vytag, .ref vyroomKey, .ref vyroomTag, .int yruns, .ref vyrunAt, .ref vyrunMany, .int ywaitAt, .int ywaitMany, .ref vycost, .ref vyhadKey, .ref vyhadTag, .ref vyhadAt, .ref vyhadMany, .ref vyhadCost, .int ya0, .int ya1, .int yb0, .int yb1, .int yforward, .int yout])), (vyrunAt, .inl (cA, 96, .inl yrunAt)), (vyrunMany, .inl (cA, 96, .inl yrunMany))] → va_S A s.heap H locs → lv_has ls 4 [(0, .ref yo), (1, .int a1)] → W p l e ({ frames := 1, cells := 0, slots := 0, locals := 25 }) s m ([.ref yo, .int a1, .int a2] : List Value).toArray below meth c H locs 0 0 (MQ below (Qw D A [(yo, .inr (6, [.int ylength, .ref vytext, .ref vyrules, .int ymany, .ref vylaid, .ref vykey, .ref vytag, .ref vyroomKey, .ref vyroomTag, .int yruns, .ref vyrunAt, .ref vyrunMany, .int ywaitAt, .int ywaitMany, .ref vycost, .ref vyhadKey, .ref vyhadTag, .ref vyhadAt, .ref vyhadMany, .ref vyhadCost, .int ya0, .int ya1, .int yb0, .int yb1, .int yforward, .int yout])), (vyrunAt, .inl (cA, 96, .inl yrunAt)), (vyrunMany, .inl (cA, 96, .inl yrunMany))] (some (.int r0))) ([.ref yo, .int a1, .int a2] : List Value).toArray s 0 0 A) (F0 m 31 ls []) := by
    intro H locs ls h hP hD hS hl
    unfold mX6_run_31 at h
    refine lv_iload_n hx hb dX6_run_31 rfl (lv_at hl 1 rfl) ?_
    refine lv_if_ge (tgt := 42) hx hb dX6_run_32 (by decide) (fun c32 => ?_) (fun c32 => ?_)
    · have h := i_t c32 h
      refine lv_bipush (v := (-4 : Int32)) hx hb dX6_run_42 (by decide) ?_
      cases h
      exact rt_i hx hb hr hlocks hP hD hS dX6_run_44
    · have h := i_f c32 h
      refine lv_aload_n hx hb dX6_run_35 rfl (lv_at hl 0 rfl) ?_
      refine va_get (D := D) (cl := vwCl) (ci := 6) (v := .int yruns) (C := RX6) (T := TX6) (N := 26) hx hb hts hinX6 hown hG.1 hP 0 rfl rfl 9 (by decide) fl81 (fun _ h9 => h9) rfl dX6_run_36 ?_
      refine lv_goto (tgt := 44) hx hb dX6_run_39 (by decide) ?_
      cases h
      exact rt_i hx hb hr hlocks hP hD hS dX6_run_44
  unfold mX6_run at h
  refine lv_iload_n hx hb dX6_run_0 rfl (lv_at hl 1 rfl) ?_
  refine lv_iconst (v := (-1 : Int32)) hx hb dX6_run_1 (by decide) ?_
  refine lv_icmp_lt (tgt := 17) hx hb dX6_run_2 (by decide) (fun c2 => ?_) (fun c2 => ?_)
  · have h := i_t c2 h
    refine lv_iconst (v := (-1 : Int32)) hx hb dX6_run_17 (by decide) ?_
    cases h
    exact rt_i hx hb hr hlocks hP hD hS dX6_run_18
  · have h := i_f c2 h
    refine lv_iload_n hx hb dX6_run_5 rfl (lv_at hl 2 rfl) ?_
    refine lv_i2l hx hb dX6_run_6 rfl ?_
    refine lv_lconst (v := (0 : Int64)) hx hb dX6_run_7 (by decide) ?_
    refine lv_ldc2 (v := (2 : Int64)) hx hb hown (hts (.constantLong RX6 92 (2)) (by decide +kernel)) dX6_run_8 ?_
    obtain ⟨r11, hc11, h⟩ := bd1_some h
    refine ct_S (As := [.long a2.toInt64, .long (0 : Int64), .long (2 : Int64)]) (rest := []) (st1 := [.int r11]) (wf := [(yo, .inr (6, [.int ylength, .ref vytext, .ref vyrules, .int ymany, .ref vylaid, .ref vykey, .ref vytag, .ref vyroomKey, .ref vyroomTag, .int yruns, .ref vyrunAt, .ref vyrunMany, .int ywaitAt, .int ywaitMany, .ref vycost, .ref vyhadKey, .ref vyhadTag, .ref vyhadAt, .ref vyhadMany, .ref vyhadCost, .int ya0, .int ya1, .int yb0, .int yb1, .int yforward, .int yout])), (vyrunAt, .inl (cA, 96, .inl yrunAt)), (vyrunMany, .inl (cA, 96, .inl yrunMany))]) (kX6_in l D cA F    a2.toInt64 (0 : Int64) (2 : Int64) r11 hc11) ⟨hx, hb, hml, hown, hts⟩ (va_cwS 3 hts gX6_run_X6_in rfl rfl rfl (by decide +kernel) ⟨Nat.le_of_ble_eq_true rfl, Nat.le_of_ble_eq_true rfl⟩) hG hst hP hD hS hA [] [0, 1, 2] [0, 1, 2] rfl rfl rfl rfl rfl rfl hl.1 rfl rfl (Nat.le_of_ble_eq_true rfl) dX6_run_11 ⟨Nat.zero_le _, Nat.zero_le _⟩ (fun H locs hP hD hS => ?_)
    refine lv_if_ne (tgt := 19) hx hb dX6_run_14 (by decide) (fun c14 => ?_) (fun c14 => ?_)
    · have h := i_f c14 h
      refine lv_iload_n hx hb dX6_run_19 rfl (lv_at hl 1 rfl) ?_
      refine lv_if_lt (tgt := 31) hx hb dX6_run_20 (by decide) (fun c20 => ?_) (fun c20 => ?_)
      · have h := i_t c20 h
        exact hmX6_run_31  _ _ _ h hP hD hS (lv_sub hl [0, 1] rfl)
      · have h := i_f c20 h
        refine lv_iload_n hx hb dX6_run_23 rfl (lv_at hl 1 rfl) ?_
        refine lv_aload_n hx hb dX6_run_24 rfl (lv_at hl 0 rfl) ?_
        refine va_get (D := D) (cl := vwCl) (ci := 6) (v := .int yruns) (C := RX6) (T := TX6) (N := 26) hx hb hts hinX6 hown hG.1 hP 0 rfl rfl 9 (by decide) fl81 (fun _ h9 => h9) rfl dX6_run_25 ?_
        refine lv_icmp_lt (tgt := 45) hx hb dX6_run_28 (by decide) (fun c28 => ?_) (fun c28 => ?_)
        · have h := i_t c28 h
          refine lv_iload_n hx hb dX6_run_45 rfl (lv_at hl 2 rfl) ?_
          refine lv_iconst (v := (2 : Int32)) hx hb dX6_run_46 (by decide) ?_
          refine lv_icmp_ge (tgt := 70) hx hb dX6_run_47 (by decide) (fun c47 => ?_) (fun c47 => ?_)
          · have h := i_t c47 h
            refine lv_iload_n hx hb dX6_run_70 rfl (lv_at hl 1 rfl) ?_
            refine lv_iconst (v := (1 : Int32)) hx hb dX6_run_71 (by decide) ?_
            refine lv_iadd hx hb dX6_run_72 ?_
            refine lv_aload_n hx hb dX6_run_73 rfl (lv_at hl 0 rfl) ?_
            refine va_get (D := D) (cl := vwCl) (ci := 6) (v := .int yruns) (C := RX6) (T := TX6) (N := 26) hx hb hts hinX6 hown hG.1 hP 0 rfl rfl 9 (by decide) fl81 (fun _ h9 => h9) rfl dX6_run_74 ?_
            refine lv_icmp_ge (tgt := 91) hx hb dX6_run_77 (by decide) (fun c77 => ?_) (fun c77 => ?_)
            · have h := i_t c77 h
              refine lv_aload_n hx hb dX6_run_91 rfl (lv_at hl 0 rfl) ?_
              refine va_get (D := D) (cl := vwCl) (ci := 6) (v := .int ywaitMany) (C := RX6) (T := TX6) (N := 26) hx hb hts hinX6 hown hG.1 hP 0 rfl rfl 13 (by decide) fl87 (fun _ h9 => h9) rfl dX6_run_92 ?_
              exact hmX6_run_95 ywaitMany _ _ _ h hP hD hS (lv_sub hl [0, 1] rfl)
            · have h := i_f c77 h
              refine lv_aload_n hx hb dX6_run_80 rfl (lv_at hl 0 rfl) ?_
              refine va_get (D := D) (cl := vwCl) (ci := 6) (v := .ref vyrunMany) (C := RX6) (T := TX6) (N := 26) hx hb hts hinX6 hown hG.1 hP 0 rfl rfl 11 (by decide) fl34 (fun _ h9 => h9) rfl dX6_run_81 ?_
              refine lv_iload_n hx hb dX6_run_84 rfl (lv_at hl 1 rfl) ?_
              refine lv_iconst (v := (1 : Int32)) hx hb dX6_run_85 (by decide) ?_
              refine lv_iadd hx hb dX6_run_86 ?_
              obtain ⟨hi87, h⟩ := ck_some h
              refine va_iald hx hb hG.1 hP 2 0 rfl rfl hi87 dX6_run_87 ?_
              refine lv_goto (tgt := 95) hx hb dX6_run_88 (by decide) ?_
              exact hmX6_run_95 (yrunMany (a1 + (1 : Int32)).toNatClampNeg) _ _ _ h hP hD hS (lv_sub hl [0, 1] rfl)
          · have h := i_f c47 h
            refine lv_iload_n hx hb dX6_run_50 rfl (lv_at hl 2 rfl) ?_
            refine lv_if_ne (tgt := 63) hx hb dX6_run_51 (by decide) (fun c51 => ?_) (fun c51 => ?_)
            · have h := i_f c51 h
              refine lv_aload_n hx hb dX6_run_63 rfl (lv_at hl 0 rfl) ?_
              refine va_get (D := D) (cl := vwCl) (ci := 6) (v := .ref vyrunMany) (C := RX6) (T := TX6) (N := 26) hx hb hts hinX6 hown hG.1 hP 0 rfl rfl 11 (by decide) fl34 (fun _ h9 => h9) rfl dX6_run_64 ?_
              refine lv_iload_n hx hb dX6_run_67 rfl (lv_at hl 1 rfl) ?_
              obtain ⟨hi68, h⟩ := ck_some h
              refine va_iald hx hb hG.1 hP 2 0 rfl rfl hi68 dX6_run_68 ?_
              cases h
              exact rt_i hx hb hr hlocks hP hD hS dX6_run_69
            · have h := i_t c51 h
              refine lv_aload_n hx hb dX6_run_54 rfl (lv_at hl 0 rfl) ?_
              refine va_get (D := D) (cl := vwCl) (ci := 6) (v := .ref vyrunAt) (C := RX6) (T := TX6) (N := 26) hx hb hts hinX6 hown hG.1 hP 0 rfl rfl 10 (by decide) fl31 (fun _ h9 => h9) rfl dX6_run_55 ?_
              refine lv_iload_n hx hb dX6_run_58 rfl (lv_at hl 1 rfl) ?_
              obtain ⟨hi59, h⟩ := ck_some h
              refine va_iald hx hb hG.1 hP 1 0 rfl rfl hi59 dX6_run_59 ?_
              refine lv_goto (tgt := 69) hx hb dX6_run_60 (by decide) ?_
              cases h
              exact rt_i hx hb hr hlocks hP hD hS dX6_run_69
        · have h := i_f c28 h
          exact hmX6_run_31  _ _ _ h hP hD hS (lv_sub hl [0, 1] rfl)
    · have h := i_t c14 h
      refine lv_iconst (v := (-1 : Int32)) hx hb dX6_run_17 (by decide) ?_
      cases h
      exact rt_i hx hb hr hlocks hP hD hS dX6_run_18
set_option maxHeartbeats 4000000 in
set_option maxRecDepth 100000 in
theorem kX6_waiting (l : Launch) (D : va_G) (cA : ClassId) (F : Nat) (yo : Nat) (vytext : Nat) (vyrules : Nat) (vylaid : Nat) (vykey : Nat) (vytag : Nat) (vyroomKey : Nat) (vyroomTag : Nat) (vyrunAt : Nat) (vyrunMany : Nat) (vycost : Nat) (vyhadKey : Nat) (vyhadTag : Nat) (vyhadAt : Nat) (vyhadMany : Nat) (vyhadCost : Nat) (ylength : Int32) (ymany : Int32) (yruns : Int32) (ywaitAt : Int32) (ywaitMany : Int32) (ya0 : Int32) (ya1 : Int32) (yb0 : Int32) (yb1 : Int32) (yforward : Int32) (yout : Int32) (r0 : Int32) (h : mX6_waiting F ywaitMany = some r0) : Ct l yX6_waiting wsX6_waiting ({ frames := 0, cells := 0, slots := 0, locals := 0 }) D cA [.ref yo] [(yo, .inr (6, [.int ylength, .ref vytext, .ref vyrules, .int ymany, .ref vylaid, .ref vykey, .ref vytag, .ref vyroomKey, .ref vyroomTag, .int yruns, .ref vyrunAt, .ref vyrunMany, .int ywaitAt, .int ywaitMany, .ref vycost, .ref vyhadKey, .ref vyhadTag, .ref vyhadAt, .ref vyhadMany, .ref vyhadCost, .int ya0, .int ya1, .int yb0, .int yb1, .int yforward, .int yout]))] [(yo, .inr (6, [.int ylength, .ref vytext, .ref vyrules, .int ymany, .ref vylaid, .ref vykey, .ref vytag, .ref vyroomKey, .ref vyroomTag, .int yruns, .ref vyrunAt, .ref vyrunMany, .int ywaitAt, .int ywaitMany, .ref vycost, .ref vyhadKey, .ref vyhadTag, .ref vyhadAt, .ref vyhadMany, .ref vyhadCost, .int ya0, .int ya1, .int yb0, .int yb1, .int yforward, .int yout]))] (some (.int r0)) := by
  refine Ct.of (cc := cX6_waiting) (maxL := 1) (ret := (some .int)) (by decide) rfl (Nat.le_of_ble_eq_true rfl) ?_
  intro p e s m below meth c A ls hcx hG hst hA hP hD hl
  obtain ⟨hx, hb, hml, hown, hts, hr, hlocks⟩ := id hcx
  have hown : s.vm.findClass RX6 = some m.cls := hown
  have hS : va_S A s.heap s.heap [] := va_S.rf
  have hl : lv_has ls 1 [(0, .ref yo)] := hl
  have hinX6 : ∀ w ∈ u_ws RX6 TX6 26, w ∈ wsX6_waiting := by decide +kernel
  have fl87 := hts (.fieldLink RX6 87 "RunSorterModel" "waitMany" "I") (by decide +kernel)
  unfold mX6_waiting at h
  refine lv_aload_n hx hb dX6_waiting_0 rfl (lv_at hl 0 rfl) ?_
  refine va_get (D := D) (cl := vwCl) (ci := 6) (v := .int ywaitMany) (C := RX6) (T := TX6) (N := 26) hx hb hts hinX6 hown hG.1 hP 0 rfl rfl 13 (by decide) fl87 (fun _ h9 => h9) rfl dX6_waiting_1 ?_
  refine lv_if_le (tgt := 14) hx hb dX6_waiting_4 (by decide) (fun c4 => ?_) (fun c4 => ?_)
  · have h := i_t c4 h
    refine lv_bipush (v := (-4 : Int32)) hx hb dX6_waiting_14 (by decide) ?_
    cases h
    exact rt_i hx hb hr hlocks hP hD hS dX6_waiting_16
  · have h := i_f c4 h
    refine lv_aload_n hx hb dX6_waiting_7 rfl (lv_at hl 0 rfl) ?_
    refine va_get (D := D) (cl := vwCl) (ci := 6) (v := .int ywaitMany) (C := RX6) (T := TX6) (N := 26) hx hb hts hinX6 hown hG.1 hP 0 rfl rfl 13 (by decide) fl87 (fun _ h9 => h9) rfl dX6_waiting_8 ?_
    refine lv_goto (tgt := 16) hx hb dX6_waiting_11 (by decide) ?_
    cases h
    exact rt_i hx hb hr hlocks hP hD hS dX6_waiting_16
set_option maxHeartbeats 4000000 in
set_option maxRecDepth 100000 in
theorem kX6_due (l : Launch) (D : va_G) (cA : ClassId) (F : Nat) (yo : Nat) (vytext : Nat) (vyrules : Nat) (vylaid : Nat) (vykey : Nat) (vytag : Nat) (vyroomKey : Nat) (vyroomTag : Nat) (vyrunAt : Nat) (vyrunMany : Nat) (vycost : Nat) (vyhadKey : Nat) (vyhadTag : Nat) (vyhadAt : Nat) (vyhadMany : Nat) (vyhadCost : Nat) (ylength : Int32) (ymany : Int32) (yruns : Int32) (ywaitAt : Int32) (ywaitMany : Int32) (ya0 : Int32) (ya1 : Int32) (yb0 : Int32) (yb1 : Int32) (yforward : Int32) (yout : Int32) (yrules : (Nat → Int32)) (yrunAt : (Nat → Int32)) (yrunMany : (Nat → Int32)) (r0 : Int32) (h : mX6_due F ymany yruns ywaitMany yrules yrunAt yrunMany = some r0) : Ct l yX6_due wsX6_due ({ frames := 2, cells := 0, slots := 0, locals := 49 }) D cA [.ref yo] [(yo, .inr (6, [.int ylength, .ref vytext, .ref vyrules, .int ymany, .ref vylaid, .ref vykey, .ref vytag, .ref vyroomKey, .ref vyroomTag, .int yruns, .ref vyrunAt, .ref vyrunMany, .int ywaitAt, .int ywaitMany, .ref vycost, .ref vyhadKey, .ref vyhadTag, .ref vyhadAt, .ref vyhadMany, .ref vyhadCost, .int ya0, .int ya1, .int yb0, .int yb1, .int yforward, .int yout])), (vyrules, .inl (cA, 4, .inl yrules)), (vyrunAt, .inl (cA, 96, .inl yrunAt)), (vyrunMany, .inl (cA, 96, .inl yrunMany))] [(yo, .inr (6, [.int ylength, .ref vytext, .ref vyrules, .int ymany, .ref vylaid, .ref vykey, .ref vytag, .ref vyroomKey, .ref vyroomTag, .int yruns, .ref vyrunAt, .ref vyrunMany, .int ywaitAt, .int ywaitMany, .ref vycost, .ref vyhadKey, .ref vyhadTag, .ref vyhadAt, .ref vyhadMany, .ref vyhadCost, .int ya0, .int ya1, .int yb0, .int yb1, .int yforward, .int yout])), (vyrules, .inl (cA, 4, .inl yrules)), (vyrunAt, .inl (cA, 96, .inl yrunAt)), (vyrunMany, .inl (cA, 96, .inl yrunMany))] (some (.int r0)) := by
  refine Ct.of (cc := cX6_due) (maxL := 1) (ret := (some .int)) (by decide) rfl (Nat.le_of_ble_eq_true rfl) ?_
  intro p e s m below meth c A ls hcx hG hst hA hP hD hl
  obtain ⟨hx, hb, hml, hown, hts, hr, hlocks⟩ := id hcx
  have hown : s.vm.findClass RX6 = some m.cls := hown
  have hS : va_S A s.heap s.heap [] := va_S.rf
  have hl : lv_has ls 1 [(0, .ref yo)] := hl
  unfold mX6_due at h
  refine lv_aload_n hx hb dX6_due_0 rfl (lv_at hl 0 rfl) ?_
  obtain ⟨r1, hc1, h⟩ := bd1_some h
  refine ct_V (As := []) (rest := []) (st1 := [.int r1]) (wf := [(yo, .inr (6, [.int ylength, .ref vytext, .ref vyrules, .int ymany, .ref vylaid, .ref vykey, .ref vytag, .ref vyroomKey, .ref vyroomTag, .int yruns, .ref vyrunAt, .ref vyrunMany, .int ywaitAt, .int ywaitMany, .ref vycost, .ref vyhadKey, .ref vyhadTag, .ref vyhadAt, .ref vyhadMany, .ref vyhadCost, .int ya0, .int ya1, .int yb0, .int yb1, .int yforward, .int yout])), (vyrules, .inl (cA, 4, .inl yrules)), (vyrunAt, .inl (cA, 96, .inl yrunAt)), (vyrunMany, .inl (cA, 96, .inl yrunMany))]) (kX6_mergeNext l D cA F yo vytext vyrules vylaid vykey vytag vyroomKey vyroomTag vyrunAt vyrunMany vycost vyhadKey vyhadTag vyhadAt vyhadMany vyhadCost  ylength ymany yruns ywaitAt ywaitMany ya0 ya1 yb0 yb1 yforward yout yrules yrunAt yrunMany  r1 hc1) ⟨hx, hb, hml, hown, hts⟩ (cwV 0 hts gX6_due_X6_mergeNext rfl rfl rfl (by decide +kernel) ⟨Nat.le_of_ble_eq_true rfl, Nat.le_of_ble_eq_true rfl⟩) hG hst hP hD hS hA 6 rfl rfl rfl [0, 1, 2, 3] [] [0, 1, 2, 3] rfl rfl rfl rfl rfl rfl hl.1 rfl rfl (Nat.le_of_ble_eq_true rfl) dX6_due_1 ⟨Nat.zero_le _, Nat.zero_le _⟩ (fun H locs hP hD hS => ?_)
  cases h
  exact rt_i hx hb hr hlocks hP hD hS dX6_due_4
set_option maxHeartbeats 4000000 in
set_option maxRecDepth 100000 in
theorem kX6_cost (l : Launch) (D : va_G) (cA : ClassId) (F : Nat) (yo : Nat) (vytext : Nat) (vyrules : Nat) (vylaid : Nat) (vykey : Nat) (vytag : Nat) (vyroomKey : Nat) (vyroomTag : Nat) (vyrunAt : Nat) (vyrunMany : Nat) (vycost : Nat) (vyhadKey : Nat) (vyhadTag : Nat) (vyhadAt : Nat) (vyhadMany : Nat) (vyhadCost : Nat) (ylength : Int32) (ymany : Int32) (yruns : Int32) (ywaitAt : Int32) (ywaitMany : Int32) (ya0 : Int32) (ya1 : Int32) (yb0 : Int32) (yb1 : Int32) (yforward : Int32) (yout : Int32) (ycost : (Nat → Int32)) (a1 : Int32) (r0 : Int32) (h : mX6_cost F ycost a1 = some r0) : Ct l yX6_cost wsX6_cost ({ frames := 1, cells := 0, slots := 0, locals := 25 }) D cA [.ref yo, .int a1] [(yo, .inr (6, [.int ylength, .ref vytext, .ref vyrules, .int ymany, .ref vylaid, .ref vykey, .ref vytag, .ref vyroomKey, .ref vyroomTag, .int yruns, .ref vyrunAt, .ref vyrunMany, .int ywaitAt, .int ywaitMany, .ref vycost, .ref vyhadKey, .ref vyhadTag, .ref vyhadAt, .ref vyhadMany, .ref vyhadCost, .int ya0, .int ya1, .int yb0, .int yb1, .int yforward, .int yout])), (vycost, .inl (cA, 12, .inl ycost))] [(yo, .inr (6, [.int ylength, .ref vytext, .ref vyrules, .int ymany, .ref vylaid, .ref vykey, .ref vytag, .ref vyroomKey, .ref vyroomTag, .int yruns, .ref vyrunAt, .ref vyrunMany, .int ywaitAt, .int ywaitMany, .ref vycost, .ref vyhadKey, .ref vyhadTag, .ref vyhadAt, .ref vyhadMany, .ref vyhadCost, .int ya0, .int ya1, .int yb0, .int yb1, .int yforward, .int yout])), (vycost, .inl (cA, 12, .inl ycost))] (some (.int r0)) := by
  refine Ct.of (cc := cX6_cost) (maxL := 2) (ret := (some .int)) (by decide) rfl (Nat.le_of_ble_eq_true rfl) ?_
  intro p e s m below meth c A ls hcx hG hst hA hP hD hl
  obtain ⟨hx, hb, hml, hown, hts, hr, hlocks⟩ := id hcx
  have hown : s.vm.findClass RX6 = some m.cls := hown
  have hS : va_S A s.heap s.heap [] := va_S.rf
  have hl : lv_has ls 2 [(0, .ref yo), (1, .int a1)] := hl
  have hinX6 : ∀ w ∈ u_ws RX6 TX6 26, w ∈ wsX6_cost := by decide +kernel
  have fl37 := hts (.fieldLink RX6 37 "RunSorterModel" "cost" "[I") (by decide +kernel)
  unfold mX6_cost at h
  refine lv_iload_n hx hb dX6_cost_0 rfl (lv_at hl 1 rfl) ?_
  refine lv_i2l hx hb dX6_cost_1 rfl ?_
  refine lv_lconst (v := (0 : Int64)) hx hb dX6_cost_2 (by decide) ?_
  refine lv_ldc2 (v := (11 : Int64)) hx hb hown (hts (.constantLong RX6 198 (11)) (by decide +kernel)) dX6_cost_3 ?_
  obtain ⟨r6, hc6, h⟩ := bd1_some h
  refine ct_S (As := [.long a1.toInt64, .long (0 : Int64), .long (11 : Int64)]) (rest := []) (st1 := [.int r6]) (wf := [(yo, .inr (6, [.int ylength, .ref vytext, .ref vyrules, .int ymany, .ref vylaid, .ref vykey, .ref vytag, .ref vyroomKey, .ref vyroomTag, .int yruns, .ref vyrunAt, .ref vyrunMany, .int ywaitAt, .int ywaitMany, .ref vycost, .ref vyhadKey, .ref vyhadTag, .ref vyhadAt, .ref vyhadMany, .ref vyhadCost, .int ya0, .int ya1, .int yb0, .int yb1, .int yforward, .int yout])), (vycost, .inl (cA, 12, .inl ycost))]) (kX6_in l D cA F    a1.toInt64 (0 : Int64) (11 : Int64) r6 hc6) ⟨hx, hb, hml, hown, hts⟩ (va_cwS 3 hts gX6_cost_X6_in rfl rfl rfl (by decide +kernel) ⟨Nat.le_of_ble_eq_true rfl, Nat.le_of_ble_eq_true rfl⟩) hG hst hP hD hS hA [] [0, 1] [0, 1] rfl rfl rfl rfl rfl rfl hl.1 rfl rfl (Nat.le_of_ble_eq_true rfl) dX6_cost_6 ⟨Nat.zero_le _, Nat.zero_le _⟩ (fun H locs hP hD hS => ?_)
  refine lv_if_eq (tgt := 21) hx hb dX6_cost_9 (by decide) (fun c9 => ?_) (fun c9 => ?_)
  · have h := i_t c9 h
    refine lv_iconst (v := (-1 : Int32)) hx hb dX6_cost_21 (by decide) ?_
    cases h
    exact rt_i hx hb hr hlocks hP hD hS dX6_cost_22
  · have h := i_f c9 h
    refine lv_aload_n hx hb dX6_cost_12 rfl (lv_at hl 0 rfl) ?_
    refine va_get (D := D) (cl := vwCl) (ci := 6) (v := .ref vycost) (C := RX6) (T := TX6) (N := 26) hx hb hts hinX6 hown hG.1 hP 0 rfl rfl 14 (by decide) fl37 (fun _ h9 => h9) rfl dX6_cost_13 ?_
    refine lv_iload_n hx hb dX6_cost_16 rfl (lv_at hl 1 rfl) ?_
    obtain ⟨hi17, h⟩ := ck_some h
    refine va_iald hx hb hG.1 hP 1 0 rfl rfl hi17 dX6_cost_17 ?_
    refine lv_goto (tgt := 22) hx hb dX6_cost_18 (by decide) ?_
    cases h
    exact rt_i hx hb hr hlocks hP hD hS dX6_cost_22
