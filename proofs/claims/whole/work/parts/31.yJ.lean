/-! contracts, by program (wip/whole/gen.py) -/
set_option maxHeartbeats 4000000 in
set_option maxRecDepth 100000 in
theorem kX6_descents (l : Launch) (D : va_G) (cA : ClassId) (F : Nat) (yo : Nat) (vytext : Nat) (vyrules : Nat) (vylaid : Nat) (vykey : Nat) (vytag : Nat) (vyroomKey : Nat) (vyroomTag : Nat) (vyrunAt : Nat) (vyrunMany : Nat) (vycost : Nat) (vyhadKey : Nat) (vyhadTag : Nat) (vyhadAt : Nat) (vyhadMany : Nat) (vyhadCost : Nat) (ylength : Int32) (ymany : Int32) (yruns : Int32) (ywaitAt : Int32) (ywaitMany : Int32) (ya0 : Int32) (ya1 : Int32) (yb0 : Int32) (yb1 : Int32) (yforward : Int32) (yout : Int32) (yrules : (Nat → Int32)) (ykey : (Nat → Int32)) (r0 : Int32) (h : mX6_descents F ymany yrules ykey = some r0) : Ct l yX6_descents wsX6_descents ({ frames := 2, cells := 0, slots := 0, locals := 42 }) D cA [.ref yo] [(yo, .inr (6, [.int ylength, .ref vytext, .ref vyrules, .int ymany, .ref vylaid, .ref vykey, .ref vytag, .ref vyroomKey, .ref vyroomTag, .int yruns, .ref vyrunAt, .ref vyrunMany, .int ywaitAt, .int ywaitMany, .ref vycost, .ref vyhadKey, .ref vyhadTag, .ref vyhadAt, .ref vyhadMany, .ref vyhadCost, .int ya0, .int ya1, .int yb0, .int yb1, .int yforward, .int yout])), (vyrules, .inl (cA, 4, .inl yrules)), (vykey, .inl (cA, 96, .inl ykey))] [(yo, .inr (6, [.int ylength, .ref vytext, .ref vyrules, .int ymany, .ref vylaid, .ref vykey, .ref vytag, .ref vyroomKey, .ref vyroomTag, .int yruns, .ref vyrunAt, .ref vyrunMany, .int ywaitAt, .int ywaitMany, .ref vycost, .ref vyhadKey, .ref vyhadTag, .ref vyhadAt, .ref vyhadMany, .ref vyhadCost, .int ya0, .int ya1, .int yb0, .int yb1, .int yforward, .int yout])), (vyrules, .inl (cA, 4, .inl yrules)), (vykey, .inl (cA, 96, .inl ykey))] (some (.int r0)) := by
  refine Ct.of (cc := cX6_descents) (maxL := 3) (ret := (some .int)) (by decide) rfl (Nat.le_of_ble_eq_true rfl) ?_
  intro p e s m below meth c A ls hcx hG hst hA hP hD hl
  obtain ⟨hx, hb, hml, hown, hts, hr, hlocks⟩ := id hcx
  have hown : s.vm.findClass RX6 = some m.cls := hown
  have hS : va_S A s.heap s.heap [] := va_S.rf
  have hl : lv_has ls 3 [(0, .ref yo)] := hl
  have hinX6 : ∀ w ∈ u_ws RX6 TX6 26, w ∈ wsX6_descents := by decide +kernel
  have fl55 := hts (.fieldLink RX6 55 "RunSorterModel" "many" "I") (by decide +kernel)
  have fl19 := hts (.fieldLink RX6 19 "RunSorterModel" "key" "[I") (by decide +kernel)
  have hmX6_descents_4 : ∀ (n4 : Nat) (x1 : Int32) (x2 : Int32) (H : Heap) (locs : List Loc) (ls : Array Slot), mX6_descents_4 F ymany yrules ykey n4 x1 x2 = some r0 → va_P D vwCl [(yo, .inr (6, [.int ylength, .ref vytext, .ref vyrules, .int ymany, .ref vylaid, .ref vykey, .ref vytag, .ref vyroomKey, .ref vyroomTag, .int yruns, .ref vyrunAt, .ref vyrunMany, .int ywaitAt, .int ywaitMany, .ref vycost, .ref vyhadKey, .ref vyhadTag, .ref vyhadAt, .ref vyhadMany, .ref vyhadCost, .int ya0, .int ya1, .int yb0, .int yb1, .int yforward, .int yout])), (vyrules, .inl (cA, 4, .inl yrules)), (vykey, .inl (cA, 96, .inl ykey))] H → va_D A [(yo, .inr (6, [.int ylength, .ref vytext, .ref vyrules, .int ymany, .ref vylaid, .ref vykey, .ref vytag, .ref vyroomKey, .ref vyroomTag, .int yruns, .ref vyrunAt, .ref vyrunMany, .int ywaitAt, .int ywaitMany, .ref vycost, .ref vyhadKey, .ref vyhadTag, .ref vyhadAt, .ref vyhadMany, .ref vyhadCost, .int ya0, .int ya1, .int yb0, .int yb1, .int yforward, .int yout])), (vyrules, .inl (cA, 4, .inl yrules)), (vykey, .inl (cA, 96, .inl ykey))] → va_S A s.heap H locs → lv_has ls 3 [(0, .ref yo), (1, .int x1), (2, .int x2)] → W p l e ({ frames := 2, cells := 0, slots := 0, locals := 42 }) s m ([.ref yo] : List Value).toArray below meth c H locs 0 0 (MQ below (Qw D A [(yo, .inr (6, [.int ylength, .ref vytext, .ref vyrules, .int ymany, .ref vylaid, .ref vykey, .ref vytag, .ref vyroomKey, .ref vyroomTag, .int yruns, .ref vyrunAt, .ref vyrunMany, .int ywaitAt, .int ywaitMany, .ref vycost, .ref vyhadKey, .ref vyhadTag, .ref vyhadAt, .ref vyhadMany, .ref vyhadCost, .int ya0, .int ya1, .int yb0, .int yb1, .int yforward, .int yout])), (vyrules, .inl (cA, 4, .inl yrules)), (vykey, .inl (cA, 96, .inl ykey))] (some (.int r0))) ([.ref yo] : List Value).toArray s 0 0 A) (F0 m 4 ls []) := by
    intro n4
    induction n4 with
    | zero => intro x1 x2 H locs ls h; exact (no_some h).elim
    | succ n4 ih4 =>
      intro x1 x2 H locs ls h hP hD hS hl
      rw [mX6_descents_4] at h
      refine lv_iload_n hx hb dX6_descents_4 rfl (lv_at hl 2 rfl) ?_
      refine lv_aload_n hx hb dX6_descents_5 rfl (lv_at hl 0 rfl) ?_
      refine va_get (D := D) (cl := vwCl) (ci := 6) (v := .int ymany) (C := RX6) (T := TX6) (N := 26) hx hb hts hinX6 hown hG.1 hP 0 rfl rfl 3 (by decide) fl55 (fun _ h9 => h9) rfl dX6_descents_6 ?_
      refine lv_icmp_ge (tgt := 47) hx hb dX6_descents_9 (by decide) (fun c9 => ?_) (fun c9 => ?_)
      · have h := i_t c9 h
        refine lv_iload_n hx hb dX6_descents_47 rfl (lv_at hl 1 rfl) ?_
        cases h
        exact rt_i hx hb hr hlocks hP hD hS dX6_descents_48
      · have h := i_f c9 h
        refine lv_iload_n hx hb dX6_descents_12 rfl (lv_at hl 1 rfl) ?_
        refine lv_aload_n hx hb dX6_descents_13 rfl (lv_at hl 0 rfl) ?_
        refine lv_aload_n hx hb dX6_descents_14 rfl (lv_at hl 0 rfl) ?_
        refine va_get (D := D) (cl := vwCl) (ci := 6) (v := .ref vykey) (C := RX6) (T := TX6) (N := 26) hx hb hts hinX6 hown hG.1 hP 0 rfl rfl 5 (by decide) fl19 (fun _ h9 => h9) rfl dX6_descents_15 ?_
        refine lv_iload_n hx hb dX6_descents_18 rfl (lv_at hl 2 rfl) ?_
        obtain ⟨hi19, h⟩ := ck_some h
        refine va_iald hx hb hG.1 hP 2 0 rfl rfl hi19 dX6_descents_19 ?_
        refine lv_aload_n hx hb dX6_descents_20 rfl (lv_at hl 0 rfl) ?_
        refine va_get (D := D) (cl := vwCl) (ci := 6) (v := .ref vykey) (C := RX6) (T := TX6) (N := 26) hx hb hts hinX6 hown hG.1 hP 0 rfl rfl 5 (by decide) fl19 (fun _ h9 => h9) rfl dX6_descents_21 ?_
        refine lv_iload_n hx hb dX6_descents_24 rfl (lv_at hl 2 rfl) ?_
        refine lv_iconst (v := (1 : Int32)) hx hb dX6_descents_25 (by decide) ?_
        refine lv_isub hx hb dX6_descents_26 ?_
        obtain ⟨hi27, h⟩ := ck_some h
        refine va_iald hx hb hG.1 hP 2 0 rfl rfl hi27 dX6_descents_27 ?_
        obtain ⟨r28, hc28, h⟩ := bd1_some h
        refine ct_V (As := [.int (ykey x2.toNatClampNeg), .int (ykey (x2 - (1 : Int32)).toNatClampNeg)]) (rest := [.int x1]) (st1 := [.int r28, .int x1]) (wf := [(yo, .inr (6, [.int ylength, .ref vytext, .ref vyrules, .int ymany, .ref vylaid, .ref vykey, .ref vytag, .ref vyroomKey, .ref vyroomTag, .int yruns, .ref vyrunAt, .ref vyrunMany, .int ywaitAt, .int ywaitMany, .ref vycost, .ref vyhadKey, .ref vyhadTag, .ref vyhadAt, .ref vyhadMany, .ref vyhadCost, .int ya0, .int ya1, .int yb0, .int yb1, .int yforward, .int yout])), (vyrules, .inl (cA, 4, .inl yrules)), (vykey, .inl (cA, 96, .inl ykey))]) (kX6_isLess l D cA F yo vytext vyrules vylaid vykey vytag vyroomKey vyroomTag vyrunAt vyrunMany vycost vyhadKey vyhadTag vyhadAt vyhadMany vyhadCost  ylength ymany yruns ywaitAt ywaitMany ya0 ya1 yb0 yb1 yforward yout yrules (ykey x2.toNatClampNeg) (ykey (x2 - (1 : Int32)).toNatClampNeg) r28 hc28) ⟨hx, hb, hml, hown, hts⟩ (cwV 2 hts gX6_descents_X6_isLess rfl rfl rfl (by decide +kernel) ⟨Nat.le_of_ble_eq_true rfl, Nat.le_of_ble_eq_true rfl⟩) hG hst hP hD hS hA 6 rfl rfl rfl [0, 1] [2] [1, 2, 0] rfl rfl rfl rfl rfl rfl hl.1 rfl rfl (Nat.le_of_ble_eq_true rfl) dX6_descents_28 ⟨Nat.zero_le _, Nat.zero_le _⟩ (fun H locs hP hD hS => ?_)
        refine lv_if_eq (tgt := 38) hx hb dX6_descents_31 (by decide) (fun c31 => ?_) (fun c31 => ?_)
        · have h := i_t c31 h
          refine lv_iconst (v := (0 : Int32)) hx hb dX6_descents_38 (by decide) ?_
          refine lv_iadd hx hb dX6_descents_39 ?_
          refine lv_istore_n (lv' := [(1, .int (x1 + (0 : Int32))), (0, .ref yo), (2, .int x2)]) hx hb dX6_descents_40 rfl hl (by decide) rfl (fun ls hl => ?_)
          refine lv_iinc (v := x2 + (1 : Int32)) (lv' := [(2, .int (x2 + (1 : Int32))), (1, .int (x1 + (0 : Int32))), (0, .ref yo)]) hx hb dX6_descents_41 hl (k := 2) rfl (congrArg (fun z => x2 + z) (by decide)) (by decide) rfl (fun ls hl => ?_)
          refine lv_goto (tgt := 4) hx hb dX6_descents_44 (by decide) ?_
          exact ih4 (x1 + (0 : Int32)) (x2 + (1 : Int32)) _ _ _ h hP hD hS (lv_sub hl [2, 1, 0] rfl)
        · have h := i_f c31 h
          refine lv_iconst (v := (1 : Int32)) hx hb dX6_descents_34 (by decide) ?_
          refine lv_goto (tgt := 39) hx hb dX6_descents_35 (by decide) ?_
          refine lv_iadd hx hb dX6_descents_39 ?_
          refine lv_istore_n (lv' := [(1, .int (x1 + (1 : Int32))), (0, .ref yo), (2, .int x2)]) hx hb dX6_descents_40 rfl hl (by decide) rfl (fun ls hl => ?_)
          refine lv_iinc (v := x2 + (1 : Int32)) (lv' := [(2, .int (x2 + (1 : Int32))), (1, .int (x1 + (1 : Int32))), (0, .ref yo)]) hx hb dX6_descents_41 hl (k := 2) rfl (congrArg (fun z => x2 + z) (by decide)) (by decide) rfl (fun ls hl => ?_)
          refine lv_goto (tgt := 4) hx hb dX6_descents_44 (by decide) ?_
          exact ih4 (x1 + (1 : Int32)) (x2 + (1 : Int32)) _ _ _ h hP hD hS (lv_sub hl [2, 1, 0] rfl)
  unfold mX6_descents at h
  refine lv_iconst (v := (0 : Int32)) hx hb dX6_descents_0 (by decide) ?_
  refine lv_istore_n (lv' := [(1, .int (0 : Int32)), (0, .ref yo)]) hx hb dX6_descents_1 rfl hl (by decide) rfl (fun ls hl => ?_)
  refine lv_iconst (v := (1 : Int32)) hx hb dX6_descents_2 (by decide) ?_
  refine lv_istore_n (lv' := [(2, .int (1 : Int32)), (1, .int (0 : Int32)), (0, .ref yo)]) hx hb dX6_descents_3 rfl hl (by decide) rfl (fun ls hl => ?_)
  exact hmX6_descents_4 F (0 : Int32) (1 : Int32) _ _ _ h hP hD hS (lv_sub hl [2, 1, 0] rfl)
set_option maxHeartbeats 4000000 in
set_option maxRecDepth 100000 in
theorem kX6_inversions (l : Launch) (D : va_G) (cA : ClassId) (F : Nat) (yo : Nat) (vytext : Nat) (vyrules : Nat) (vylaid : Nat) (vykey : Nat) (vytag : Nat) (vyroomKey : Nat) (vyroomTag : Nat) (vyrunAt : Nat) (vyrunMany : Nat) (vycost : Nat) (vyhadKey : Nat) (vyhadTag : Nat) (vyhadAt : Nat) (vyhadMany : Nat) (vyhadCost : Nat) (ylength : Int32) (ymany : Int32) (yruns : Int32) (ywaitAt : Int32) (ywaitMany : Int32) (ya0 : Int32) (ya1 : Int32) (yb0 : Int32) (yb1 : Int32) (yforward : Int32) (yout : Int32) (yrules : (Nat → Int32)) (ykey : (Nat → Int32)) (r0 : Int32) (h : mX6_inversions F ymany yrules ykey = some r0) : Ct l yX6_inversions wsX6_inversions ({ frames := 2, cells := 0, slots := 0, locals := 42 }) D cA [.ref yo] [(yo, .inr (6, [.int ylength, .ref vytext, .ref vyrules, .int ymany, .ref vylaid, .ref vykey, .ref vytag, .ref vyroomKey, .ref vyroomTag, .int yruns, .ref vyrunAt, .ref vyrunMany, .int ywaitAt, .int ywaitMany, .ref vycost, .ref vyhadKey, .ref vyhadTag, .ref vyhadAt, .ref vyhadMany, .ref vyhadCost, .int ya0, .int ya1, .int yb0, .int yb1, .int yforward, .int yout])), (vyrules, .inl (cA, 4, .inl yrules)), (vykey, .inl (cA, 96, .inl ykey))] [(yo, .inr (6, [.int ylength, .ref vytext, .ref vyrules, .int ymany, .ref vylaid, .ref vykey, .ref vytag, .ref vyroomKey, .ref vyroomTag, .int yruns, .ref vyrunAt, .ref vyrunMany, .int ywaitAt, .int ywaitMany, .ref vycost, .ref vyhadKey, .ref vyhadTag, .ref vyhadAt, .ref vyhadMany, .ref vyhadCost, .int ya0, .int ya1, .int yb0, .int yb1, .int yforward, .int yout])), (vyrules, .inl (cA, 4, .inl yrules)), (vykey, .inl (cA, 96, .inl ykey))] (some (.int r0)) := by
  refine Ct.of (cc := cX6_inversions) (maxL := 4) (ret := (some .int)) (by decide) rfl (Nat.le_of_ble_eq_true rfl) ?_
  intro p e s m below meth c A ls hcx hG hst hA hP hD hl
  obtain ⟨hx, hb, hml, hown, hts, hr, hlocks⟩ := id hcx
  have hown : s.vm.findClass RX6 = some m.cls := hown
  have hS : va_S A s.heap s.heap [] := va_S.rf
  have hl : lv_has ls 4 [(0, .ref yo)] := hl
  have hinX6 : ∀ w ∈ u_ws RX6 TX6 26, w ∈ wsX6_inversions := by decide +kernel
  have fl19 := hts (.fieldLink RX6 19 "RunSorterModel" "key" "[I") (by decide +kernel)
  have fl55 := hts (.fieldLink RX6 55 "RunSorterModel" "many" "I") (by decide +kernel)
  have hmX6_inversions_4 : ∀ (n4 : Nat) (x1 : Int32) (x2 : Int32) (H : Heap) (locs : List Loc) (ls : Array Slot), mX6_inversions_4 F ymany yrules ykey n4 x1 x2 = some r0 → va_P D vwCl [(yo, .inr (6, [.int ylength, .ref vytext, .ref vyrules, .int ymany, .ref vylaid, .ref vykey, .ref vytag, .ref vyroomKey, .ref vyroomTag, .int yruns, .ref vyrunAt, .ref vyrunMany, .int ywaitAt, .int ywaitMany, .ref vycost, .ref vyhadKey, .ref vyhadTag, .ref vyhadAt, .ref vyhadMany, .ref vyhadCost, .int ya0, .int ya1, .int yb0, .int yb1, .int yforward, .int yout])), (vyrules, .inl (cA, 4, .inl yrules)), (vykey, .inl (cA, 96, .inl ykey))] H → va_D A [(yo, .inr (6, [.int ylength, .ref vytext, .ref vyrules, .int ymany, .ref vylaid, .ref vykey, .ref vytag, .ref vyroomKey, .ref vyroomTag, .int yruns, .ref vyrunAt, .ref vyrunMany, .int ywaitAt, .int ywaitMany, .ref vycost, .ref vyhadKey, .ref vyhadTag, .ref vyhadAt, .ref vyhadMany, .ref vyhadCost, .int ya0, .int ya1, .int yb0, .int yb1, .int yforward, .int yout])), (vyrules, .inl (cA, 4, .inl yrules)), (vykey, .inl (cA, 96, .inl ykey))] → va_S A s.heap H locs → lv_has ls 4 [(0, .ref yo), (1, .int x1), (2, .int x2)] → W p l e ({ frames := 2, cells := 0, slots := 0, locals := 42 }) s m ([.ref yo] : List Value).toArray below meth c H locs 0 0 (MQ below (Qw D A [(yo, .inr (6, [.int ylength, .ref vytext, .ref vyrules, .int ymany, .ref vylaid, .ref vykey, .ref vytag, .ref vyroomKey, .ref vyroomTag, .int yruns, .ref vyrunAt, .ref vyrunMany, .int ywaitAt, .int ywaitMany, .ref vycost, .ref vyhadKey, .ref vyhadTag, .ref vyhadAt, .ref vyhadMany, .ref vyhadCost, .int ya0, .int ya1, .int yb0, .int yb1, .int yforward, .int yout])), (vyrules, .inl (cA, 4, .inl yrules)), (vykey, .inl (cA, 96, .inl ykey))] (some (.int r0))) ([.ref yo] : List Value).toArray s 0 0 A) (F0 m 4 ls []) := by
    intro n4
    induction n4 with
    | zero => intro x1 x2 H locs ls h; exact (no_some h).elim
    | succ n4 ih4 =>
      have hmX6_inversions_14 : ∀ (n14 : Nat) (x1 : Int32) (x2 : Int32) (x3 : Int32) (H : Heap) (locs : List Loc) (ls : Array Slot), mX6_inversions_14 F yrules ykey (fun p0 p1 => mX6_inversions_4 F ymany yrules ykey  n4 p0 p1) n14 x1 x2 x3 = some r0 → va_P D vwCl [(yo, .inr (6, [.int ylength, .ref vytext, .ref vyrules, .int ymany, .ref vylaid, .ref vykey, .ref vytag, .ref vyroomKey, .ref vyroomTag, .int yruns, .ref vyrunAt, .ref vyrunMany, .int ywaitAt, .int ywaitMany, .ref vycost, .ref vyhadKey, .ref vyhadTag, .ref vyhadAt, .ref vyhadMany, .ref vyhadCost, .int ya0, .int ya1, .int yb0, .int yb1, .int yforward, .int yout])), (vyrules, .inl (cA, 4, .inl yrules)), (vykey, .inl (cA, 96, .inl ykey))] H → va_D A [(yo, .inr (6, [.int ylength, .ref vytext, .ref vyrules, .int ymany, .ref vylaid, .ref vykey, .ref vytag, .ref vyroomKey, .ref vyroomTag, .int yruns, .ref vyrunAt, .ref vyrunMany, .int ywaitAt, .int ywaitMany, .ref vycost, .ref vyhadKey, .ref vyhadTag, .ref vyhadAt, .ref vyhadMany, .ref vyhadCost, .int ya0, .int ya1, .int yb0, .int yb1, .int yforward, .int yout])), (vyrules, .inl (cA, 4, .inl yrules)), (vykey, .inl (cA, 96, .inl ykey))] → va_S A s.heap H locs → lv_has ls 4 [(0, .ref yo), (1, .int x1), (2, .int x2), (3, .int x3)] → W p l e ({ frames := 2, cells := 0, slots := 0, locals := 42 }) s m ([.ref yo] : List Value).toArray below meth c H locs 0 0 (MQ below (Qw D A [(yo, .inr (6, [.int ylength, .ref vytext, .ref vyrules, .int ymany, .ref vylaid, .ref vykey, .ref vytag, .ref vyroomKey, .ref vyroomTag, .int yruns, .ref vyrunAt, .ref vyrunMany, .int ywaitAt, .int ywaitMany, .ref vycost, .ref vyhadKey, .ref vyhadTag, .ref vyhadAt, .ref vyhadMany, .ref vyhadCost, .int ya0, .int ya1, .int yb0, .int yb1, .int yforward, .int yout])), (vyrules, .inl (cA, 4, .inl yrules)), (vykey, .inl (cA, 96, .inl ykey))] (some (.int r0))) ([.ref yo] : List Value).toArray s 0 0 A) (F0 m 14 ls []) := by
        intro n14
        induction n14 with
        | zero => intro x1 x2 x3 H locs ls h; exact (no_some h).elim
        | succ n14 ih14 =>
          intro x1 x2 x3 H locs ls h hP hD hS hl
          rw [mX6_inversions_14] at h
          refine lv_iload_n hx hb dX6_inversions_14 rfl (lv_at hl 3 rfl) ?_
          refine lv_iload_n hx hb dX6_inversions_15 rfl (lv_at hl 2 rfl) ?_
          refine lv_icmp_ge (tgt := 52) hx hb dX6_inversions_16 (by decide) (fun c16 => ?_) (fun c16 => ?_)
          · have h := i_t c16 h
            refine lv_iinc (v := x2 + (1 : Int32)) (lv' := [(2, .int (x2 + (1 : Int32))), (0, .ref yo), (1, .int x1), (3, .int x3)]) hx hb dX6_inversions_52 hl (k := 2) rfl (congrArg (fun z => x2 + z) (by decide)) (by decide) rfl (fun ls hl => ?_)
            refine lv_goto (tgt := 4) hx hb dX6_inversions_55 (by decide) ?_
            exact ih4 x1 (x2 + (1 : Int32)) _ _ _ h hP hD hS (lv_sub hl [1, 2, 0] rfl)
          · have h := i_f c16 h
            refine lv_iload_n hx hb dX6_inversions_19 rfl (lv_at hl 1 rfl) ?_
            refine lv_aload_n hx hb dX6_inversions_20 rfl (lv_at hl 0 rfl) ?_
            refine lv_aload_n hx hb dX6_inversions_21 rfl (lv_at hl 0 rfl) ?_
            refine va_get (D := D) (cl := vwCl) (ci := 6) (v := .ref vykey) (C := RX6) (T := TX6) (N := 26) hx hb hts hinX6 hown hG.1 hP 0 rfl rfl 5 (by decide) fl19 (fun _ h9 => h9) rfl dX6_inversions_22 ?_
            refine lv_iload_n hx hb dX6_inversions_25 rfl (lv_at hl 2 rfl) ?_
            obtain ⟨hi26, h⟩ := ck_some h
            refine va_iald hx hb hG.1 hP 2 0 rfl rfl hi26 dX6_inversions_26 ?_
            refine lv_aload_n hx hb dX6_inversions_27 rfl (lv_at hl 0 rfl) ?_
            refine va_get (D := D) (cl := vwCl) (ci := 6) (v := .ref vykey) (C := RX6) (T := TX6) (N := 26) hx hb hts hinX6 hown hG.1 hP 0 rfl rfl 5 (by decide) fl19 (fun _ h9 => h9) rfl dX6_inversions_28 ?_
            refine lv_iload_n hx hb dX6_inversions_31 rfl (lv_at hl 3 rfl) ?_
            obtain ⟨hi32, h⟩ := ck_some h
            refine va_iald hx hb hG.1 hP 2 0 rfl rfl hi32 dX6_inversions_32 ?_
            obtain ⟨r33, hc33, h⟩ := bd1_some h
            refine ct_V (As := [.int (ykey x2.toNatClampNeg), .int (ykey x3.toNatClampNeg)]) (rest := [.int x1]) (st1 := [.int r33, .int x1]) (wf := [(yo, .inr (6, [.int ylength, .ref vytext, .ref vyrules, .int ymany, .ref vylaid, .ref vykey, .ref vytag, .ref vyroomKey, .ref vyroomTag, .int yruns, .ref vyrunAt, .ref vyrunMany, .int ywaitAt, .int ywaitMany, .ref vycost, .ref vyhadKey, .ref vyhadTag, .ref vyhadAt, .ref vyhadMany, .ref vyhadCost, .int ya0, .int ya1, .int yb0, .int yb1, .int yforward, .int yout])), (vyrules, .inl (cA, 4, .inl yrules)), (vykey, .inl (cA, 96, .inl ykey))]) (kX6_isLess l D cA F yo vytext vyrules vylaid vykey vytag vyroomKey vyroomTag vyrunAt vyrunMany vycost vyhadKey vyhadTag vyhadAt vyhadMany vyhadCost  ylength ymany yruns ywaitAt ywaitMany ya0 ya1 yb0 yb1 yforward yout yrules (ykey x2.toNatClampNeg) (ykey x3.toNatClampNeg) r33 hc33) ⟨hx, hb, hml, hown, hts⟩ (cwV 2 hts gX6_inversions_X6_isLess rfl rfl rfl (by decide +kernel) ⟨Nat.le_of_ble_eq_true rfl, Nat.le_of_ble_eq_true rfl⟩) hG hst hP hD hS hA 6 rfl rfl rfl [0, 1] [2] [1, 2, 0] rfl rfl rfl rfl rfl rfl hl.1 rfl rfl (Nat.le_of_ble_eq_true rfl) dX6_inversions_33 ⟨Nat.zero_le _, Nat.zero_le _⟩ (fun H locs hP hD hS => ?_)
            refine lv_if_eq (tgt := 43) hx hb dX6_inversions_36 (by decide) (fun c36 => ?_) (fun c36 => ?_)
            · have h := i_t c36 h
              refine lv_iconst (v := (0 : Int32)) hx hb dX6_inversions_43 (by decide) ?_
              refine lv_iadd hx hb dX6_inversions_44 ?_
              refine lv_istore_n (lv' := [(1, .int (x1 + (0 : Int32))), (0, .ref yo), (2, .int x2), (3, .int x3)]) hx hb dX6_inversions_45 rfl hl (by decide) rfl (fun ls hl => ?_)
              refine lv_iinc (v := x3 + (1 : Int32)) (lv' := [(3, .int (x3 + (1 : Int32))), (1, .int (x1 + (0 : Int32))), (0, .ref yo), (2, .int x2)]) hx hb dX6_inversions_46 hl (k := 3) rfl (congrArg (fun z => x3 + z) (by decide)) (by decide) rfl (fun ls hl => ?_)
              refine lv_goto (tgt := 14) hx hb dX6_inversions_49 (by decide) ?_
              exact ih14 (x1 + (0 : Int32)) x2 (x3 + (1 : Int32)) _ _ _ h hP hD hS (lv_sub hl [2, 1, 3, 0] rfl)
            · have h := i_f c36 h
              refine lv_iconst (v := (1 : Int32)) hx hb dX6_inversions_39 (by decide) ?_
              refine lv_goto (tgt := 44) hx hb dX6_inversions_40 (by decide) ?_
              refine lv_iadd hx hb dX6_inversions_44 ?_
              refine lv_istore_n (lv' := [(1, .int (x1 + (1 : Int32))), (0, .ref yo), (2, .int x2), (3, .int x3)]) hx hb dX6_inversions_45 rfl hl (by decide) rfl (fun ls hl => ?_)
              refine lv_iinc (v := x3 + (1 : Int32)) (lv' := [(3, .int (x3 + (1 : Int32))), (1, .int (x1 + (1 : Int32))), (0, .ref yo), (2, .int x2)]) hx hb dX6_inversions_46 hl (k := 3) rfl (congrArg (fun z => x3 + z) (by decide)) (by decide) rfl (fun ls hl => ?_)
              refine lv_goto (tgt := 14) hx hb dX6_inversions_49 (by decide) ?_
              exact ih14 (x1 + (1 : Int32)) x2 (x3 + (1 : Int32)) _ _ _ h hP hD hS (lv_sub hl [2, 1, 3, 0] rfl)
      intro x1 x2 H locs ls h hP hD hS hl
      rw [mX6_inversions_4] at h
      refine lv_iload_n hx hb dX6_inversions_4 rfl (lv_at hl 2 rfl) ?_
      refine lv_aload_n hx hb dX6_inversions_5 rfl (lv_at hl 0 rfl) ?_
      refine va_get (D := D) (cl := vwCl) (ci := 6) (v := .int ymany) (C := RX6) (T := TX6) (N := 26) hx hb hts hinX6 hown hG.1 hP 0 rfl rfl 3 (by decide) fl55 (fun _ h9 => h9) rfl dX6_inversions_6 ?_
      refine lv_icmp_ge (tgt := 58) hx hb dX6_inversions_9 (by decide) (fun c9 => ?_) (fun c9 => ?_)
      · have h := i_t c9 h
        refine lv_iload_n hx hb dX6_inversions_58 rfl (lv_at hl 1 rfl) ?_
        cases h
        exact rt_i hx hb hr hlocks hP hD hS dX6_inversions_59
      · have h := i_f c9 h
        refine lv_iconst (v := (0 : Int32)) hx hb dX6_inversions_12 (by decide) ?_
        refine lv_istore_n (lv' := [(3, .int (0 : Int32)), (0, .ref yo), (1, .int x1), (2, .int x2)]) hx hb dX6_inversions_13 rfl hl (by decide) rfl (fun ls hl => ?_)
        exact hmX6_inversions_14 F x1 x2 (0 : Int32) _ _ _ h hP hD hS (lv_sub hl [1, 2, 3, 0] rfl)
  unfold mX6_inversions at h
  refine lv_iconst (v := (0 : Int32)) hx hb dX6_inversions_0 (by decide) ?_
  refine lv_istore_n (lv' := [(1, .int (0 : Int32)), (0, .ref yo)]) hx hb dX6_inversions_1 rfl hl (by decide) rfl (fun ls hl => ?_)
  refine lv_iconst (v := (0 : Int32)) hx hb dX6_inversions_2 (by decide) ?_
  refine lv_istore_n (lv' := [(2, .int (0 : Int32)), (1, .int (0 : Int32)), (0, .ref yo)]) hx hb dX6_inversions_3 rfl hl (by decide) rfl (fun ls hl => ?_)
  exact hmX6_inversions_4 F (0 : Int32) (0 : Int32) _ _ _ h hP hD hS (lv_sub hl [2, 1, 0] rfl)
set_option maxHeartbeats 4000000 in
set_option maxRecDepth 100000 in
theorem kX6_seek (l : Launch) (D : va_G) (cA : ClassId) (F : Nat) (yo : Nat) (vytext : Nat) (vyrules : Nat) (vylaid : Nat) (vykey : Nat) (vytag : Nat) (vyroomKey : Nat) (vyroomTag : Nat) (vyrunAt : Nat) (vyrunMany : Nat) (vycost : Nat) (vyhadKey : Nat) (vyhadTag : Nat) (vyhadAt : Nat) (vyhadMany : Nat) (vyhadCost : Nat) (ylength : Int32) (ymany : Int32) (yruns : Int32) (ywaitAt : Int32) (ywaitMany : Int32) (ya0 : Int32) (ya1 : Int32) (yb0 : Int32) (yb1 : Int32) (yforward : Int32) (yout : Int32) (yrules : (Nat → Int32)) (ykey : (Nat → Int32)) (yroomKey : (Nat → Int32)) (ycost : (Nat → Int32)) (a1 : Int32) (a2 : Int32) (a3 : Int32) (a4 : Int32) (r0 : Int32) (ycost_9 : (Nat → Int32)) (h : mX6_seek F ymany yforward yrules ykey yroomKey ycost a1 a2 a3 a4 = some (r0, ycost_9)) : Ct l yX6_seek wsX6_seek ({ frames := 5, cells := 0, slots := 0, locals := 117 }) D cA [.ref yo, .int a1, .int a2, .int a3, .int a4] [(yo, .inr (6, [.int ylength, .ref vytext, .ref vyrules, .int ymany, .ref vylaid, .ref vykey, .ref vytag, .ref vyroomKey, .ref vyroomTag, .int yruns, .ref vyrunAt, .ref vyrunMany, .int ywaitAt, .int ywaitMany, .ref vycost, .ref vyhadKey, .ref vyhadTag, .ref vyhadAt, .ref vyhadMany, .ref vyhadCost, .int ya0, .int ya1, .int yb0, .int yb1, .int yforward, .int yout])), (vyrules, .inl (cA, 4, .inl yrules)), (vykey, .inl (cA, 96, .inl ykey)), (vyroomKey, .inl (cA, 96, .inl yroomKey)), (vycost, .inl (cA, 12, .inl ycost))] [(yo, .inr (6, [.int ylength, .ref vytext, .ref vyrules, .int ymany, .ref vylaid, .ref vykey, .ref vytag, .ref vyroomKey, .ref vyroomTag, .int yruns, .ref vyrunAt, .ref vyrunMany, .int ywaitAt, .int ywaitMany, .ref vycost, .ref vyhadKey, .ref vyhadTag, .ref vyhadAt, .ref vyhadMany, .ref vyhadCost, .int ya0, .int ya1, .int yb0, .int yb1, .int yforward, .int yout])), (vyrules, .inl (cA, 4, .inl yrules)), (vykey, .inl (cA, 96, .inl ykey)), (vyroomKey, .inl (cA, 96, .inl yroomKey)), (vycost, .inl (cA, 12, .inl ycost_9))] (some (.int r0)) := by
  refine Ct.of (cc := cX6_seek) (maxL := 8) (ret := (some .int)) (by decide) rfl (Nat.le_of_ble_eq_true rfl) ?_
  intro p e s m below meth c A ls hcx hG hst hA hP hD hl
  obtain ⟨hx, hb, hml, hown, hts, hr, hlocks⟩ := id hcx
  have hown : s.vm.findClass RX6 = some m.cls := hown
  have hS : va_S A s.heap s.heap [] := va_S.rf
  have hl : lv_has ls 8 [(0, .ref yo), (1, .int a1), (2, .int a2), (3, .int a3), (4, .int a4)] := hl
  have hinX6 : ∀ w ∈ u_ws RX6 TX6 26, w ∈ wsX6_seek := by decide +kernel
  have fl55 := hts (.fieldLink RX6 55 "RunSorterModel" "many" "I") (by decide +kernel)
  have fl37 := hts (.fieldLink RX6 37 "RunSorterModel" "cost" "[I") (by decide +kernel)
  have fl19 := hts (.fieldLink RX6 19 "RunSorterModel" "key" "[I") (by decide +kernel)
  have hmX6_seek_59 : ∀ (n59 : Nat) (x5 : Int32) (ycost : (Nat → Int32)) (H : Heap) (locs : List Loc) (ls : Array Slot), mX6_seek_59 F yforward yrules ykey yroomKey a1 a2 a3 a4 n59 x5 ycost = some (r0, ycost_9) → va_P D vwCl [(yo, .inr (6, [.int ylength, .ref vytext, .ref vyrules, .int ymany, .ref vylaid, .ref vykey, .ref vytag, .ref vyroomKey, .ref vyroomTag, .int yruns, .ref vyrunAt, .ref vyrunMany, .int ywaitAt, .int ywaitMany, .ref vycost, .ref vyhadKey, .ref vyhadTag, .ref vyhadAt, .ref vyhadMany, .ref vyhadCost, .int ya0, .int ya1, .int yb0, .int yb1, .int yforward, .int yout])), (vyrules, .inl (cA, 4, .inl yrules)), (vykey, .inl (cA, 96, .inl ykey)), (vyroomKey, .inl (cA, 96, .inl yroomKey)), (vycost, .inl (cA, 12, .inl ycost))] H → va_D A [(yo, .inr (6, [.int ylength, .ref vytext, .ref vyrules, .int ymany, .ref vylaid, .ref vykey, .ref vytag, .ref vyroomKey, .ref vyroomTag, .int yruns, .ref vyrunAt, .ref vyrunMany, .int ywaitAt, .int ywaitMany, .ref vycost, .ref vyhadKey, .ref vyhadTag, .ref vyhadAt, .ref vyhadMany, .ref vyhadCost, .int ya0, .int ya1, .int yb0, .int yb1, .int yforward, .int yout])), (vyrules, .inl (cA, 4, .inl yrules)), (vykey, .inl (cA, 96, .inl ykey)), (vyroomKey, .inl (cA, 96, .inl yroomKey)), (vycost, .inl (cA, 12, .inl ycost))] → va_S A s.heap H locs → lv_has ls 8 [(0, .ref yo), (1, .int a1), (2, .int a2), (3, .int a3), (4, .int a4), (5, .int x5)] → W p l e ({ frames := 5, cells := 0, slots := 0, locals := 117 }) s m ([.ref yo, .int a1, .int a2, .int a3, .int a4] : List Value).toArray below meth c H locs 0 0 (MQ below (Qw D A [(yo, .inr (6, [.int ylength, .ref vytext, .ref vyrules, .int ymany, .ref vylaid, .ref vykey, .ref vytag, .ref vyroomKey, .ref vyroomTag, .int yruns, .ref vyrunAt, .ref vyrunMany, .int ywaitAt, .int ywaitMany, .ref vycost, .ref vyhadKey, .ref vyhadTag, .ref vyhadAt, .ref vyhadMany, .ref vyhadCost, .int ya0, .int ya1, .int yb0, .int yb1, .int yforward, .int yout])), (vyrules, .inl (cA, 4, .inl yrules)), (vykey, .inl (cA, 96, .inl ykey)), (vyroomKey, .inl (cA, 96, .inl yroomKey)), (vycost, .inl (cA, 12, .inl ycost_9))] (some (.int r0))) ([.ref yo, .int a1, .int a2, .int a3, .int a4] : List Value).toArray s 0 0 A) (F0 m 59 ls []) := by
    intro n59
    induction n59 with
    | zero => intro x5 ycost H locs ls h; exact (no_some h).elim
    | succ n59 ih59 =>
      intro x5 ycost H locs ls h hP hD hS hl
      rw [mX6_seek_59] at h
      refine lv_iload hx hb dX6_seek_59 (lv_at hl 5 rfl) ?_
      refine lv_iload_n hx hb dX6_seek_61 rfl (lv_at hl 2 rfl) ?_
      refine lv_icmp_ge (tgt := 97) hx hb dX6_seek_62 (by decide) (fun c62 => ?_) (fun c62 => ?_)
      · have h := i_t c62 h
        refine lv_aload_n hx hb dX6_seek_97 rfl (lv_at hl 0 rfl) ?_
        refine va_get (D := D) (cl := vwCl) (ci := 6) (v := .ref vycost) (C := RX6) (T := TX6) (N := 26) hx hb hts hinX6 hown hG.1 hP 0 rfl rfl 14 (by decide) fl37 (fun _ h9 => h9) rfl dX6_seek_98 ?_
        refine lv_iconst (v := (0 : Int32)) hx hb dX6_seek_101 (by decide) ?_
        obtain ⟨hi102, h⟩ := ck_some h
        refine va_iald hx hb hG.1 hP 4 0 rfl rfl hi102 dX6_seek_102 ?_
        refine lv_istore (lv' := [(5, .int (ycost (0 : Int32).toNatClampNeg)), (0, .ref yo), (1, .int a1), (2, .int a2), (3, .int a3), (4, .int a4)]) hx hb dX6_seek_103 hl (by decide) rfl (fun ls hl => ?_)
        refine lv_aload_n hx hb dX6_seek_105 rfl (lv_at hl 1 rfl) ?_
        refine lv_iconst (v := (5 : Int32)) hx hb dX6_seek_106 (by decide) ?_
        refine lv_iload_n hx hb dX6_seek_107 rfl (lv_at hl 2 rfl) ?_
        refine lv_iconst (v := (1 : Int32)) hx hb dX6_seek_108 (by decide) ?_
        refine lv_iload_n hx hb dX6_seek_109 rfl (lv_at hl 3 rfl) ?_
        refine lv_iload_n hx hb dX6_seek_110 rfl (lv_at hl 2 rfl) ?_
        refine lv_isub hx hb dX6_seek_111 ?_
        refine lv_iload_n hx hb dX6_seek_112 rfl (lv_at hl 4 rfl) ?_
        obtain ⟨r113, ycost_113, hc113, h⟩ := bd2_some h
        refine ct_V (As := [.int (5 : Int32), .int a1, .int (1 : Int32), .int (a2 - a1), .int a3]) (rest := []) (st1 := [.int r113]) (wf := [(yo, .inr (6, [.int ylength, .ref vytext, .ref vyrules, .int ymany, .ref vylaid, .ref vykey, .ref vytag, .ref vyroomKey, .ref vyroomTag, .int yruns, .ref vyrunAt, .ref vyrunMany, .int ywaitAt, .int ywaitMany, .ref vycost, .ref vyhadKey, .ref vyhadTag, .ref vyhadAt, .ref vyhadMany, .ref vyhadCost, .int ya0, .int ya1, .int yb0, .int yb1, .int yforward, .int yout])), (vyrules, .inl (cA, 4, .inl yrules)), (vykey, .inl (cA, 96, .inl ykey)), (vyroomKey, .inl (cA, 96, .inl yroomKey)), (vycost, .inl (cA, 12, .inl ycost_113))]) (kX6_seeks l D cA F yo vytext vyrules vylaid vykey vytag vyroomKey vyroomTag vyrunAt vyrunMany vycost vyhadKey vyhadTag vyhadAt vyhadMany vyhadCost  ylength ymany yruns ywaitAt ywaitMany ya0 ya1 yb0 yb1 yforward yout yrules ykey yroomKey ycost (5 : Int32) a1 (1 : Int32) (a2 - a1) a3 r113 ycost_113 hc113) ⟨hx, hb, hml, hown, hts⟩ (cwV 5 hts gX6_seek_X6_seeks rfl rfl rfl (by decide +kernel) ⟨Nat.le_of_ble_eq_true rfl, Nat.le_of_ble_eq_true rfl⟩) hG hst hP hD hS hA 6 rfl rfl rfl [0, 1, 2, 3, 4] [] [0, 1, 2, 3, 4] rfl rfl rfl rfl rfl rfl hl.1 rfl rfl (Nat.le_of_ble_eq_true rfl) dX6_seek_113 ⟨Nat.zero_le _, Nat.zero_le _⟩ (fun H locs hP hD hS => ?_)
        refine lv_istore (lv' := [(6, .int r113), (5, .int (ycost (0 : Int32).toNatClampNeg)), (0, .ref yo), (1, .int a1), (2, .int a2), (3, .int a3), (4, .int a4)]) hx hb dX6_seek_116 hl (by decide) rfl (fun ls hl => ?_)
        refine lv_aload_n hx hb dX6_seek_118 rfl (lv_at hl 2 rfl) ?_
        refine va_get (D := D) (cl := vwCl) (ci := 6) (v := .ref vycost) (C := RX6) (T := TX6) (N := 26) hx hb hts hinX6 hown hG.1 hP 0 rfl rfl 14 (by decide) fl37 (fun _ h9 => h9) rfl dX6_seek_119 ?_
        refine lv_iconst (v := (0 : Int32)) hx hb dX6_seek_122 (by decide) ?_
        obtain ⟨hi123, h⟩ := ck_some h
        refine va_iald hx hb hG.1 hP 4 0 rfl rfl hi123 dX6_seek_123 ?_
        refine lv_iload hx hb dX6_seek_124 (lv_at hl 1 rfl) ?_
        refine lv_isub hx hb dX6_seek_126 ?_
        refine lv_istore (lv' := [(7, .int ((ycost_113 (0 : Int32).toNatClampNeg) - (ycost (0 : Int32).toNatClampNeg))), (6, .int r113), (5, .int (ycost (0 : Int32).toNatClampNeg)), (0, .ref yo), (1, .int a1), (2, .int a2), (3, .int a3), (4, .int a4)]) hx hb dX6_seek_127 hl (by decide) rfl (fun ls hl => ?_)
        refine lv_aload_n hx hb dX6_seek_129 rfl (lv_at hl 3 rfl) ?_
        refine va_get (D := D) (cl := vwCl) (ci := 6) (v := .ref vycost) (C := RX6) (T := TX6) (N := 26) hx hb hts hinX6 hown hG.1 hP 0 rfl rfl 14 (by decide) fl37 (fun _ h9 => h9) rfl dX6_seek_130 ?_
        refine lv_iconst (v := (0 : Int32)) hx hb dX6_seek_133 (by decide) ?_
        refine lv_iload hx hb dX6_seek_134 (lv_at hl 2 rfl) ?_
        obtain ⟨hi136, h⟩ := ck_some h
        refine va_iast hx hb hG.1 hP hD hS 4 0 rfl rfl hi136 dX6_seek_136 (fun H locs hP hD hS => ?_)
        have hP : va_P D vwCl [(yo, .inr (6, [.int ylength, .ref vytext, .ref vyrules, .int ymany, .ref vylaid, .ref vykey, .ref vytag, .ref vyroomKey, .ref vyroomTag, .int yruns, .ref vyrunAt, .ref vyrunMany, .int ywaitAt, .int ywaitMany, .ref vycost, .ref vyhadKey, .ref vyhadTag, .ref vyhadAt, .ref vyhadMany, .ref vyhadCost, .int ya0, .int ya1, .int yb0, .int yb1, .int yforward, .int yout])), (vyrules, .inl (cA, 4, .inl yrules)), (vykey, .inl (cA, 96, .inl ykey)), (vyroomKey, .inl (cA, 96, .inl yroomKey)), (vycost, .inl (cA, 12, .inl (upd ycost_113 (0 : Int32).toNatClampNeg (ycost (0 : Int32).toNatClampNeg))))] H := hP
        have hD : va_D A [(yo, .inr (6, [.int ylength, .ref vytext, .ref vyrules, .int ymany, .ref vylaid, .ref vykey, .ref vytag, .ref vyroomKey, .ref vyroomTag, .int yruns, .ref vyrunAt, .ref vyrunMany, .int ywaitAt, .int ywaitMany, .ref vycost, .ref vyhadKey, .ref vyhadTag, .ref vyhadAt, .ref vyhadMany, .ref vyhadCost, .int ya0, .int ya1, .int yb0, .int yb1, .int yforward, .int yout])), (vyrules, .inl (cA, 4, .inl yrules)), (vykey, .inl (cA, 96, .inl ykey)), (vyroomKey, .inl (cA, 96, .inl yroomKey)), (vycost, .inl (cA, 12, .inl (upd ycost_113 (0 : Int32).toNatClampNeg (ycost (0 : Int32).toNatClampNeg))))] := hD
        refine lv_iload hx hb dX6_seek_137 (lv_at hl 7 rfl) ?_
        refine lv_if_ne (tgt := 147) hx hb dX6_seek_139 (by decide) (fun c139 => ?_) (fun c139 => ?_)
        · have h := i_f c139 h
          refine lv_iload hx hb dX6_seek_147 (lv_at hl 0 rfl) ?_
          cases h
          exact rt_i hx hb hr hlocks hP hD hS dX6_seek_149
        · have h := i_t c139 h
          refine lv_iload hx hb dX6_seek_142 (lv_at hl 1 rfl) ?_
          refine lv_goto (tgt := 149) hx hb dX6_seek_144 (by decide) ?_
          cases h
          exact rt_i hx hb hr hlocks hP hD hS dX6_seek_149
      · have h := i_f c62 h
        refine lv_aload_n hx hb dX6_seek_65 rfl (lv_at hl 0 rfl) ?_
        refine lv_aload_n hx hb dX6_seek_66 rfl (lv_at hl 0 rfl) ?_
        refine va_get (D := D) (cl := vwCl) (ci := 6) (v := .ref vykey) (C := RX6) (T := TX6) (N := 26) hx hb hts hinX6 hown hG.1 hP 0 rfl rfl 5 (by decide) fl19 (fun _ h9 => h9) rfl dX6_seek_67 ?_
        refine lv_iload hx hb dX6_seek_70 (lv_at hl 5 rfl) ?_
        obtain ⟨hi72, h⟩ := ck_some h
        refine va_iald hx hb hG.1 hP 2 0 rfl rfl hi72 dX6_seek_72 ?_
        refine lv_aload_n hx hb dX6_seek_73 rfl (lv_at hl 0 rfl) ?_
        refine va_get (D := D) (cl := vwCl) (ci := 6) (v := .ref vykey) (C := RX6) (T := TX6) (N := 26) hx hb hts hinX6 hown hG.1 hP 0 rfl rfl 5 (by decide) fl19 (fun _ h9 => h9) rfl dX6_seek_74 ?_
        refine lv_iload hx hb dX6_seek_77 (lv_at hl 5 rfl) ?_
        refine lv_iconst (v := (1 : Int32)) hx hb dX6_seek_79 (by decide) ?_
        refine lv_isub hx hb dX6_seek_80 ?_
        obtain ⟨hi81, h⟩ := ck_some h
        refine va_iald hx hb hG.1 hP 2 0 rfl rfl hi81 dX6_seek_81 ?_
        obtain ⟨r82, hc82, h⟩ := bd1_some h
        refine ct_V (As := [.int (ykey x5.toNatClampNeg), .int (ykey (x5 - (1 : Int32)).toNatClampNeg)]) (rest := []) (st1 := [.int r82]) (wf := [(yo, .inr (6, [.int ylength, .ref vytext, .ref vyrules, .int ymany, .ref vylaid, .ref vykey, .ref vytag, .ref vyroomKey, .ref vyroomTag, .int yruns, .ref vyrunAt, .ref vyrunMany, .int ywaitAt, .int ywaitMany, .ref vycost, .ref vyhadKey, .ref vyhadTag, .ref vyhadAt, .ref vyhadMany, .ref vyhadCost, .int ya0, .int ya1, .int yb0, .int yb1, .int yforward, .int yout])), (vyrules, .inl (cA, 4, .inl yrules)), (vykey, .inl (cA, 96, .inl ykey)), (vyroomKey, .inl (cA, 96, .inl yroomKey)), (vycost, .inl (cA, 12, .inl ycost))]) (kX6_isLess l D cA F yo vytext vyrules vylaid vykey vytag vyroomKey vyroomTag vyrunAt vyrunMany vycost vyhadKey vyhadTag vyhadAt vyhadMany vyhadCost  ylength ymany yruns ywaitAt ywaitMany ya0 ya1 yb0 yb1 yforward yout yrules (ykey x5.toNatClampNeg) (ykey (x5 - (1 : Int32)).toNatClampNeg) r82 hc82) ⟨hx, hb, hml, hown, hts⟩ (cwV 2 hts gX6_seek_X6_isLess rfl rfl rfl (by decide +kernel) ⟨Nat.le_of_ble_eq_true rfl, Nat.le_of_ble_eq_true rfl⟩) hG hst hP hD hS hA 6 rfl rfl rfl [0, 1] [2, 3, 4] [3, 4, 0, 1, 2] rfl rfl rfl rfl rfl rfl hl.1 rfl rfl (Nat.le_of_ble_eq_true rfl) dX6_seek_82 ⟨Nat.zero_le _, Nat.zero_le _⟩ (fun H locs hP hD hS => ?_)
        refine lv_if_eq (tgt := 91) hx hb dX6_seek_85 (by decide) (fun c85 => ?_) (fun c85 => ?_)
        · have h := i_t c85 h
          refine lv_iinc (v := x5 + (1 : Int32)) (lv' := [(5, .int (x5 + (1 : Int32))), (0, .ref yo), (1, .int a1), (2, .int a2), (3, .int a3), (4, .int a4)]) hx hb dX6_seek_91 hl (k := 5) rfl (congrArg (fun z => x5 + z) (by decide)) (by decide) rfl (fun ls hl => ?_)
          refine lv_goto (tgt := 59) hx hb dX6_seek_94 (by decide) ?_
          exact ih59 (x5 + (1 : Int32)) ycost _ _ _ h hP hD hS (lv_sub hl [1, 2, 3, 4, 5, 0] rfl)
        · have h := i_f c85 h
          refine lv_bipush (v := (-2 : Int32)) hx hb dX6_seek_88 (by decide) ?_
          cases h
          exact rt_i hx hb hr hlocks hP hD hS dX6_seek_90
  unfold mX6_seek at h
  refine lv_iload_n hx hb dX6_seek_0 rfl (lv_at hl 1 rfl) ?_
  refine lv_i2l hx hb dX6_seek_1 rfl ?_
  refine lv_lconst (v := (0 : Int64)) hx hb dX6_seek_2 (by decide) ?_
  refine lv_aload_n hx hb dX6_seek_3 rfl (lv_at hl 0 rfl) ?_
  refine va_get (D := D) (cl := vwCl) (ci := 6) (v := .int ymany) (C := RX6) (T := TX6) (N := 26) hx hb hts hinX6 hown hG.1 hP 0 rfl rfl 3 (by decide) fl55 (fun _ h9 => h9) rfl dX6_seek_4 ?_
  refine lv_i2l hx hb dX6_seek_7 rfl ?_
  obtain ⟨r8, hc8, h⟩ := bd1_some h
  refine ct_S (As := [.long a1.toInt64, .long (0 : Int64), .long ymany.toInt64]) (rest := []) (st1 := [.int r8]) (wf := [(yo, .inr (6, [.int ylength, .ref vytext, .ref vyrules, .int ymany, .ref vylaid, .ref vykey, .ref vytag, .ref vyroomKey, .ref vyroomTag, .int yruns, .ref vyrunAt, .ref vyrunMany, .int ywaitAt, .int ywaitMany, .ref vycost, .ref vyhadKey, .ref vyhadTag, .ref vyhadAt, .ref vyhadMany, .ref vyhadCost, .int ya0, .int ya1, .int yb0, .int yb1, .int yforward, .int yout])), (vyrules, .inl (cA, 4, .inl yrules)), (vykey, .inl (cA, 96, .inl ykey)), (vyroomKey, .inl (cA, 96, .inl yroomKey)), (vycost, .inl (cA, 12, .inl ycost))]) (kX6_in l D cA F    a1.toInt64 (0 : Int64) ymany.toInt64 r8 hc8) ⟨hx, hb, hml, hown, hts⟩ (va_cwS 3 hts gX6_seek_X6_in rfl rfl rfl (by decide +kernel) ⟨Nat.le_of_ble_eq_true rfl, Nat.le_of_ble_eq_true rfl⟩) hG hst hP hD hS hA [] [0, 1, 2, 3, 4] [0, 1, 2, 3, 4] rfl rfl rfl rfl rfl rfl hl.1 rfl rfl (Nat.le_of_ble_eq_true rfl) dX6_seek_8 ⟨Nat.zero_le _, Nat.zero_le _⟩ (fun H locs hP hD hS => ?_)
  refine lv_if_eq (tgt := 52) hx hb dX6_seek_11 (by decide) (fun c11 => ?_) (fun c11 => ?_)
  · have h := i_t c11 h
    refine lv_iconst (v := (-1 : Int32)) hx hb dX6_seek_52 (by decide) ?_
    cases h
    exact rt_i hx hb hr hlocks hP hD hS dX6_seek_53
  · have h := i_f c11 h
    refine lv_iload_n hx hb dX6_seek_14 rfl (lv_at hl 2 rfl) ?_
    refine lv_i2l hx hb dX6_seek_15 rfl ?_
    refine lv_iload_n hx hb dX6_seek_16 rfl (lv_at hl 1 rfl) ?_
    refine lv_i2l hx hb dX6_seek_17 rfl ?_
    refine lv_aload_n hx hb dX6_seek_18 rfl (lv_at hl 0 rfl) ?_
    refine va_get (D := D) (cl := vwCl) (ci := 6) (v := .int ymany) (C := RX6) (T := TX6) (N := 26) hx hb hts hinX6 hown hG.1 hP 0 rfl rfl 3 (by decide) fl55 (fun _ h9 => h9) rfl dX6_seek_19 ?_
    refine lv_i2l hx hb dX6_seek_22 rfl ?_
    obtain ⟨r23, hc23, h⟩ := bd1_some h
    refine ct_S (As := [.long a2.toInt64, .long a1.toInt64, .long ymany.toInt64]) (rest := []) (st1 := [.int r23]) (wf := [(yo, .inr (6, [.int ylength, .ref vytext, .ref vyrules, .int ymany, .ref vylaid, .ref vykey, .ref vytag, .ref vyroomKey, .ref vyroomTag, .int yruns, .ref vyrunAt, .ref vyrunMany, .int ywaitAt, .int ywaitMany, .ref vycost, .ref vyhadKey, .ref vyhadTag, .ref vyhadAt, .ref vyhadMany, .ref vyhadCost, .int ya0, .int ya1, .int yb0, .int yb1, .int yforward, .int yout])), (vyrules, .inl (cA, 4, .inl yrules)), (vykey, .inl (cA, 96, .inl ykey)), (vyroomKey, .inl (cA, 96, .inl yroomKey)), (vycost, .inl (cA, 12, .inl ycost))]) (kX6_in l D cA F    a2.toInt64 a1.toInt64 ymany.toInt64 r23 hc23) ⟨hx, hb, hml, hown, hts⟩ (va_cwS 3 hts gX6_seek_X6_in rfl rfl rfl (by decide +kernel) ⟨Nat.le_of_ble_eq_true rfl, Nat.le_of_ble_eq_true rfl⟩) hG hst hP hD hS hA [] [0, 1, 2, 3, 4] [0, 1, 2, 3, 4] rfl rfl rfl rfl rfl rfl hl.1 rfl rfl (Nat.le_of_ble_eq_true rfl) dX6_seek_23 ⟨Nat.zero_le _, Nat.zero_le _⟩ (fun H locs hP hD hS => ?_)
    refine lv_if_eq (tgt := 52) hx hb dX6_seek_26 (by decide) (fun c26 => ?_) (fun c26 => ?_)
    · have h := i_t c26 h
      refine lv_iconst (v := (-1 : Int32)) hx hb dX6_seek_52 (by decide) ?_
      cases h
      exact rt_i hx hb hr hlocks hP hD hS dX6_seek_53
    · have h := i_f c26 h
      refine lv_iload_n hx hb dX6_seek_29 rfl (lv_at hl 3 rfl) ?_
      refine lv_i2l hx hb dX6_seek_30 rfl ?_
      refine lv_lconst (v := (0 : Int64)) hx hb dX6_seek_31 (by decide) ?_
      refine lv_ldc2 (v := (25 : Int64)) hx hb hown (hts (.constantLong RX6 100 (25)) (by decide +kernel)) dX6_seek_32 ?_
      obtain ⟨r35, hc35, h⟩ := bd1_some h
      refine ct_S (As := [.long a3.toInt64, .long (0 : Int64), .long (25 : Int64)]) (rest := []) (st1 := [.int r35]) (wf := [(yo, .inr (6, [.int ylength, .ref vytext, .ref vyrules, .int ymany, .ref vylaid, .ref vykey, .ref vytag, .ref vyroomKey, .ref vyroomTag, .int yruns, .ref vyrunAt, .ref vyrunMany, .int ywaitAt, .int ywaitMany, .ref vycost, .ref vyhadKey, .ref vyhadTag, .ref vyhadAt, .ref vyhadMany, .ref vyhadCost, .int ya0, .int ya1, .int yb0, .int yb1, .int yforward, .int yout])), (vyrules, .inl (cA, 4, .inl yrules)), (vykey, .inl (cA, 96, .inl ykey)), (vyroomKey, .inl (cA, 96, .inl yroomKey)), (vycost, .inl (cA, 12, .inl ycost))]) (kX6_in l D cA F    a3.toInt64 (0 : Int64) (25 : Int64) r35 hc35) ⟨hx, hb, hml, hown, hts⟩ (va_cwS 3 hts gX6_seek_X6_in rfl rfl rfl (by decide +kernel) ⟨Nat.le_of_ble_eq_true rfl, Nat.le_of_ble_eq_true rfl⟩) hG hst hP hD hS hA [] [0, 1, 2, 3, 4] [0, 1, 2, 3, 4] rfl rfl rfl rfl rfl rfl hl.1 rfl rfl (Nat.le_of_ble_eq_true rfl) dX6_seek_35 ⟨Nat.zero_le _, Nat.zero_le _⟩ (fun H locs hP hD hS => ?_)
      refine lv_if_eq (tgt := 52) hx hb dX6_seek_38 (by decide) (fun c38 => ?_) (fun c38 => ?_)
      · have h := i_t c38 h
        refine lv_iconst (v := (-1 : Int32)) hx hb dX6_seek_52 (by decide) ?_
        cases h
        exact rt_i hx hb hr hlocks hP hD hS dX6_seek_53
      · have h := i_f c38 h
        refine lv_iload hx hb dX6_seek_41 (lv_at hl 4 rfl) ?_
        refine lv_i2l hx hb dX6_seek_43 rfl ?_
        refine lv_lconst (v := (0 : Int64)) hx hb dX6_seek_44 (by decide) ?_
        refine lv_lconst (v := (1 : Int64)) hx hb dX6_seek_45 (by decide) ?_
        obtain ⟨r46, hc46, h⟩ := bd1_some h
        refine ct_S (As := [.long a4.toInt64, .long (0 : Int64), .long (1 : Int64)]) (rest := []) (st1 := [.int r46]) (wf := [(yo, .inr (6, [.int ylength, .ref vytext, .ref vyrules, .int ymany, .ref vylaid, .ref vykey, .ref vytag, .ref vyroomKey, .ref vyroomTag, .int yruns, .ref vyrunAt, .ref vyrunMany, .int ywaitAt, .int ywaitMany, .ref vycost, .ref vyhadKey, .ref vyhadTag, .ref vyhadAt, .ref vyhadMany, .ref vyhadCost, .int ya0, .int ya1, .int yb0, .int yb1, .int yforward, .int yout])), (vyrules, .inl (cA, 4, .inl yrules)), (vykey, .inl (cA, 96, .inl ykey)), (vyroomKey, .inl (cA, 96, .inl yroomKey)), (vycost, .inl (cA, 12, .inl ycost))]) (kX6_in l D cA F    a4.toInt64 (0 : Int64) (1 : Int64) r46 hc46) ⟨hx, hb, hml, hown, hts⟩ (va_cwS 3 hts gX6_seek_X6_in rfl rfl rfl (by decide +kernel) ⟨Nat.le_of_ble_eq_true rfl, Nat.le_of_ble_eq_true rfl⟩) hG hst hP hD hS hA [] [0, 1, 2, 3, 4] [0, 1, 2, 3, 4] rfl rfl rfl rfl rfl rfl hl.1 rfl rfl (Nat.le_of_ble_eq_true rfl) dX6_seek_46 ⟨Nat.zero_le _, Nat.zero_le _⟩ (fun H locs hP hD hS => ?_)
        refine lv_if_ne (tgt := 54) hx hb dX6_seek_49 (by decide) (fun c49 => ?_) (fun c49 => ?_)
        · have h := i_f c49 h
          refine lv_iload_n hx hb dX6_seek_54 rfl (lv_at hl 1 rfl) ?_
          refine lv_iconst (v := (1 : Int32)) hx hb dX6_seek_55 (by decide) ?_
          refine lv_iadd hx hb dX6_seek_56 ?_
          refine lv_istore (lv' := [(5, .int (a1 + (1 : Int32))), (0, .ref yo), (1, .int a1), (2, .int a2), (3, .int a3), (4, .int a4)]) hx hb dX6_seek_57 hl (by decide) rfl (fun ls hl => ?_)
          exact hmX6_seek_59 F (a1 + (1 : Int32)) ycost _ _ _ h hP hD hS (lv_sub hl [1, 2, 3, 4, 5, 0] rfl)
        · have h := i_t c49 h
          refine lv_iconst (v := (-1 : Int32)) hx hb dX6_seek_52 (by decide) ?_
          cases h
          exact rt_i hx hb hr hlocks hP hD hS dX6_seek_53
set_option maxHeartbeats 4000000 in
set_option maxRecDepth 100000 in
theorem kX6_count (l : Launch) (D : va_G) (cA : ClassId) (F : Nat) (yo : Nat) (vytext : Nat) (vyrules : Nat) (vylaid : Nat) (vykey : Nat) (vytag : Nat) (vyroomKey : Nat) (vyroomTag : Nat) (vyrunAt : Nat) (vyrunMany : Nat) (vycost : Nat) (vyhadKey : Nat) (vyhadTag : Nat) (vyhadAt : Nat) (vyhadMany : Nat) (vyhadCost : Nat) (ylength : Int32) (ymany : Int32) (yruns : Int32) (ywaitAt : Int32) (ywaitMany : Int32) (ya0 : Int32) (ya1 : Int32) (yb0 : Int32) (yb1 : Int32) (yforward : Int32) (yout : Int32) (yrules : (Nat → Int32)) (yrunAt : (Nat → Int32)) (yrunMany : (Nat → Int32)) (a1 : Int32) (r0 : Int32) (h : mX6_count F ylength ymany yruns ywaitMany yrules yrunAt yrunMany a1 = some r0) : Ct l yX6_count wsX6_count ({ frames := 3, cells := 0, slots := 0, locals := 69 }) D cA [.ref yo, .int a1] [(yo, .inr (6, [.int ylength, .ref vytext, .ref vyrules, .int ymany, .ref vylaid, .ref vykey, .ref vytag, .ref vyroomKey, .ref vyroomTag, .int yruns, .ref vyrunAt, .ref vyrunMany, .int ywaitAt, .int ywaitMany, .ref vycost, .ref vyhadKey, .ref vyhadTag, .ref vyhadAt, .ref vyhadMany, .ref vyhadCost, .int ya0, .int ya1, .int yb0, .int yb1, .int yforward, .int yout])), (vyrules, .inl (cA, 4, .inl yrules)), (vyrunAt, .inl (cA, 96, .inl yrunAt)), (vyrunMany, .inl (cA, 96, .inl yrunMany))] [(yo, .inr (6, [.int ylength, .ref vytext, .ref vyrules, .int ymany, .ref vylaid, .ref vykey, .ref vytag, .ref vyroomKey, .ref vyroomTag, .int yruns, .ref vyrunAt, .ref vyrunMany, .int ywaitAt, .int ywaitMany, .ref vycost, .ref vyhadKey, .ref vyhadTag, .ref vyhadAt, .ref vyhadMany, .ref vyhadCost, .int ya0, .int ya1, .int yb0, .int yb1, .int yforward, .int yout])), (vyrules, .inl (cA, 4, .inl yrules)), (vyrunAt, .inl (cA, 96, .inl yrunAt)), (vyrunMany, .inl (cA, 96, .inl yrunMany))] (some (.int r0)) := by
  refine Ct.of (cc := cX6_count) (maxL := 2) (ret := (some .int)) (by decide) rfl (Nat.le_of_ble_eq_true rfl) ?_
  intro p e s m below meth c A ls hcx hG hst hA hP hD hl
  obtain ⟨hx, hb, hml, hown, hts, hr, hlocks⟩ := id hcx
  have hown : s.vm.findClass RX6 = some m.cls := hown
  have hS : va_S A s.heap s.heap [] := va_S.rf
  have hl : lv_has ls 2 [(0, .ref yo), (1, .int a1)] := hl
  have hinX6 : ∀ w ∈ u_ws RX6 TX6 26, w ∈ wsX6_count := by decide +kernel
  have fl55 := hts (.fieldLink RX6 55 "RunSorterModel" "many" "I") (by decide +kernel)
  have fl13 := hts (.fieldLink RX6 13 "RunSorterModel" "rules" "[I") (by decide +kernel)
  have fl70 := hts (.fieldLink RX6 70 "RunSorterModel" "length" "I") (by decide +kernel)
  unfold mX6_count at h
  refine lv_iload_n hx hb dX6_count_0 rfl (lv_at hl 1 rfl) ?_
  by_cases c1_0 : a1 = (0 : Int32)
  · have h := i_t c1_0 h
    refine lv_tableIn (tgt := 48) hx hb dX6_count_1 (by rw [c1_0]; decide) (by rw [c1_0]; decide) (by rw [c1_0]; rfl) (by decide) ?_
    refine lv_aload_n hx hb dX6_count_48 rfl (lv_at hl 0 rfl) ?_
    refine va_get (D := D) (cl := vwCl) (ci := 6) (v := .int ymany) (C := RX6) (T := TX6) (N := 26) hx hb hts hinX6 hown hG.1 hP 0 rfl rfl 3 (by decide) fl55 (fun _ h9 => h9) rfl dX6_count_49 ?_
    cases h
    exact rt_i hx hb hr hlocks hP hD hS dX6_count_52
  have h := i_f c1_0 h
  by_cases c1_1 : a1 = (1 : Int32)
  · have h := i_t c1_1 h
    refine lv_tableIn (tgt := 53) hx hb dX6_count_1 (by rw [c1_1]; decide) (by rw [c1_1]; decide) (by rw [c1_1]; rfl) (by decide) ?_
    refine lv_aload_n hx hb dX6_count_53 rfl (lv_at hl 0 rfl) ?_
    refine va_get (D := D) (cl := vwCl) (ci := 6) (v := .ref vyrules) (C := RX6) (T := TX6) (N := 26) hx hb hts hinX6 hown hG.1 hP 0 rfl rfl 2 (by decide) fl13 (fun _ h9 => h9) rfl dX6_count_54 ?_
    refine lv_iload_n hx hb dX6_count_57 rfl (lv_at hl 1 rfl) ?_
    refine lv_iconst (v := (1 : Int32)) hx hb dX6_count_58 (by decide) ?_
    refine lv_isub hx hb dX6_count_59 ?_
    obtain ⟨hi60, h⟩ := ck_some h
    refine va_iald hx hb hG.1 hP 1 0 rfl rfl hi60 dX6_count_60 ?_
    cases h
    exact rt_i hx hb hr hlocks hP hD hS dX6_count_61
  have h := i_f c1_1 h
  by_cases c1_2 : a1 = (2 : Int32)
  · have h := i_t c1_2 h
    refine lv_tableIn (tgt := 53) hx hb dX6_count_1 (by rw [c1_2]; decide) (by rw [c1_2]; decide) (by rw [c1_2]; rfl) (by decide) ?_
    refine lv_aload_n hx hb dX6_count_53 rfl (lv_at hl 0 rfl) ?_
    refine va_get (D := D) (cl := vwCl) (ci := 6) (v := .ref vyrules) (C := RX6) (T := TX6) (N := 26) hx hb hts hinX6 hown hG.1 hP 0 rfl rfl 2 (by decide) fl13 (fun _ h9 => h9) rfl dX6_count_54 ?_
    refine lv_iload_n hx hb dX6_count_57 rfl (lv_at hl 1 rfl) ?_
    refine lv_iconst (v := (1 : Int32)) hx hb dX6_count_58 (by decide) ?_
    refine lv_isub hx hb dX6_count_59 ?_
    obtain ⟨hi60, h⟩ := ck_some h
    refine va_iald hx hb hG.1 hP 1 0 rfl rfl hi60 dX6_count_60 ?_
    cases h
    exact rt_i hx hb hr hlocks hP hD hS dX6_count_61
  have h := i_f c1_2 h
  by_cases c1_3 : a1 = (3 : Int32)
  · have h := i_t c1_3 h
    refine lv_tableIn (tgt := 53) hx hb dX6_count_1 (by rw [c1_3]; decide) (by rw [c1_3]; decide) (by rw [c1_3]; rfl) (by decide) ?_
    refine lv_aload_n hx hb dX6_count_53 rfl (lv_at hl 0 rfl) ?_
    refine va_get (D := D) (cl := vwCl) (ci := 6) (v := .ref vyrules) (C := RX6) (T := TX6) (N := 26) hx hb hts hinX6 hown hG.1 hP 0 rfl rfl 2 (by decide) fl13 (fun _ h9 => h9) rfl dX6_count_54 ?_
    refine lv_iload_n hx hb dX6_count_57 rfl (lv_at hl 1 rfl) ?_
    refine lv_iconst (v := (1 : Int32)) hx hb dX6_count_58 (by decide) ?_
    refine lv_isub hx hb dX6_count_59 ?_
    obtain ⟨hi60, h⟩ := ck_some h
    refine va_iald hx hb hG.1 hP 1 0 rfl rfl hi60 dX6_count_60 ?_
    cases h
    exact rt_i hx hb hr hlocks hP hD hS dX6_count_61
  have h := i_f c1_3 h
  by_cases c1_4 : a1 = (4 : Int32)
  · have h := i_t c1_4 h
    refine lv_tableIn (tgt := 53) hx hb dX6_count_1 (by rw [c1_4]; decide) (by rw [c1_4]; decide) (by rw [c1_4]; rfl) (by decide) ?_
    refine lv_aload_n hx hb dX6_count_53 rfl (lv_at hl 0 rfl) ?_
    refine va_get (D := D) (cl := vwCl) (ci := 6) (v := .ref vyrules) (C := RX6) (T := TX6) (N := 26) hx hb hts hinX6 hown hG.1 hP 0 rfl rfl 2 (by decide) fl13 (fun _ h9 => h9) rfl dX6_count_54 ?_
    refine lv_iload_n hx hb dX6_count_57 rfl (lv_at hl 1 rfl) ?_
    refine lv_iconst (v := (1 : Int32)) hx hb dX6_count_58 (by decide) ?_
    refine lv_isub hx hb dX6_count_59 ?_
    obtain ⟨hi60, h⟩ := ck_some h
    refine va_iald hx hb hG.1 hP 1 0 rfl rfl hi60 dX6_count_60 ?_
    cases h
    exact rt_i hx hb hr hlocks hP hD hS dX6_count_61
  have h := i_f c1_4 h
  by_cases c1_5 : a1 = (5 : Int32)
  · have h := i_t c1_5 h
    refine lv_tableIn (tgt := 62) hx hb dX6_count_1 (by rw [c1_5]; decide) (by rw [c1_5]; decide) (by rw [c1_5]; rfl) (by decide) ?_
    refine lv_aload_n hx hb dX6_count_62 rfl (lv_at hl 0 rfl) ?_
    refine va_get (D := D) (cl := vwCl) (ci := 6) (v := .int ylength) (C := RX6) (T := TX6) (N := 26) hx hb hts hinX6 hown hG.1 hP 0 rfl rfl 0 (by decide) fl70 (fun _ h9 => h9) rfl dX6_count_63 ?_
    cases h
    exact rt_i hx hb hr hlocks hP hD hS dX6_count_66
  have h := i_f c1_5 h
  by_cases c1_6 : a1 = (6 : Int32)
  · have h := i_t c1_6 h
    refine lv_tableIn (tgt := 67) hx hb dX6_count_1 (by rw [c1_6]; decide) (by rw [c1_6]; decide) (by rw [c1_6]; rfl) (by decide) ?_
    refine lv_aload_n hx hb dX6_count_67 rfl (lv_at hl 0 rfl) ?_
    obtain ⟨r68, hc68, h⟩ := bd1_some h
    refine ct_V (As := []) (rest := []) (st1 := [.int r68]) (wf := [(yo, .inr (6, [.int ylength, .ref vytext, .ref vyrules, .int ymany, .ref vylaid, .ref vykey, .ref vytag, .ref vyroomKey, .ref vyroomTag, .int yruns, .ref vyrunAt, .ref vyrunMany, .int ywaitAt, .int ywaitMany, .ref vycost, .ref vyhadKey, .ref vyhadTag, .ref vyhadAt, .ref vyhadMany, .ref vyhadCost, .int ya0, .int ya1, .int yb0, .int yb1, .int yforward, .int yout])), (vyrules, .inl (cA, 4, .inl yrules)), (vyrunAt, .inl (cA, 96, .inl yrunAt)), (vyrunMany, .inl (cA, 96, .inl yrunMany))]) (kX6_inRuns l D cA F yo vytext vyrules vylaid vykey vytag vyroomKey vyroomTag vyrunAt vyrunMany vycost vyhadKey vyhadTag vyhadAt vyhadMany vyhadCost  ylength ymany yruns ywaitAt ywaitMany ya0 ya1 yb0 yb1 yforward yout yrunMany  r68 hc68) ⟨hx, hb, hml, hown, hts⟩ (cwV 0 hts gX6_count_X6_inRuns rfl rfl rfl (by decide +kernel) ⟨Nat.le_of_ble_eq_true rfl, Nat.le_of_ble_eq_true rfl⟩) hG hst hP hD hS hA 6 rfl rfl rfl [0, 3] [1, 2] [2, 0, 1, 3] rfl rfl rfl rfl rfl rfl hl.1 rfl rfl (Nat.le_of_ble_eq_true rfl) dX6_count_68 ⟨Nat.zero_le _, Nat.zero_le _⟩ (fun H locs hP hD hS => ?_)
    cases h
    exact rt_i hx hb hr hlocks hP hD hS dX6_count_71
  have h := i_f c1_6 h
  by_cases c1_7 : a1 = (7 : Int32)
  · have h := i_t c1_7 h
    refine lv_tableIn (tgt := 72) hx hb dX6_count_1 (by rw [c1_7]; decide) (by rw [c1_7]; decide) (by rw [c1_7]; rfl) (by decide) ?_
    refine lv_aload_n hx hb dX6_count_72 rfl (lv_at hl 0 rfl) ?_
    obtain ⟨r73, hc73, h⟩ := bd1_some h
    refine ct_V (As := []) (rest := []) (st1 := [.int r73]) (wf := [(yo, .inr (6, [.int ylength, .ref vytext, .ref vyrules, .int ymany, .ref vylaid, .ref vykey, .ref vytag, .ref vyroomKey, .ref vyroomTag, .int yruns, .ref vyrunAt, .ref vyrunMany, .int ywaitAt, .int ywaitMany, .ref vycost, .ref vyhadKey, .ref vyhadTag, .ref vyhadAt, .ref vyhadMany, .ref vyhadCost, .int ya0, .int ya1, .int yb0, .int yb1, .int yforward, .int yout])), (vyrules, .inl (cA, 4, .inl yrules)), (vyrunAt, .inl (cA, 96, .inl yrunAt)), (vyrunMany, .inl (cA, 96, .inl yrunMany))]) (kX6_next l D cA F yo vytext vyrules vylaid vykey vytag vyroomKey vyroomTag vyrunAt vyrunMany vycost vyhadKey vyhadTag vyhadAt vyhadMany vyhadCost  ylength ymany yruns ywaitAt ywaitMany ya0 ya1 yb0 yb1 yforward yout yrules yrunAt yrunMany  r73 hc73) ⟨hx, hb, hml, hown, hts⟩ (cwV 0 hts gX6_count_X6_next rfl rfl rfl (by decide +kernel) ⟨Nat.le_of_ble_eq_true rfl, Nat.le_of_ble_eq_true rfl⟩) hG hst hP hD hS hA 6 rfl rfl rfl [0, 1, 2, 3] [] [0, 1, 2, 3] rfl rfl rfl rfl rfl rfl hl.1 rfl rfl (Nat.le_of_ble_eq_true rfl) dX6_count_73 ⟨Nat.zero_le _, Nat.zero_le _⟩ (fun H locs hP hD hS => ?_)
    refine lv_if_ne (tgt := 83) hx hb dX6_count_76 (by decide) (fun c76 => ?_) (fun c76 => ?_)
    · have h := i_f c76 h
      refine lv_iconst (v := (0 : Int32)) hx hb dX6_count_83 (by decide) ?_
      cases h
      exact rt_i hx hb hr hlocks hP hD hS dX6_count_84
    · have h := i_t c76 h
      refine lv_iconst (v := (1 : Int32)) hx hb dX6_count_79 (by decide) ?_
      refine lv_goto (tgt := 84) hx hb dX6_count_80 (by decide) ?_
      cases h
      exact rt_i hx hb hr hlocks hP hD hS dX6_count_84
  have h := i_f c1_7 h
  have q1_0 := lv_neT c1_0 (a := 0) (by decide)
  have q1_1 := lv_neT c1_1 (a := 1) (by decide)
  have q1_2 := lv_neT c1_2 (a := 2) (by decide)
  have q1_3 := lv_neT c1_3 (a := 3) (by decide)
  have q1_4 := lv_neT c1_4 (a := 4) (by decide)
  have q1_5 := lv_neT c1_5 (a := 5) (by decide)
  have q1_6 := lv_neT c1_6 (a := 6) (by decide)
  have q1_7 := lv_neT c1_7 (a := 7) (by decide)
  refine lv_tableOut (tgt := 85) hx hb dX6_count_1 (by omega) (by decide) ?_
  refine lv_iconst (v := (-1 : Int32)) hx hb dX6_count_85 (by decide) ?_
  cases h
  exact rt_i hx hb hr hlocks hP hD hS dX6_count_86
