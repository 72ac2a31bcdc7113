/-! contracts, by program (wip/whole/gen.py) -/
set_option maxHeartbeats 4000000 in
set_option maxRecDepth 100000 in
theorem kX6_find (l : Launch) (D : va_G) (cA : ClassId) (F : Nat) (yo : Nat) (vytext : Nat) (vyrules : Nat) (vylaid : Nat) (vykey : Nat) (vytag : Nat) (vyroomKey : Nat) (vyroomTag : Nat) (vyrunAt : Nat) (vyrunMany : Nat) (vycost : Nat) (vyhadKey : Nat) (vyhadTag : Nat) (vyhadAt : Nat) (vyhadMany : Nat) (vyhadCost : Nat) (ylength : Int32) (ymany : Int32) (yruns : Int32) (ywaitAt : Int32) (ywaitMany : Int32) (ya0 : Int32) (ya1 : Int32) (yb0 : Int32) (yb1 : Int32) (yforward : Int32) (yout : Int32) (yrules : (Nat → Int32)) (ykey : (Nat → Int32)) (ytag : (Nat → Int32)) (yrunMany : (Nat → Int32)) (ycost : (Nat → Int32)) (ywaitAt_9 : Int32) (ywaitMany_9 : Int32) (ykey_9 : (Nat → Int32)) (ytag_9 : (Nat → Int32)) (ycost_9 : (Nat → Int32)) (h : mX6_find F ymany yruns ywaitAt ywaitMany yrules ykey ytag yrunMany ycost = some (ywaitAt_9, ywaitMany_9, ykey_9, ytag_9, ycost_9)) : Ct l yX6_find wsX6_find ({ frames := 4, cells := 0, slots := 0, locals := 92 }) D cA [.ref yo] [(yo, .inr (6, [.int ylength, .ref vytext, .ref vyrules, .int ymany, .ref vylaid, .ref vykey, .ref vytag, .ref vyroomKey, .ref vyroomTag, .int yruns, .ref vyrunAt, .ref vyrunMany, .int ywaitAt, .int ywaitMany, .ref vycost, .ref vyhadKey, .ref vyhadTag, .ref vyhadAt, .ref vyhadMany, .ref vyhadCost, .int ya0, .int ya1, .int yb0, .int yb1, .int yforward, .int yout])), (vyrules, .inl (cA, 4, .inl yrules)), (vykey, .inl (cA, 96, .inl ykey)), (vytag, .inl (cA, 96, .inl ytag)), (vyrunMany, .inl (cA, 96, .inl yrunMany)), (vycost, .inl (cA, 12, .inl ycost))] [(yo, .inr (6, [.int ylength, .ref vytext, .ref vyrules, .int ymany, .ref vylaid, .ref vykey, .ref vytag, .ref vyroomKey, .ref vyroomTag, .int yruns, .ref vyrunAt, .ref vyrunMany, .int ywaitAt_9, .int ywaitMany_9, .ref vycost, .ref vyhadKey, .ref vyhadTag, .ref vyhadAt, .ref vyhadMany, .ref vyhadCost, .int ya0, .int ya1, .int yb0, .int yb1, .int yforward, .int yout])), (vyrules, .inl (cA, 4, .inl yrules)), (vykey, .inl (cA, 96, .inl ykey_9)), (vytag, .inl (cA, 96, .inl ytag_9)), (vyrunMany, .inl (cA, 96, .inl yrunMany)), (vycost, .inl (cA, 12, .inl ycost_9))] (none) := by
  refine Ct.of (cc := cX6_find) (maxL := 4) (ret := none) (by decide) rfl (Nat.le_of_ble_eq_true rfl) ?_
  intro p e s m below meth c A ls hcx hG hst hA hP hD hl
  obtain ⟨hx, hb, hml, hown, hts, hr, hlocks⟩ := id hcx
  have hown : s.vm.findClass RX6 = some m.cls := hown
  have hS : va_S A s.heap s.heap [] := va_S.rf
  have hl : lv_has ls 4 [(0, .ref yo)] := hl
  have hinX6 : ∀ w ∈ u_ws RX6 TX6 26, w ∈ wsX6_find := by decide +kernel
  have fl55 := hts (.fieldLink RX6 55 "RunSorterModel" "many" "I") (by decide +kernel)
  have fl19 := hts (.fieldLink RX6 19 "RunSorterModel" "key" "[I") (by decide +kernel)
  have fl84 := hts (.fieldLink RX6 84 "RunSorterModel" "waitAt" "I") (by decide +kernel)
  have fl87 := hts (.fieldLink RX6 87 "RunSorterModel" "waitMany" "I") (by decide +kernel)
  have fl13 := hts (.fieldLink RX6 13 "RunSorterModel" "rules" "[I") (by decide +kernel)
  have fl37 := hts (.fieldLink RX6 37 "RunSorterModel" "cost" "[I") (by decide +kernel)
  have hmX6_find_155 : ∀ (x1 : Int32) (x2 : Int32) (ywaitAt : Int32) (ywaitMany : Int32) (ykey : (Nat → Int32)) (ytag : (Nat → Int32)) (ycost : (Nat → Int32)) (H : Heap) (locs : List Loc) (ls : Array Slot), mX6_find_155 F x1 x2 ywaitAt ywaitMany ykey ytag ycost = some (ywaitAt_9, ywaitMany_9, ykey_9, ytag_9, ycost_9) → va_P D vwCl [(yo, .inr (6, [.int ylength, .ref vytext, .ref vyrules, .int ymany, .ref vylaid, .ref vykey, .ref vytag, .ref vyroomKey, .ref vyroomTag, .int yruns, .ref vyrunAt, .ref vyrunMany, .int ywaitAt, .int ywaitMany, .ref vycost, .ref vyhadKey, .ref vyhadTag, .ref vyhadAt, .ref vyhadMany, .ref vyhadCost, .int ya0, .int ya1, .int yb0, .int yb1, .int yforward, .int yout])), (vyrules, .inl (cA, 4, .inl yrules)), (vykey, .inl (cA, 96, .inl ykey)), (vytag, .inl (cA, 96, .inl ytag)), (vyrunMany, .inl (cA, 96, .inl yrunMany)), (vycost, .inl (cA, 12, .inl ycost))] H → va_D A [(yo, .inr (6, [.int ylength, .ref vytext, .ref vyrules, .int ymany, .ref vylaid, .ref vykey, .ref vytag, .ref vyroomKey, .ref vyroomTag, .int yruns, .ref vyrunAt, .ref vyrunMany, .int ywaitAt, .int ywaitMany, .ref vycost, .ref vyhadKey, .ref vyhadTag, .ref vyhadAt, .ref vyhadMany, .ref vyhadCost, .int ya0, .int ya1, .int yb0, .int yb1, .int yforward, .int yout])), (vyrules, .inl (cA, 4, .inl yrules)), (vykey, .inl (cA, 96, .inl ykey)), (vytag, .inl (cA, 96, .inl ytag)), (vyrunMany, .inl (cA, 96, .inl yrunMany)), (vycost, .inl (cA, 12, .inl ycost))] → va_S A s.heap H locs → lv_has ls 4 [(0, .ref yo), (1, .int x1), (2, .int x2)] → W p l e ({ frames := 4, cells := 0, slots := 0, locals := 92 }) s m ([.ref yo] : List Value).toArray below meth c H locs 0 0 (MQ below (Qw D A [(yo, .inr (6, [.int ylength, .ref vytext, .ref vyrules, .int ymany, .ref vylaid, .ref vykey, .ref vytag, .ref vyroomKey, .ref vyroomTag, .int yruns, .ref vyrunAt, .ref vyrunMany, .int ywaitAt_9, .int ywaitMany_9, .ref vycost, .ref vyhadKey, .ref vyhadTag, .ref vyhadAt, .ref vyhadMany, .ref vyhadCost, .int ya0, .int ya1, .int yb0, .int yb1, .int yforward, .int yout])), (vyrules, .inl (cA, 4, .inl yrules)), (vykey, .inl (cA, 96, .inl ykey_9)), (vytag, .inl (cA, 96, .inl ytag_9)), (vyrunMany, .inl (cA, 96, .inl yrunMany)), (vycost, .inl (cA, 12, .inl ycost_9))] (none)) ([.ref yo] : List Value).toArray s 0 0 A) (F0 m 155 ls []) := by
    intro x1 x2 ywaitAt ywaitMany ykey ytag ycost H locs ls h hP hD hS hl
    unfold mX6_find_155 at h
    refine lv_aload_n hx hb dX6_find_155 rfl (lv_at hl 0 rfl) ?_
    refine lv_iload_n hx hb dX6_find_156 rfl (lv_at hl 1 rfl) ?_
    refine va_put (D := D) (cl := vwCl) (ci := 6) (v := .int x1) (ty := .int) (C := RX6) (T := TX6) (N := 26) hx hb hts hinX6 tyX6 tyX6_ok nmX6 hown hG.1 hP hD hS 0 rfl rfl 12 (by decide) fl84 (fun _ h9 => h9) rfl (by decide +kernel) rfl rfl (Nat.le_of_ble_eq_true rfl) dX6_find_157 (fun H locs hP hD hS => ?_)
    have hP : va_P D vwCl [(yo, .inr (6, [.int ylength, .ref vytext, .ref vyrules, .int ymany, .ref vylaid, .ref vykey, .ref vytag, .ref vyroomKey, .ref vyroomTag, .int yruns, .ref vyrunAt, .ref vyrunMany, .int x1, .int ywaitMany, .ref vycost, .ref vyhadKey, .ref vyhadTag, .ref vyhadAt, .ref vyhadMany, .ref vyhadCost, .int ya0, .int ya1, .int yb0, .int yb1, .int yforward, .int yout])), (vyrules, .inl (cA, 4, .inl yrules)), (vykey, .inl (cA, 96, .inl ykey)), (vytag, .inl (cA, 96, .inl ytag)), (vyrunMany, .inl (cA, 96, .inl yrunMany)), (vycost, .inl (cA, 12, .inl ycost))] H := hP
    have hD : va_D A [(yo, .inr (6, [.int ylength, .ref vytext, .ref vyrules, .int ymany, .ref vylaid, .ref vykey, .ref vytag, .ref vyroomKey, .ref vyroomTag, .int yruns, .ref vyrunAt, .ref vyrunMany, .int x1, .int ywaitMany, .ref vycost, .ref vyhadKey, .ref vyhadTag, .ref vyhadAt, .ref vyhadMany, .ref vyhadCost, .int ya0, .int ya1, .int yb0, .int yb1, .int yforward, .int yout])), (vyrules, .inl (cA, 4, .inl yrules)), (vykey, .inl (cA, 96, .inl ykey)), (vytag, .inl (cA, 96, .inl ytag)), (vyrunMany, .inl (cA, 96, .inl yrunMany)), (vycost, .inl (cA, 12, .inl ycost))] := hD
    refine lv_aload_n hx hb dX6_find_160 rfl (lv_at hl 0 rfl) ?_
    refine lv_iload_n hx hb dX6_find_161 rfl (lv_at hl 2 rfl) ?_
    refine lv_iload_n hx hb dX6_find_162 rfl (lv_at hl 1 rfl) ?_
    refine lv_isub hx hb dX6_find_163 ?_
    refine va_put (D := D) (cl := vwCl) (ci := 6) (v := .int (x2 - x1)) (ty := .int) (C := RX6) (T := TX6) (N := 26) hx hb hts hinX6 tyX6 tyX6_ok nmX6 hown hG.1 hP hD hS 0 rfl rfl 13 (by decide) fl87 (fun _ h9 => h9) rfl (by decide +kernel) rfl rfl (Nat.le_of_ble_eq_true rfl) dX6_find_164 (fun H locs hP hD hS => ?_)
    have hP : va_P D vwCl [(yo, .inr (6, [.int ylength, .ref vytext, .ref vyrules, .int ymany, .ref vylaid, .ref vykey, .ref vytag, .ref vyroomKey, .ref vyroomTag, .int yruns, .ref vyrunAt, .ref vyrunMany, .int x1, .int (x2 - x1), .ref vycost, .ref vyhadKey, .ref vyhadTag, .ref vyhadAt, .ref vyhadMany, .ref vyhadCost, .int ya0, .int ya1, .int yb0, .int yb1, .int yforward, .int yout])), (vyrules, .inl (cA, 4, .inl yrules)), (vykey, .inl (cA, 96, .inl ykey)), (vytag, .inl (cA, 96, .inl ytag)), (vyrunMany, .inl (cA, 96, .inl yrunMany)), (vycost, .inl (cA, 12, .inl ycost))] H := hP
    have hD : va_D A [(yo, .inr (6, [.int ylength, .ref vytext, .ref vyrules, .int ymany, .ref vylaid, .ref vykey, .ref vytag, .ref vyroomKey, .ref vyroomTag, .int yruns, .ref vyrunAt, .ref vyrunMany, .int x1, .int (x2 - x1), .ref vycost, .ref vyhadKey, .ref vyhadTag, .ref vyhadAt, .ref vyhadMany, .ref vyhadCost, .int ya0, .int ya1, .int yb0, .int yb1, .int yforward, .int yout])), (vyrules, .inl (cA, 4, .inl yrules)), (vykey, .inl (cA, 96, .inl ykey)), (vytag, .inl (cA, 96, .inl ytag)), (vyrunMany, .inl (cA, 96, .inl yrunMany)), (vycost, .inl (cA, 12, .inl ycost))] := hD
    cases h
    exact rt_v hx hb hr hlocks hP hD hS dX6_find_167
  have hmX6_find_123 : ∀ (n123 : Nat) (x1 : Int32) (x2 : Int32) (ywaitAt : Int32) (ywaitMany : Int32) (ykey : (Nat → Int32)) (ytag : (Nat → Int32)) (ycost : (Nat → Int32)) (H : Heap) (locs : List Loc) (ls : Array Slot), mX6_find_123 F ymany yrules n123 x1 x2 ywaitAt ywaitMany ykey ytag ycost = some (ywaitAt_9, ywaitMany_9, ykey_9, ytag_9, ycost_9) → va_P D vwCl [(yo, .inr (6, [.int ylength, .ref vytext, .ref vyrules, .int ymany, .ref vylaid, .ref vykey, .ref vytag, .ref vyroomKey, .ref vyroomTag, .int yruns, .ref vyrunAt, .ref vyrunMany, .int ywaitAt, .int ywaitMany, .ref vycost, .ref vyhadKey, .ref vyhadTag, .ref vyhadAt, .ref vyhadMany, .ref vyhadCost, .int ya0, .int ya1, .int yb0, .int yb1, .int yforward, .int yout])), (vyrules, .inl (cA, 4, .inl yrules)), (vykey, .inl (cA, 96, .inl ykey)), (vytag, .inl (cA, 96, .inl ytag)), (vyrunMany, .inl (cA, 96, .inl yrunMany)), (vycost, .inl (cA, 12, .inl ycost))] H → va_D A [(yo, .inr (6, [.int ylength, .ref vytext, .ref vyrules, .int ymany, .ref vylaid, .ref vykey, .ref vytag, .ref vyroomKey, .ref vyroomTag, .int yruns, .ref vyrunAt, .ref vyrunMany, .int ywaitAt, .int ywaitMany, .ref vycost, .ref vyhadKey, .ref vyhadTag, .ref vyhadAt, .ref vyhadMany, .ref vyhadCost, .int ya0, .int ya1, .int yb0, .int yb1, .int yforward, .int yout])), (vyrules, .inl (cA, 4, .inl yrules)), (vykey, .inl (cA, 96, .inl ykey)), (vytag, .inl (cA, 96, .inl ytag)), (vyrunMany, .inl (cA, 96, .inl yrunMany)), (vycost, .inl (cA, 12, .inl ycost))] → va_S A s.heap H locs → lv_has ls 4 [(0, .ref yo), (1, .int x1), (2, .int x2)] → W p l e ({ frames := 4, cells := 0, slots := 0, locals := 92 }) s m ([.ref yo] : List Value).toArray below meth c H locs 0 0 (MQ below (Qw D A [(yo, .inr (6, [.int ylength, .ref vytext, .ref vyrules, .int ymany, .ref vylaid, .ref vykey, .ref vytag, .ref vyroomKey, .ref vyroomTag, .int yruns, .ref vyrunAt, .ref vyrunMany, .int ywaitAt_9, .int ywaitMany_9, .ref vycost, .ref vyhadKey, .ref vyhadTag, .ref vyhadAt, .ref vyhadMany, .ref vyhadCost, .int ya0, .int ya1, .int yb0, .int yb1, .int yforward, .int yout])), (vyrules, .inl (cA, 4, .inl yrules)), (vykey, .inl (cA, 96, .inl ykey_9)), (vytag, .inl (cA, 96, .inl ytag_9)), (vyrunMany, .inl (cA, 96, .inl yrunMany)), (vycost, .inl (cA, 12, .inl ycost_9))] (none)) ([.ref yo] : List Value).toArray s 0 0 A) (F0 m 123 ls []) := by
    intro n123
    induction n123 with
    | zero => intro x1 x2 ywaitAt ywaitMany ykey ytag ycost H locs ls h; exact (no_some h).elim
    | succ n123 ih123 =>
      intro x1 x2 ywaitAt ywaitMany ykey ytag ycost H locs ls h hP hD hS hl
      rw [mX6_find_123] at h
      refine lv_iload_n hx hb dX6_find_123 rfl (lv_at hl 2 rfl) ?_
      refine lv_iload_n hx hb dX6_find_124 rfl (lv_at hl 1 rfl) ?_
      refine lv_isub hx hb dX6_find_125 ?_
      refine lv_aload_n hx hb dX6_find_126 rfl (lv_at hl 0 rfl) ?_
      refine va_get (D := D) (cl := vwCl) (ci := 6) (v := .ref vyrules) (C := RX6) (T := TX6) (N := 26) hx hb hts hinX6 hown hG.1 hP 0 rfl rfl 2 (by decide) fl13 (fun _ h9 => h9) rfl dX6_find_127 ?_
      refine lv_iconst (v := (2 : Int32)) hx hb dX6_find_130 (by decide) ?_
      obtain ⟨hi131, h⟩ := ck_some h
      refine va_iald hx hb hG.1 hP 1 0 rfl rfl hi131 dX6_find_131 ?_
      refine lv_icmp_ge (tgt := 155) hx hb dX6_find_132 (by decide) (fun c132 => ?_) (fun c132 => ?_)
      · have h := i_t c132 h
        exact hmX6_find_155 x1 x2 ywaitAt ywaitMany ykey ytag ycost _ _ _ h hP hD hS hl
      · have h := i_f c132 h
        refine lv_iload_n hx hb dX6_find_135 rfl (lv_at hl 2 rfl) ?_
        refine lv_aload_n hx hb dX6_find_136 rfl (lv_at hl 0 rfl) ?_
        refine va_get (D := D) (cl := vwCl) (ci := 6) (v := .int ymany) (C := RX6) (T := TX6) (N := 26) hx hb hts hinX6 hown hG.1 hP 0 rfl rfl 3 (by decide) fl55 (fun _ h9 => h9) rfl dX6_find_137 ?_
        refine lv_icmp_ge (tgt := 155) hx hb dX6_find_140 (by decide) (fun c140 => ?_) (fun c140 => ?_)
        · have h := i_t c140 h
          exact hmX6_find_155 x1 x2 ywaitAt ywaitMany ykey ytag ycost _ _ _ h hP hD hS hl
        · have h := i_f c140 h
          refine lv_aload_n hx hb dX6_find_143 rfl (lv_at hl 0 rfl) ?_
          refine lv_iload_n hx hb dX6_find_144 rfl (lv_at hl 1 rfl) ?_
          refine lv_iload_n hx hb dX6_find_145 rfl (lv_at hl 2 rfl) ?_
          obtain ⟨ykey_146, ytag_146, ycost_146, hc146, h⟩ := bd3_some h
          refine ct_V (As := [.int x1, .int x2]) (rest := []) (st1 := []) (wf := [(yo, .inr (6, [.int ylength, .ref vytext, .ref vyrules, .int ymany, .ref vylaid, .ref vykey, .ref vytag, .ref vyroomKey, .ref vyroomTag, .int yruns, .ref vyrunAt, .ref vyrunMany, .int ywaitAt, .int ywaitMany, .ref vycost, .ref vyhadKey, .ref vyhadTag, .ref vyhadAt, .ref vyhadMany, .ref vyhadCost, .int ya0, .int ya1, .int yb0, .int yb1, .int yforward, .int yout])), (vyrules, .inl (cA, 4, .inl yrules)), (vykey, .inl (cA, 96, .inl ykey_146)), (vytag, .inl (cA, 96, .inl ytag_146)), (vyrunMany, .inl (cA, 96, .inl yrunMany)), (vycost, .inl (cA, 12, .inl ycost_146))]) (kX6_put1 l D cA F yo vytext vyrules vylaid vykey vytag vyroomKey vyroomTag vyrunAt vyrunMany vycost vyhadKey vyhadTag vyhadAt vyhadMany vyhadCost  ylength ymany yruns ywaitAt ywaitMany ya0 ya1 yb0 yb1 yforward yout yrules ykey ytag ycost x1 x2 ykey_146 ytag_146 ycost_146 hc146) ⟨hx, hb, hml, hown, hts⟩ (cwV 2 hts gX6_find_X6_put1 rfl rfl rfl (by decide +kernel) ⟨Nat.le_of_ble_eq_true rfl, Nat.le_of_ble_eq_true rfl⟩) hG hst hP hD hS hA 6 rfl rfl rfl [0, 1, 2, 3, 5] [4] [1, 2, 3, 4, 0, 5] rfl rfl rfl rfl rfl rfl hl.1 rfl rfl (Nat.le_of_ble_eq_true rfl) dX6_find_146 ⟨Nat.zero_le _, Nat.zero_le _⟩ (fun H locs hP hD hS => ?_)
          refine lv_iinc (v := x2 + (1 : Int32)) (lv' := [(2, .int (x2 + (1 : Int32))), (0, .ref yo), (1, .int x1)]) hx hb dX6_find_149 hl (k := 2) rfl (congrArg (fun z => x2 + z) (by decide)) (by decide) rfl (fun ls hl => ?_)
          refine lv_goto (tgt := 123) hx hb dX6_find_152 (by decide) ?_
          exact ih123 x1 (x2 + (1 : Int32)) ywaitAt ywaitMany ykey_146 ytag_146 ycost_146 _ _ _ h hP hD hS (lv_sub hl [1, 2, 0] rfl)
  have hmX6_find_83 : ∀ (x1 : Int32) (x2 : Int32) (ywaitAt : Int32) (ywaitMany : Int32) (ykey : (Nat → Int32)) (ytag : (Nat → Int32)) (ycost : (Nat → Int32)) (H : Heap) (locs : List Loc) (ls : Array Slot), mX6_find_83 F ymany yrules x1 x2 ywaitAt ywaitMany ykey ytag ycost = some (ywaitAt_9, ywaitMany_9, ykey_9, ytag_9, ycost_9) → va_P D vwCl [(yo, .inr (6, [.int ylength, .ref vytext, .ref vyrules, .int ymany, .ref vylaid, .ref vykey, .ref vytag, .ref vyroomKey, .ref vyroomTag, .int yruns, .ref vyrunAt, .ref vyrunMany, .int ywaitAt, .int ywaitMany, .ref vycost, .ref vyhadKey, .ref vyhadTag, .ref vyhadAt, .ref vyhadMany, .ref vyhadCost, .int ya0, .int ya1, .int yb0, .int yb1, .int yforward, .int yout])), (vyrules, .inl (cA, 4, .inl yrules)), (vykey, .inl (cA, 96, .inl ykey)), (vytag, .inl (cA, 96, .inl ytag)), (vyrunMany, .inl (cA, 96, .inl yrunMany)), (vycost, .inl (cA, 12, .inl ycost))] H → va_D A [(yo, .inr (6, [.int ylength, .ref vytext, .ref vyrules, .int ymany, .ref vylaid, .ref vykey, .ref vytag, .ref vyroomKey, .ref vyroomTag, .int yruns, .ref vyrunAt, .ref vyrunMany, .int ywaitAt, .int ywaitMany, .ref vycost, .ref vyhadKey, .ref vyhadTag, .ref vyhadAt, .ref vyhadMany, .ref vyhadCost, .int ya0, .int ya1, .int yb0, .int yb1, .int yforward, .int yout])), (vyrules, .inl (cA, 4, .inl yrules)), (vykey, .inl (cA, 96, .inl ykey)), (vytag, .inl (cA, 96, .inl ytag)), (vyrunMany, .inl (cA, 96, .inl yrunMany)), (vycost, .inl (cA, 12, .inl ycost))] → va_S A s.heap H locs → lv_has ls 4 [(0, .ref yo), (1, .int x1), (2, .int x2)] → W p l e ({ frames := 4, cells := 0, slots := 0, locals := 92 }) s m ([.ref yo] : List Value).toArray below meth c H locs 0 0 (MQ below (Qw D A [(yo, .inr (6, [.int ylength, .ref vytext, .ref vyrules, .int ymany, .ref vylaid, .ref vykey, .ref vytag, .ref vyroomKey, .ref vyroomTag, .int yruns, .ref vyrunAt, .ref vyrunMany, .int ywaitAt_9, .int ywaitMany_9, .ref vycost, .ref vyhadKey, .ref vyhadTag, .ref vyhadAt, .ref vyhadMany, .ref vyhadCost, .int ya0, .int ya1, .int yb0, .int yb1, .int yforward, .int yout])), (vyrules, .inl (cA, 4, .inl yrules)), (vykey, .inl (cA, 96, .inl ykey_9)), (vytag, .inl (cA, 96, .inl ytag_9)), (vyrunMany, .inl (cA, 96, .inl yrunMany)), (vycost, .inl (cA, 12, .inl ycost_9))] (none)) ([.ref yo] : List Value).toArray s 0 0 A) (F0 m 83 ls []) := by
    intro x1 x2 ywaitAt ywaitMany ykey ytag ycost H locs ls h hP hD hS hl
    unfold mX6_find_83 at h
    refine lv_aload_n hx hb dX6_find_83 rfl (lv_at hl 0 rfl) ?_
    refine va_get (D := D) (cl := vwCl) (ci := 6) (v := .ref vycost) (C := RX6) (T := TX6) (N := 26) hx hb hts hinX6 hown hG.1 hP 0 rfl rfl 14 (by decide) fl37 (fun _ h9 => h9) rfl dX6_find_84 ?_
    refine lv_iconst (v := (2 : Int32)) hx hb dX6_find_87 (by decide) ?_
    refine lv_dup2_11 hx hb dX6_find_88 rfl rfl ?_
    obtain ⟨hi89, h⟩ := ck_some h
    refine va_iald hx hb hG.1 hP 5 0 rfl rfl hi89 dX6_find_89 ?_
    refine lv_iconst (v := (1 : Int32)) hx hb dX6_find_90 (by decide) ?_
    refine lv_iadd hx hb dX6_find_91 ?_
    obtain ⟨hi92, h⟩ := ck_some h
    refine va_iast hx hb hG.1 hP hD hS 5 0 rfl rfl hi92 dX6_find_92 (fun H locs hP hD hS => ?_)
    have hP : va_P D vwCl [(yo, .inr (6, [.int ylength, .ref vytext, .ref vyrules, .int ymany, .ref vylaid, .ref vykey, .ref vytag, .ref vyroomKey, .ref vyroomTag, .int yruns, .ref vyrunAt, .ref vyrunMany, .int ywaitAt, .int ywaitMany, .ref vycost, .ref vyhadKey, .ref vyhadTag, .ref vyhadAt, .ref vyhadMany, .ref vyhadCost, .int ya0, .int ya1, .int yb0, .int yb1, .int yforward, .int yout])), (vyrules, .inl (cA, 4, .inl yrules)), (vykey, .inl (cA, 96, .inl ykey)), (vytag, .inl (cA, 96, .inl ytag)), (vyrunMany, .inl (cA, 96, .inl yrunMany)), (vycost, .inl (cA, 12, .inl (upd ycost (2 : Int32).toNatClampNeg ((ycost (2 : Int32).toNatClampNeg) + (1 : Int32)))))] H := hP
    have hD : va_D A [(yo, .inr (6, [.int ylength, .ref vytext, .ref vyrules, .int ymany, .ref vylaid, .ref vykey, .ref vytag, .ref vyroomKey, .ref vyroomTag, .int yruns, .ref vyrunAt, .ref vyrunMany, .int ywaitAt, .int ywaitMany, .ref vycost, .ref vyhadKey, .ref vyhadTag, .ref vyhadAt, .ref vyhadMany, .ref vyhadCost, .int ya0, .int ya1, .int yb0, .int yb1, .int yforward, .int yout])), (vyrules, .inl (cA, 4, .inl yrules)), (vykey, .inl (cA, 96, .inl ykey)), (vytag, .inl (cA, 96, .inl ytag)), (vyrunMany, .inl (cA, 96, .inl yrunMany)), (vycost, .inl (cA, 12, .inl (upd ycost (2 : Int32).toNatClampNeg ((ycost (2 : Int32).toNatClampNeg) + (1 : Int32)))))] := hD
    refine lv_iload_n hx hb dX6_find_93 rfl (lv_at hl 2 rfl) ?_
    refine lv_iload_n hx hb dX6_find_94 rfl (lv_at hl 1 rfl) ?_
    refine lv_isub hx hb dX6_find_95 ?_
    refine lv_aload_n hx hb dX6_find_96 rfl (lv_at hl 0 rfl) ?_
    refine va_get (D := D) (cl := vwCl) (ci := 6) (v := .ref vyrules) (C := RX6) (T := TX6) (N := 26) hx hb hts hinX6 hown hG.1 hP 0 rfl rfl 2 (by decide) fl13 (fun _ h9 => h9) rfl dX6_find_97 ?_
    refine lv_iconst (v := (2 : Int32)) hx hb dX6_find_100 (by decide) ?_
    obtain ⟨hi101, h⟩ := ck_some h
    refine va_iald hx hb hG.1 hP 1 0 rfl rfl hi101 dX6_find_101 ?_
    refine lv_icmp_ge (tgt := 155) hx hb dX6_find_102 (by decide) (fun c102 => ?_) (fun c102 => ?_)
    · have h := i_t c102 h
      exact hmX6_find_155 x1 x2 ywaitAt ywaitMany ykey ytag (upd ycost (2 : Int32).toNatClampNeg ((ycost (2 : Int32).toNatClampNeg) + (1 : Int32))) _ _ _ h hP hD hS hl
    · have h := i_f c102 h
      refine lv_iload_n hx hb dX6_find_105 rfl (lv_at hl 2 rfl) ?_
      refine lv_aload_n hx hb dX6_find_106 rfl (lv_at hl 0 rfl) ?_
      refine va_get (D := D) (cl := vwCl) (ci := 6) (v := .int ymany) (C := RX6) (T := TX6) (N := 26) hx hb hts hinX6 hown hG.1 hP 0 rfl rfl 3 (by decide) fl55 (fun _ h9 => h9) rfl dX6_find_107 ?_
      refine lv_icmp_ge (tgt := 155) hx hb dX6_find_110 (by decide) (fun c110 => ?_) (fun c110 => ?_)
      · have h := i_t c110 h
        exact hmX6_find_155 x1 x2 ywaitAt ywaitMany ykey ytag (upd ycost (2 : Int32).toNatClampNeg ((ycost (2 : Int32).toNatClampNeg) + (1 : Int32))) _ _ _ h hP hD hS hl
      · have h := i_f c110 h
        refine lv_aload_n hx hb dX6_find_113 rfl (lv_at hl 0 rfl) ?_
        refine va_get (D := D) (cl := vwCl) (ci := 6) (v := .ref vycost) (C := RX6) (T := TX6) (N := 26) hx hb hts hinX6 hown hG.1 hP 0 rfl rfl 14 (by decide) fl37 (fun _ h9 => h9) rfl dX6_find_114 ?_
        refine lv_iconst (v := (4 : Int32)) hx hb dX6_find_117 (by decide) ?_
        refine lv_dup2_11 hx hb dX6_find_118 rfl rfl ?_
        obtain ⟨hi119, h⟩ := ck_some h
        refine va_iald hx hb hG.1 hP 5 0 rfl rfl hi119 dX6_find_119 ?_
        refine lv_iconst (v := (1 : Int32)) hx hb dX6_find_120 (by decide) ?_
        refine lv_iadd hx hb dX6_find_121 ?_
        obtain ⟨hi122, h⟩ := ck_some h
        refine va_iast hx hb hG.1 hP hD hS 5 0 rfl rfl hi122 dX6_find_122 (fun H locs hP hD hS => ?_)
        have hP : va_P D vwCl [(yo, .inr (6, [.int ylength, .ref vytext, .ref vyrules, .int ymany, .ref vylaid, .ref vykey, .ref vytag, .ref vyroomKey, .ref vyroomTag, .int yruns, .ref vyrunAt, .ref vyrunMany, .int ywaitAt, .int ywaitMany, .ref vycost, .ref vyhadKey, .ref vyhadTag, .ref vyhadAt, .ref vyhadMany, .ref vyhadCost, .int ya0, .int ya1, .int yb0, .int yb1, .int yforward, .int yout])), (vyrules, .inl (cA, 4, .inl yrules)), (vykey, .inl (cA, 96, .inl ykey)), (vytag, .inl (cA, 96, .inl ytag)), (vyrunMany, .inl (cA, 96, .inl yrunMany)), (vycost, .inl (cA, 12, .inl (upd (upd ycost (2 : Int32).toNatClampNeg ((ycost (2 : Int32).toNatClampNeg) + (1 : Int32))) (4 : Int32).toNatClampNeg (((upd ycost (2 : Int32).toNatClampNeg ((ycost (2 : Int32).toNatClampNeg) + (1 : Int32))) (4 : Int32).toNatClampNeg) + (1 : Int32)))))] H := hP
        have hD : va_D A [(yo, .inr (6, [.int ylength, .ref vytext, .ref vyrules, .int ymany, .ref vylaid, .ref vykey, .ref vytag, .ref vyroomKey, .ref vyroomTag, .int yruns, .ref vyrunAt, .ref vyrunMany, .int ywaitAt, .int ywaitMany, .ref vycost, .ref vyhadKey, .ref vyhadTag, .ref vyhadAt, .ref vyhadMany, .ref vyhadCost, .int ya0, .int ya1, .int yb0, .int yb1, .int yforward, .int yout])), (vyrules, .inl (cA, 4, .inl yrules)), (vykey, .inl (cA, 96, .inl ykey)), (vytag, .inl (cA, 96, .inl ytag)), (vyrunMany, .inl (cA, 96, .inl yrunMany)), (vycost, .inl (cA, 12, .inl (upd (upd ycost (2 : Int32).toNatClampNeg ((ycost (2 : Int32).toNatClampNeg) + (1 : Int32))) (4 : Int32).toNatClampNeg (((upd ycost (2 : Int32).toNatClampNeg ((ycost (2 : Int32).toNatClampNeg) + (1 : Int32))) (4 : Int32).toNatClampNeg) + (1 : Int32)))))] := hD
        exact hmX6_find_123 F x1 x2 ywaitAt ywaitMany ykey ytag (upd (upd ycost (2 : Int32).toNatClampNeg ((ycost (2 : Int32).toNatClampNeg) + (1 : Int32))) (4 : Int32).toNatClampNeg (((upd ycost (2 : Int32).toNatClampNeg ((ycost (2 : Int32).toNatClampNeg) + (1 : Int32))) (4 : Int32).toNatClampNeg) + (1 : Int32))) _ _ _ h hP hD hS hl
  have hmX6_find_73 : ∀ (x1 : Int32) (x2 : Int32) (x3 : Int32) (ywaitAt : Int32) (ywaitMany : Int32) (ykey : (Nat → Int32)) (ytag : (Nat → Int32)) (ycost : (Nat → Int32)) (H : Heap) (locs : List Loc) (ls : Array Slot), mX6_find_73 F ymany yrules x1 x2 x3 ywaitAt ywaitMany ykey ytag ycost = some (ywaitAt_9, ywaitMany_9, ykey_9, ytag_9, ycost_9) → va_P D vwCl [(yo, .inr (6, [.int ylength, .ref vytext, .ref vyrules, .int ymany, .ref vylaid, .ref vykey, .ref vytag, .ref vyroomKey, .ref vyroomTag, .int yruns, .ref vyrunAt, .ref vyrunMany, .int ywaitAt, .int ywaitMany, .ref vycost, .ref vyhadKey, .ref vyhadTag, .ref vyhadAt, .ref vyhadMany, .ref vyhadCost, .int ya0, .int ya1, .int yb0, .int yb1, .int yforward, .int yout])), (vyrules, .inl (cA, 4, .inl yrules)), (vykey, .inl (cA, 96, .inl ykey)), (vytag, .inl (cA, 96, .inl ytag)), (vyrunMany, .inl (cA, 96, .inl yrunMany)), (vycost, .inl (cA, 12, .inl ycost))] H → va_D A [(yo, .inr (6, [.int ylength, .ref vytext, .ref vyrules, .int ymany, .ref vylaid, .ref vykey, .ref vytag, .ref vyroomKey, .ref vyroomTag, .int yruns, .ref vyrunAt, .ref vyrunMany, .int ywaitAt, .int ywaitMany, .ref vycost, .ref vyhadKey, .ref vyhadTag, .ref vyhadAt, .ref vyhadMany, .ref vyhadCost, .int ya0, .int ya1, .int yb0, .int yb1, .int yforward, .int yout])), (vyrules, .inl (cA, 4, .inl yrules)), (vykey, .inl (cA, 96, .inl ykey)), (vytag, .inl (cA, 96, .inl ytag)), (vyrunMany, .inl (cA, 96, .inl yrunMany)), (vycost, .inl (cA, 12, .inl ycost))] → va_S A s.heap H locs → lv_has ls 4 [(0, .ref yo), (1, .int x1), (2, .int x2), (3, .int x3)] → W p l e ({ frames := 4, cells := 0, slots := 0, locals := 92 }) s m ([.ref yo] : List Value).toArray below meth c H locs 0 0 (MQ below (Qw D A [(yo, .inr (6, [.int ylength, .ref vytext, .ref vyrules, .int ymany, .ref vylaid, .ref vykey, .ref vytag, .ref vyroomKey, .ref vyroomTag, .int yruns, .ref vyrunAt, .ref vyrunMany, .int ywaitAt_9, .int ywaitMany_9, .ref vycost, .ref vyhadKey, .ref vyhadTag, .ref vyhadAt, .ref vyhadMany, .ref vyhadCost, .int ya0, .int ya1, .int yb0, .int yb1, .int yforward, .int yout])), (vyrules, .inl (cA, 4, .inl yrules)), (vykey, .inl (cA, 96, .inl ykey_9)), (vytag, .inl (cA, 96, .inl ytag_9)), (vyrunMany, .inl (cA, 96, .inl yrunMany)), (vycost, .inl (cA, 12, .inl ycost_9))] (none)) ([.ref yo] : List Value).toArray s 0 0 A) (F0 m 73 ls []) := by
    intro x1 x2 x3 ywaitAt ywaitMany ykey ytag ycost H locs ls h hP hD hS hl
    unfold mX6_find_73 at h
    refine lv_iload_n hx hb dX6_find_73 rfl (lv_at hl 3 rfl) ?_
    refine lv_if_eq (tgt := 83) hx hb dX6_find_74 (by decide) (fun c74 => ?_) (fun c74 => ?_)
    · have h := i_t c74 h
      exact hmX6_find_83 x1 x2 ywaitAt ywaitMany ykey ytag ycost _ _ _ h hP hD hS (lv_sub hl [0, 1, 2] rfl)
    · have h := i_f c74 h
      refine lv_aload_n hx hb dX6_find_77 rfl (lv_at hl 0 rfl) ?_
      refine lv_iload_n hx hb dX6_find_78 rfl (lv_at hl 1 rfl) ?_
      refine lv_iload_n hx hb dX6_find_79 rfl (lv_at hl 2 rfl) ?_
      obtain ⟨ykey_80, ytag_80, ycost_80, hc80, h⟩ := bd3_some h
      refine ct_V (As := [.int x1, .int x2]) (rest := []) (st1 := []) (wf := [(yo, .inr (6, [.int ylength, .ref vytext, .ref vyrules, .int ymany, .ref vylaid, .ref vykey, .ref vytag, .ref vyroomKey, .ref vyroomTag, .int yruns, .ref vyrunAt, .ref vyrunMany, .int ywaitAt, .int ywaitMany, .ref vycost, .ref vyhadKey, .ref vyhadTag, .ref vyhadAt, .ref vyhadMany, .ref vyhadCost, .int ya0, .int ya1, .int yb0, .int yb1, .int yforward, .int yout])), (vyrules, .inl (cA, 4, .inl yrules)), (vykey, .inl (cA, 96, .inl ykey_80)), (vytag, .inl (cA, 96, .inl ytag_80)), (vyrunMany, .inl (cA, 96, .inl yrunMany)), (vycost, .inl (cA, 12, .inl ycost_80))]) (kX6_turn l D cA F yo vytext vyrules vylaid vykey vytag vyroomKey vyroomTag vyrunAt vyrunMany vycost vyhadKey vyhadTag vyhadAt vyhadMany vyhadCost  ylength ymany yruns ywaitAt ywaitMany ya0 ya1 yb0 yb1 yforward yout ykey ytag ycost x1 x2 ykey_80 ytag_80 ycost_80 hc80) ⟨hx, hb, hml, hown, hts⟩ (cwV 2 hts gX6_find_X6_turn rfl rfl rfl (by decide +kernel) ⟨Nat.le_of_ble_eq_true rfl, Nat.le_of_ble_eq_true rfl⟩) hG hst hP hD hS hA 6 rfl rfl rfl [0, 2, 3, 5] [1, 4] [2, 0, 3, 4, 1, 5] rfl rfl rfl rfl rfl rfl hl.1 rfl rfl (Nat.le_of_ble_eq_true rfl) dX6_find_80 ⟨Nat.zero_le _, Nat.zero_le _⟩ (fun H locs hP hD hS => ?_)
      exact hmX6_find_83 x1 x2 ywaitAt ywaitMany ykey_80 ytag_80 ycost_80 _ _ _ h hP hD hS (lv_sub hl [0, 1, 2] rfl)
  have hmX6_find_37 : ∀ (n37 : Nat) (x1 : Int32) (x2 : Int32) (x3 : Int32) (ywaitAt : Int32) (ywaitMany : Int32) (ykey : (Nat → Int32)) (ytag : (Nat → Int32)) (ycost : (Nat → Int32)) (H : Heap) (locs : List Loc) (ls : Array Slot), mX6_find_37 F ymany yrules n37 x1 x2 x3 ywaitAt ywaitMany ykey ytag ycost = some (ywaitAt_9, ywaitMany_9, ykey_9, ytag_9, ycost_9) → va_P D vwCl [(yo, .inr (6, [.int ylength, .ref vytext, .ref vyrules, .int ymany, .ref vylaid, .ref vykey, .ref vytag, .ref vyroomKey, .ref vyroomTag, .int yruns, .ref vyrunAt, .ref vyrunMany, .int ywaitAt, .int ywaitMany, .ref vycost, .ref vyhadKey, .ref vyhadTag, .ref vyhadAt, .ref vyhadMany, .ref vyhadCost, .int ya0, .int ya1, .int yb0, .int yb1, .int yforward, .int yout])), (vyrules, .inl (cA, 4, .inl yrules)), (vykey, .inl (cA, 96, .inl ykey)), (vytag, .inl (cA, 96, .inl ytag)), (vyrunMany, .inl (cA, 96, .inl yrunMany)), (vycost, .inl (cA, 12, .inl ycost))] H → va_D A [(yo, .inr (6, [.int ylength, .ref vytext, .ref vyrules, .int ymany, .ref vylaid, .ref vykey, .ref vytag, .ref vyroomKey, .ref vyroomTag, .int yruns, .ref vyrunAt, .ref vyrunMany, .int ywaitAt, .int ywaitMany, .ref vycost, .ref vyhadKey, .ref vyhadTag, .ref vyhadAt, .ref vyhadMany, .ref vyhadCost, .int ya0, .int ya1, .int yb0, .int yb1, .int yforward, .int yout])), (vyrules, .inl (cA, 4, .inl yrules)), (vykey, .inl (cA, 96, .inl ykey)), (vytag, .inl (cA, 96, .inl ytag)), (vyrunMany, .inl (cA, 96, .inl yrunMany)), (vycost, .inl (cA, 12, .inl ycost))] → va_S A s.heap H locs → lv_has ls 4 [(0, .ref yo), (1, .int x1), (2, .int x2), (3, .int x3)] → W p l e ({ frames := 4, cells := 0, slots := 0, locals := 92 }) s m ([.ref yo] : List Value).toArray below meth c H locs 0 0 (MQ below (Qw D A [(yo, .inr (6, [.int ylength, .ref vytext, .ref vyrules, .int ymany, .ref vylaid, .ref vykey, .ref vytag, .ref vyroomKey, .ref vyroomTag, .int yruns, .ref vyrunAt, .ref vyrunMany, .int ywaitAt_9, .int ywaitMany_9, .ref vycost, .ref vyhadKey, .ref vyhadTag, .ref vyhadAt, .ref vyhadMany, .ref vyhadCost, .int ya0, .int ya1, .int yb0, .int yb1, .int yforward, .int yout])), (vyrules, .inl (cA, 4, .inl yrules)), (vykey, .inl (cA, 96, .inl ykey_9)), (vytag, .inl (cA, 96, .inl ytag_9)), (vyrunMany, .inl (cA, 96, .inl yrunMany)), (vycost, .inl (cA, 12, .inl ycost_9))] (none)) ([.ref yo] : List Value).toArray s 0 0 A) (F0 m 37 ls []) := by
    intro n37
    induction n37 with
    | zero => intro x1 x2 x3 ywaitAt ywaitMany ykey ytag ycost H locs ls h; exact (no_some h).elim
    | succ n37 ih37 =>
      intro x1 x2 x3 ywaitAt ywaitMany ykey ytag ycost H locs ls h hP hD hS hl
      rw [mX6_find_37] at h
      refine lv_iload_n hx hb dX6_find_37 rfl (lv_at hl 2 rfl) ?_
      refine lv_aload_n hx hb dX6_find_38 rfl (lv_at hl 0 rfl) ?_
      refine va_get (D := D) (cl := vwCl) (ci := 6) (v := .int ymany) (C := RX6) (T := TX6) (N := 26) hx hb hts hinX6 hown hG.1 hP 0 rfl rfl 3 (by decide) fl55 (fun _ h9 => h9) rfl dX6_find_39 ?_
      refine lv_icmp_ge (tgt := 73) hx hb dX6_find_42 (by decide) (fun c42 => ?_) (fun c42 => ?_)
      · have h := i_t c42 h
        exact hmX6_find_73 x1 x2 x3 ywaitAt ywaitMany ykey ytag ycost _ _ _ h hP hD hS hl
      · have h := i_f c42 h
        refine lv_aload_n hx hb dX6_find_45 rfl (lv_at hl 0 rfl) ?_
        refine lv_aload_n hx hb dX6_find_46 rfl (lv_at hl 0 rfl) ?_
        refine va_get (D := D) (cl := vwCl) (ci := 6) (v := .ref vykey) (C := RX6) (T := TX6) (N := 26) hx hb hts hinX6 hown hG.1 hP 0 rfl rfl 5 (by decide) fl19 (fun _ h9 => h9) rfl dX6_find_47 ?_
        refine lv_iload_n hx hb dX6_find_50 rfl (lv_at hl 2 rfl) ?_
        obtain ⟨hi51, h⟩ := ck_some h
        refine va_iald hx hb hG.1 hP 2 0 rfl rfl hi51 dX6_find_51 ?_
        refine lv_aload_n hx hb dX6_find_52 rfl (lv_at hl 0 rfl) ?_
        refine va_get (D := D) (cl := vwCl) (ci := 6) (v := .ref vykey) (C := RX6) (T := TX6) (N := 26) hx hb hts hinX6 hown hG.1 hP 0 rfl rfl 5 (by decide) fl19 (fun _ h9 => h9) rfl dX6_find_53 ?_
        refine lv_iload_n hx hb dX6_find_56 rfl (lv_at hl 2 rfl) ?_
        refine lv_iconst (v := (1 : Int32)) hx hb dX6_find_57 (by decide) ?_
        refine lv_isub hx hb dX6_find_58 ?_
        obtain ⟨hi59, h⟩ := ck_some h
        refine va_iald hx hb hG.1 hP 2 0 rfl rfl hi59 dX6_find_59 ?_
        obtain ⟨r60, ycost_60, hc60, h⟩ := bd2_some h
        refine ct_V (As := [.int (ykey x2.toNatClampNeg), .int (ykey (x2 - (1 : Int32)).toNatClampNeg)]) (rest := []) (st1 := [.int r60]) (wf := [(yo, .inr (6, [.int ylength, .ref vytext, .ref vyrules, .int ymany, .ref vylaid, .ref vykey, .ref vytag, .ref vyroomKey, .ref vyroomTag, .int yruns, .ref vyrunAt, .ref vyrunMany, .int ywaitAt, .int ywaitMany, .ref vycost, .ref vyhadKey, .ref vyhadTag, .ref vyhadAt, .ref vyhadMany, .ref vyhadCost, .int ya0, .int ya1, .int yb0, .int yb1, .int yforward, .int yout])), (vyrules, .inl (cA, 4, .inl yrules)), (vykey, .inl (cA, 96, .inl ykey)), (vytag, .inl (cA, 96, .inl ytag)), (vyrunMany, .inl (cA, 96, .inl yrunMany)), (vycost, .inl (cA, 12, .inl ycost_60))]) (kX6_tests l D cA F yo vytext vyrules vylaid vykey vytag vyroomKey vyroomTag vyrunAt vyrunMany vycost vyhadKey vyhadTag vyhadAt vyhadMany vyhadCost  ylength ymany yruns ywaitAt ywaitMany ya0 ya1 yb0 yb1 yforward yout yrules ycost (ykey x2.toNatClampNeg) (ykey (x2 - (1 : Int32)).toNatClampNeg) r60 ycost_60 hc60) ⟨hx, hb, hml, hown, hts⟩ (cwV 2 hts gX6_find_X6_tests rfl rfl rfl (by decide +kernel) ⟨Nat.le_of_ble_eq_true rfl, Nat.le_of_ble_eq_true rfl⟩) hG hst hP hD hS hA 6 rfl rfl rfl [0, 1, 5] [2, 3, 4] [3, 4, 0, 1, 2, 5] rfl rfl rfl rfl rfl rfl hl.1 rfl rfl (Nat.le_of_ble_eq_true rfl) dX6_find_60 ⟨Nat.zero_le _, Nat.zero_le _⟩ (fun H locs hP hD hS => ?_)
        refine lv_iload_n hx hb dX6_find_63 rfl (lv_at hl 3 rfl) ?_
        refine lv_icmp_ne (tgt := 73) hx hb dX6_find_64 (by decide) (fun c64 => ?_) (fun c64 => ?_)
        · have h := i_f c64 h
          exact hmX6_find_73 x1 x2 x3 ywaitAt ywaitMany ykey ytag ycost_60 _ _ _ h hP hD hS hl
        · have h := i_t c64 h
          refine lv_iinc (v := x2 + (1 : Int32)) (lv' := [(2, .int (x2 + (1 : Int32))), (0, .ref yo), (1, .int x1), (3, .int x3)]) hx hb dX6_find_67 hl (k := 2) rfl (congrArg (fun z => x2 + z) (by decide)) (by decide) rfl (fun ls hl => ?_)
          refine lv_goto (tgt := 37) hx hb dX6_find_70 (by decide) ?_
          exact ih37 x1 (x2 + (1 : Int32)) x3 ywaitAt ywaitMany ykey ytag ycost_60 _ _ _ h hP hD hS (lv_sub hl [1, 2, 0, 3] rfl)
  unfold mX6_find at h
  refine lv_aload_n hx hb dX6_find_0 rfl (lv_at hl 0 rfl) ?_
  obtain ⟨r1, hc1, h⟩ := bd1_some h
  refine ct_V (As := []) (rest := []) (st1 := [.int r1]) (wf := [(yo, .inr (6, [.int ylength, .ref vytext, .ref vyrules, .int ymany, .ref vylaid, .ref vykey, .ref vytag, .ref vyroomKey, .ref vyroomTag, .int yruns, .ref vyrunAt, .ref vyrunMany, .int ywaitAt, .int ywaitMany, .ref vycost, .ref vyhadKey, .ref vyhadTag, .ref vyhadAt, .ref vyhadMany, .ref vyhadCost, .int ya0, .int ya1, .int yb0, .int yb1, .int yforward, .int yout])), (vyrules, .inl (cA, 4, .inl yrules)), (vykey, .inl (cA, 96, .inl ykey)), (vytag, .inl (cA, 96, .inl ytag)), (vyrunMany, .inl (cA, 96, .inl yrunMany)), (vycost, .inl (cA, 12, .inl ycost))]) (kX6_inRuns l D cA F yo vytext vyrules vylaid vykey vytag vyroomKey vyroomTag vyrunAt vyrunMany vycost vyhadKey vyhadTag vyhadAt vyhadMany vyhadCost  ylength ymany yruns ywaitAt ywaitMany ya0 ya1 yb0 yb1 yforward yout yrunMany  r1 hc1) ⟨hx, hb, hml, hown, hts⟩ (cwV 0 hts gX6_find_X6_inRuns rfl rfl rfl (by decide +kernel) ⟨Nat.le_of_ble_eq_true rfl, Nat.le_of_ble_eq_true rfl⟩) hG hst hP hD hS hA 6 rfl rfl rfl [0, 4] [1, 2, 3, 5] [4, 0, 1, 2, 5, 3] rfl rfl rfl rfl rfl rfl hl.1 rfl rfl (Nat.le_of_ble_eq_true rfl) dX6_find_1 ⟨Nat.zero_le _, Nat.zero_le _⟩ (fun H locs hP hD hS => ?_)
  refine lv_istore_n (lv' := [(1, .int r1), (0, .ref yo)]) hx hb dX6_find_4 rfl hl (by decide) rfl (fun ls hl => ?_)
  refine lv_iload_n hx hb dX6_find_5 rfl (lv_at hl 0 rfl) ?_
  refine lv_iconst (v := (1 : Int32)) hx hb dX6_find_6 (by decide) ?_
  refine lv_iadd hx hb dX6_find_7 ?_
  refine lv_istore_n (lv' := [(2, .int (r1 + (1 : Int32))), (1, .int r1), (0, .ref yo)]) hx hb dX6_find_8 rfl hl (by decide) rfl (fun ls hl => ?_)
  refine lv_iload_n hx hb dX6_find_9 rfl (lv_at hl 0 rfl) ?_
  refine lv_aload_n hx hb dX6_find_10 rfl (lv_at hl 2 rfl) ?_
  refine va_get (D := D) (cl := vwCl) (ci := 6) (v := .int ymany) (C := RX6) (T := TX6) (N := 26) hx hb hts hinX6 hown hG.1 hP 0 rfl rfl 3 (by decide) fl55 (fun _ h9 => h9) rfl dX6_find_11 ?_
  refine lv_icmp_ge (tgt := 83) hx hb dX6_find_14 (by decide) (fun c14 => ?_) (fun c14 => ?_)
  · have h := i_t c14 h
    exact hmX6_find_83 r1 (r1 + (1 : Int32)) ywaitAt ywaitMany ykey ytag ycost _ _ _ h hP hD hS (lv_sub hl [2, 1, 0] rfl)
  · have h := i_f c14 h
    refine lv_aload_n hx hb dX6_find_17 rfl (lv_at hl 2 rfl) ?_
    refine lv_aload_n hx hb dX6_find_18 rfl (lv_at hl 2 rfl) ?_
    refine va_get (D := D) (cl := vwCl) (ci := 6) (v := .ref vykey) (C := RX6) (T := TX6) (N := 26) hx hb hts hinX6 hown hG.1 hP 0 rfl rfl 5 (by decide) fl19 (fun _ h9 => h9) rfl dX6_find_19 ?_
    refine lv_iload_n hx hb dX6_find_22 rfl (lv_at hl 0 rfl) ?_
    obtain ⟨hi23, h⟩ := ck_some h
    refine va_iald hx hb hG.1 hP 2 0 rfl rfl hi23 dX6_find_23 ?_
    refine lv_aload_n hx hb dX6_find_24 rfl (lv_at hl 2 rfl) ?_
    refine va_get (D := D) (cl := vwCl) (ci := 6) (v := .ref vykey) (C := RX6) (T := TX6) (N := 26) hx hb hts hinX6 hown hG.1 hP 0 rfl rfl 5 (by decide) fl19 (fun _ h9 => h9) rfl dX6_find_25 ?_
    refine lv_iload_n hx hb dX6_find_28 rfl (lv_at hl 1 rfl) ?_
    obtain ⟨hi29, h⟩ := ck_some h
    refine va_iald hx hb hG.1 hP 2 0 rfl rfl hi29 dX6_find_29 ?_
    obtain ⟨r30, ycost_30, hc30, h⟩ := bd2_some h
    refine ct_V (As := [.int (ykey (r1 + (1 : Int32)).toNatClampNeg), .int (ykey r1.toNatClampNeg)]) (rest := []) (st1 := [.int r30]) (wf := [(yo, .inr (6, [.int ylength, .ref vytext, .ref vyrules, .int ymany, .ref vylaid, .ref vykey, .ref vytag, .ref vyroomKey, .ref vyroomTag, .int yruns, .ref vyrunAt, .ref vyrunMany, .int ywaitAt, .int ywaitMany, .ref vycost, .ref vyhadKey, .ref vyhadTag, .ref vyhadAt, .ref vyhadMany, .ref vyhadCost, .int ya0, .int ya1, .int yb0, .int yb1, .int yforward, .int yout])), (vyrules, .inl (cA, 4, .inl yrules)), (vykey, .inl (cA, 96, .inl ykey)), (vytag, .inl (cA, 96, .inl ytag)), (vyrunMany, .inl (cA, 96, .inl yrunMany)), (vycost, .inl (cA, 12, .inl ycost_30))]) (kX6_tests l D cA F yo vytext vyrules vylaid vykey vytag vyroomKey vyroomTag vyrunAt vyrunMany vycost vyhadKey vyhadTag vyhadAt vyhadMany vyhadCost  ylength ymany yruns ywaitAt ywaitMany ya0 ya1 yb0 yb1 yforward yout yrules ycost (ykey (r1 + (1 : Int32)).toNatClampNeg) (ykey r1.toNatClampNeg) r30 ycost_30 hc30) ⟨hx, hb, hml, hown, hts⟩ (cwV 2 hts gX6_find_X6_tests rfl rfl rfl (by decide +kernel) ⟨Nat.le_of_ble_eq_true rfl, Nat.le_of_ble_eq_true rfl⟩) hG hst hP hD hS hA 6 rfl rfl rfl [0, 1, 5] [2, 3, 4] [3, 4, 0, 1, 2, 5] rfl rfl rfl rfl rfl rfl hl.1 rfl rfl (Nat.le_of_ble_eq_true rfl) dX6_find_30 ⟨Nat.zero_le _, Nat.zero_le _⟩ (fun H locs hP hD hS => ?_)
    refine lv_istore_n (lv' := [(3, .int r30), (2, .int (r1 + (1 : Int32))), (1, .int r1), (0, .ref yo)]) hx hb dX6_find_33 rfl hl (by decide) rfl (fun ls hl => ?_)
    refine lv_iinc (v := (r1 + (1 : Int32)) + (1 : Int32)) (lv' := [(2, .int ((r1 + (1 : Int32)) + (1 : Int32))), (3, .int r30), (1, .int r1), (0, .ref yo)]) hx hb dX6_find_34 hl (k := 1) rfl (congrArg (fun z => (r1 + (1 : Int32)) + z) (by decide)) (by decide) rfl (fun ls hl => ?_)
    exact hmX6_find_37 F r1 ((r1 + (1 : Int32)) + (1 : Int32)) r30 ywaitAt ywaitMany ykey ytag ycost_30 _ _ _ h hP hD hS (lv_sub hl [3, 2, 0, 1] rfl)
set_option maxHeartbeats 4000000 in
set_option maxRecDepth 100000 in
theorem kX6_power (l : Launch) (D : va_G) (cA : ClassId) (F : Nat) (yo : Nat) (vytext : Nat) (vyrules : Nat) (vylaid : Nat) (vykey : Nat) (vytag : Nat) (vyroomKey : Nat) (vyroomTag : Nat) (vyrunAt : Nat) (vyrunMany : Nat) (vycost : Nat) (vyhadKey : Nat) (vyhadTag : Nat) (vyhadAt : Nat) (vyhadMany : Nat) (vyhadCost : Nat) (ylength : Int32) (ymany : Int32) (yruns : Int32) (ywaitAt : Int32) (ywaitMany : Int32) (ya0 : Int32) (ya1 : Int32) (yb0 : Int32) (yb1 : Int32) (yforward : Int32) (yout : Int32) (a1 : Int32) (a2 : Int32) (a3 : Int32) (r0 : Int32) (h : mX6_power F ymany a1 a2 a3 = some r0) : Ct l yX6_power wsX6_power ({ frames := 0, cells := 0, slots := 0, locals := 0 }) D cA [.ref yo, .int a1, .int a2, .int a3] [(yo, .inr (6, [.int ylength, .ref vytext, .ref vyrules, .int ymany, .ref vylaid, .ref vykey, .ref vytag, .ref vyroomKey, .ref vyroomTag, .int yruns, .ref vyrunAt, .ref vyrunMany, .int ywaitAt, .int ywaitMany, .ref vycost, .ref vyhadKey, .ref vyhadTag, .ref vyhadAt, .ref vyhadMany, .ref vyhadCost, .int ya0, .int ya1, .int yb0, .int yb1, .int yforward, .int yout]))] [(yo, .inr (6, [.int ylength, .ref vytext, .ref vyrules, .int ymany, .ref vylaid, .ref vykey, .ref vytag, .ref vyroomKey, .ref vyroomTag, .int yruns, .ref vyrunAt, .ref vyrunMany, .int ywaitAt, .int ywaitMany, .ref vycost, .ref vyhadKey, .ref vyhadTag, .ref vyhadAt, .ref vyhadMany, .ref vyhadCost, .int ya0, .int ya1, .int yb0, .int yb1, .int yforward, .int yout]))] (some (.int r0)) := by
  refine Ct.of (cc := cX6_power) (maxL := 5) (ret := (some .int)) (by decide) rfl (Nat.le_of_ble_eq_true rfl) ?_
  intro p e s m below meth c A ls hcx hG hst hA hP hD hl
  obtain ⟨hx, hb, hml, hown, hts, hr, hlocks⟩ := id hcx
  have hown : s.vm.findClass RX6 = some m.cls := hown
  have hS : va_S A s.heap s.heap [] := va_S.rf
  have hl : lv_has ls 5 [(0, .ref yo), (1, .int a1), (2, .int a2), (3, .int a3)] := hl
  have hinX6 : ∀ w ∈ u_ws RX6 TX6 26, w ∈ wsX6_power := by decide +kernel
  have fl55 := hts (.fieldLink RX6 55 "RunSorterModel" "many" "I") (by decide +kernel)
  have hmX6_power_3 : ∀ (n3 : Nat) (x4 : Int32) (H : Heap) (locs : List Loc) (ls : Array Slot), mX6_power_3 F ymany a1 a2 a3 n3 x4 = some r0 → va_P D vwCl [(yo, .inr (6, [.int ylength, .ref vytext, .ref vyrules, .int ymany, .ref vylaid, .ref vykey, .ref vytag, .ref vyroomKey, .ref vyroomTag, .int yruns, .ref vyrunAt, .ref vyrunMany, .int ywaitAt, .int ywaitMany, .ref vycost, .ref vyhadKey, .ref vyhadTag, .ref vyhadAt, .ref vyhadMany, .ref vyhadCost, .int ya0, .int ya1, .int yb0, .int yb1, .int yforward, .int yout]))] H → va_D A [(yo, .inr (6, [.int ylength, .ref vytext, .ref vyrules, .int ymany, .ref vylaid, .ref vykey, .ref vytag, .ref vyroomKey, .ref vyroomTag, .int yruns, .ref vyrunAt, .ref vyrunMany, .int ywaitAt, .int ywaitMany, .ref vycost, .ref vyhadKey, .ref vyhadTag, .ref vyhadAt, .ref vyhadMany, .ref vyhadCost, .int ya0, .int ya1, .int yb0, .int yb1, .int yforward, .int yout]))] → va_S A s.heap H locs → lv_has ls 5 [(0, .ref yo), (1, .int a1), (2, .int a2), (3, .int a3), (4, .int x4)] → W p l e ({ frames := 0, cells := 0, slots := 0, locals := 0 }) s m ([.ref yo, .int a1, .int a2, .int a3] : List Value).toArray below meth c H locs 0 0 (MQ below (Qw D A [(yo, .inr (6, [.int ylength, .ref vytext, .ref vyrules, .int ymany, .ref vylaid, .ref vykey, .ref vytag, .ref vyroomKey, .ref vyroomTag, .int yruns, .ref vyrunAt, .ref vyrunMany, .int ywaitAt, .int ywaitMany, .ref vycost, .ref vyhadKey, .ref vyhadTag, .ref vyhadAt, .ref vyhadMany, .ref vyhadCost, .int ya0, .int ya1, .int yb0, .int yb1, .int yforward, .int yout]))] (some (.int r0))) ([.ref yo, .int a1, .int a2, .int a3] : List Value).toArray s 0 0 A) (F0 m 3 ls []) := by
    intro n3
    induction n3 with
    | zero => intro x4 H locs ls h; exact (no_some h).elim
    | succ n3 ih3 =>
      intro x4 H locs ls h hP hD hS hl
      rw [mX6_power_3] at h
      refine lv_ldc2 (v := (2 : Int64)) hx hb hown (hts (.constantLong RX6 92 (2)) (by decide +kernel)) dX6_power_3 ?_
      refine lv_iload_n hx hb dX6_power_6 rfl (lv_at hl 1 rfl) ?_
      refine lv_i2l hx hb dX6_power_7 rfl ?_
      refine lv_lmul hx hb dX6_power_8 ?_
      refine lv_iload_n hx hb dX6_power_9 rfl (lv_at hl 2 rfl) ?_
      refine lv_i2l hx hb dX6_power_10 rfl ?_
      refine lv_ladd hx hb dX6_power_11 ?_
      refine lv_iload hx hb dX6_power_12 (lv_at hl 4 rfl) ?_
      refine lv_lshl hx hb dX6_power_14 rfl ?_
      refine lv_ldc2 (v := (2 : Int64)) hx hb hown (hts (.constantLong RX6 92 (2)) (by decide +kernel)) dX6_power_15 ?_
      refine lv_aload_n hx hb dX6_power_18 rfl (lv_at hl 0 rfl) ?_
      refine va_get (D := D) (cl := vwCl) (ci := 6) (v := .int ymany) (C := RX6) (T := TX6) (N := 26) hx hb hts hinX6 hown hG.1 hP 0 rfl rfl 3 (by decide) fl55 (fun _ h9 => h9) rfl dX6_power_19 ?_
      refine lv_i2l hx hb dX6_power_22 rfl ?_
      refine lv_lmul hx hb dX6_power_23 ?_
      obtain ⟨hz24, h⟩ := dzl_some h
      refine lv_ldiv hx hb dX6_power_24 hz24 ?_
      refine lv_ldc2 (v := (2 : Int64)) hx hb hown (hts (.constantLong RX6 92 (2)) (by decide +kernel)) dX6_power_25 ?_
      refine lv_iload_n hx hb dX6_power_28 rfl (lv_at hl 1 rfl) ?_
      refine lv_i2l hx hb dX6_power_29 rfl ?_
      refine lv_lmul hx hb dX6_power_30 ?_
      refine lv_ldc2 (v := (2 : Int64)) hx hb hown (hts (.constantLong RX6 92 (2)) (by decide +kernel)) dX6_power_31 ?_
      refine lv_iload_n hx hb dX6_power_34 rfl (lv_at hl 2 rfl) ?_
      refine lv_i2l hx hb dX6_power_35 rfl ?_
      refine lv_lmul hx hb dX6_power_36 ?_
      refine lv_ladd hx hb dX6_power_37 ?_
      refine lv_iload_n hx hb dX6_power_38 rfl (lv_at hl 3 rfl) ?_
      refine lv_i2l hx hb dX6_power_39 rfl ?_
      refine lv_ladd hx hb dX6_power_40 ?_
      refine lv_iload hx hb dX6_power_41 (lv_at hl 4 rfl) ?_
      refine lv_lshl hx hb dX6_power_43 rfl ?_
      refine lv_ldc2 (v := (2 : Int64)) hx hb hown (hts (.constantLong RX6 92 (2)) (by decide +kernel)) dX6_power_44 ?_
      refine lv_aload_n hx hb dX6_power_47 rfl (lv_at hl 0 rfl) ?_
      refine va_get (D := D) (cl := vwCl) (ci := 6) (v := .int ymany) (C := RX6) (T := TX6) (N := 26) hx hb hts hinX6 hown hG.1 hP 0 rfl rfl 3 (by decide) fl55 (fun _ h9 => h9) rfl dX6_power_48 ?_
      refine lv_i2l hx hb dX6_power_51 rfl ?_
      refine lv_lmul hx hb dX6_power_52 ?_
      obtain ⟨hz53, h⟩ := dzl_some h
      refine lv_ldiv hx hb dX6_power_53 hz53 ?_
      refine W.lcmp hx hb dX6_power_54 ?_
      refine lv_if_ne (tgt := 64) hx hb dX6_power_55 (by decide) (fun c55 => ?_) (fun c55 => ?_)
      · have h := i_f c55 h
        refine lv_iload hx hb dX6_power_64 (lv_at hl 4 rfl) ?_
        cases h
        exact rt_i hx hb hr hlocks hP hD hS dX6_power_66
      · have h := i_t c55 h
        refine lv_iinc (v := x4 + (1 : Int32)) (lv' := [(4, .int (x4 + (1 : Int32))), (0, .ref yo), (1, .int a1), (2, .int a2), (3, .int a3)]) hx hb dX6_power_58 hl (k := 4) rfl (congrArg (fun z => x4 + z) (by decide)) (by decide) rfl (fun ls hl => ?_)
        refine lv_goto (tgt := 3) hx hb dX6_power_61 (by decide) ?_
        exact ih3 (x4 + (1 : Int32)) _ _ _ h hP hD hS (lv_sub hl [1, 2, 3, 4, 0] rfl)
  unfold mX6_power at h
  refine lv_iconst (v := (1 : Int32)) hx hb dX6_power_0 (by decide) ?_
  refine lv_istore (lv' := [(4, .int (1 : Int32)), (0, .ref yo), (1, .int a1), (2, .int a2), (3, .int a3)]) hx hb dX6_power_1 hl (by decide) rfl (fun ls hl => ?_)
  exact hmX6_power_3 F (1 : Int32) _ _ _ h hP hD hS (lv_sub hl [1, 2, 3, 4, 0] rfl)
