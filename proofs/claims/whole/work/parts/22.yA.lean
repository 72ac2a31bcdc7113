/-! contracts, by program (wip/whole/gen.py) -/
set_option maxHeartbeats 4000000 in
set_option maxRecDepth 100000 in
theorem kX6_in (l : Launch) (D : va_G) (cA : ClassId) (F : Nat) (a0 : Int64) (a2 : Int64) (a4 : Int64) (r0 : Int32) (h : mX6_in F a0 a2 a4 = some r0) : Ct l yX6_in wsX6_in ({ frames := 0, cells := 0, slots := 0, locals := 0 }) D cA [.long a0, .long a2, .long a4] [] [] (some (.int r0)) := by
  refine Ct.of (cc := cX6_in) (maxL := 6) (ret := (some .boolean)) (by decide) rfl (Nat.le_of_ble_eq_true rfl) ?_
  intro p e s m below meth c A ls hcx hG hst hA hP hD hl
  obtain ⟨hx, hb, hml, hown, hts, hr, hlocks⟩ := id hcx
  have hown : s.vm.findClass RX6 = some m.cls := hown
  have hS : va_S A s.heap s.heap [] := va_S.rf
  have hl : lv_has ls 6 [(0, .long a0), (2, .long a2), (4, .long a4)] := hl
  unfold mX6_in at h
  refine lv_lload_n hx hb dX6_in_0 rfl (lv_at hl 0 rfl) ?_
  refine lv_lload_n hx hb dX6_in_1 rfl (lv_at hl 1 rfl) ?_
  refine W.lcmp hx hb dX6_in_2 ?_
  refine lv_if_lt (tgt := 17) hx hb dX6_in_3 (by decide) (fun c3 => ?_) (fun c3 => ?_)
  · have h := i_t c3 h
    refine lv_iconst (v := (0 : Int32)) hx hb dX6_in_17 (by decide) ?_
    obtain ⟨hz18, h⟩ := bz_some h
    cases h
    exact rt_z hx hb hr hlocks hz18 hP hD hS dX6_in_18
  · have h := i_f c3 h
    refine lv_lload_n hx hb dX6_in_6 rfl (lv_at hl 0 rfl) ?_
    refine lv_lload hx hb dX6_in_7 (lv_at hl 2 rfl) ?_
    refine W.lcmp hx hb dX6_in_9 ?_
    refine lv_if_gt (tgt := 17) hx hb dX6_in_10 (by decide) (fun c10 => ?_) (fun c10 => ?_)
    · have h := i_t c10 h
      refine lv_iconst (v := (0 : Int32)) hx hb dX6_in_17 (by decide) ?_
      obtain ⟨hz18, h⟩ := bz_some h
      cases h
      exact rt_z hx hb hr hlocks hz18 hP hD hS dX6_in_18
    · have h := i_f c10 h
      refine lv_iconst (v := (1 : Int32)) hx hb dX6_in_13 (by decide) ?_
      refine lv_goto (tgt := 18) hx hb dX6_in_14 (by decide) ?_
      obtain ⟨hz18, h⟩ := bz_some h
      cases h
      exact rt_z hx hb hr hlocks hz18 hP hD hS dX6_in_18
set_option maxHeartbeats 4000000 in
set_option maxRecDepth 100000 in
theorem kX6_isVowel (l : Launch) (D : va_G) (cA : ClassId) (F : Nat) (a0 : Int32) (r0 : Int32) (h : mX6_isVowel F a0 = some r0) : Ct l yX6_isVowel wsX6_isVowel ({ frames := 0, cells := 0, slots := 0, locals := 0 }) D cA [.int a0] [] [] (some (.int r0)) := by
  refine Ct.of (cc := cX6_isVowel) (maxL := 1) (ret := (some .boolean)) (by decide) rfl (Nat.le_of_ble_eq_true rfl) ?_
  intro p e s m below meth c A ls hcx hG hst hA hP hD hl
  obtain ⟨hx, hb, hml, hown, hts, hr, hlocks⟩ := id hcx
  have hown : s.vm.findClass RX6 = some m.cls := hown
  have hS : va_S A s.heap s.heap [] := va_S.rf
  have hl : lv_has ls 1 [(0, .int a0)] := hl
  unfold mX6_isVowel at h
  refine lv_iload_n hx hb dX6_isVowel_0 rfl (lv_at hl 0 rfl) ?_
  refine lv_if_eq (tgt := 27) hx hb dX6_isVowel_1 (by decide) (fun c1 => ?_) (fun c1 => ?_)
  · have h := i_t c1 h
    refine lv_iconst (v := (1 : Int32)) hx hb dX6_isVowel_27 (by decide) ?_
    refine lv_goto (tgt := 32) hx hb dX6_isVowel_28 (by decide) ?_
    obtain ⟨hz32, h⟩ := bz_some h
    cases h
    exact rt_z hx hb hr hlocks hz32 hP hD hS dX6_isVowel_32
  · have h := i_f c1 h
    refine lv_iload_n hx hb dX6_isVowel_4 rfl (lv_at hl 0 rfl) ?_
    refine lv_iconst (v := (4 : Int32)) hx hb dX6_isVowel_5 (by decide) ?_
    refine lv_icmp_eq (tgt := 27) hx hb dX6_isVowel_6 (by decide) (fun c6 => ?_) (fun c6 => ?_)
    · have h := i_t c6 h
      refine lv_iconst (v := (1 : Int32)) hx hb dX6_isVowel_27 (by decide) ?_
      refine lv_goto (tgt := 32) hx hb dX6_isVowel_28 (by decide) ?_
      obtain ⟨hz32, h⟩ := bz_some h
      cases h
      exact rt_z hx hb hr hlocks hz32 hP hD hS dX6_isVowel_32
    · have h := i_f c6 h
      refine lv_iload_n hx hb dX6_isVowel_9 rfl (lv_at hl 0 rfl) ?_
      refine lv_bipush (v := (8 : Int32)) hx hb dX6_isVowel_10 (by decide) ?_
      refine lv_icmp_eq (tgt := 27) hx hb dX6_isVowel_12 (by decide) (fun c12 => ?_) (fun c12 => ?_)
      · have h := i_t c12 h
        refine lv_iconst (v := (1 : Int32)) hx hb dX6_isVowel_27 (by decide) ?_
        refine lv_goto (tgt := 32) hx hb dX6_isVowel_28 (by decide) ?_
        obtain ⟨hz32, h⟩ := bz_some h
        cases h
        exact rt_z hx hb hr hlocks hz32 hP hD hS dX6_isVowel_32
      · have h := i_f c12 h
        refine lv_iload_n hx hb dX6_isVowel_15 rfl (lv_at hl 0 rfl) ?_
        refine lv_bipush (v := (14 : Int32)) hx hb dX6_isVowel_16 (by decide) ?_
        refine lv_icmp_eq (tgt := 27) hx hb dX6_isVowel_18 (by decide) (fun c18 => ?_) (fun c18 => ?_)
        · have h := i_t c18 h
          refine lv_iconst (v := (1 : Int32)) hx hb dX6_isVowel_27 (by decide) ?_
          refine lv_goto (tgt := 32) hx hb dX6_isVowel_28 (by decide) ?_
          obtain ⟨hz32, h⟩ := bz_some h
          cases h
          exact rt_z hx hb hr hlocks hz32 hP hD hS dX6_isVowel_32
        · have h := i_f c18 h
          refine lv_iload_n hx hb dX6_isVowel_21 rfl (lv_at hl 0 rfl) ?_
          refine lv_bipush (v := (20 : Int32)) hx hb dX6_isVowel_22 (by decide) ?_
          refine lv_icmp_ne (tgt := 31) hx hb dX6_isVowel_24 (by decide) (fun c24 => ?_) (fun c24 => ?_)
          · have h := i_f c24 h
            refine lv_iconst (v := (0 : Int32)) hx hb dX6_isVowel_31 (by decide) ?_
            obtain ⟨hz32, h⟩ := bz_some h
            cases h
            exact rt_z hx hb hr hlocks hz32 hP hD hS dX6_isVowel_32
          · have h := i_t c24 h
            refine lv_iconst (v := (1 : Int32)) hx hb dX6_isVowel_27 (by decide) ?_
            refine lv_goto (tgt := 32) hx hb dX6_isVowel_28 (by decide) ?_
            obtain ⟨hz32, h⟩ := bz_some h
            cases h
            exact rt_z hx hb hr hlocks hz32 hP hD hS dX6_isVowel_32
set_option maxHeartbeats 4000000 in
set_option maxRecDepth 100000 in
theorem kX6_copy (l : Launch) (D : va_G) (cA : ClassId) (F : Nat) (fv : Nat) (gv : Nat) (n : Nat) (ff : (Nat → Int32)) (gf : (Nat → Int32)) (gf_9 : (Nat → Int32)) (h : mX6_copy F n ff gf = some gf_9) : Ct l yX6_copy wsX6_copy ({ frames := 0, cells := 0, slots := 0, locals := 0 }) D cA [.ref fv, .ref gv] [(fv, .inl (cA, n, .inl ff)), (gv, .inl (cA, n, .inl gf))] [(fv, .inl (cA, n, .inl ff)), (gv, .inl (cA, n, .inl gf_9))] (none) := by
  refine Ct.of (cc := cX6_copy) (maxL := 3) (ret := none) (by decide) rfl (Nat.le_of_ble_eq_true rfl) ?_
  intro p e s m below meth c A ls hcx hG hst hA hP hD hl
  obtain ⟨hx, hb, hml, hown, hts, hr, hlocks⟩ := id hcx
  have hown : s.vm.findClass RX6 = some m.cls := hown
  have hS : va_S A s.heap s.heap [] := va_S.rf
  have hl : lv_has ls 3 [(0, .ref fv), (1, .ref gv)] := hl
  have hmX6_copy_2 : ∀ (n2 : Nat) (x2 : Int32) (gf : (Nat → Int32)) (H : Heap) (locs : List Loc) (ls : Array Slot), mX6_copy_2 F n ff n2 x2 gf = some gf_9 → va_P D vwCl [(fv, .inl (cA, n, .inl ff)), (gv, .inl (cA, n, .inl gf))] H → va_D A [(fv, .inl (cA, n, .inl ff)), (gv, .inl (cA, n, .inl gf))] → va_S A s.heap H locs → lv_has ls 3 [(0, .ref fv), (1, .ref gv), (2, .int x2)] → W p l e ({ frames := 0, cells := 0, slots := 0, locals := 0 }) s m ([.ref fv, .ref gv] : List Value).toArray below meth c H locs 0 0 (MQ below (Qw D A [(fv, .inl (cA, n, .inl ff)), (gv, .inl (cA, n, .inl gf_9))] (none)) ([.ref fv, .ref gv] : List Value).toArray s 0 0 A) (F0 m 2 ls []) := by
    intro n2
    induction n2 with
    | zero => intro x2 gf H locs ls h; exact (no_some h).elim
    | succ n2 ih2 =>
      intro x2 gf H locs ls h hP hD hS hl
      rw [mX6_copy_2] at h
      refine lv_iload_n hx hb dX6_copy_2 rfl (lv_at hl 2 rfl) ?_
      refine lv_aload_n hx hb dX6_copy_3 rfl (lv_at hl 0 rfl) ?_
      refine va_alen (v := Int32.ofNat n) hx hb hG.1 hP 0 0 rfl rfl rfl dX6_copy_4 ?_
      refine lv_icmp_ge (tgt := 20) hx hb dX6_copy_5 (by decide) (fun c5 => ?_) (fun c5 => ?_)
      · have h := i_t c5 h
        cases h
        exact rt_v hx hb hr hlocks hP hD hS dX6_copy_20
      · have h := i_f c5 h
        refine lv_aload_n hx hb dX6_copy_8 rfl (lv_at hl 1 rfl) ?_
        refine lv_iload_n hx hb dX6_copy_9 rfl (lv_at hl 2 rfl) ?_
        refine lv_aload_n hx hb dX6_copy_10 rfl (lv_at hl 0 rfl) ?_
        refine lv_iload_n hx hb dX6_copy_11 rfl (lv_at hl 2 rfl) ?_
        obtain ⟨hi12, h⟩ := ck_some h
        refine va_iald hx hb hG.1 hP 0 0 rfl rfl hi12 dX6_copy_12 ?_
        obtain ⟨hi13, h⟩ := ck_some h
        refine va_iast hx hb hG.1 hP hD hS 1 0 rfl rfl hi13 dX6_copy_13 (fun H locs hP hD hS => ?_)
        have hP : va_P D vwCl [(fv, .inl (cA, n, .inl ff)), (gv, .inl (cA, n, .inl (upd gf x2.toNatClampNeg (ff x2.toNatClampNeg))))] H := hP
        have hD : va_D A [(fv, .inl (cA, n, .inl ff)), (gv, .inl (cA, n, .inl (upd gf x2.toNatClampNeg (ff x2.toNatClampNeg))))] := hD
        refine lv_iinc (v := x2 + (1 : Int32)) (lv' := [(2, .int (x2 + (1 : Int32))), (0, .ref fv), (1, .ref gv)]) hx hb dX6_copy_14 hl (k := 2) rfl (congrArg (fun z => x2 + z) (by decide)) (by decide) rfl (fun ls hl => ?_)
        refine lv_goto (tgt := 2) hx hb dX6_copy_17 (by decide) ?_
        exact ih2 (x2 + (1 : Int32)) (upd gf x2.toNatClampNeg (ff x2.toNatClampNeg)) _ _ _ h hP hD hS (lv_sub hl [1, 2, 0] rfl)
  unfold mX6_copy at h
  refine lv_iconst (v := (0 : Int32)) hx hb dX6_copy_0 (by decide) ?_
  refine lv_istore_n (lv' := [(2, .int (0 : Int32)), (0, .ref fv), (1, .ref gv)]) hx hb dX6_copy_1 rfl hl (by decide) rfl (fun ls hl => ?_)
  exact hmX6_copy_2 F (0 : Int32) gf _ _ _ h hP hD hS (lv_sub hl [1, 2, 0] rfl)
set_option maxHeartbeats 4000000 in
set_option maxRecDepth 100000 in
theorem kX6_write (l : Launch) (D : va_G) (cA : ClassId) (F : Nat) (yo : Nat) (vytext : Nat) (vyrules : Nat) (vylaid : Nat) (vykey : Nat) (vytag : Nat) (vyroomKey : Nat) (vyroomTag : Nat) (vyrunAt : Nat) (vyrunMany : Nat) (vycost : Nat) (vyhadKey : Nat) (vyhadTag : Nat) (vyhadAt : Nat) (vyhadMany : Nat) (vyhadCost : Nat) (ylength : Int32) (ymany : Int32) (yruns : Int32) (ywaitAt : Int32) (ywaitMany : Int32) (ya0 : Int32) (ya1 : Int32) (yb0 : Int32) (yb1 : Int32) (yforward : Int32) (yout : Int32) (ytext : (Nat → Int32)) (a1 : Int32) (r0 : Int32) (ylength_9 : Int32) (ytext_9 : (Nat → Int32)) (h : mX6_write F ylength ytext a1 = some (r0, ylength_9, ytext_9)) : Ct l yX6_write wsX6_write ({ frames := 1, cells := 0, slots := 0, locals := 25 }) D cA [.ref yo, .int a1] [(yo, .inr (6, [.int ylength, .ref vytext, .ref vyrules, .int ymany, .ref vylaid, .ref vykey, .ref vytag, .ref vyroomKey, .ref vyroomTag, .int yruns, .ref vyrunAt, .ref vyrunMany, .int ywaitAt, .int ywaitMany, .ref vycost, .ref vyhadKey, .ref vyhadTag, .ref vyhadAt, .ref vyhadMany, .ref vyhadCost, .int ya0, .int ya1, .int yb0, .int yb1, .int yforward, .int yout])), (vytext, .inl (cA, 200, .inl ytext))] [(yo, .inr (6, [.int ylength_9, .ref vytext, .ref vyrules, .int ymany, .ref vylaid, .ref vykey, .ref vytag, .ref vyroomKey, .ref vyroomTag, .int yruns, .ref vyrunAt, .ref vyrunMany, .int ywaitAt, .int ywaitMany, .ref vycost, .ref vyhadKey, .ref vyhadTag, .ref vyhadAt, .ref vyhadMany, .ref vyhadCost, .int ya0, .int ya1, .int yb0, .int yb1, .int yforward, .int yout])), (vytext, .inl (cA, 200, .inl ytext_9))] (some (.int r0)) := by
  refine Ct.of (cc := cX6_write) (maxL := 2) (ret := (some .int)) (by decide) rfl (Nat.le_of_ble_eq_true rfl) ?_
  intro p e s m below meth c A ls hcx hG hst hA hP hD hl
  obtain ⟨hx, hb, hml, hown, hts, hr, hlocks⟩ := id hcx
  have hown : s.vm.findClass RX6 = some m.cls := hown
  have hS : va_S A s.heap s.heap [] := va_S.rf
  have hl : lv_has ls 2 [(0, .ref yo), (1, .int a1)] := hl
  have hinX6 : ∀ w ∈ u_ws RX6 TX6 26, w ∈ wsX6_write := by decide +kernel
  have fl70 := hts (.fieldLink RX6 70 "RunSorterModel" "length" "I") (by decide +kernel)
  have fl7 := hts (.fieldLink RX6 7 "RunSorterModel" "text" "[I") (by decide +kernel)
  unfold mX6_write at h
  refine lv_iload_n hx hb dX6_write_0 rfl (lv_at hl 1 rfl) ?_
  refine lv_i2l hx hb dX6_write_1 rfl ?_
  refine lv_ldc2 (v := (32 : Int64)) hx hb hown (hts (.constantLong RX6 62 (32)) (by decide +kernel)) dX6_write_2 ?_
  refine lv_ldc2 (v := (126 : Int64)) hx hb hown (hts (.constantLong RX6 64 (126)) (by decide +kernel)) dX6_write_5 ?_
  obtain ⟨r8, hc8, h⟩ := bd1_some h
  refine ct_S (As := [.long a1.toInt64, .long (32 : Int64), .long (126 : Int64)]) (rest := []) (st1 := [.int r8]) (wf := [(yo, .inr (6, [.int ylength, .ref vytext, .ref vyrules, .int ymany, .ref vylaid, .ref vykey, .ref vytag, .ref vyroomKey, .ref vyroomTag, .int yruns, .ref vyrunAt, .ref vyrunMany, .int ywaitAt, .int ywaitMany, .ref vycost, .ref vyhadKey, .ref vyhadTag, .ref vyhadAt, .ref vyhadMany, .ref vyhadCost, .int ya0, .int ya1, .int yb0, .int yb1, .int yforward, .int yout])), (vytext, .inl (cA, 200, .inl ytext))]) (kX6_in l D cA F    a1.toInt64 (32 : Int64) (126 : Int64) r8 hc8) ⟨hx, hb, hml, hown, hts⟩ (va_cwS 3 hts gX6_write_X6_in rfl rfl rfl (by decide +kernel) ⟨Nat.le_of_ble_eq_true rfl, Nat.le_of_ble_eq_true rfl⟩) hG hst hP hD hS hA [] [0, 1] [0, 1] rfl rfl rfl rfl rfl rfl hl.1 rfl rfl (Nat.le_of_ble_eq_true rfl) dX6_write_8 ⟨Nat.zero_le _, Nat.zero_le _⟩ (fun H locs hP hD hS => ?_)
  refine lv_if_ne (tgt := 16) hx hb dX6_write_11 (by decide) (fun c11 => ?_) (fun c11 => ?_)
  · have h := i_f c11 h
    refine lv_aload_n hx hb dX6_write_16 rfl (lv_at hl 0 rfl) ?_
    refine va_get (D := D) (cl := vwCl) (ci := 6) (v := .int ylength) (C := RX6) (T := TX6) (N := 26) hx hb hts hinX6 hown hG.1 hP 0 rfl rfl 0 (by decide) fl70 (fun _ h9 => h9) rfl dX6_write_17 ?_
    refine lv_sipush (v := (200 : Int32)) hx hb dX6_write_20 (by decide) ?_
    refine lv_icmp_ne (tgt := 29) hx hb dX6_write_23 (by decide) (fun c23 => ?_) (fun c23 => ?_)
    · have h := i_f c23 h
      refine lv_aload_n hx hb dX6_write_29 rfl (lv_at hl 0 rfl) ?_
      refine va_get (D := D) (cl := vwCl) (ci := 6) (v := .ref vytext) (C := RX6) (T := TX6) (N := 26) hx hb hts hinX6 hown hG.1 hP 0 rfl rfl 1 (by decide) fl7 (fun _ h9 => h9) rfl dX6_write_30 ?_
      refine lv_aload_n hx hb dX6_write_33 rfl (lv_at hl 0 rfl) ?_
      refine va_get (D := D) (cl := vwCl) (ci := 6) (v := .int ylength) (C := RX6) (T := TX6) (N := 26) hx hb hts hinX6 hown hG.1 hP 0 rfl rfl 0 (by decide) fl70 (fun _ h9 => h9) rfl dX6_write_34 ?_
      refine lv_iload_n hx hb dX6_write_37 rfl (lv_at hl 1 rfl) ?_
      obtain ⟨hi38, h⟩ := ck_some h
      refine va_iast hx hb hG.1 hP hD hS 1 0 rfl rfl hi38 dX6_write_38 (fun H locs hP hD hS => ?_)
      have hP : va_P D vwCl [(yo, .inr (6, [.int ylength, .ref vytext, .ref vyrules, .int ymany, .ref vylaid, .ref vykey, .ref vytag, .ref vyroomKey, .ref vyroomTag, .int yruns, .ref vyrunAt, .ref vyrunMany, .int ywaitAt, .int ywaitMany, .ref vycost, .ref vyhadKey, .ref vyhadTag, .ref vyhadAt, .ref vyhadMany, .ref vyhadCost, .int ya0, .int ya1, .int yb0, .int yb1, .int yforward, .int yout])), (vytext, .inl (cA, 200, .inl (upd ytext ylength.toNatClampNeg a1)))] H := hP
      have hD : va_D A [(yo, .inr (6, [.int ylength, .ref vytext, .ref vyrules, .int ymany, .ref vylaid, .ref vykey, .ref vytag, .ref vyroomKey, .ref vyroomTag, .int yruns, .ref vyrunAt, .ref vyrunMany, .int ywaitAt, .int ywaitMany, .ref vycost, .ref vyhadKey, .ref vyhadTag, .ref vyhadAt, .ref vyhadMany, .ref vyhadCost, .int ya0, .int ya1, .int yb0, .int yb1, .int yforward, .int yout])), (vytext, .inl (cA, 200, .inl (upd ytext ylength.toNatClampNeg a1)))] := hD
      refine lv_aload_n hx hb dX6_write_39 rfl (lv_at hl 0 rfl) ?_
      refine lv_dup hx hb dX6_write_40 rfl ?_
      refine va_get (D := D) (cl := vwCl) (ci := 6) (v := .int ylength) (C := RX6) (T := TX6) (N := 26) hx hb hts hinX6 hown hG.1 hP 0 rfl rfl 0 (by decide) fl70 (fun _ h9 => h9) rfl dX6_write_41 ?_
      refine lv_iconst (v := (1 : Int32)) hx hb dX6_write_44 (by decide) ?_
      refine lv_iadd hx hb dX6_write_45 ?_
      refine va_put (D := D) (cl := vwCl) (ci := 6) (v := .int (ylength + (1 : Int32))) (ty := .int) (C := RX6) (T := TX6) (N := 26) hx hb hts hinX6 tyX6 tyX6_ok nmX6 hown hG.1 hP hD hS 0 rfl rfl 0 (by decide) fl70 (fun _ h9 => h9) rfl (by decide +kernel) rfl rfl (Nat.le_of_ble_eq_true rfl) dX6_write_46 (fun H locs hP hD hS => ?_)
      have hP : va_P D vwCl [(yo, .inr (6, [.int (ylength + (1 : Int32)), .ref vytext, .ref vyrules, .int ymany, .ref vylaid, .ref vykey, .ref vytag, .ref vyroomKey, .ref vyroomTag, .int yruns, .ref vyrunAt, .ref vyrunMany, .int ywaitAt, .int ywaitMany, .ref vycost, .ref vyhadKey, .ref vyhadTag, .ref vyhadAt, .ref vyhadMany, .ref vyhadCost, .int ya0, .int ya1, .int yb0, .int yb1, .int yforward, .int yout])), (vytext, .inl (cA, 200, .inl (upd ytext ylength.toNatClampNeg a1)))] H := hP
      have hD : va_D A [(yo, .inr (6, [.int (ylength + (1 : Int32)), .ref vytext, .ref vyrules, .int ymany, .ref vylaid, .ref vykey, .ref vytag, .ref vyroomKey, .ref vyroomTag, .int yruns, .ref vyrunAt, .ref vyrunMany, .int ywaitAt, .int ywaitMany, .ref vycost, .ref vyhadKey, .ref vyhadTag, .ref vyhadAt, .ref vyhadMany, .ref vyhadCost, .int ya0, .int ya1, .int yb0, .int yb1, .int yforward, .int yout])), (vytext, .inl (cA, 200, .inl (upd ytext ylength.toNatClampNeg a1)))] := hD
      refine lv_aload_n hx hb dX6_write_49 rfl (lv_at hl 0 rfl) ?_
      refine va_get (D := D) (cl := vwCl) (ci := 6) (v := .int (ylength + (1 : Int32))) (C := RX6) (T := TX6) (N := 26) hx hb hts hinX6 hown hG.1 hP 0 rfl rfl 0 (by decide) fl70 (fun _ h9 => h9) rfl dX6_write_50 ?_
      cases h
      exact rt_i hx hb hr hlocks hP hD hS dX6_write_53
    · have h := i_t c23 h
      refine lv_bipush (v := (-3 : Int32)) hx hb dX6_write_26 (by decide) ?_
      cases h
      exact rt_i hx hb hr hlocks hP hD hS dX6_write_28
  · have h := i_t c11 h
    refine lv_iconst (v := (-1 : Int32)) hx hb dX6_write_14 (by decide) ?_
    cases h
    exact rt_i hx hb hr hlocks hP hD hS dX6_write_15
set_option maxHeartbeats 4000000 in
set_option maxRecDepth 100000 in
theorem kX6_wipe (l : Launch) (D : va_G) (cA : ClassId) (F : Nat) (yo : Nat) (vytext : Nat) (vyrules : Nat) (vylaid : Nat) (vykey : Nat) (vytag : Nat) (vyroomKey : Nat) (vyroomTag : Nat) (vyrunAt : Nat) (vyrunMany : Nat) (vycost : Nat) (vyhadKey : Nat) (vyhadTag : Nat) (vyhadAt : Nat) (vyhadMany : Nat) (vyhadCost : Nat) (ylength : Int32) (ymany : Int32) (yruns : Int32) (ywaitAt : Int32) (ywaitMany : Int32) (ya0 : Int32) (ya1 : Int32) (yb0 : Int32) (yb1 : Int32) (yforward : Int32) (yout : Int32) (r0 : Int32) (ylength_9 : Int32) (h : mX6_wipe F ylength = some (r0, ylength_9)) : Ct l yX6_wipe wsX6_wipe ({ frames := 0, cells := 0, slots := 0, locals := 0 }) D cA [.ref yo] [(yo, .inr (6, [.int ylength, .ref vytext, .ref vyrules, .int ymany, .ref vylaid, .ref vykey, .ref vytag, .ref vyroomKey, .ref vyroomTag, .int yruns, .ref vyrunAt, .ref vyrunMany, .int ywaitAt, .int ywaitMany, .ref vycost, .ref vyhadKey, .ref vyhadTag, .ref vyhadAt, .ref vyhadMany, .ref vyhadCost, .int ya0, .int ya1, .int yb0, .int yb1, .int yforward, .int yout]))] [(yo, .inr (6, [.int ylength_9, .ref vytext, .ref vyrules, .int ymany, .ref vylaid, .ref vykey, .ref vytag, .ref vyroomKey, .ref vyroomTag, .int yruns, .ref vyrunAt, .ref vyrunMany, .int ywaitAt, .int ywaitMany, .ref vycost, .ref vyhadKey, .ref vyhadTag, .ref vyhadAt, .ref vyhadMany, .ref vyhadCost, .int ya0, .int ya1, .int yb0, .int yb1, .int yforward, .int yout]))] (some (.int r0)) := by
  refine Ct.of (cc := cX6_wipe) (maxL := 2) (ret := (some .int)) (by decide) rfl (Nat.le_of_ble_eq_true rfl) ?_
  intro p e s m below meth c A ls hcx hG hst hA hP hD hl
  obtain ⟨hx, hb, hml, hown, hts, hr, hlocks⟩ := id hcx
  have hown : s.vm.findClass RX6 = some m.cls := hown
  have hS : va_S A s.heap s.heap [] := va_S.rf
  have hl : lv_has ls 2 [(0, .ref yo)] := hl
  have hinX6 : ∀ w ∈ u_ws RX6 TX6 26, w ∈ wsX6_wipe := by decide +kernel
  have fl70 := hts (.fieldLink RX6 70 "RunSorterModel" "length" "I") (by decide +kernel)
  unfold mX6_wipe at h
  refine lv_aload_n hx hb dX6_wipe_0 rfl (lv_at hl 0 rfl) ?_
  refine va_get (D := D) (cl := vwCl) (ci := 6) (v := .int ylength) (C := RX6) (T := TX6) (N := 26) hx hb hts hinX6 hown hG.1 hP 0 rfl rfl 0 (by decide) fl70 (fun _ h9 => h9) rfl dX6_wipe_1 ?_
  refine lv_istore_n (lv' := [(1, .int ylength), (0, .ref yo)]) hx hb dX6_wipe_4 rfl hl (by decide) rfl (fun ls hl => ?_)
  refine lv_aload_n hx hb dX6_wipe_5 rfl (lv_at hl 1 rfl) ?_
  refine lv_iconst (v := (0 : Int32)) hx hb dX6_wipe_6 (by decide) ?_
  refine va_put (D := D) (cl := vwCl) (ci := 6) (v := .int (0 : Int32)) (ty := .int) (C := RX6) (T := TX6) (N := 26) hx hb hts hinX6 tyX6 tyX6_ok nmX6 hown hG.1 hP hD hS 0 rfl rfl 0 (by decide) fl70 (fun _ h9 => h9) rfl (by decide +kernel) rfl rfl (Nat.le_of_ble_eq_true rfl) dX6_wipe_7 (fun H locs hP hD hS => ?_)
  have hP : va_P D vwCl [(yo, .inr (6, [.int (0 : Int32), .ref vytext, .ref vyrules, .int ymany, .ref vylaid, .ref vykey, .ref vytag, .ref vyroomKey, .ref vyroomTag, .int yruns, .ref vyrunAt, .ref vyrunMany, .int ywaitAt, .int ywaitMany, .ref vycost, .ref vyhadKey, .ref vyhadTag, .ref vyhadAt, .ref vyhadMany, .ref vyhadCost, .int ya0, .int ya1, .int yb0, .int yb1, .int yforward, .int yout]))] H := hP
  have hD : va_D A [(yo, .inr (6, [.int (0 : Int32), .ref vytext, .ref vyrules, .int ymany, .ref vylaid, .ref vykey, .ref vytag, .ref vyroomKey, .ref vyroomTag, .int yruns, .ref vyrunAt, .ref vyrunMany, .int ywaitAt, .int ywaitMany, .ref vycost, .ref vyhadKey, .ref vyhadTag, .ref vyhadAt, .ref vyhadMany, .ref vyhadCost, .int ya0, .int ya1, .int yb0, .int yb1, .int yforward, .int yout]))] := hD
  refine lv_iload_n hx hb dX6_wipe_10 rfl (lv_at hl 0 rfl) ?_
  cases h
  exact rt_i hx hb hr hlocks hP hD hS dX6_wipe_11
set_option maxHeartbeats 4000000 in
set_option maxRecDepth 100000 in
theorem kX6_fault (l : Launch) (D : va_G) (cA : ClassId) (F : Nat) (yo : Nat) (vytext : Nat) (vyrules : Nat) (vylaid : Nat) (vykey : Nat) (vytag : Nat) (vyroomKey : Nat) (vyroomTag : Nat) (vyrunAt : Nat) (vyrunMany : Nat) (vycost : Nat) (vyhadKey : Nat) (vyhadTag : Nat) (vyhadAt : Nat) (vyhadMany : Nat) (vyhadCost : Nat) (ylength : Int32) (ymany : Int32) (yruns : Int32) (ywaitAt : Int32) (ywaitMany : Int32) (ya0 : Int32) (ya1 : Int32) (yb0 : Int32) (yb1 : Int32) (yforward : Int32) (yout : Int32) (ytext : (Nat → Int32)) (r0 : Int32) (h : mX6_fault F ylength ytext = some r0) : Ct l yX6_fault wsX6_fault ({ frames := 1, cells := 0, slots := 0, locals := 25 }) D cA [.ref yo] [(yo, .inr (6, [.int ylength, .ref vytext, .ref vyrules, .int ymany, .ref vylaid, .ref vykey, .ref vytag, .ref vyroomKey, .ref vyroomTag, .int yruns, .ref vyrunAt, .ref vyrunMany, .int ywaitAt, .int ywaitMany, .ref vycost, .ref vyhadKey, .ref vyhadTag, .ref vyhadAt, .ref vyhadMany, .ref vyhadCost, .int ya0, .int ya1, .int yb0, .int yb1, .int yforward, .int yout])), (vytext, .inl (cA, 200, .inl ytext))] [(yo, .inr (6, [.int ylength, .ref vytext, .ref vyrules, .int ymany, .ref vylaid, .ref vykey, .ref vytag, .ref vyroomKey, .ref vyroomTag, .int yruns, .ref vyrunAt, .ref vyrunMany, .int ywaitAt, .int ywaitMany, .ref vycost, .ref vyhadKey, .ref vyhadTag, .ref vyhadAt, .ref vyhadMany, .ref vyhadCost, .int ya0, .int ya1, .int yb0, .int yb1, .int yforward, .int yout])), (vytext, .inl (cA, 200, .inl ytext))] (some (.int r0)) := by
  refine Ct.of (cc := cX6_fault) (maxL := 2) (ret := (some .int)) (by decide) rfl (Nat.le_of_ble_eq_true rfl) ?_
  intro p e s m below meth c A ls hcx hG hst hA hP hD hl
  obtain ⟨hx, hb, hml, hown, hts, hr, hlocks⟩ := id hcx
  have hown : s.vm.findClass RX6 = some m.cls := hown
  have hS : va_S A s.heap s.heap [] := va_S.rf
  have hl : lv_has ls 2 [(0, .ref yo)] := hl
  have hinX6 : ∀ w ∈ u_ws RX6 TX6 26, w ∈ wsX6_fault := by decide +kernel
  have fl70 := hts (.fieldLink RX6 70 "RunSorterModel" "length" "I") (by decide +kernel)
  have fl7 := hts (.fieldLink RX6 7 "RunSorterModel" "text" "[I") (by decide +kernel)
  have hmX6_fault_2 : ∀ (n2 : Nat) (x1 : Int32) (H : Heap) (locs : List Loc) (ls : Array Slot), mX6_fault_2 F ylength ytext n2 x1 = some r0 → va_P D vwCl [(yo, .inr (6, [.int ylength, .ref vytext, .ref vyrules, .int ymany, .ref vylaid, .ref vykey, .ref vytag, .ref vyroomKey, .ref vyroomTag, .int yruns, .ref vyrunAt, .ref vyrunMany, .int ywaitAt, .int ywaitMany, .ref vycost, .ref vyhadKey, .ref vyhadTag, .ref vyhadAt, .ref vyhadMany, .ref vyhadCost, .int ya0, .int ya1, .int yb0, .int yb1, .int yforward, .int yout])), (vytext, .inl (cA, 200, .inl ytext))] H → va_D A [(yo, .inr (6, [.int ylength, .ref vytext, .ref vyrules, .int ymany, .ref vylaid, .ref vykey, .ref vytag, .ref vyroomKey, .ref vyroomTag, .int yruns, .ref vyrunAt, .ref vyrunMany, .int ywaitAt, .int ywaitMany, .ref vycost, .ref vyhadKey, .ref vyhadTag, .ref vyhadAt, .ref vyhadMany, .ref vyhadCost, .int ya0, .int ya1, .int yb0, .int yb1, .int yforward, .int yout])), (vytext, .inl (cA, 200, .inl ytext))] → va_S A s.heap H locs → lv_has ls 2 [(0, .ref yo), (1, .int x1)] → W p l e ({ frames := 1, cells := 0, slots := 0, locals := 25 }) s m ([.ref yo] : List Value).toArray below meth c H locs 0 0 (MQ below (Qw D A [(yo, .inr (6, [.int ylength, .ref vytext, .ref vyrules, .int ymany, .ref vylaid, .ref vykey, .ref vytag, .ref vyroomKey, .ref vyroomTag, .int yruns, .ref vyrunAt, .ref vyrunMany, .int ywaitAt, .int ywaitMany, .ref vycost, .ref vyhadKey, .ref vyhadTag, .ref vyhadAt, .ref vyhadMany, .ref vyhadCost, .int ya0, .int ya1, .int yb0, .int yb1, .int yforward, .int yout])), (vytext, .inl (cA, 200, .inl ytext))] (some (.int r0))) ([.ref yo] : List Value).toArray s 0 0 A) (F0 m 2 ls []) := by
    intro n2
    induction n2 with
    | zero => intro x1 H locs ls h; exact (no_some h).elim
    | succ n2 ih2 =>
      intro x1 H locs ls h hP hD hS hl
      rw [mX6_fault_2] at h
      refine lv_iload_n hx hb dX6_fault_2 rfl (lv_at hl 1 rfl) ?_
      refine lv_aload_n hx hb dX6_fault_3 rfl (lv_at hl 0 rfl) ?_
      refine va_get (D := D) (cl := vwCl) (ci := 6) (v := .int ylength) (C := RX6) (T := TX6) (N := 26) hx hb hts hinX6 hown hG.1 hP 0 rfl rfl 0 (by decide) fl70 (fun _ h9 => h9) rfl dX6_fault_4 ?_
      refine lv_icmp_ge (tgt := 43) hx hb dX6_fault_7 (by decide) (fun c7 => ?_) (fun c7 => ?_)
      · have h := i_t c7 h
        refine lv_bipush (v := (-4 : Int32)) hx hb dX6_fault_43 (by decide) ?_
        cases h
        exact rt_i hx hb hr hlocks hP hD hS dX6_fault_45
      · have h := i_f c7 h
        refine lv_aload_n hx hb dX6_fault_10 rfl (lv_at hl 0 rfl) ?_
        refine va_get (D := D) (cl := vwCl) (ci := 6) (v := .ref vytext) (C := RX6) (T := TX6) (N := 26) hx hb hts hinX6 hown hG.1 hP 0 rfl rfl 1 (by decide) fl7 (fun _ h9 => h9) rfl dX6_fault_11 ?_
        refine lv_iload_n hx hb dX6_fault_14 rfl (lv_at hl 1 rfl) ?_
        obtain ⟨hi15, h⟩ := ck_some h
        refine va_iald hx hb hG.1 hP 1 0 rfl rfl hi15 dX6_fault_15 ?_
        refine lv_i2l hx hb dX6_fault_16 rfl ?_
        refine lv_ldc2 (v := (97 : Int64)) hx hb hown (hts (.constantLong RX6 73 (97)) (by decide +kernel)) dX6_fault_17 ?_
        refine lv_ldc2 (v := (122 : Int64)) hx hb hown (hts (.constantLong RX6 75 (122)) (by decide +kernel)) dX6_fault_20 ?_
        obtain ⟨r23, hc23, h⟩ := bd1_some h
        refine ct_S (As := [.long ((ytext x1.toNatClampNeg).toInt64), .long (97 : Int64), .long (122 : Int64)]) (rest := []) (st1 := [.int r23]) (wf := [(yo, .inr (6, [.int ylength, .ref vytext, .ref vyrules, .int ymany, .ref vylaid, .ref vykey, .ref vytag, .ref vyroomKey, .ref vyroomTag, .int yruns, .ref vyrunAt, .ref vyrunMany, .int ywaitAt, .int ywaitMany, .ref vycost, .ref vyhadKey, .ref vyhadTag, .ref vyhadAt, .ref vyhadMany, .ref vyhadCost, .int ya0, .int ya1, .int yb0, .int yb1, .int yforward, .int yout])), (vytext, .inl (cA, 200, .inl ytext))]) (kX6_in l D cA F    ((ytext x1.toNatClampNeg).toInt64) (97 : Int64) (122 : Int64) r23 hc23) ⟨hx, hb, hml, hown, hts⟩ (va_cwS 3 hts gX6_fault_X6_in rfl rfl rfl (by decide +kernel) ⟨Nat.le_of_ble_eq_true rfl, Nat.le_of_ble_eq_true rfl⟩) hG hst hP hD hS hA [] [0, 1] [0, 1] rfl rfl rfl rfl rfl rfl hl.1 rfl rfl (Nat.le_of_ble_eq_true rfl) dX6_fault_23 ⟨Nat.zero_le _, Nat.zero_le _⟩ (fun H locs hP hD hS => ?_)
        refine lv_if_eq (tgt := 35) hx hb dX6_fault_26 (by decide) (fun c26 => ?_) (fun c26 => ?_)
        · have h := i_t c26 h
          refine lv_iload_n hx hb dX6_fault_35 rfl (lv_at hl 1 rfl) ?_
          cases h
          exact rt_i hx hb hr hlocks hP hD hS dX6_fault_36
        · have h := i_f c26 h
          refine lv_iload_n hx hb dX6_fault_29 rfl (lv_at hl 1 rfl) ?_
          refine lv_bipush (v := (96 : Int32)) hx hb dX6_fault_30 (by decide) ?_
          refine lv_icmp_ne (tgt := 37) hx hb dX6_fault_32 (by decide) (fun c32 => ?_) (fun c32 => ?_)
          · have h := i_f c32 h
            refine lv_iinc (v := x1 + (1 : Int32)) (lv' := [(1, .int (x1 + (1 : Int32))), (0, .ref yo)]) hx hb dX6_fault_37 hl (k := 1) rfl (congrArg (fun z => x1 + z) (by decide)) (by decide) rfl (fun ls hl => ?_)
            refine lv_goto (tgt := 2) hx hb dX6_fault_40 (by decide) ?_
            exact ih2 (x1 + (1 : Int32)) _ _ _ h hP hD hS (lv_sub hl [1, 0] rfl)
          · have h := i_t c32 h
            refine lv_iload_n hx hb dX6_fault_35 rfl (lv_at hl 1 rfl) ?_
            cases h
            exact rt_i hx hb hr hlocks hP hD hS dX6_fault_36
  unfold mX6_fault at h
  refine lv_iconst (v := (0 : Int32)) hx hb dX6_fault_0 (by decide) ?_
  refine lv_istore_n (lv' := [(1, .int (0 : Int32)), (0, .ref yo)]) hx hb dX6_fault_1 rfl hl (by decide) rfl (fun ls hl => ?_)
  exact hmX6_fault_2 F (0 : Int32) _ _ _ h hP hD hS (lv_sub hl [1, 0] rfl)
set_option maxHeartbeats 4000000 in
set_option maxRecDepth 100000 in
theorem kX6_begin (l : Launch) (D : va_G) (cA : ClassId) (F : Nat) (yo : Nat) (vytext : Nat) (vyrules : Nat) (vylaid : Nat) (vykey : Nat) (vytag : Nat) (vyroomKey : Nat) (vyroomTag : Nat) (vyrunAt : Nat) (vyrunMany : Nat) (vycost : Nat) (vyhadKey : Nat) (vyhadTag : Nat) (vyhadAt : Nat) (vyhadMany : Nat) (vyhadCost : Nat) (ylength : Int32) (ymany : Int32) (yruns : Int32) (ywaitAt : Int32) (ywaitMany : Int32) (ya0 : Int32) (ya1 : Int32) (yb0 : Int32) (yb1 : Int32) (yforward : Int32) (yout : Int32) (yrules : (Nat → Int32)) (ylaid : (Nat → Int32)) (ykey : (Nat → Int32)) (ytag : (Nat → Int32)) (ycost : (Nat → Int32)) (yruns_9 : Int32) (ywaitAt_9 : Int32) (ywaitMany_9 : Int32) (ykey_9 : (Nat → Int32)) (ytag_9 : (Nat → Int32)) (ycost_9 : (Nat → Int32)) (h : mX6_begin F ymany yruns ywaitAt ywaitMany yrules ylaid ykey ytag ycost = some (yruns_9, ywaitAt_9, ywaitMany_9, ykey_9, ytag_9, ycost_9)) : Ct l yX6_begin wsX6_begin ({ frames := 0, cells := 0, slots := 0, locals := 0 }) D cA [.ref yo] [(yo, .inr (6, [.int ylength, .ref vytext, .ref vyrules, .int ymany, .ref vylaid, .ref vykey, .ref vytag, .ref vyroomKey, .ref vyroomTag, .int yruns, .ref vyrunAt, .ref vyrunMany, .int ywaitAt, .int ywaitMany, .ref vycost, .ref vyhadKey, .ref vyhadTag, .ref vyhadAt, .ref vyhadMany, .ref vyhadCost, .int ya0, .int ya1, .int yb0, .int yb1, .int yforward, .int yout])), (vyrules, .inl (cA, 4, .inl yrules)), (vylaid, .inl (cA, 96, .inl ylaid)), (vykey, .inl (cA, 96, .inl ykey)), (vytag, .inl (cA, 96, .inl ytag)), (vycost, .inl (cA, 12, .inl ycost))] [(yo, .inr (6, [.int ylength, .ref vytext, .ref vyrules, .int ymany, .ref vylaid, .ref vykey, .ref vytag, .ref vyroomKey, .ref vyroomTag, .int yruns_9, .ref vyrunAt, .ref vyrunMany, .int ywaitAt_9, .int ywaitMany_9, .ref vycost, .ref vyhadKey, .ref vyhadTag, .ref vyhadAt, .ref vyhadMany, .ref vyhadCost, .int ya0, .int ya1, .int yb0, .int yb1, .int yforward, .int yout])), (vyrules, .inl (cA, 4, .inl yrules)), (vylaid, .inl (cA, 96, .inl ylaid)), (vykey, .inl (cA, 96, .inl ykey_9)), (vytag, .inl (cA, 96, .inl ytag_9)), (vycost, .inl (cA, 12, .inl ycost_9))] (none) := by
  refine Ct.of (cc := cX6_begin) (maxL := 2) (ret := none) (by decide) rfl (Nat.le_of_ble_eq_true rfl) ?_
  intro p e s m below meth c A ls hcx hG hst hA hP hD hl
  obtain ⟨hx, hb, hml, hown, hts, hr, hlocks⟩ := id hcx
  have hown : s.vm.findClass RX6 = some m.cls := hown
  have hS : va_S A s.heap s.heap [] := va_S.rf
  have hl : lv_has ls 2 [(0, .ref yo)] := hl
  have hinX6 : ∀ w ∈ u_ws RX6 TX6 26, w ∈ wsX6_begin := by decide +kernel
  have fl37 := hts (.fieldLink RX6 37 "RunSorterModel" "cost" "[I") (by decide +kernel)
  have fl13 := hts (.fieldLink RX6 13 "RunSorterModel" "rules" "[I") (by decide +kernel)
  have fl81 := hts (.fieldLink RX6 81 "RunSorterModel" "runs" "I") (by decide +kernel)
  have fl84 := hts (.fieldLink RX6 84 "RunSorterModel" "waitAt" "I") (by decide +kernel)
  have fl87 := hts (.fieldLink RX6 87 "RunSorterModel" "waitMany" "I") (by decide +kernel)
  have fl55 := hts (.fieldLink RX6 55 "RunSorterModel" "many" "I") (by decide +kernel)
  have fl19 := hts (.fieldLink RX6 19 "RunSorterModel" "key" "[I") (by decide +kernel)
  have fl16 := hts (.fieldLink RX6 16 "RunSorterModel" "laid" "[I") (by decide +kernel)
  have fl22 := hts (.fieldLink RX6 22 "RunSorterModel" "tag" "[I") (by decide +kernel)
  have hmX6_begin_37 : ∀ (n37 : Nat) (x1 : Int32) (yruns : Int32) (ywaitAt : Int32) (ywaitMany : Int32) (ykey : (Nat → Int32)) (ytag : (Nat → Int32)) (ycost : (Nat → Int32)) (H : Heap) (locs : List Loc) (ls : Array Slot), mX6_begin_37 F yrules n37 x1 yruns ywaitAt ywaitMany ykey ytag ycost = some (yruns_9, ywaitAt_9, ywaitMany_9, ykey_9, ytag_9, ycost_9) → va_P D vwCl [(yo, .inr (6, [.int ylength, .ref vytext, .ref vyrules, .int ymany, .ref vylaid, .ref vykey, .ref vytag, .ref vyroomKey, .ref vyroomTag, .int yruns, .ref vyrunAt, .ref vyrunMany, .int ywaitAt, .int ywaitMany, .ref vycost, .ref vyhadKey, .ref vyhadTag, .ref vyhadAt, .ref vyhadMany, .ref vyhadCost, .int ya0, .int ya1, .int yb0, .int yb1, .int yforward, .int yout])), (vyrules, .inl (cA, 4, .inl yrules)), (vylaid, .inl (cA, 96, .inl ylaid)), (vykey, .inl (cA, 96, .inl ykey)), (vytag, .inl (cA, 96, .inl ytag)), (vycost, .inl (cA, 12, .inl ycost))] H → va_D A [(yo, .inr (6, [.int ylength, .ref vytext, .ref vyrules, .int ymany, .ref vylaid, .ref vykey, .ref vytag, .ref vyroomKey, .ref vyroomTag, .int yruns, .ref vyrunAt, .ref vyrunMany, .int ywaitAt, .int ywaitMany, .ref vycost, .ref vyhadKey, .ref vyhadTag, .ref vyhadAt, .ref vyhadMany, .ref vyhadCost, .int ya0, .int ya1, .int yb0, .int yb1, .int yforward, .int yout])), (vyrules, .inl (cA, 4, .inl yrules)), (vylaid, .inl (cA, 96, .inl ylaid)), (vykey, .inl (cA, 96, .inl ykey)), (vytag, .inl (cA, 96, .inl ytag)), (vycost, .inl (cA, 12, .inl ycost))] → va_S A s.heap H locs → lv_has ls 2 [(0, .ref yo), (1, .int x1)] → W p l e ({ frames := 0, cells := 0, slots := 0, locals := 0 }) s m ([.ref yo] : List Value).toArray below meth c H locs 0 0 (MQ below (Qw D A [(yo, .inr (6, [.int ylength, .ref vytext, .ref vyrules, .int ymany, .ref vylaid, .ref vykey, .ref vytag, .ref vyroomKey, .ref vyroomTag, .int yruns_9, .ref vyrunAt, .ref vyrunMany, .int ywaitAt_9, .int ywaitMany_9, .ref vycost, .ref vyhadKey, .ref vyhadTag, .ref vyhadAt, .ref vyhadMany, .ref vyhadCost, .int ya0, .int ya1, .int yb0, .int yb1, .int yforward, .int yout])), (vyrules, .inl (cA, 4, .inl yrules)), (vylaid, .inl (cA, 96, .inl ylaid)), (vykey, .inl (cA, 96, .inl ykey_9)), (vytag, .inl (cA, 96, .inl ytag_9)), (vycost, .inl (cA, 12, .inl ycost_9))] (none)) ([.ref yo] : List Value).toArray s 0 0 A) (F0 m 37 ls []) := by
    intro n37
    induction n37 with
    | zero => intro x1 yruns ywaitAt ywaitMany ykey ytag ycost H locs ls h; exact (no_some h).elim
    | succ n37 ih37 =>
      intro x1 yruns ywaitAt ywaitMany ykey ytag ycost H locs ls h hP hD hS hl
      rw [mX6_begin_37] at h
      refine lv_iload_n hx hb dX6_begin_37 rfl (lv_at hl 1 rfl) ?_
      refine lv_bipush (v := (12 : Int32)) hx hb dX6_begin_38 (by decide) ?_
      refine lv_icmp_ge (tgt := 56) hx hb dX6_begin_40 (by decide) (fun c40 => ?_) (fun c40 => ?_)
      · have h := i_t c40 h
        refine lv_aload_n hx hb dX6_begin_56 rfl (lv_at hl 0 rfl) ?_
        refine va_get (D := D) (cl := vwCl) (ci := 6) (v := .ref vycost) (C := RX6) (T := TX6) (N := 26) hx hb hts hinX6 hown hG.1 hP 0 rfl rfl 14 (by decide) fl37 (fun _ h9 => h9) rfl dX6_begin_57 ?_
        refine lv_bipush (v := (10 : Int32)) hx hb dX6_begin_60 (by decide) ?_
        refine lv_aload_n hx hb dX6_begin_62 rfl (lv_at hl 0 rfl) ?_
        refine va_get (D := D) (cl := vwCl) (ci := 6) (v := .ref vyrules) (C := RX6) (T := TX6) (N := 26) hx hb hts hinX6 hown hG.1 hP 0 rfl rfl 2 (by decide) fl13 (fun _ h9 => h9) rfl dX6_begin_63 ?_
        refine lv_iconst (v := (3 : Int32)) hx hb dX6_begin_66 (by decide) ?_
        obtain ⟨hi67, h⟩ := ck_some h
        refine va_iald hx hb hG.1 hP 1 0 rfl rfl hi67 dX6_begin_67 ?_
        obtain ⟨hi68, h⟩ := ck_some h
        refine va_iast hx hb hG.1 hP hD hS 5 0 rfl rfl hi68 dX6_begin_68 (fun H locs hP hD hS => ?_)
        have hP : va_P D vwCl [(yo, .inr (6, [.int ylength, .ref vytext, .ref vyrules, .int ymany, .ref vylaid, .ref vykey, .ref vytag, .ref vyroomKey, .ref vyroomTag, .int yruns, .ref vyrunAt, .ref vyrunMany, .int ywaitAt, .int ywaitMany, .ref vycost, .ref vyhadKey, .ref vyhadTag, .ref vyhadAt, .ref vyhadMany, .ref vyhadCost, .int ya0, .int ya1, .int yb0, .int yb1, .int yforward, .int yout])), (vyrules, .inl (cA, 4, .inl yrules)), (vylaid, .inl (cA, 96, .inl ylaid)), (vykey, .inl (cA, 96, .inl ykey)), (vytag, .inl (cA, 96, .inl ytag)), (vycost, .inl (cA, 12, .inl (upd ycost (10 : Int32).toNatClampNeg (yrules (3 : Int32).toNatClampNeg))))] H := hP
        have hD : va_D A [(yo, .inr (6, [.int ylength, .ref vytext, .ref vyrules, .int ymany, .ref vylaid, .ref vykey, .ref vytag, .ref vyroomKey, .ref vyroomTag, .int yruns, .ref vyrunAt, .ref vyrunMany, .int ywaitAt, .int ywaitMany, .ref vycost, .ref vyhadKey, .ref vyhadTag, .ref vyhadAt, .ref vyhadMany, .ref vyhadCost, .int ya0, .int ya1, .int yb0, .int yb1, .int yforward, .int yout])), (vyrules, .inl (cA, 4, .inl yrules)), (vylaid, .inl (cA, 96, .inl ylaid)), (vykey, .inl (cA, 96, .inl ykey)), (vytag, .inl (cA, 96, .inl ytag)), (vycost, .inl (cA, 12, .inl (upd ycost (10 : Int32).toNatClampNeg (yrules (3 : Int32).toNatClampNeg))))] := hD
        refine lv_aload_n hx hb dX6_begin_69 rfl (lv_at hl 0 rfl) ?_
        refine lv_iconst (v := (0 : Int32)) hx hb dX6_begin_70 (by decide) ?_
        refine va_put (D := D) (cl := vwCl) (ci := 6) (v := .int (0 : Int32)) (ty := .int) (C := RX6) (T := TX6) (N := 26) hx hb hts hinX6 tyX6 tyX6_ok nmX6 hown hG.1 hP hD hS 0 rfl rfl 9 (by decide) fl81 (fun _ h9 => h9) rfl (by decide +kernel) rfl rfl (Nat.le_of_ble_eq_true rfl) dX6_begin_71 (fun H locs hP hD hS => ?_)
        have hP : va_P D vwCl [(yo, .inr (6, [.int ylength, .ref vytext, .ref vyrules, .int ymany, .ref vylaid, .ref vykey, .ref vytag, .ref vyroomKey, .ref vyroomTag, .int (0 : Int32), .ref vyrunAt, .ref vyrunMany, .int ywaitAt, .int ywaitMany, .ref vycost, .ref vyhadKey, .ref vyhadTag, .ref vyhadAt, .ref vyhadMany, .ref vyhadCost, .int ya0, .int ya1, .int yb0, .int yb1, .int yforward, .int yout])), (vyrules, .inl (cA, 4, .inl yrules)), (vylaid, .inl (cA, 96, .inl ylaid)), (vykey, .inl (cA, 96, .inl ykey)), (vytag, .inl (cA, 96, .inl ytag)), (vycost, .inl (cA, 12, .inl (upd ycost (10 : Int32).toNatClampNeg (yrules (3 : Int32).toNatClampNeg))))] H := hP
        have hD : va_D A [(yo, .inr (6, [.int ylength, .ref vytext, .ref vyrules, .int ymany, .ref vylaid, .ref vykey, .ref vytag, .ref vyroomKey, .ref vyroomTag, .int (0 : Int32), .ref vyrunAt, .ref vyrunMany, .int ywaitAt, .int ywaitMany, .ref vycost, .ref vyhadKey, .ref vyhadTag, .ref vyhadAt, .ref vyhadMany, .ref vyhadCost, .int ya0, .int ya1, .int yb0, .int yb1, .int yforward, .int yout])), (vyrules, .inl (cA, 4, .inl yrules)), (vylaid, .inl (cA, 96, .inl ylaid)), (vykey, .inl (cA, 96, .inl ykey)), (vytag, .inl (cA, 96, .inl ytag)), (vycost, .inl (cA, 12, .inl (upd ycost (10 : Int32).toNatClampNeg (yrules (3 : Int32).toNatClampNeg))))] := hD
        refine lv_aload_n hx hb dX6_begin_74 rfl (lv_at hl 0 rfl) ?_
        refine lv_iconst (v := (0 : Int32)) hx hb dX6_begin_75 (by decide) ?_
        refine va_put (D := D) (cl := vwCl) (ci := 6) (v := .int (0 : Int32)) (ty := .int) (C := RX6) (T := TX6) (N := 26) hx hb hts hinX6 tyX6 tyX6_ok nmX6 hown hG.1 hP hD hS 0 rfl rfl 12 (by decide) fl84 (fun _ h9 => h9) rfl (by decide +kernel) rfl rfl (Nat.le_of_ble_eq_true rfl) dX6_begin_76 (fun H locs hP hD hS => ?_)
        have hP : va_P D vwCl [(yo, .inr (6, [.int ylength, .ref vytext, .ref vyrules, .int ymany, .ref vylaid, .ref vykey, .ref vytag, .ref vyroomKey, .ref vyroomTag, .int (0 : Int32), .ref vyrunAt, .ref vyrunMany, .int (0 : Int32), .int ywaitMany, .ref vycost, .ref vyhadKey, .ref vyhadTag, .ref vyhadAt, .ref vyhadMany, .ref vyhadCost, .int ya0, .int ya1, .int yb0, .int yb1, .int yforward, .int yout])), (vyrules, .inl (cA, 4, .inl yrules)), (vylaid, .inl (cA, 96, .inl ylaid)), (vykey, .inl (cA, 96, .inl ykey)), (vytag, .inl (cA, 96, .inl ytag)), (vycost, .inl (cA, 12, .inl (upd ycost (10 : Int32).toNatClampNeg (yrules (3 : Int32).toNatClampNeg))))] H := hP
        have hD : va_D A [(yo, .inr (6, [.int ylength, .ref vytext, .ref vyrules, .int ymany, .ref vylaid, .ref vykey, .ref vytag, .ref vyroomKey, .ref vyroomTag, .int (0 : Int32), .ref vyrunAt, .ref vyrunMany, .int (0 : Int32), .int ywaitMany, .ref vycost, .ref vyhadKey, .ref vyhadTag, .ref vyhadAt, .ref vyhadMany, .ref vyhadCost, .int ya0, .int ya1, .int yb0, .int yb1, .int yforward, .int yout])), (vyrules, .inl (cA, 4, .inl yrules)), (vylaid, .inl (cA, 96, .inl ylaid)), (vykey, .inl (cA, 96, .inl ykey)), (vytag, .inl (cA, 96, .inl ytag)), (vycost, .inl (cA, 12, .inl (upd ycost (10 : Int32).toNatClampNeg (yrules (3 : Int32).toNatClampNeg))))] := hD
        refine lv_aload_n hx hb dX6_begin_79 rfl (lv_at hl 0 rfl) ?_
        refine lv_iconst (v := (0 : Int32)) hx hb dX6_begin_80 (by decide) ?_
        refine va_put (D := D) (cl := vwCl) (ci := 6) (v := .int (0 : Int32)) (ty := .int) (C := RX6) (T := TX6) (N := 26) hx hb hts hinX6 tyX6 tyX6_ok nmX6 hown hG.1 hP hD hS 0 rfl rfl 13 (by decide) fl87 (fun _ h9 => h9) rfl (by decide +kernel) rfl rfl (Nat.le_of_ble_eq_true rfl) dX6_begin_81 (fun H locs hP hD hS => ?_)
        have hP : va_P D vwCl [(yo, .inr (6, [.int ylength, .ref vytext, .ref vyrules, .int ymany, .ref vylaid, .ref vykey, .ref vytag, .ref vyroomKey, .ref vyroomTag, .int (0 : Int32), .ref vyrunAt, .ref vyrunMany, .int (0 : Int32), .int (0 : Int32), .ref vycost, .ref vyhadKey, .ref vyhadTag, .ref vyhadAt, .ref vyhadMany, .ref vyhadCost, .int ya0, .int ya1, .int yb0, .int yb1, .int yforward, .int yout])), (vyrules, .inl (cA, 4, .inl yrules)), (vylaid, .inl (cA, 96, .inl ylaid)), (vykey, .inl (cA, 96, .inl ykey)), (vytag, .inl (cA, 96, .inl ytag)), (vycost, .inl (cA, 12, .inl (upd ycost (10 : Int32).toNatClampNeg (yrules (3 : Int32).toNatClampNeg))))] H := hP
        have hD : va_D A [(yo, .inr (6, [.int ylength, .ref vytext, .ref vyrules, .int ymany, .ref vylaid, .ref vykey, .ref vytag, .ref vyroomKey, .ref vyroomTag, .int (0 : Int32), .ref vyrunAt, .ref vyrunMany, .int (0 : Int32), .int (0 : Int32), .ref vycost, .ref vyhadKey, .ref vyhadTag, .ref vyhadAt, .ref vyhadMany, .ref vyhadCost, .int ya0, .int ya1, .int yb0, .int yb1, .int yforward, .int yout])), (vyrules, .inl (cA, 4, .inl yrules)), (vylaid, .inl (cA, 96, .inl ylaid)), (vykey, .inl (cA, 96, .inl ykey)), (vytag, .inl (cA, 96, .inl ytag)), (vycost, .inl (cA, 12, .inl (upd ycost (10 : Int32).toNatClampNeg (yrules (3 : Int32).toNatClampNeg))))] := hD
        cases h
        exact rt_v hx hb hr hlocks hP hD hS dX6_begin_84
      · have h := i_f c40 h
        refine lv_aload_n hx hb dX6_begin_43 rfl (lv_at hl 0 rfl) ?_
        refine va_get (D := D) (cl := vwCl) (ci := 6) (v := .ref vycost) (C := RX6) (T := TX6) (N := 26) hx hb hts hinX6 hown hG.1 hP 0 rfl rfl 14 (by decide) fl37 (fun _ h9 => h9) rfl dX6_begin_44 ?_
        refine lv_iload_n hx hb dX6_begin_47 rfl (lv_at hl 1 rfl) ?_
        refine lv_iconst (v := (0 : Int32)) hx hb dX6_begin_48 (by decide) ?_
        obtain ⟨hi49, h⟩ := ck_some h
        refine va_iast hx hb hG.1 hP hD hS 5 0 rfl rfl hi49 dX6_begin_49 (fun H locs hP hD hS => ?_)
        have hP : va_P D vwCl [(yo, .inr (6, [.int ylength, .ref vytext, .ref vyrules, .int ymany, .ref vylaid, .ref vykey, .ref vytag, .ref vyroomKey, .ref vyroomTag, .int yruns, .ref vyrunAt, .ref vyrunMany, .int ywaitAt, .int ywaitMany, .ref vycost, .ref vyhadKey, .ref vyhadTag, .ref vyhadAt, .ref vyhadMany, .ref vyhadCost, .int ya0, .int ya1, .int yb0, .int yb1, .int yforward, .int yout])), (vyrules, .inl (cA, 4, .inl yrules)), (vylaid, .inl (cA, 96, .inl ylaid)), (vykey, .inl (cA, 96, .inl ykey)), (vytag, .inl (cA, 96, .inl ytag)), (vycost, .inl (cA, 12, .inl (upd ycost x1.toNatClampNeg (0 : Int32))))] H := hP
        have hD : va_D A [(yo, .inr (6, [.int ylength, .ref vytext, .ref vyrules, .int ymany, .ref vylaid, .ref vykey, .ref vytag, .ref vyroomKey, .ref vyroomTag, .int yruns, .ref vyrunAt, .ref vyrunMany, .int ywaitAt, .int ywaitMany, .ref vycost, .ref vyhadKey, .ref vyhadTag, .ref vyhadAt, .ref vyhadMany, .ref vyhadCost, .int ya0, .int ya1, .int yb0, .int yb1, .int yforward, .int yout])), (vyrules, .inl (cA, 4, .inl yrules)), (vylaid, .inl (cA, 96, .inl ylaid)), (vykey, .inl (cA, 96, .inl ykey)), (vytag, .inl (cA, 96, .inl ytag)), (vycost, .inl (cA, 12, .inl (upd ycost x1.toNatClampNeg (0 : Int32))))] := hD
        refine lv_iinc (v := x1 + (1 : Int32)) (lv' := [(1, .int (x1 + (1 : Int32))), (0, .ref yo)]) hx hb dX6_begin_50 hl (k := 1) rfl (congrArg (fun z => x1 + z) (by decide)) (by decide) rfl (fun ls hl => ?_)
        refine lv_goto (tgt := 37) hx hb dX6_begin_53 (by decide) ?_
        exact ih37 (x1 + (1 : Int32)) yruns ywaitAt ywaitMany ykey ytag (upd ycost x1.toNatClampNeg (0 : Int32)) _ _ _ h hP hD hS (lv_sub hl [1, 0] rfl)
  have hmX6_begin_2 : ∀ (n2 : Nat) (x1 : Int32) (yruns : Int32) (ywaitAt : Int32) (ywaitMany : Int32) (ykey : (Nat → Int32)) (ytag : (Nat → Int32)) (ycost : (Nat → Int32)) (H : Heap) (locs : List Loc) (ls : Array Slot), mX6_begin_2 F ymany yrules ylaid n2 x1 yruns ywaitAt ywaitMany ykey ytag ycost = some (yruns_9, ywaitAt_9, ywaitMany_9, ykey_9, ytag_9, ycost_9) → va_P D vwCl [(yo, .inr (6, [.int ylength, .ref vytext, .ref vyrules, .int ymany, .ref vylaid, .ref vykey, .ref vytag, .ref vyroomKey, .ref vyroomTag, .int yruns, .ref vyrunAt, .ref vyrunMany, .int ywaitAt, .int ywaitMany, .ref vycost, .ref vyhadKey, .ref vyhadTag, .ref vyhadAt, .ref vyhadMany, .ref vyhadCost, .int ya0, .int ya1, .int yb0, .int yb1, .int yforward, .int yout])), (vyrules, .inl (cA, 4, .inl yrules)), (vylaid, .inl (cA, 96, .inl ylaid)), (vykey, .inl (cA, 96, .inl ykey)), (vytag, .inl (cA, 96, .inl ytag)), (vycost, .inl (cA, 12, .inl ycost))] H → va_D A [(yo, .inr (6, [.int ylength, .ref vytext, .ref vyrules, .int ymany, .ref vylaid, .ref vykey, .ref vytag, .ref vyroomKey, .ref vyroomTag, .int yruns, .ref vyrunAt, .ref vyrunMany, .int ywaitAt, .int ywaitMany, .ref vycost, .ref vyhadKey, .ref vyhadTag, .ref vyhadAt, .ref vyhadMany, .ref vyhadCost, .int ya0, .int ya1, .int yb0, .int yb1, .int yforward, .int yout])), (vyrules, .inl (cA, 4, .inl yrules)), (vylaid, .inl (cA, 96, .inl ylaid)), (vykey, .inl (cA, 96, .inl ykey)), (vytag, .inl (cA, 96, .inl ytag)), (vycost, .inl (cA, 12, .inl ycost))] → va_S A s.heap H locs → lv_has ls 2 [(0, .ref yo), (1, .int x1)] → W p l e ({ frames := 0, cells := 0, slots := 0, locals := 0 }) s m ([.ref yo] : List Value).toArray below meth c H locs 0 0 (MQ below (Qw D A [(yo, .inr (6, [.int ylength, .ref vytext, .ref vyrules, .int ymany, .ref vylaid, .ref vykey, .ref vytag, .ref vyroomKey, .ref vyroomTag, .int yruns_9, .ref vyrunAt, .ref vyrunMany, .int ywaitAt_9, .int ywaitMany_9, .ref vycost, .ref vyhadKey, .ref vyhadTag, .ref vyhadAt, .ref vyhadMany, .ref vyhadCost, .int ya0, .int ya1, .int yb0, .int yb1, .int yforward, .int yout])), (vyrules, .inl (cA, 4, .inl yrules)), (vylaid, .inl (cA, 96, .inl ylaid)), (vykey, .inl (cA, 96, .inl ykey_9)), (vytag, .inl (cA, 96, .inl ytag_9)), (vycost, .inl (cA, 12, .inl ycost_9))] (none)) ([.ref yo] : List Value).toArray s 0 0 A) (F0 m 2 ls []) := by
    intro n2
    induction n2 with
    | zero => intro x1 yruns ywaitAt ywaitMany ykey ytag ycost H locs ls h; exact (no_some h).elim
    | succ n2 ih2 =>
      intro x1 yruns ywaitAt ywaitMany ykey ytag ycost H locs ls h hP hD hS hl
      rw [mX6_begin_2] at h
      refine lv_iload_n hx hb dX6_begin_2 rfl (lv_at hl 1 rfl) ?_
      refine lv_aload_n hx hb dX6_begin_3 rfl (lv_at hl 0 rfl) ?_
      refine va_get (D := D) (cl := vwCl) (ci := 6) (v := .int ymany) (C := RX6) (T := TX6) (N := 26) hx hb hts hinX6 hown hG.1 hP 0 rfl rfl 3 (by decide) fl55 (fun _ h9 => h9) rfl dX6_begin_4 ?_
      refine lv_icmp_ge (tgt := 35) hx hb dX6_begin_7 (by decide) (fun c7 => ?_) (fun c7 => ?_)
      · have h := i_t c7 h
        refine lv_iconst (v := (0 : Int32)) hx hb dX6_begin_35 (by decide) ?_
        refine lv_istore_n (lv' := [(1, .int (0 : Int32)), (0, .ref yo)]) hx hb dX6_begin_36 rfl hl (by decide) rfl (fun ls hl => ?_)
        exact hmX6_begin_37 F (0 : Int32) yruns ywaitAt ywaitMany ykey ytag ycost _ _ _ h hP hD hS (lv_sub hl [1, 0] rfl)
      · have h := i_f c7 h
        refine lv_aload_n hx hb dX6_begin_10 rfl (lv_at hl 0 rfl) ?_
        refine va_get (D := D) (cl := vwCl) (ci := 6) (v := .ref vykey) (C := RX6) (T := TX6) (N := 26) hx hb hts hinX6 hown hG.1 hP 0 rfl rfl 5 (by decide) fl19 (fun _ h9 => h9) rfl dX6_begin_11 ?_
        refine lv_iload_n hx hb dX6_begin_14 rfl (lv_at hl 1 rfl) ?_
        refine lv_aload_n hx hb dX6_begin_15 rfl (lv_at hl 0 rfl) ?_
        refine va_get (D := D) (cl := vwCl) (ci := 6) (v := .ref vylaid) (C := RX6) (T := TX6) (N := 26) hx hb hts hinX6 hown hG.1 hP 0 rfl rfl 4 (by decide) fl16 (fun _ h9 => h9) rfl dX6_begin_16 ?_
        refine lv_iload_n hx hb dX6_begin_19 rfl (lv_at hl 1 rfl) ?_
        obtain ⟨hi20, h⟩ := ck_some h
        refine va_iald hx hb hG.1 hP 2 0 rfl rfl hi20 dX6_begin_20 ?_
        obtain ⟨hi21, h⟩ := ck_some h
        refine va_iast hx hb hG.1 hP hD hS 3 0 rfl rfl hi21 dX6_begin_21 (fun H locs hP hD hS => ?_)
        have hP : va_P D vwCl [(yo, .inr (6, [.int ylength, .ref vytext, .ref vyrules, .int ymany, .ref vylaid, .ref vykey, .ref vytag, .ref vyroomKey, .ref vyroomTag, .int yruns, .ref vyrunAt, .ref vyrunMany, .int ywaitAt, .int ywaitMany, .ref vycost, .ref vyhadKey, .ref vyhadTag, .ref vyhadAt, .ref vyhadMany, .ref vyhadCost, .int ya0, .int ya1, .int yb0, .int yb1, .int yforward, .int yout])), (vyrules, .inl (cA, 4, .inl yrules)), (vylaid, .inl (cA, 96, .inl ylaid)), (vykey, .inl (cA, 96, .inl (upd ykey x1.toNatClampNeg (ylaid x1.toNatClampNeg)))), (vytag, .inl (cA, 96, .inl ytag)), (vycost, .inl (cA, 12, .inl ycost))] H := hP
        have hD : va_D A [(yo, .inr (6, [.int ylength, .ref vytext, .ref vyrules, .int ymany, .ref vylaid, .ref vykey, .ref vytag, .ref vyroomKey, .ref vyroomTag, .int yruns, .ref vyrunAt, .ref vyrunMany, .int ywaitAt, .int ywaitMany, .ref vycost, .ref vyhadKey, .ref vyhadTag, .ref vyhadAt, .ref vyhadMany, .ref vyhadCost, .int ya0, .int ya1, .int yb0, .int yb1, .int yforward, .int yout])), (vyrules, .inl (cA, 4, .inl yrules)), (vylaid, .inl (cA, 96, .inl ylaid)), (vykey, .inl (cA, 96, .inl (upd ykey x1.toNatClampNeg (ylaid x1.toNatClampNeg)))), (vytag, .inl (cA, 96, .inl ytag)), (vycost, .inl (cA, 12, .inl ycost))] := hD
        refine lv_aload_n hx hb dX6_begin_22 rfl (lv_at hl 0 rfl) ?_
        refine va_get (D := D) (cl := vwCl) (ci := 6) (v := .ref vytag) (C := RX6) (T := TX6) (N := 26) hx hb hts hinX6 hown hG.1 hP 0 rfl rfl 6 (by decide) fl22 (fun _ h9 => h9) rfl dX6_begin_23 ?_
        refine lv_iload_n hx hb dX6_begin_26 rfl (lv_at hl 1 rfl) ?_
        refine lv_iload_n hx hb dX6_begin_27 rfl (lv_at hl 1 rfl) ?_
        obtain ⟨hi28, h⟩ := ck_some h
        refine va_iast hx hb hG.1 hP hD hS 4 0 rfl rfl hi28 dX6_begin_28 (fun H locs hP hD hS => ?_)
        have hP : va_P D vwCl [(yo, .inr (6, [.int ylength, .ref vytext, .ref vyrules, .int ymany, .ref vylaid, .ref vykey, .ref vytag, .ref vyroomKey, .ref vyroomTag, .int yruns, .ref vyrunAt, .ref vyrunMany, .int ywaitAt, .int ywaitMany, .ref vycost, .ref vyhadKey, .ref vyhadTag, .ref vyhadAt, .ref vyhadMany, .ref vyhadCost, .int ya0, .int ya1, .int yb0, .int yb1, .int yforward, .int yout])), (vyrules, .inl (cA, 4, .inl yrules)), (vylaid, .inl (cA, 96, .inl ylaid)), (vykey, .inl (cA, 96, .inl (upd ykey x1.toNatClampNeg (ylaid x1.toNatClampNeg)))), (vytag, .inl (cA, 96, .inl (upd ytag x1.toNatClampNeg x1))), (vycost, .inl (cA, 12, .inl ycost))] H := hP
        have hD : va_D A [(yo, .inr (6, [.int ylength, .ref vytext, .ref vyrules, .int ymany, .ref vylaid, .ref vykey, .ref vytag, .ref vyroomKey, .ref vyroomTag, .int yruns, .ref vyrunAt, .ref vyrunMany, .int ywaitAt, .int ywaitMany, .ref vycost, .ref vyhadKey, .ref vyhadTag, .ref vyhadAt, .ref vyhadMany, .ref vyhadCost, .int ya0, .int ya1, .int yb0, .int yb1, .int yforward, .int yout])), (vyrules, .inl (cA, 4, .inl yrules)), (vylaid, .inl (cA, 96, .inl ylaid)), (vykey, .inl (cA, 96, .inl (upd ykey x1.toNatClampNeg (ylaid x1.toNatClampNeg)))), (vytag, .inl (cA, 96, .inl (upd ytag x1.toNatClampNeg x1))), (vycost, .inl (cA, 12, .inl ycost))] := hD
        refine lv_iinc (v := x1 + (1 : Int32)) (lv' := [(1, .int (x1 + (1 : Int32))), (0, .ref yo)]) hx hb dX6_begin_29 hl (k := 1) rfl (congrArg (fun z => x1 + z) (by decide)) (by decide) rfl (fun ls hl => ?_)
        refine lv_goto (tgt := 2) hx hb dX6_begin_32 (by decide) ?_
        exact ih2 (x1 + (1 : Int32)) yruns ywaitAt ywaitMany (upd ykey x1.toNatClampNeg (ylaid x1.toNatClampNeg)) (upd ytag x1.toNatClampNeg x1) ycost _ _ _ h hP hD hS (lv_sub hl [1, 0] rfl)
  unfold mX6_begin at h
  refine lv_iconst (v := (0 : Int32)) hx hb dX6_begin_0 (by decide) ?_
  refine lv_istore_n (lv' := [(1, .int (0 : Int32)), (0, .ref yo)]) hx hb dX6_begin_1 rfl hl (by decide) rfl (fun ls hl => ?_)
  exact hmX6_begin_2 F (0 : Int32) yruns ywaitAt ywaitMany ykey ytag ycost _ _ _ h hP hD hS (lv_sub hl [1, 0] rfl)
set_option maxHeartbeats 4000000 in
set_option maxRecDepth 100000 in
theorem kX6_lay (l : Launch) (D : va_G) (cA : ClassId) (F : Nat) (yo : Nat) (vytext : Nat) (vyrules : Nat) (vylaid : Nat) (vykey : Nat) (vytag : Nat) (vyroomKey : Nat) (vyroomTag : Nat) (vyrunAt : Nat) (vyrunMany : Nat) (vycost : Nat) (vyhadKey : Nat) (vyhadTag : Nat) (vyhadAt : Nat) (vyhadMany : Nat) (vyhadCost : Nat) (ylength : Int32) (ymany : Int32) (yruns : Int32) (ywaitAt : Int32) (ywaitMany : Int32) (ya0 : Int32) (ya1 : Int32) (yb0 : Int32) (yb1 : Int32) (yforward : Int32) (yout : Int32) (ytext : (Nat → Int32)) (yrules : (Nat → Int32)) (ylaid : (Nat → Int32)) (ykey : (Nat → Int32)) (ytag : (Nat → Int32)) (ycost : (Nat → Int32)) (r0 : Int32) (ymany_9 : Int32) (yruns_9 : Int32) (ywaitAt_9 : Int32) (ywaitMany_9 : Int32) (ylaid_9 : (Nat → Int32)) (ykey_9 : (Nat → Int32)) (ytag_9 : (Nat → Int32)) (ycost_9 : (Nat → Int32)) (h : mX6_lay F ylength ymany yruns ywaitAt ywaitMany ytext yrules ylaid ykey ytag ycost = some (r0, ymany_9, yruns_9, ywaitAt_9, ywaitMany_9, ylaid_9, ykey_9, ytag_9, ycost_9)) : Ct l yX6_lay wsX6_lay ({ frames := 2, cells := 0, slots := 0, locals := 46 }) D cA [.ref yo] [(yo, .inr (6, [.int ylength, .ref vytext, .ref vyrules, .int ymany, .ref vylaid, .ref vykey, .ref vytag, .ref vyroomKey, .ref vyroomTag, .int yruns, .ref vyrunAt, .ref vyrunMany, .int ywaitAt, .int ywaitMany, .ref vycost, .ref vyhadKey, .ref vyhadTag, .ref vyhadAt, .ref vyhadMany, .ref vyhadCost, .int ya0, .int ya1, .int yb0, .int yb1, .int yforward, .int yout])), (vytext, .inl (cA, 200, .inl ytext)), (vyrules, .inl (cA, 4, .inl yrules)), (vylaid, .inl (cA, 96, .inl ylaid)), (vykey, .inl (cA, 96, .inl ykey)), (vytag, .inl (cA, 96, .inl ytag)), (vycost, .inl (cA, 12, .inl ycost))] [(yo, .inr (6, [.int ylength, .ref vytext, .ref vyrules, .int ymany_9, .ref vylaid, .ref vykey, .ref vytag, .ref vyroomKey, .ref vyroomTag, .int yruns_9, .ref vyrunAt, .ref vyrunMany, .int ywaitAt_9, .int ywaitMany_9, .ref vycost, .ref vyhadKey, .ref vyhadTag, .ref vyhadAt, .ref vyhadMany, .ref vyhadCost, .int ya0, .int ya1, .int yb0, .int yb1, .int yforward, .int yout])), (vytext, .inl (cA, 200, .inl ytext)), (vyrules, .inl (cA, 4, .inl yrules)), (vylaid, .inl (cA, 96, .inl ylaid_9)), (vykey, .inl (cA, 96, .inl ykey_9)), (vytag, .inl (cA, 96, .inl ytag_9)), (vycost, .inl (cA, 12, .inl ycost_9))] (some (.int r0)) := by
  refine Ct.of (cc := cX6_lay) (maxL := 2) (ret := (some .int)) (by decide) rfl (Nat.le_of_ble_eq_true rfl) ?_
  intro p e s m below meth c A ls hcx hG hst hA hP hD hl
  obtain ⟨hx, hb, hml, hown, hts, hr, hlocks⟩ := id hcx
  have hown : s.vm.findClass RX6 = some m.cls := hown
  have hS : va_S A s.heap s.heap [] := va_S.rf
  have hl : lv_has ls 2 [(0, .ref yo)] := hl
  have hinX6 : ∀ w ∈ u_ws RX6 TX6 26, w ∈ wsX6_lay := by decide +kernel
  have fl70 := hts (.fieldLink RX6 70 "RunSorterModel" "length" "I") (by decide +kernel)
  have fl55 := hts (.fieldLink RX6 55 "RunSorterModel" "many" "I") (by decide +kernel)
  have fl16 := hts (.fieldLink RX6 16 "RunSorterModel" "laid" "[I") (by decide +kernel)
  have fl7 := hts (.fieldLink RX6 7 "RunSorterModel" "text" "[I") (by decide +kernel)
  have hmX6_lay_29 : ∀ (n29 : Nat) (x1 : Int32) (ymany : Int32) (yruns : Int32) (ywaitAt : Int32) (ywaitMany : Int32) (ylaid : (Nat → Int32)) (ykey : (Nat → Int32)) (ytag : (Nat → Int32)) (ycost : (Nat → Int32)) (H : Heap) (locs : List Loc) (ls : Array Slot), mX6_lay_29 F ytext yrules n29 x1 ymany yruns ywaitAt ywaitMany ylaid ykey ytag ycost = some (r0, ymany_9, yruns_9, ywaitAt_9, ywaitMany_9, ylaid_9, ykey_9, ytag_9, ycost_9) → va_P D vwCl [(yo, .inr (6, [.int ylength, .ref vytext, .ref vyrules, .int ymany, .ref vylaid, .ref vykey, .ref vytag, .ref vyroomKey, .ref vyroomTag, .int yruns, .ref vyrunAt, .ref vyrunMany, .int ywaitAt, .int ywaitMany, .ref vycost, .ref vyhadKey, .ref vyhadTag, .ref vyhadAt, .ref vyhadMany, .ref vyhadCost, .int ya0, .int ya1, .int yb0, .int yb1, .int yforward, .int yout])), (vytext, .inl (cA, 200, .inl ytext)), (vyrules, .inl (cA, 4, .inl yrules)), (vylaid, .inl (cA, 96, .inl ylaid)), (vykey, .inl (cA, 96, .inl ykey)), (vytag, .inl (cA, 96, .inl ytag)), (vycost, .inl (cA, 12, .inl ycost))] H → va_D A [(yo, .inr (6, [.int ylength, .ref vytext, .ref vyrules, .int ymany, .ref vylaid, .ref vykey, .ref vytag, .ref vyroomKey, .ref vyroomTag, .int yruns, .ref vyrunAt, .ref vyrunMany, .int ywaitAt, .int ywaitMany, .ref vycost, .ref vyhadKey, .ref vyhadTag, .ref vyhadAt, .ref vyhadMany, .ref vyhadCost, .int ya0, .int ya1, .int yb0, .int yb1, .int yforward, .int yout])), (vytext, .inl (cA, 200, .inl ytext)), (vyrules, .inl (cA, 4, .inl yrules)), (vylaid, .inl (cA, 96, .inl ylaid)), (vykey, .inl (cA, 96, .inl ykey)), (vytag, .inl (cA, 96, .inl ytag)), (vycost, .inl (cA, 12, .inl ycost))] → va_S A s.heap H locs → lv_has ls 2 [(0, .ref yo), (1, .int x1)] → W p l e ({ frames := 2, cells := 0, slots := 0, locals := 46 }) s m ([.ref yo] : List Value).toArray below meth c H locs 0 0 (MQ below (Qw D A [(yo, .inr (6, [.int ylength, .ref vytext, .ref vyrules, .int ymany_9, .ref vylaid, .ref vykey, .ref vytag, .ref vyroomKey, .ref vyroomTag, .int yruns_9, .ref vyrunAt, .ref vyrunMany, .int ywaitAt_9, .int ywaitMany_9, .ref vycost, .ref vyhadKey, .ref vyhadTag, .ref vyhadAt, .ref vyhadMany, .ref vyhadCost, .int ya0, .int ya1, .int yb0, .int yb1, .int yforward, .int yout])), (vytext, .inl (cA, 200, .inl ytext)), (vyrules, .inl (cA, 4, .inl yrules)), (vylaid, .inl (cA, 96, .inl ylaid_9)), (vykey, .inl (cA, 96, .inl ykey_9)), (vytag, .inl (cA, 96, .inl ytag_9)), (vycost, .inl (cA, 12, .inl ycost_9))] (some (.int r0))) ([.ref yo] : List Value).toArray s 0 0 A) (F0 m 29 ls []) := by
    intro n29
    induction n29 with
    | zero => intro x1 ymany yruns ywaitAt ywaitMany ylaid ykey ytag ycost H locs ls h; exact (no_some h).elim
    | succ n29 ih29 =>
      intro x1 ymany yruns ywaitAt ywaitMany ylaid ykey ytag ycost H locs ls h hP hD hS hl
      rw [mX6_lay_29] at h
      refine lv_iload_n hx hb dX6_lay_29 rfl (lv_at hl 1 rfl) ?_
      refine lv_aload_n hx hb dX6_lay_30 rfl (lv_at hl 0 rfl) ?_
      refine va_get (D := D) (cl := vwCl) (ci := 6) (v := .int ymany) (C := RX6) (T := TX6) (N := 26) hx hb hts hinX6 hown hG.1 hP 0 rfl rfl 3 (by decide) fl55 (fun _ h9 => h9) rfl dX6_lay_31 ?_
      refine lv_icmp_ge (tgt := 58) hx hb dX6_lay_34 (by decide) (fun c34 => ?_) (fun c34 => ?_)
      · have h := i_t c34 h
        refine lv_aload_n hx hb dX6_lay_58 rfl (lv_at hl 0 rfl) ?_
        obtain ⟨yruns_59, ywaitAt_59, ywaitMany_59, ykey_59, ytag_59, ycost_59, hc59, h⟩ := bd6_some h
        refine ct_V (As := []) (rest := []) (st1 := []) (wf := [(yo, .inr (6, [.int ylength, .ref vytext, .ref vyrules, .int ymany, .ref vylaid, .ref vykey, .ref vytag, .ref vyroomKey, .ref vyroomTag, .int yruns_59, .ref vyrunAt, .ref vyrunMany, .int ywaitAt_59, .int ywaitMany_59, .ref vycost, .ref vyhadKey, .ref vyhadTag, .ref vyhadAt, .ref vyhadMany, .ref vyhadCost, .int ya0, .int ya1, .int yb0, .int yb1, .int yforward, .int yout])), (vytext, .inl (cA, 200, .inl ytext)), (vyrules, .inl (cA, 4, .inl yrules)), (vylaid, .inl (cA, 96, .inl ylaid)), (vykey, .inl (cA, 96, .inl ykey_59)), (vytag, .inl (cA, 96, .inl ytag_59)), (vycost, .inl (cA, 12, .inl ycost_59))]) (kX6_begin l D cA F yo vytext vyrules vylaid vykey vytag vyroomKey vyroomTag vyrunAt vyrunMany vycost vyhadKey vyhadTag vyhadAt vyhadMany vyhadCost  ylength ymany yruns ywaitAt ywaitMany ya0 ya1 yb0 yb1 yforward yout yrules ylaid ykey ytag ycost  yruns_59 ywaitAt_59 ywaitMany_59 ykey_59 ytag_59 ycost_59 hc59) ⟨hx, hb, hml, hown, hts⟩ (cwV 0 hts gX6_lay_X6_begin rfl rfl rfl (by decide +kernel) ⟨Nat.le_of_ble_eq_true rfl, Nat.le_of_ble_eq_true rfl⟩) hG hst hP hD hS hA 6 rfl rfl rfl [0, 2, 3, 4, 5, 6] [1] [1, 0, 2, 3, 4, 5, 6] rfl rfl rfl rfl rfl rfl hl.1 rfl rfl (Nat.le_of_ble_eq_true rfl) dX6_lay_59 ⟨Nat.zero_le _, Nat.zero_le _⟩ (fun H locs hP hD hS => ?_)
        refine lv_aload_n hx hb dX6_lay_62 rfl (lv_at hl 0 rfl) ?_
        refine va_get (D := D) (cl := vwCl) (ci := 6) (v := .int ymany) (C := RX6) (T := TX6) (N := 26) hx hb hts hinX6 hown hG.1 hP 0 rfl rfl 3 (by decide) fl55 (fun _ h9 => h9) rfl dX6_lay_63 ?_
        cases h
        exact rt_i hx hb hr hlocks hP hD hS dX6_lay_66
      · have h := i_f c34 h
        refine lv_aload_n hx hb dX6_lay_37 rfl (lv_at hl 0 rfl) ?_
        refine va_get (D := D) (cl := vwCl) (ci := 6) (v := .ref vylaid) (C := RX6) (T := TX6) (N := 26) hx hb hts hinX6 hown hG.1 hP 0 rfl rfl 4 (by decide) fl16 (fun _ h9 => h9) rfl dX6_lay_38 ?_
        refine lv_iload_n hx hb dX6_lay_41 rfl (lv_at hl 1 rfl) ?_
        refine lv_aload_n hx hb dX6_lay_42 rfl (lv_at hl 0 rfl) ?_
        refine va_get (D := D) (cl := vwCl) (ci := 6) (v := .ref vytext) (C := RX6) (T := TX6) (N := 26) hx hb hts hinX6 hown hG.1 hP 0 rfl rfl 1 (by decide) fl7 (fun _ h9 => h9) rfl dX6_lay_43 ?_
        refine lv_iload_n hx hb dX6_lay_46 rfl (lv_at hl 1 rfl) ?_
        obtain ⟨hi47, h⟩ := ck_some h
        refine va_iald hx hb hG.1 hP 1 0 rfl rfl hi47 dX6_lay_47 ?_
        refine lv_bipush (v := (97 : Int32)) hx hb dX6_lay_48 (by decide) ?_
        refine lv_isub hx hb dX6_lay_50 ?_
        obtain ⟨hi51, h⟩ := ck_some h
        refine va_iast hx hb hG.1 hP hD hS 3 0 rfl rfl hi51 dX6_lay_51 (fun H locs hP hD hS => ?_)
        have hP : va_P D vwCl [(yo, .inr (6, [.int ylength, .ref vytext, .ref vyrules, .int ymany, .ref vylaid, .ref vykey, .ref vytag, .ref vyroomKey, .ref vyroomTag, .int yruns, .ref vyrunAt, .ref vyrunMany, .int ywaitAt, .int ywaitMany, .ref vycost, .ref vyhadKey, .ref vyhadTag, .ref vyhadAt, .ref vyhadMany, .ref vyhadCost, .int ya0, .int ya1, .int yb0, .int yb1, .int yforward, .int yout])), (vytext, .inl (cA, 200, .inl ytext)), (vyrules, .inl (cA, 4, .inl yrules)), (vylaid, .inl (cA, 96, .inl (upd ylaid x1.toNatClampNeg ((ytext x1.toNatClampNeg) - (97 : Int32))))), (vykey, .inl (cA, 96, .inl ykey)), (vytag, .inl (cA, 96, .inl ytag)), (vycost, .inl (cA, 12, .inl ycost))] H := hP
        have hD : va_D A [(yo, .inr (6, [.int ylength, .ref vytext, .ref vyrules, .int ymany, .ref vylaid, .ref vykey, .ref vytag, .ref vyroomKey, .ref vyroomTag, .int yruns, .ref vyrunAt, .ref vyrunMany, .int ywaitAt, .int ywaitMany, .ref vycost, .ref vyhadKey, .ref vyhadTag, .ref vyhadAt, .ref vyhadMany, .ref vyhadCost, .int ya0, .int ya1, .int yb0, .int yb1, .int yforward, .int yout])), (vytext, .inl (cA, 200, .inl ytext)), (vyrules, .inl (cA, 4, .inl yrules)), (vylaid, .inl (cA, 96, .inl (upd ylaid x1.toNatClampNeg ((ytext x1.toNatClampNeg) - (97 : Int32))))), (vykey, .inl (cA, 96, .inl ykey)), (vytag, .inl (cA, 96, .inl ytag)), (vycost, .inl (cA, 12, .inl ycost))] := hD
        refine lv_iinc (v := x1 + (1 : Int32)) (lv' := [(1, .int (x1 + (1 : Int32))), (0, .ref yo)]) hx hb dX6_lay_52 hl (k := 1) rfl (congrArg (fun z => x1 + z) (by decide)) (by decide) rfl (fun ls hl => ?_)
        refine lv_goto (tgt := 29) hx hb dX6_lay_55 (by decide) ?_
        exact ih29 (x1 + (1 : Int32)) ymany yruns ywaitAt ywaitMany (upd ylaid x1.toNatClampNeg ((ytext x1.toNatClampNeg) - (97 : Int32))) ykey ytag ycost _ _ _ h hP hD hS (lv_sub hl [1, 0] rfl)
  unfold mX6_lay at h
  refine lv_aload_n hx hb dX6_lay_0 rfl (lv_at hl 0 rfl) ?_
  obtain ⟨r1, hc1, h⟩ := bd1_some h
  refine ct_V (As := []) (rest := []) (st1 := [.int r1]) (wf := [(yo, .inr (6, [.int ylength, .ref vytext, .ref vyrules, .int ymany, .ref vylaid, .ref vykey, .ref vytag, .ref vyroomKey, .ref vyroomTag, .int yruns, .ref vyrunAt, .ref vyrunMany, .int ywaitAt, .int ywaitMany, .ref vycost, .ref vyhadKey, .ref vyhadTag, .ref vyhadAt, .ref vyhadMany, .ref vyhadCost, .int ya0, .int ya1, .int yb0, .int yb1, .int yforward, .int yout])), (vytext, .inl (cA, 200, .inl ytext)), (vyrules, .inl (cA, 4, .inl yrules)), (vylaid, .inl (cA, 96, .inl ylaid)), (vykey, .inl (cA, 96, .inl ykey)), (vytag, .inl (cA, 96, .inl ytag)), (vycost, .inl (cA, 12, .inl ycost))]) (kX6_fault l D cA F yo vytext vyrules vylaid vykey vytag vyroomKey vyroomTag vyrunAt vyrunMany vycost vyhadKey vyhadTag vyhadAt vyhadMany vyhadCost  ylength ymany yruns ywaitAt ywaitMany ya0 ya1 yb0 yb1 yforward yout ytext  r1 hc1) ⟨hx, hb, hml, hown, hts⟩ (cwV 0 hts gX6_lay_X6_fault rfl rfl rfl (by decide +kernel) ⟨Nat.le_of_ble_eq_true rfl, Nat.le_of_ble_eq_true rfl⟩) hG hst hP hD hS hA 6 rfl rfl rfl [0, 1] [2, 3, 4, 5, 6] [5, 6, 0, 1, 2, 3, 4] rfl rfl rfl rfl rfl rfl hl.1 rfl rfl (Nat.le_of_ble_eq_true rfl) dX6_lay_1 ⟨Nat.zero_le _, Nat.zero_le _⟩ (fun H locs hP hD hS => ?_)
  refine lv_bipush (v := (-4 : Int32)) hx hb dX6_lay_4 (by decide) ?_
  refine lv_icmp_ne (tgt := 16) hx hb dX6_lay_6 (by decide) (fun c6 => ?_) (fun c6 => ?_)
  · have h := i_f c6 h
    refine lv_bipush (v := (-2 : Int32)) hx hb dX6_lay_16 (by decide) ?_
    cases h
    exact rt_i hx hb hr hlocks hP hD hS dX6_lay_18
  · have h := i_t c6 h
    refine lv_aload_n hx hb dX6_lay_9 rfl (lv_at hl 0 rfl) ?_
    refine va_get (D := D) (cl := vwCl) (ci := 6) (v := .int ylength) (C := RX6) (T := TX6) (N := 26) hx hb hts hinX6 hown hG.1 hP 0 rfl rfl 0 (by decide) fl70 (fun _ h9 => h9) rfl dX6_lay_10 ?_
    refine lv_if_ne (tgt := 19) hx hb dX6_lay_13 (by decide) (fun c13 => ?_) (fun c13 => ?_)
    · have h := i_f c13 h
      refine lv_aload_n hx hb dX6_lay_19 rfl (lv_at hl 0 rfl) ?_
      refine lv_aload_n hx hb dX6_lay_20 rfl (lv_at hl 0 rfl) ?_
      refine va_get (D := D) (cl := vwCl) (ci := 6) (v := .int ylength) (C := RX6) (T := TX6) (N := 26) hx hb hts hinX6 hown hG.1 hP 0 rfl rfl 0 (by decide) fl70 (fun _ h9 => h9) rfl dX6_lay_21 ?_
      refine va_put (D := D) (cl := vwCl) (ci := 6) (v := .int ylength) (ty := .int) (C := RX6) (T := TX6) (N := 26) hx hb hts hinX6 tyX6 tyX6_ok nmX6 hown hG.1 hP hD hS 0 rfl rfl 3 (by decide) fl55 (fun _ h9 => h9) rfl (by decide +kernel) rfl rfl (Nat.le_of_ble_eq_true rfl) dX6_lay_24 (fun H locs hP hD hS => ?_)
      have hP : va_P D vwCl [(yo, .inr (6, [.int ylength, .ref vytext, .ref vyrules, .int ylength, .ref vylaid, .ref vykey, .ref vytag, .ref vyroomKey, .ref vyroomTag, .int yruns, .ref vyrunAt, .ref vyrunMany, .int ywaitAt, .int ywaitMany, .ref vycost, .ref vyhadKey, .ref vyhadTag, .ref vyhadAt, .ref vyhadMany, .ref vyhadCost, .int ya0, .int ya1, .int yb0, .int yb1, .int yforward, .int yout])), (vytext, .inl (cA, 200, .inl ytext)), (vyrules, .inl (cA, 4, .inl yrules)), (vylaid, .inl (cA, 96, .inl ylaid)), (vykey, .inl (cA, 96, .inl ykey)), (vytag, .inl (cA, 96, .inl ytag)), (vycost, .inl (cA, 12, .inl ycost))] H := hP
      have hD : va_D A [(yo, .inr (6, [.int ylength, .ref vytext, .ref vyrules, .int ylength, .ref vylaid, .ref vykey, .ref vytag, .ref vyroomKey, .ref vyroomTag, .int yruns, .ref vyrunAt, .ref vyrunMany, .int ywaitAt, .int ywaitMany, .ref vycost, .ref vyhadKey, .ref vyhadTag, .ref vyhadAt, .ref vyhadMany, .ref vyhadCost, .int ya0, .int ya1, .int yb0, .int yb1, .int yforward, .int yout])), (vytext, .inl (cA, 200, .inl ytext)), (vyrules, .inl (cA, 4, .inl yrules)), (vylaid, .inl (cA, 96, .inl ylaid)), (vykey, .inl (cA, 96, .inl ykey)), (vytag, .inl (cA, 96, .inl ytag)), (vycost, .inl (cA, 12, .inl ycost))] := hD
      refine lv_iconst (v := (0 : Int32)) hx hb dX6_lay_27 (by decide) ?_
      refine lv_istore_n (lv' := [(1, .int (0 : Int32)), (0, .ref yo)]) hx hb dX6_lay_28 rfl hl (by decide) rfl (fun ls hl => ?_)
      exact hmX6_lay_29 F (0 : Int32) ylength yruns ywaitAt ywaitMany ylaid ykey ytag ycost _ _ _ h hP hD hS (lv_sub hl [1, 0] rfl)
    · have h := i_t c13 h
      refine lv_bipush (v := (-2 : Int32)) hx hb dX6_lay_16 (by decide) ?_
      cases h
      exact rt_i hx hb hr hlocks hP hD hS dX6_lay_18
set_option maxHeartbeats 4000000 in
set_option maxRecDepth 100000 in
theorem kX6_rule (l : Launch) (D : va_G) (cA : ClassId) (F : Nat) (yo : Nat) (vytext : Nat) (vyrules : Nat) (vylaid : Nat) (vykey : Nat) (vytag : Nat) (vyroomKey : Nat) (vyroomTag : Nat) (vyrunAt : Nat) (vyrunMany : Nat) (vycost : Nat) (vyhadKey : Nat) (vyhadTag : Nat) (vyhadAt : Nat) (vyhadMany : Nat) (vyhadCost : Nat) (ylength : Int32) (ymany : Int32) (yruns : Int32) (ywaitAt : Int32) (ywaitMany : Int32) (ya0 : Int32) (ya1 : Int32) (yb0 : Int32) (yb1 : Int32) (yforward : Int32) (yout : Int32) (yrules : (Nat → Int32)) (ylaid : (Nat → Int32)) (ykey : (Nat → Int32)) (ytag : (Nat → Int32)) (ycost : (Nat → Int32)) (a1 : Int32) (a2 : Int32) (r0 : Int32) (yruns_9 : Int32) (ywaitAt_9 : Int32) (ywaitMany_9 : Int32) (yrules_9 : (Nat → Int32)) (ykey_9 : (Nat → Int32)) (ytag_9 : (Nat → Int32)) (ycost_9 : (Nat → Int32)) (h : mX6_rule F ymany yruns ywaitAt ywaitMany yrules ylaid ykey ytag ycost a1 a2 = some (r0, yruns_9, ywaitAt_9, ywaitMany_9, yrules_9, ykey_9, ytag_9, ycost_9)) : Ct l yX6_rule wsX6_rule ({ frames := 1, cells := 0, slots := 0, locals := 25 }) D cA [.ref yo, .int a1, .int a2] [(yo, .inr (6, [.int ylength, .ref vytext, .ref vyrules, .int ymany, .ref vylaid, .ref vykey, .ref vytag, .ref vyroomKey, .ref vyroomTag, .int yruns, .ref vyrunAt, .ref vyrunMany, .int ywaitAt, .int ywaitMany, .ref vycost, .ref vyhadKey, .ref vyhadTag, .ref vyhadAt, .ref vyhadMany, .ref vyhadCost, .int ya0, .int ya1, .int yb0, .int yb1, .int yforward, .int yout])), (vyrules, .inl (cA, 4, .inl yrules)), (vylaid, .inl (cA, 96, .inl ylaid)), (vykey, .inl (cA, 96, .inl ykey)), (vytag, .inl (cA, 96, .inl ytag)), (vycost, .inl (cA, 12, .inl ycost))] [(yo, .inr (6, [.int ylength, .ref vytext, .ref vyrules, .int ymany, .ref vylaid, .ref vykey, .ref vytag, .ref vyroomKey, .ref vyroomTag, .int yruns_9, .ref vyrunAt, .ref vyrunMany, .int ywaitAt_9, .int ywaitMany_9, .ref vycost, .ref vyhadKey, .ref vyhadTag, .ref vyhadAt, .ref vyhadMany, .ref vyhadCost, .int ya0, .int ya1, .int yb0, .int yb1, .int yforward, .int yout])), (vyrules, .inl (cA, 4, .inl yrules_9)), (vylaid, .inl (cA, 96, .inl ylaid)), (vykey, .inl (cA, 96, .inl ykey_9)), (vytag, .inl (cA, 96, .inl ytag_9)), (vycost, .inl (cA, 12, .inl ycost_9))] (some (.int r0)) := by
  refine Ct.of (cc := cX6_rule) (maxL := 5) (ret := (some .int)) (by decide) rfl (Nat.le_of_ble_eq_true rfl) ?_
  intro p e s m below meth c A ls hcx hG hst hA hP hD hl
  obtain ⟨hx, hb, hml, hown, hts, hr, hlocks⟩ := id hcx
  have hown : s.vm.findClass RX6 = some m.cls := hown
  have hS : va_S A s.heap s.heap [] := va_S.rf
  have hl : lv_has ls 5 [(0, .ref yo), (1, .int a1), (2, .int a2)] := hl
  have hinX6 : ∀ w ∈ u_ws RX6 TX6 26, w ∈ wsX6_rule := by decide +kernel
  have fl13 := hts (.fieldLink RX6 13 "RunSorterModel" "rules" "[I") (by decide +kernel)
  have hmX6_rule_70 : ∀ (s0 : Int32) (yruns : Int32) (ywaitAt : Int32) (ywaitMany : Int32) (yrules : (Nat → Int32)) (ykey : (Nat → Int32)) (ytag : (Nat → Int32)) (ycost : (Nat → Int32)) (H : Heap) (locs : List Loc) (ls : Array Slot), mX6_rule_70 F ymany ylaid a1 a2 s0 yruns ywaitAt ywaitMany yrules ykey ytag ycost = some (r0, yruns_9, ywaitAt_9, ywaitMany_9, yrules_9, ykey_9, ytag_9, ycost_9) → va_P D vwCl [(yo, .inr (6, [.int ylength, .ref vytext, .ref vyrules, .int ymany, .ref vylaid, .ref vykey, .ref vytag, .ref vyroomKey, .ref vyroomTag, .int yruns, .ref vyrunAt, .ref vyrunMany, .int ywaitAt, .int ywaitMany, .ref vycost, .ref vyhadKey, .ref vyhadTag, .ref vyhadAt, .ref vyhadMany, .ref vyhadCost, .int ya0, .int ya1, .int yb0, .int yb1, .int yforward, .int yout])), (vyrules, .inl (cA, 4, .inl yrules)), (vylaid, .inl (cA, 96, .inl ylaid)), (vykey, .inl (cA, 96, .inl ykey)), (vytag, .inl (cA, 96, .inl ytag)), (vycost, .inl (cA, 12, .inl ycost))] H → va_D A [(yo, .inr (6, [.int ylength, .ref vytext, .ref vyrules, .int ymany, .ref vylaid, .ref vykey, .ref vytag, .ref vyroomKey, .ref vyroomTag, .int yruns, .ref vyrunAt, .ref vyrunMany, .int ywaitAt, .int ywaitMany, .ref vycost, .ref vyhadKey, .ref vyhadTag, .ref vyhadAt, .ref vyhadMany, .ref vyhadCost, .int ya0, .int ya1, .int yb0, .int yb1, .int yforward, .int yout])), (vyrules, .inl (cA, 4, .inl yrules)), (vylaid, .inl (cA, 96, .inl ylaid)), (vykey, .inl (cA, 96, .inl ykey)), (vytag, .inl (cA, 96, .inl ytag)), (vycost, .inl (cA, 12, .inl ycost))] → va_S A s.heap H locs → lv_has ls 5 [(0, .ref yo), (1, .int a1), (2, .int a2)] → W p l e ({ frames := 1, cells := 0, slots := 0, locals := 25 }) s m ([.ref yo, .int a1, .int a2] : List Value).toArray below meth c H locs 0 0 (MQ below (Qw D A [(yo, .inr (6, [.int ylength, .ref vytext, .ref vyrules, .int ymany, .ref vylaid, .ref vykey, .ref vytag, .ref vyroomKey, .ref vyroomTag, .int yruns_9, .ref vyrunAt, .ref vyrunMany, .int ywaitAt_9, .int ywaitMany_9, .ref vycost, .ref vyhadKey, .ref vyhadTag, .ref vyhadAt, .ref vyhadMany, .ref vyhadCost, .int ya0, .int ya1, .int yb0, .int yb1, .int yforward, .int yout])), (vyrules, .inl (cA, 4, .inl yrules_9)), (vylaid, .inl (cA, 96, .inl ylaid)), (vykey, .inl (cA, 96, .inl ykey_9)), (vytag, .inl (cA, 96, .inl ytag_9)), (vycost, .inl (cA, 12, .inl ycost_9))] (some (.int r0))) ([.ref yo, .int a1, .int a2] : List Value).toArray s 0 0 A) (F0 m 70 ls [.int s0]) := by
    intro s0 yruns ywaitAt ywaitMany yrules ykey ytag ycost H locs ls h hP hD hS hl
    unfold mX6_rule_70 at h
    refine lv_istore_n (lv' := [(3, .int s0), (0, .ref yo), (1, .int a1), (2, .int a2)]) hx hb dX6_rule_70 rfl hl (by decide) rfl (fun ls hl => ?_)
    refine lv_iload_n hx hb dX6_rule_71 rfl (lv_at hl 0 rfl) ?_
    refine lv_if_ne (tgt := 77) hx hb dX6_rule_72 (by decide) (fun c72 => ?_) (fun c72 => ?_)
    · have h := i_f c72 h
      refine lv_aload_n hx hb dX6_rule_77 rfl (lv_at hl 1 rfl) ?_
      refine va_get (D := D) (cl := vwCl) (ci := 6) (v := .ref vyrules) (C := RX6) (T := TX6) (N := 26) hx hb hts hinX6 hown hG.1 hP 0 rfl rfl 2 (by decide) fl13 (fun _ h9 => h9) rfl dX6_rule_78 ?_
      refine lv_iload_n hx hb dX6_rule_81 rfl (lv_at hl 2 rfl) ?_
      obtain ⟨hi82, h⟩ := ck_some h
      refine va_iald hx hb hG.1 hP 1 0 rfl rfl hi82 dX6_rule_82 ?_
      refine lv_istore (lv' := [(4, .int (yrules a1.toNatClampNeg)), (3, .int s0), (0, .ref yo), (1, .int a1), (2, .int a2)]) hx hb dX6_rule_83 hl (by decide) rfl (fun ls hl => ?_)
      refine lv_iload hx hb dX6_rule_85 (lv_at hl 0 rfl) ?_
      refine lv_iload_n hx hb dX6_rule_87 rfl (lv_at hl 4 rfl) ?_
      refine lv_icmp_ne (tgt := 94) hx hb dX6_rule_88 (by decide) (fun c88 => ?_) (fun c88 => ?_)
      · have h := i_f c88 h
        refine lv_aload_n hx hb dX6_rule_94 rfl (lv_at hl 2 rfl) ?_
        refine va_get (D := D) (cl := vwCl) (ci := 6) (v := .ref vyrules) (C := RX6) (T := TX6) (N := 26) hx hb hts hinX6 hown hG.1 hP 0 rfl rfl 2 (by decide) fl13 (fun _ h9 => h9) rfl dX6_rule_95 ?_
        refine lv_iload_n hx hb dX6_rule_98 rfl (lv_at hl 3 rfl) ?_
        refine lv_iload_n hx hb dX6_rule_99 rfl (lv_at hl 4 rfl) ?_
        obtain ⟨hi100, h⟩ := ck_some h
        refine va_iast hx hb hG.1 hP hD hS 1 0 rfl rfl hi100 dX6_rule_100 (fun H locs hP hD hS => ?_)
        have hP : va_P D vwCl [(yo, .inr (6, [.int ylength, .ref vytext, .ref vyrules, .int ymany, .ref vylaid, .ref vykey, .ref vytag, .ref vyroomKey, .ref vyroomTag, .int yruns, .ref vyrunAt, .ref vyrunMany, .int ywaitAt, .int ywaitMany, .ref vycost, .ref vyhadKey, .ref vyhadTag, .ref vyhadAt, .ref vyhadMany, .ref vyhadCost, .int ya0, .int ya1, .int yb0, .int yb1, .int yforward, .int yout])), (vyrules, .inl (cA, 4, .inl (upd yrules a1.toNatClampNeg a2))), (vylaid, .inl (cA, 96, .inl ylaid)), (vykey, .inl (cA, 96, .inl ykey)), (vytag, .inl (cA, 96, .inl ytag)), (vycost, .inl (cA, 12, .inl ycost))] H := hP
        have hD : va_D A [(yo, .inr (6, [.int ylength, .ref vytext, .ref vyrules, .int ymany, .ref vylaid, .ref vykey, .ref vytag, .ref vyroomKey, .ref vyroomTag, .int yruns, .ref vyrunAt, .ref vyrunMany, .int ywaitAt, .int ywaitMany, .ref vycost, .ref vyhadKey, .ref vyhadTag, .ref vyhadAt, .ref vyhadMany, .ref vyhadCost, .int ya0, .int ya1, .int yb0, .int yb1, .int yforward, .int yout])), (vyrules, .inl (cA, 4, .inl (upd yrules a1.toNatClampNeg a2))), (vylaid, .inl (cA, 96, .inl ylaid)), (vykey, .inl (cA, 96, .inl ykey)), (vytag, .inl (cA, 96, .inl ytag)), (vycost, .inl (cA, 12, .inl ycost))] := hD
        refine lv_aload_n hx hb dX6_rule_101 rfl (lv_at hl 2 rfl) ?_
        obtain ⟨yruns_102, ywaitAt_102, ywaitMany_102, ykey_102, ytag_102, ycost_102, hc102, h⟩ := bd6_some h
        refine ct_V (As := []) (rest := []) (st1 := []) (wf := [(yo, .inr (6, [.int ylength, .ref vytext, .ref vyrules, .int ymany, .ref vylaid, .ref vykey, .ref vytag, .ref vyroomKey, .ref vyroomTag, .int yruns_102, .ref vyrunAt, .ref vyrunMany, .int ywaitAt_102, .int ywaitMany_102, .ref vycost, .ref vyhadKey, .ref vyhadTag, .ref vyhadAt, .ref vyhadMany, .ref vyhadCost, .int ya0, .int ya1, .int yb0, .int yb1, .int yforward, .int yout])), (vyrules, .inl (cA, 4, .inl (upd yrules a1.toNatClampNeg a2))), (vylaid, .inl (cA, 96, .inl ylaid)), (vykey, .inl (cA, 96, .inl ykey_102)), (vytag, .inl (cA, 96, .inl ytag_102)), (vycost, .inl (cA, 12, .inl ycost_102))]) (kX6_begin l D cA F yo vytext vyrules vylaid vykey vytag vyroomKey vyroomTag vyrunAt vyrunMany vycost vyhadKey vyhadTag vyhadAt vyhadMany vyhadCost  ylength ymany yruns ywaitAt ywaitMany ya0 ya1 yb0 yb1 yforward yout (upd yrules a1.toNatClampNeg a2) ylaid ykey ytag ycost  yruns_102 ywaitAt_102 ywaitMany_102 ykey_102 ytag_102 ycost_102 hc102) ⟨hx, hb, hml, hown, hts⟩ (cwV 0 hts gX6_rule_X6_begin rfl rfl rfl (by decide +kernel) ⟨Nat.le_of_ble_eq_true rfl, Nat.le_of_ble_eq_true rfl⟩) hG hst hP hD hS hA 6 rfl rfl rfl [0, 1, 2, 3, 4, 5] [] [0, 1, 2, 3, 4, 5] rfl rfl rfl rfl rfl rfl hl.1 rfl rfl (Nat.le_of_ble_eq_true rfl) dX6_rule_102 ⟨Nat.zero_le _, Nat.zero_le _⟩ (fun H locs hP hD hS => ?_)
        refine lv_iload hx hb dX6_rule_105 (lv_at hl 0 rfl) ?_
        cases h
        exact rt_i hx hb hr hlocks hP hD hS dX6_rule_107
      · have h := i_t c88 h
        refine lv_bipush (v := (-2 : Int32)) hx hb dX6_rule_91 (by decide) ?_
        cases h
        exact rt_i hx hb hr hlocks hP hD hS dX6_rule_93
    · have h := i_t c72 h
      refine lv_iconst (v := (-1 : Int32)) hx hb dX6_rule_75 (by decide) ?_
      cases h
      exact rt_i hx hb hr hlocks hP hD hS dX6_rule_76
  have hmX6_rule_59 : ∀ (s0 : Int64) (s1 : Int64) (s2 : Int64) (yruns : Int32) (ywaitAt : Int32) (ywaitMany : Int32) (yrules : (Nat → Int32)) (ykey : (Nat → Int32)) (ytag : (Nat → Int32)) (ycost : (Nat → Int32)) (H : Heap) (locs : List Loc) (ls : Array Slot), mX6_rule_59 F ymany ylaid a1 a2 s0 s1 s2 yruns ywaitAt ywaitMany yrules ykey ytag ycost = some (r0, yruns_9, ywaitAt_9, ywaitMany_9, yrules_9, ykey_9, ytag_9, ycost_9) → va_P D vwCl [(yo, .inr (6, [.int ylength, .ref vytext, .ref vyrules, .int ymany, .ref vylaid, .ref vykey, .ref vytag, .ref vyroomKey, .ref vyroomTag, .int yruns, .ref vyrunAt, .ref vyrunMany, .int ywaitAt, .int ywaitMany, .ref vycost, .ref vyhadKey, .ref vyhadTag, .ref vyhadAt, .ref vyhadMany, .ref vyhadCost, .int ya0, .int ya1, .int yb0, .int yb1, .int yforward, .int yout])), (vyrules, .inl (cA, 4, .inl yrules)), (vylaid, .inl (cA, 96, .inl ylaid)), (vykey, .inl (cA, 96, .inl ykey)), (vytag, .inl (cA, 96, .inl ytag)), (vycost, .inl (cA, 12, .inl ycost))] H → va_D A [(yo, .inr (6, [.int ylength, .ref vytext, .ref vyrules, .int ymany, .ref vylaid, .ref vykey, .ref vytag, .ref vyroomKey, .ref vyroomTag, .int yruns, .ref vyrunAt, .ref vyrunMany, .int ywaitAt, .int ywaitMany, .ref vycost, .ref vyhadKey, .ref vyhadTag, .ref vyhadAt, .ref vyhadMany, .ref vyhadCost, .int ya0, .int ya1, .int yb0, .int yb1, .int yforward, .int yout])), (vyrules, .inl (cA, 4, .inl yrules)), (vylaid, .inl (cA, 96, .inl ylaid)), (vykey, .inl (cA, 96, .inl ykey)), (vytag, .inl (cA, 96, .inl ytag)), (vycost, .inl (cA, 12, .inl ycost))] → va_S A s.heap H locs → lv_has ls 5 [(0, .ref yo), (1, .int a1), (2, .int a2)] → W p l e ({ frames := 1, cells := 0, slots := 0, locals := 25 }) s m ([.ref yo, .int a1, .int a2] : List Value).toArray below meth c H locs 0 0 (MQ below (Qw D A [(yo, .inr (6, [.int ylength, .ref vytext, .ref vyrules, .int ymany, .ref vylaid, .ref vykey, .ref vytag, .ref vyroomKey, .ref vyroomTag, .int yruns_9, .ref vyrunAt, .ref vyrunMany, .int ywaitAt_9, .int ywaitMany_9, .ref vycost, .ref vyhadKey, .ref vyhadTag, .ref vyhadAt, .ref vyhadMany, .ref vyhadCost, .int ya0, .int ya1, .int yb0, .int yb1, .int yforward, .int yout])), (vyrules, .inl (cA, 4, .inl yrules_9)), (vylaid, .inl (cA, 96, .inl ylaid)), (vykey, .inl (cA, 96, .inl ykey_9)), (vytag, .inl (cA, 96, .inl ytag_9)), (vycost, .inl (cA, 12, .inl ycost_9))] (some (.int r0))) ([.ref yo, .int a1, .int a2] : List Value).toArray s 0 0 A) (F0 m 59 ls [.long s0, .long s1, .long s2]) := by
    intro s0 s1 s2 yruns ywaitAt ywaitMany yrules ykey ytag ycost H locs ls h hP hD hS hl
    unfold mX6_rule_59 at h
    obtain ⟨r59, hc59, h⟩ := bd1_some h
    refine ct_S (As := [.long s2, .long s1, .long s0]) (rest := []) (st1 := [.int r59]) (wf := [(yo, .inr (6, [.int ylength, .ref vytext, .ref vyrules, .int ymany, .ref vylaid, .ref vykey, .ref vytag, .ref vyroomKey, .ref vyroomTag, .int yruns, .ref vyrunAt, .ref vyrunMany, .int ywaitAt, .int ywaitMany, .ref vycost, .ref vyhadKey, .ref vyhadTag, .ref vyhadAt, .ref vyhadMany, .ref vyhadCost, .int ya0, .int ya1, .int yb0, .int yb1, .int yforward, .int yout])), (vyrules, .inl (cA, 4, .inl yrules)), (vylaid, .inl (cA, 96, .inl ylaid)), (vykey, .inl (cA, 96, .inl ykey)), (vytag, .inl (cA, 96, .inl ytag)), (vycost, .inl (cA, 12, .inl ycost))]) (kX6_in l D cA F    s2 s1 s0 r59 hc59) ⟨hx, hb, hml, hown, hts⟩ (va_cwS 3 hts gX6_rule_X6_in rfl rfl rfl (by decide +kernel) ⟨Nat.le_of_ble_eq_true rfl, Nat.le_of_ble_eq_true rfl⟩) hG hst hP hD hS hA [] [0, 1, 2, 3, 4, 5] [0, 1, 2, 3, 4, 5] rfl rfl rfl rfl rfl rfl hl.1 rfl rfl (Nat.le_of_ble_eq_true rfl) dX6_rule_59 ⟨Nat.zero_le _, Nat.zero_le _⟩ (fun H locs hP hD hS => ?_)
    refine lv_if_eq (tgt := 69) hx hb dX6_rule_62 (by decide) (fun c62 => ?_) (fun c62 => ?_)
    · have h := i_t c62 h
      refine lv_iconst (v := (0 : Int32)) hx hb dX6_rule_69 (by decide) ?_
      exact hmX6_rule_70 (0 : Int32) yruns ywaitAt ywaitMany yrules ykey ytag ycost _ _ _ h hP hD hS hl
    · have h := i_f c62 h
      refine lv_iconst (v := (1 : Int32)) hx hb dX6_rule_65 (by decide) ?_
      refine lv_goto (tgt := 70) hx hb dX6_rule_66 (by decide) ?_
      exact hmX6_rule_70 (1 : Int32) yruns ywaitAt ywaitMany yrules ykey ytag ycost _ _ _ h hP hD hS hl
  have hmX6_rule_35 : ∀ (s0 : Int64) (s1 : Int64) (yruns : Int32) (ywaitAt : Int32) (ywaitMany : Int32) (yrules : (Nat → Int32)) (ykey : (Nat → Int32)) (ytag : (Nat → Int32)) (ycost : (Nat → Int32)) (H : Heap) (locs : List Loc) (ls : Array Slot), mX6_rule_35 F ymany ylaid a1 a2 s0 s1 yruns ywaitAt ywaitMany yrules ykey ytag ycost = some (r0, yruns_9, ywaitAt_9, ywaitMany_9, yrules_9, ykey_9, ytag_9, ycost_9) → va_P D vwCl [(yo, .inr (6, [.int ylength, .ref vytext, .ref vyrules, .int ymany, .ref vylaid, .ref vykey, .ref vytag, .ref vyroomKey, .ref vyroomTag, .int yruns, .ref vyrunAt, .ref vyrunMany, .int ywaitAt, .int ywaitMany, .ref vycost, .ref vyhadKey, .ref vyhadTag, .ref vyhadAt, .ref vyhadMany, .ref vyhadCost, .int ya0, .int ya1, .int yb0, .int yb1, .int yforward, .int yout])), (vyrules, .inl (cA, 4, .inl yrules)), (vylaid, .inl (cA, 96, .inl ylaid)), (vykey, .inl (cA, 96, .inl ykey)), (vytag, .inl (cA, 96, .inl ytag)), (vycost, .inl (cA, 12, .inl ycost))] H → va_D A [(yo, .inr (6, [.int ylength, .ref vytext, .ref vyrules, .int ymany, .ref vylaid, .ref vykey, .ref vytag, .ref vyroomKey, .ref vyroomTag, .int yruns, .ref vyrunAt, .ref vyrunMany, .int ywaitAt, .int ywaitMany, .ref vycost, .ref vyhadKey, .ref vyhadTag, .ref vyhadAt, .ref vyhadMany, .ref vyhadCost, .int ya0, .int ya1, .int yb0, .int yb1, .int yforward, .int yout])), (vyrules, .inl (cA, 4, .inl yrules)), (vylaid, .inl (cA, 96, .inl ylaid)), (vykey, .inl (cA, 96, .inl ykey)), (vytag, .inl (cA, 96, .inl ytag)), (vycost, .inl (cA, 12, .inl ycost))] → va_S A s.heap H locs → lv_has ls 5 [(0, .ref yo), (1, .int a1), (2, .int a2)] → W p l e ({ frames := 1, cells := 0, slots := 0, locals := 25 }) s m ([.ref yo, .int a1, .int a2] : List Value).toArray below meth c H locs 0 0 (MQ below (Qw D A [(yo, .inr (6, [.int ylength, .ref vytext, .ref vyrules, .int ymany, .ref vylaid, .ref vykey, .ref vytag, .ref vyroomKey, .ref vyroomTag, .int yruns_9, .ref vyrunAt, .ref vyrunMany, .int ywaitAt_9, .int ywaitMany_9, .ref vycost, .ref vyhadKey, .ref vyhadTag, .ref vyhadAt, .ref vyhadMany, .ref vyhadCost, .int ya0, .int ya1, .int yb0, .int yb1, .int yforward, .int yout])), (vyrules, .inl (cA, 4, .inl yrules_9)), (vylaid, .inl (cA, 96, .inl ylaid)), (vykey, .inl (cA, 96, .inl ykey_9)), (vytag, .inl (cA, 96, .inl ytag_9)), (vycost, .inl (cA, 12, .inl ycost_9))] (some (.int r0))) ([.ref yo, .int a1, .int a2] : List Value).toArray s 0 0 A) (F0 m 35 ls [.long s0, .long s1]) := by
    intro s0 s1 yruns ywaitAt ywaitMany yrules ykey ytag ycost H locs ls h hP hD hS hl
    unfold mX6_rule_35 at h
    refine lv_iload_n hx hb dX6_rule_35 rfl (lv_at hl 1 rfl) ?_
    refine lv_if_ne (tgt := 45) hx hb dX6_rule_36 (by decide) (fun c36 => ?_) (fun c36 => ?_)
    · have h := i_f c36 h
      refine lv_iload_n hx hb dX6_rule_45 rfl (lv_at hl 1 rfl) ?_
      refine lv_iconst (v := (1 : Int32)) hx hb dX6_rule_46 (by decide) ?_
      refine lv_icmp_ne (tgt := 56) hx hb dX6_rule_47 (by decide) (fun c47 => ?_) (fun c47 => ?_)
      · have h := i_f c47 h
        refine lv_ldc2 (v := (9 : Int64)) hx hb hown (hts (.constantLong RX6 94 (9)) (by decide +kernel)) dX6_rule_56 ?_
        exact hmX6_rule_59 (9 : Int64) s0 s1 yruns ywaitAt ywaitMany yrules ykey ytag ycost _ _ _ h hP hD hS hl
      · have h := i_t c47 h
        refine lv_ldc2 (v := (2 : Int64)) hx hb hown (hts (.constantLong RX6 92 (2)) (by decide +kernel)) dX6_rule_50 ?_
        refine lv_goto (tgt := 59) hx hb dX6_rule_53 (by decide) ?_
        exact hmX6_rule_59 (2 : Int64) s0 s1 yruns ywaitAt ywaitMany yrules ykey ytag ycost _ _ _ h hP hD hS hl
    · have h := i_t c36 h
      refine lv_ldc2 (v := (3 : Int64)) hx hb hown (hts (.constantLong RX6 90 (3)) (by decide +kernel)) dX6_rule_39 ?_
      refine lv_goto (tgt := 59) hx hb dX6_rule_42 (by decide) ?_
      exact hmX6_rule_59 (3 : Int64) s0 s1 yruns ywaitAt ywaitMany yrules ykey ytag ycost _ _ _ h hP hD hS hl
  unfold mX6_rule at h
  refine lv_iload_n hx hb dX6_rule_0 rfl (lv_at hl 1 rfl) ?_
  refine lv_i2l hx hb dX6_rule_1 rfl ?_
  refine lv_lconst (v := (0 : Int64)) hx hb dX6_rule_2 (by decide) ?_
  refine lv_ldc2 (v := (3 : Int64)) hx hb hown (hts (.constantLong RX6 90 (3)) (by decide +kernel)) dX6_rule_3 ?_
  obtain ⟨r6, hc6, h⟩ := bd1_some h
  refine ct_S (As := [.long a1.toInt64, .long (0 : Int64), .long (3 : Int64)]) (rest := []) (st1 := [.int r6]) (wf := [(yo, .inr (6, [.int ylength, .ref vytext, .ref vyrules, .int ymany, .ref vylaid, .ref vykey, .ref vytag, .ref vyroomKey, .ref vyroomTag, .int yruns, .ref vyrunAt, .ref vyrunMany, .int ywaitAt, .int ywaitMany, .ref vycost, .ref vyhadKey, .ref vyhadTag, .ref vyhadAt, .ref vyhadMany, .ref vyhadCost, .int ya0, .int ya1, .int yb0, .int yb1, .int yforward, .int yout])), (vyrules, .inl (cA, 4, .inl yrules)), (vylaid, .inl (cA, 96, .inl ylaid)), (vykey, .inl (cA, 96, .inl ykey)), (vytag, .inl (cA, 96, .inl ytag)), (vycost, .inl (cA, 12, .inl ycost))]) (kX6_in l D cA F    a1.toInt64 (0 : Int64) (3 : Int64) r6 hc6) ⟨hx, hb, hml, hown, hts⟩ (va_cwS 3 hts gX6_rule_X6_in rfl rfl rfl (by decide +kernel) ⟨Nat.le_of_ble_eq_true rfl, Nat.le_of_ble_eq_true rfl⟩) hG hst hP hD hS hA [] [0, 1, 2, 3, 4, 5] [0, 1, 2, 3, 4, 5] rfl rfl rfl rfl rfl rfl hl.1 rfl rfl (Nat.le_of_ble_eq_true rfl) dX6_rule_6 ⟨Nat.zero_le _, Nat.zero_le _⟩ (fun H locs hP hD hS => ?_)
  refine lv_if_eq (tgt := 69) hx hb dX6_rule_9 (by decide) (fun c9 => ?_) (fun c9 => ?_)
  · have h := i_t c9 h
    refine lv_iconst (v := (0 : Int32)) hx hb dX6_rule_69 (by decide) ?_
    exact hmX6_rule_70 (0 : Int32) yruns ywaitAt ywaitMany yrules ykey ytag ycost _ _ _ h hP hD hS hl
  · have h := i_f c9 h
    refine lv_iload_n hx hb dX6_rule_12 rfl (lv_at hl 2 rfl) ?_
    refine lv_i2l hx hb dX6_rule_13 rfl ?_
    refine lv_iload_n hx hb dX6_rule_14 rfl (lv_at hl 1 rfl) ?_
    refine lv_iconst (v := (2 : Int32)) hx hb dX6_rule_15 (by decide) ?_
    refine lv_icmp_ne (tgt := 25) hx hb dX6_rule_16 (by decide) (fun c16 => ?_) (fun c16 => ?_)
    · have h := i_f c16 h
      refine lv_iload_n hx hb dX6_rule_25 rfl (lv_at hl 1 rfl) ?_
      refine lv_iconst (v := (3 : Int32)) hx hb dX6_rule_26 (by decide) ?_
      refine lv_icmp_ne (tgt := 34) hx hb dX6_rule_27 (by decide) (fun c27 => ?_) (fun c27 => ?_)
      · have h := i_f c27 h
        refine lv_lconst (v := (0 : Int64)) hx hb dX6_rule_34 (by decide) ?_
        exact hmX6_rule_35 (0 : Int64) a2.toInt64 yruns ywaitAt ywaitMany yrules ykey ytag ycost _ _ _ h hP hD hS hl
      · have h := i_t c27 h
        refine lv_lconst (v := (1 : Int64)) hx hb dX6_rule_30 (by decide) ?_
        refine lv_goto (tgt := 35) hx hb dX6_rule_31 (by decide) ?_
        exact hmX6_rule_35 (1 : Int64) a2.toInt64 yruns ywaitAt ywaitMany yrules ykey ytag ycost _ _ _ h hP hD hS hl
    · have h := i_t c16 h
      refine lv_ldc2 (v := (2 : Int64)) hx hb hown (hts (.constantLong RX6 92 (2)) (by decide +kernel)) dX6_rule_19 ?_
      refine lv_goto (tgt := 35) hx hb dX6_rule_22 (by decide) ?_
      exact hmX6_rule_35 (2 : Int64) a2.toInt64 yruns ywaitAt ywaitMany yrules ykey ytag ycost _ _ _ h hP hD hS hl
set_option maxHeartbeats 4000000 in
set_option maxRecDepth 100000 in
theorem kX6_isPlace (l : Launch) (D : va_G) (cA : ClassId) (F : Nat) (yo : Nat) (vytext : Nat) (vyrules : Nat) (vylaid : Nat) (vykey : Nat) (vytag : Nat) (vyroomKey : Nat) (vyroomTag : Nat) (vyrunAt : Nat) (vyrunMany : Nat) (vycost : Nat) (vyhadKey : Nat) (vyhadTag : Nat) (vyhadAt : Nat) (vyhadMany : Nat) (vyhadCost : Nat) (ylength : Int32) (ymany : Int32) (yruns : Int32) (ywaitAt : Int32) (ywaitMany : Int32) (ya0 : Int32) (ya1 : Int32) (yb0 : Int32) (yb1 : Int32) (yforward : Int32) (yout : Int32) (a1 : Int32) (r0 : Int32) (h : mX6_isPlace F ymany a1 = some r0) : Ct l yX6_isPlace wsX6_isPlace ({ frames := 1, cells := 0, slots := 0, locals := 25 }) D cA [.ref yo, .int a1] [(yo, .inr (6, [.int ylength, .ref vytext, .ref vyrules, .int ymany, .ref vylaid, .ref vykey, .ref vytag, .ref vyroomKey, .ref vyroomTag, .int yruns, .ref vyrunAt, .ref vyrunMany, .int ywaitAt, .int ywaitMany, .ref vycost, .ref vyhadKey, .ref vyhadTag, .ref vyhadAt, .ref vyhadMany, .ref vyhadCost, .int ya0, .int ya1, .int yb0, .int yb1, .int yforward, .int yout]))] [(yo, .inr (6, [.int ylength, .ref vytext, .ref vyrules, .int ymany, .ref vylaid, .ref vykey, .ref vytag, .ref vyroomKey, .ref vyroomTag, .int yruns, .ref vyrunAt, .ref vyrunMany, .int ywaitAt, .int ywaitMany, .ref vycost, .ref vyhadKey, .ref vyhadTag, .ref vyhadAt, .ref vyhadMany, .ref vyhadCost, .int ya0, .int ya1, .int yb0, .int yb1, .int yforward, .int yout]))] (some (.int r0)) := by
  refine Ct.of (cc := cX6_isPlace) (maxL := 2) (ret := (some .boolean)) (by decide) rfl (Nat.le_of_ble_eq_true rfl) ?_
  intro p e s m below meth c A ls hcx hG hst hA hP hD hl
  obtain ⟨hx, hb, hml, hown, hts, hr, hlocks⟩ := id hcx
  have hown : s.vm.findClass RX6 = some m.cls := hown
  have hS : va_S A s.heap s.heap [] := va_S.rf
  have hl : lv_has ls 2 [(0, .ref yo), (1, .int a1)] := hl
  have hinX6 : ∀ w ∈ u_ws RX6 TX6 26, w ∈ wsX6_isPlace := by decide +kernel
  have fl55 := hts (.fieldLink RX6 55 "RunSorterModel" "many" "I") (by decide +kernel)
  unfold mX6_isPlace at h
  refine lv_iload_n hx hb dX6_isPlace_0 rfl (lv_at hl 1 rfl) ?_
  refine lv_i2l hx hb dX6_isPlace_1 rfl ?_
  refine lv_lconst (v := (0 : Int64)) hx hb dX6_isPlace_2 (by decide) ?_
  refine lv_aload_n hx hb dX6_isPlace_3 rfl (lv_at hl 0 rfl) ?_
  refine va_get (D := D) (cl := vwCl) (ci := 6) (v := .int ymany) (C := RX6) (T := TX6) (N := 26) hx hb hts hinX6 hown hG.1 hP 0 rfl rfl 3 (by decide) fl55 (fun _ h9 => h9) rfl dX6_isPlace_4 ?_
  refine lv_iconst (v := (1 : Int32)) hx hb dX6_isPlace_7 (by decide) ?_
  refine lv_isub hx hb dX6_isPlace_8 ?_
  refine lv_i2l hx hb dX6_isPlace_9 rfl ?_
  obtain ⟨r10, hc10, h⟩ := bd1_some h
  refine ct_S (As := [.long a1.toInt64, .long (0 : Int64), .long ((ymany - (1 : Int32)).toInt64)]) (rest := []) (st1 := [.int r10]) (wf := [(yo, .inr (6, [.int ylength, .ref vytext, .ref vyrules, .int ymany, .ref vylaid, .ref vykey, .ref vytag, .ref vyroomKey, .ref vyroomTag, .int yruns, .ref vyrunAt, .ref vyrunMany, .int ywaitAt, .int ywaitMany, .ref vycost, .ref vyhadKey, .ref vyhadTag, .ref vyhadAt, .ref vyhadMany, .ref vyhadCost, .int ya0, .int ya1, .int yb0, .int yb1, .int yforward, .int yout]))]) (kX6_in l D cA F    a1.toInt64 (0 : Int64) ((ymany - (1 : Int32)).toInt64) r10 hc10) ⟨hx, hb, hml, hown, hts⟩ (va_cwS 3 hts gX6_isPlace_X6_in rfl rfl rfl (by decide +kernel) ⟨Nat.le_of_ble_eq_true rfl, Nat.le_of_ble_eq_true rfl⟩) hG hst hP hD hS hA [] [0] [0] rfl rfl rfl rfl rfl rfl hl.1 rfl rfl (Nat.le_of_ble_eq_true rfl) dX6_isPlace_10 ⟨Nat.zero_le _, Nat.zero_le _⟩ (fun H locs hP hD hS => ?_)
  obtain ⟨hz13, h⟩ := bz_some h
  cases h
  exact rt_z hx hb hr hlocks hz13 hP hD hS dX6_isPlace_13
set_option maxHeartbeats 4000000 in
set_option maxRecDepth 100000 in
theorem kX6_put (l : Launch) (D : va_G) (cA : ClassId) (F : Nat) (yo : Nat) (vytext : Nat) (vyrules : Nat) (vylaid : Nat) (vykey : Nat) (vytag : Nat) (vyroomKey : Nat) (vyroomTag : Nat) (vyrunAt : Nat) (vyrunMany : Nat) (vycost : Nat) (vyhadKey : Nat) (vyhadTag : Nat) (vyhadAt : Nat) (vyhadMany : Nat) (vyhadCost : Nat) (ylength : Int32) (ymany : Int32) (yruns : Int32) (ywaitAt : Int32) (ywaitMany : Int32) (ya0 : Int32) (ya1 : Int32) (yb0 : Int32) (yb1 : Int32) (yforward : Int32) (yout : Int32) (yrules : (Nat → Int32)) (ylaid : (Nat → Int32)) (ykey : (Nat → Int32)) (ytag : (Nat → Int32)) (ycost : (Nat → Int32)) (a1 : Int32) (a2 : Int32) (r0 : Int32) (yruns_9 : Int32) (ywaitAt_9 : Int32) (ywaitMany_9 : Int32) (ylaid_9 : (Nat → Int32)) (ykey_9 : (Nat → Int32)) (ytag_9 : (Nat → Int32)) (ycost_9 : (Nat → Int32)) (h : mX6_put F ymany yruns ywaitAt ywaitMany yrules ylaid ykey ytag ycost a1 a2 = some (r0, yruns_9, ywaitAt_9, ywaitMany_9, ylaid_9, ykey_9, ytag_9, ycost_9)) : Ct l yX6_put wsX6_put ({ frames := 2, cells := 0, slots := 0, locals := 46 }) D cA [.ref yo, .int a1, .int a2] [(yo, .inr (6, [.int ylength, .ref vytext, .ref vyrules, .int ymany, .ref vylaid, .ref vykey, .ref vytag, .ref vyroomKey, .ref vyroomTag, .int yruns, .ref vyrunAt, .ref vyrunMany, .int ywaitAt, .int ywaitMany, .ref vycost, .ref vyhadKey, .ref vyhadTag, .ref vyhadAt, .ref vyhadMany, .ref vyhadCost, .int ya0, .int ya1, .int yb0, .int yb1, .int yforward, .int yout])), (vyrules, .inl (cA, 4, .inl yrules)), (vylaid, .inl (cA, 96, .inl ylaid)), (vykey, .inl (cA, 96, .inl ykey)), (vytag, .inl (cA, 96, .inl ytag)), (vycost, .inl (cA, 12, .inl ycost))] [(yo, .inr (6, [.int ylength, .ref vytext, .ref vyrules, .int ymany, .ref vylaid, .ref vykey, .ref vytag, .ref vyroomKey, .ref vyroomTag, .int yruns_9, .ref vyrunAt, .ref vyrunMany, .int ywaitAt_9, .int ywaitMany_9, .ref vycost, .ref vyhadKey, .ref vyhadTag, .ref vyhadAt, .ref vyhadMany, .ref vyhadCost, .int ya0, .int ya1, .int yb0, .int yb1, .int yforward, .int yout])), (vyrules, .inl (cA, 4, .inl yrules)), (vylaid, .inl (cA, 96, .inl ylaid_9)), (vykey, .inl (cA, 96, .inl ykey_9)), (vytag, .inl (cA, 96, .inl ytag_9)), (vycost, .inl (cA, 12, .inl ycost_9))] (some (.int r0)) := by
  refine Ct.of (cc := cX6_put) (maxL := 4) (ret := (some .int)) (by decide) rfl (Nat.le_of_ble_eq_true rfl) ?_
  intro p e s m below meth c A ls hcx hG hst hA hP hD hl
  obtain ⟨hx, hb, hml, hown, hts, hr, hlocks⟩ := id hcx
  have hown : s.vm.findClass RX6 = some m.cls := hown
  have hS : va_S A s.heap s.heap [] := va_S.rf
  have hl : lv_has ls 4 [(0, .ref yo), (1, .int a1), (2, .int a2)] := hl
  have hinX6 : ∀ w ∈ u_ws RX6 TX6 26, w ∈ wsX6_put := by decide +kernel
  have fl16 := hts (.fieldLink RX6 16 "RunSorterModel" "laid" "[I") (by decide +kernel)
  unfold mX6_put at h
  refine lv_aload_n hx hb dX6_put_0 rfl (lv_at hl 0 rfl) ?_
  refine lv_iload_n hx hb dX6_put_1 rfl (lv_at hl 1 rfl) ?_
  obtain ⟨r2, hc2, h⟩ := bd1_some h
  refine ct_V (As := [.int a1]) (rest := []) (st1 := [.int r2]) (wf := [(yo, .inr (6, [.int ylength, .ref vytext, .ref vyrules, .int ymany, .ref vylaid, .ref vykey, .ref vytag, .ref vyroomKey, .ref vyroomTag, .int yruns, .ref vyrunAt, .ref vyrunMany, .int ywaitAt, .int ywaitMany, .ref vycost, .ref vyhadKey, .ref vyhadTag, .ref vyhadAt, .ref vyhadMany, .ref vyhadCost, .int ya0, .int ya1, .int yb0, .int yb1, .int yforward, .int yout])), (vyrules, .inl (cA, 4, .inl yrules)), (vylaid, .inl (cA, 96, .inl ylaid)), (vykey, .inl (cA, 96, .inl ykey)), (vytag, .inl (cA, 96, .inl ytag)), (vycost, .inl (cA, 12, .inl ycost))]) (kX6_isPlace l D cA F yo vytext vyrules vylaid vykey vytag vyroomKey vyroomTag vyrunAt vyrunMany vycost vyhadKey vyhadTag vyhadAt vyhadMany vyhadCost  ylength ymany yruns ywaitAt ywaitMany ya0 ya1 yb0 yb1 yforward yout a1 r2 hc2) ⟨hx, hb, hml, hown, hts⟩ (cwV 1 hts gX6_put_X6_isPlace rfl rfl rfl (by decide +kernel) ⟨Nat.le_of_ble_eq_true rfl, Nat.le_of_ble_eq_true rfl⟩) hG hst hP hD hS hA 6 rfl rfl rfl [0] [1, 2, 3, 4, 5] [5, 0, 1, 2, 3, 4] rfl rfl rfl rfl rfl rfl hl.1 rfl rfl (Nat.le_of_ble_eq_true rfl) dX6_put_2 ⟨Nat.zero_le _, Nat.zero_le _⟩ (fun H locs hP hD hS => ?_)
  refine lv_if_eq (tgt := 20) hx hb dX6_put_5 (by decide) (fun c5 => ?_) (fun c5 => ?_)
  · have h := i_t c5 h
    refine lv_iconst (v := (-1 : Int32)) hx hb dX6_put_20 (by decide) ?_
    cases h
    exact rt_i hx hb hr hlocks hP hD hS dX6_put_21
  · have h := i_f c5 h
    refine lv_iload_n hx hb dX6_put_8 rfl (lv_at hl 2 rfl) ?_
    refine lv_i2l hx hb dX6_put_9 rfl ?_
    refine lv_lconst (v := (0 : Int64)) hx hb dX6_put_10 (by decide) ?_
    refine lv_ldc2 (v := (25 : Int64)) hx hb hown (hts (.constantLong RX6 100 (25)) (by decide +kernel)) dX6_put_11 ?_
    obtain ⟨r14, hc14, h⟩ := bd1_some h
    refine ct_S (As := [.long a2.toInt64, .long (0 : Int64), .long (25 : Int64)]) (rest := []) (st1 := [.int r14]) (wf := [(yo, .inr (6, [.int ylength, .ref vytext, .ref vyrules, .int ymany, .ref vylaid, .ref vykey, .ref vytag, .ref vyroomKey, .ref vyroomTag, .int yruns, .ref vyrunAt, .ref vyrunMany, .int ywaitAt, .int ywaitMany, .ref vycost, .ref vyhadKey, .ref vyhadTag, .ref vyhadAt, .ref vyhadMany, .ref vyhadCost, .int ya0, .int ya1, .int yb0, .int yb1, .int yforward, .int yout])), (vyrules, .inl (cA, 4, .inl yrules)), (vylaid, .inl (cA, 96, .inl ylaid)), (vykey, .inl (cA, 96, .inl ykey)), (vytag, .inl (cA, 96, .inl ytag)), (vycost, .inl (cA, 12, .inl ycost))]) (kX6_in l D cA F    a2.toInt64 (0 : Int64) (25 : Int64) r14 hc14) ⟨hx, hb, hml, hown, hts⟩ (va_cwS 3 hts gX6_put_X6_in rfl rfl rfl (by decide +kernel) ⟨Nat.le_of_ble_eq_true rfl, Nat.le_of_ble_eq_true rfl⟩) hG hst hP hD hS hA [] [0, 1, 2, 3, 4, 5] [0, 1, 2, 3, 4, 5] rfl rfl rfl rfl rfl rfl hl.1 rfl rfl (Nat.le_of_ble_eq_true rfl) dX6_put_14 ⟨Nat.zero_le _, Nat.zero_le _⟩ (fun H locs hP hD hS => ?_)
    refine lv_if_ne (tgt := 22) hx hb dX6_put_17 (by decide) (fun c17 => ?_) (fun c17 => ?_)
    · have h := i_f c17 h
      refine lv_aload_n hx hb dX6_put_22 rfl (lv_at hl 0 rfl) ?_
      refine va_get (D := D) (cl := vwCl) (ci := 6) (v := .ref vylaid) (C := RX6) (T := TX6) (N := 26) hx hb hts hinX6 hown hG.1 hP 0 rfl rfl 4 (by decide) fl16 (fun _ h9 => h9) rfl dX6_put_23 ?_
      refine lv_iload_n hx hb dX6_put_26 rfl (lv_at hl 1 rfl) ?_
      obtain ⟨hi27, h⟩ := ck_some h
      refine va_iald hx hb hG.1 hP 2 0 rfl rfl hi27 dX6_put_27 ?_
      refine lv_istore_n (lv' := [(3, .int (ylaid a1.toNatClampNeg)), (0, .ref yo), (1, .int a1), (2, .int a2)]) hx hb dX6_put_28 rfl hl (by decide) rfl (fun ls hl => ?_)
      refine lv_iload_n hx hb dX6_put_29 rfl (lv_at hl 0 rfl) ?_
      refine lv_iload_n hx hb dX6_put_30 rfl (lv_at hl 3 rfl) ?_
      refine lv_icmp_ne (tgt := 37) hx hb dX6_put_31 (by decide) (fun c31 => ?_) (fun c31 => ?_)
      · have h := i_f c31 h
        refine lv_aload_n hx hb dX6_put_37 rfl (lv_at hl 1 rfl) ?_
        refine va_get (D := D) (cl := vwCl) (ci := 6) (v := .ref vylaid) (C := RX6) (T := TX6) (N := 26) hx hb hts hinX6 hown hG.1 hP 0 rfl rfl 4 (by decide) fl16 (fun _ h9 => h9) rfl dX6_put_38 ?_
        refine lv_iload_n hx hb dX6_put_41 rfl (lv_at hl 2 rfl) ?_
        refine lv_iload_n hx hb dX6_put_42 rfl (lv_at hl 3 rfl) ?_
        obtain ⟨hi43, h⟩ := ck_some h
        refine va_iast hx hb hG.1 hP hD hS 2 0 rfl rfl hi43 dX6_put_43 (fun H locs hP hD hS => ?_)
        have hP : va_P D vwCl [(yo, .inr (6, [.int ylength, .ref vytext, .ref vyrules, .int ymany, .ref vylaid, .ref vykey, .ref vytag, .ref vyroomKey, .ref vyroomTag, .int yruns, .ref vyrunAt, .ref vyrunMany, .int ywaitAt, .int ywaitMany, .ref vycost, .ref vyhadKey, .ref vyhadTag, .ref vyhadAt, .ref vyhadMany, .ref vyhadCost, .int ya0, .int ya1, .int yb0, .int yb1, .int yforward, .int yout])), (vyrules, .inl (cA, 4, .inl yrules)), (vylaid, .inl (cA, 96, .inl (upd ylaid a1.toNatClampNeg a2))), (vykey, .inl (cA, 96, .inl ykey)), (vytag, .inl (cA, 96, .inl ytag)), (vycost, .inl (cA, 12, .inl ycost))] H := hP
        have hD : va_D A [(yo, .inr (6, [.int ylength, .ref vytext, .ref vyrules, .int ymany, .ref vylaid, .ref vykey, .ref vytag, .ref vyroomKey, .ref vyroomTag, .int yruns, .ref vyrunAt, .ref vyrunMany, .int ywaitAt, .int ywaitMany, .ref vycost, .ref vyhadKey, .ref vyhadTag, .ref vyhadAt, .ref vyhadMany, .ref vyhadCost, .int ya0, .int ya1, .int yb0, .int yb1, .int yforward, .int yout])), (vyrules, .inl (cA, 4, .inl yrules)), (vylaid, .inl (cA, 96, .inl (upd ylaid a1.toNatClampNeg a2))), (vykey, .inl (cA, 96, .inl ykey)), (vytag, .inl (cA, 96, .inl ytag)), (vycost, .inl (cA, 12, .inl ycost))] := hD
        refine lv_aload_n hx hb dX6_put_44 rfl (lv_at hl 1 rfl) ?_
        obtain ⟨yruns_45, ywaitAt_45, ywaitMany_45, ykey_45, ytag_45, ycost_45, hc45, h⟩ := bd6_some h
        refine ct_V (As := []) (rest := []) (st1 := []) (wf := [(yo, .inr (6, [.int ylength, .ref vytext, .ref vyrules, .int ymany, .ref vylaid, .ref vykey, .ref vytag, .ref vyroomKey, .ref vyroomTag, .int yruns_45, .ref vyrunAt, .ref vyrunMany, .int ywaitAt_45, .int ywaitMany_45, .ref vycost, .ref vyhadKey, .ref vyhadTag, .ref vyhadAt, .ref vyhadMany, .ref vyhadCost, .int ya0, .int ya1, .int yb0, .int yb1, .int yforward, .int yout])), (vyrules, .inl (cA, 4, .inl yrules)), (vylaid, .inl (cA, 96, .inl (upd ylaid a1.toNatClampNeg a2))), (vykey, .inl (cA, 96, .inl ykey_45)), (vytag, .inl (cA, 96, .inl ytag_45)), (vycost, .inl (cA, 12, .inl ycost_45))]) (kX6_begin l D cA F yo vytext vyrules vylaid vykey vytag vyroomKey vyroomTag vyrunAt vyrunMany vycost vyhadKey vyhadTag vyhadAt vyhadMany vyhadCost  ylength ymany yruns ywaitAt ywaitMany ya0 ya1 yb0 yb1 yforward yout yrules (upd ylaid a1.toNatClampNeg a2) ykey ytag ycost  yruns_45 ywaitAt_45 ywaitMany_45 ykey_45 ytag_45 ycost_45 hc45) ⟨hx, hb, hml, hown, hts⟩ (cwV 0 hts gX6_put_X6_begin rfl rfl rfl (by decide +kernel) ⟨Nat.le_of_ble_eq_true rfl, Nat.le_of_ble_eq_true rfl⟩) hG hst hP hD hS hA 6 rfl rfl rfl [0, 1, 2, 3, 4, 5] [] [0, 1, 2, 3, 4, 5] rfl rfl rfl rfl rfl rfl hl.1 rfl rfl (Nat.le_of_ble_eq_true rfl) dX6_put_45 ⟨Nat.zero_le _, Nat.zero_le _⟩ (fun H locs hP hD hS => ?_)
        refine lv_iload_n hx hb dX6_put_48 rfl (lv_at hl 0 rfl) ?_
        cases h
        exact rt_i hx hb hr hlocks hP hD hS dX6_put_49
      · have h := i_t c31 h
        refine lv_bipush (v := (-2 : Int32)) hx hb dX6_put_34 (by decide) ?_
        cases h
        exact rt_i hx hb hr hlocks hP hD hS dX6_put_36
    · have h := i_t c17 h
      refine lv_iconst (v := (-1 : Int32)) hx hb dX6_put_20 (by decide) ?_
      cases h
      exact rt_i hx hb hr hlocks hP hD hS dX6_put_21
set_option maxHeartbeats 4000000 in
set_option maxRecDepth 100000 in
theorem kX6_start (l : Launch) (D : va_G) (cA : ClassId) (F : Nat) (yo : Nat) (vytext : Nat) (vyrules : Nat) (vylaid : Nat) (vykey : Nat) (vytag : Nat) (vyroomKey : Nat) (vyroomTag : Nat) (vyrunAt : Nat) (vyrunMany : Nat) (vycost : Nat) (vyhadKey : Nat) (vyhadTag : Nat) (vyhadAt : Nat) (vyhadMany : Nat) (vyhadCost : Nat) (ylength : Int32) (ymany : Int32) (yruns : Int32) (ywaitAt : Int32) (ywaitMany : Int32) (ya0 : Int32) (ya1 : Int32) (yb0 : Int32) (yb1 : Int32) (yforward : Int32) (yout : Int32) (yrules : (Nat → Int32)) (ylaid : (Nat → Int32)) (ykey : (Nat → Int32)) (ytag : (Nat → Int32)) (ycost : (Nat → Int32)) (r0 : Int32) (yruns_9 : Int32) (ywaitAt_9 : Int32) (ywaitMany_9 : Int32) (ykey_9 : (Nat → Int32)) (ytag_9 : (Nat → Int32)) (ycost_9 : (Nat → Int32)) (h : mX6_start F ymany yruns ywaitAt ywaitMany yrules ylaid ykey ytag ycost = some (r0, yruns_9, ywaitAt_9, ywaitMany_9, ykey_9, ytag_9, ycost_9)) : Ct l yX6_start wsX6_start ({ frames := 1, cells := 0, slots := 0, locals := 21 }) D cA [.ref yo] [(yo, .inr (6, [.int ylength, .ref vytext, .ref vyrules, .int ymany, .ref vylaid, .ref vykey, .ref vytag, .ref vyroomKey, .ref vyroomTag, .int yruns, .ref vyrunAt, .ref vyrunMany, .int ywaitAt, .int ywaitMany, .ref vycost, .ref vyhadKey, .ref vyhadTag, .ref vyhadAt, .ref vyhadMany, .ref vyhadCost, .int ya0, .int ya1, .int yb0, .int yb1, .int yforward, .int yout])), (vyrules, .inl (cA, 4, .inl yrules)), (vylaid, .inl (cA, 96, .inl ylaid)), (vykey, .inl (cA, 96, .inl ykey)), (vytag, .inl (cA, 96, .inl ytag)), (vycost, .inl (cA, 12, .inl ycost))] [(yo, .inr (6, [.int ylength, .ref vytext, .ref vyrules, .int ymany, .ref vylaid, .ref vykey, .ref vytag, .ref vyroomKey, .ref vyroomTag, .int yruns_9, .ref vyrunAt, .ref vyrunMany, .int ywaitAt_9, .int ywaitMany_9, .ref vycost, .ref vyhadKey, .ref vyhadTag, .ref vyhadAt, .ref vyhadMany, .ref vyhadCost, .int ya0, .int ya1, .int yb0, .int yb1, .int yforward, .int yout])), (vyrules, .inl (cA, 4, .inl yrules)), (vylaid, .inl (cA, 96, .inl ylaid)), (vykey, .inl (cA, 96, .inl ykey_9)), (vytag, .inl (cA, 96, .inl ytag_9)), (vycost, .inl (cA, 12, .inl ycost_9))] (some (.int r0)) := by
  refine Ct.of (cc := cX6_start) (maxL := 2) (ret := (some .int)) (by decide) rfl (Nat.le_of_ble_eq_true rfl) ?_
  intro p e s m below meth c A ls hcx hG hst hA hP hD hl
  obtain ⟨hx, hb, hml, hown, hts, hr, hlocks⟩ := id hcx
  have hown : s.vm.findClass RX6 = some m.cls := hown
  have hS : va_S A s.heap s.heap [] := va_S.rf
  have hl : lv_has ls 2 [(0, .ref yo)] := hl
  have hinX6 : ∀ w ∈ u_ws RX6 TX6 26, w ∈ wsX6_start := by decide +kernel
  have fl37 := hts (.fieldLink RX6 37 "RunSorterModel" "cost" "[I") (by decide +kernel)
  unfold mX6_start at h
  refine lv_aload_n hx hb dX6_start_0 rfl (lv_at hl 0 rfl) ?_
  refine va_get (D := D) (cl := vwCl) (ci := 6) (v := .ref vycost) (C := RX6) (T := TX6) (N := 26) hx hb hts hinX6 hown hG.1 hP 0 rfl rfl 14 (by decide) fl37 (fun _ h9 => h9) rfl dX6_start_1 ?_
  refine lv_bipush (v := (11 : Int32)) hx hb dX6_start_4 (by decide) ?_
  obtain ⟨hi6, h⟩ := ck_some h
  refine va_iald hx hb hG.1 hP 5 0 rfl rfl hi6 dX6_start_6 ?_
  refine lv_istore_n (lv' := [(1, .int (ycost (11 : Int32).toNatClampNeg)), (0, .ref yo)]) hx hb dX6_start_7 rfl hl (by decide) rfl (fun ls hl => ?_)
  refine lv_aload_n hx hb dX6_start_8 rfl (lv_at hl 1 rfl) ?_
  obtain ⟨yruns_9, ywaitAt_9, ywaitMany_9, ykey_9, ytag_9, ycost_9, hc9, h⟩ := bd6_some h
  refine ct_V (As := []) (rest := []) (st1 := []) (wf := [(yo, .inr (6, [.int ylength, .ref vytext, .ref vyrules, .int ymany, .ref vylaid, .ref vykey, .ref vytag, .ref vyroomKey, .ref vyroomTag, .int yruns_9, .ref vyrunAt, .ref vyrunMany, .int ywaitAt_9, .int ywaitMany_9, .ref vycost, .ref vyhadKey, .ref vyhadTag, .ref vyhadAt, .ref vyhadMany, .ref vyhadCost, .int ya0, .int ya1, .int yb0, .int yb1, .int yforward, .int yout])), (vyrules, .inl (cA, 4, .inl yrules)), (vylaid, .inl (cA, 96, .inl ylaid)), (vykey, .inl (cA, 96, .inl ykey_9)), (vytag, .inl (cA, 96, .inl ytag_9)), (vycost, .inl (cA, 12, .inl ycost_9))]) (kX6_begin l D cA F yo vytext vyrules vylaid vykey vytag vyroomKey vyroomTag vyrunAt vyrunMany vycost vyhadKey vyhadTag vyhadAt vyhadMany vyhadCost  ylength ymany yruns ywaitAt ywaitMany ya0 ya1 yb0 yb1 yforward yout yrules ylaid ykey ytag ycost  yruns_9 ywaitAt_9 ywaitMany_9 ykey_9 ytag_9 ycost_9 hc9) ⟨hx, hb, hml, hown, hts⟩ (cwV 0 hts gX6_start_X6_begin rfl rfl rfl (by decide +kernel) ⟨Nat.le_of_ble_eq_true rfl, Nat.le_of_ble_eq_true rfl⟩) hG hst hP hD hS hA 6 rfl rfl rfl [0, 1, 2, 3, 4, 5] [] [0, 1, 2, 3, 4, 5] rfl rfl rfl rfl rfl rfl hl.1 rfl rfl (Nat.le_of_ble_eq_true rfl) dX6_start_9 ⟨Nat.zero_le _, Nat.zero_le _⟩ (fun H locs hP hD hS => ?_)
  refine lv_iload_n hx hb dX6_start_12 rfl (lv_at hl 0 rfl) ?_
  cases h
  exact rt_i hx hb hr hlocks hP hD hS dX6_start_13
