/-! a whole merge -/
/-- the reference counts each STEP, the class adds them up at the end -/
def sp (k : Nat) (c : Nat → Int32) : Nat → Int32 := upd c 11 (c 11 + nI k)
theorem e_leave {F n o p0 p q : Nat} {rowf key tag c : Nat → Int32} (hF : 1000 ≤ F) (ho : o < 4) (hn : n ≤ 96) (hrow : ∀ i, i < n → PK n rowf key tag i) (hp : 1 ≤ p) (hq : 1 ≤ q) (hs : p0 + p + q ≤ n) :
    ∃ sa d1 sb d2 : Nat, sa ≤ p ∧ sb ≤ q ∧ (∀ (fw : Int32) (rul rK e : Nat → Int32), rul 0 = nI o → mX6_seeks F fw rul key rK e (nI 4) (nI p0) (nI 1) (nI p) (key (p0 + p)) = some (nI sa, tst e d1) ∧ mX6_seeks F fw rul key rK e (nI 5) (nI (p0 + p)) (nI 1) (nI q) (key (p0 + p - 1)) = some (nI sb, tst e d2)) ∧
      mX2_leaveWhatStays F rowf c (nI o) (nI p0) (nI p) (nI q) = (if p ≤ sa then some (tst c d1, nI (p0 + sa), nI 1, nI (p - sa), nI (p0 + p), nI 1, nI q) else some (tst (tst c d1) d2, nI (p0 + sa), nI 1, nI (p - sa), nI (p0 + p), nI 1, nI sb)) := by
  obtain ⟨tb, htb, hkb, eb1, eb2, -⟩ := (hrow (p0 + p) (by omega)).get
  obtain ⟨ta, hta, hka, ea1, ea2, -⟩ := (hrow (p0 + p - 1) (by omega)).get
  generalize ky key (p0 + p) = kb at hkb eb1 eb2
  generalize ky key (p0 + p - 1) = ka at hka ea1 ea2
  refine ⟨(sk (fun i => pas o kb true false (ky key (p0 + i))) p).1, (sk (fun i => pas o kb true false (ky key (p0 + i))) p).2, (sk (fun i => pas o ka false true (ky key (p0 + p + i))) q).1, (sk (fun i => pas o ka false true (ky key (p0 + p + i))) q).2, sk_le _ _, sk_le _ _, fun fw rul rK e hr => ⟨?_, ?_⟩, ?_⟩
  · rw [eb2]
    refine y_seeks hF (by omega) (fun i hi c => ?_)
    obtain ⟨t, q1, q2, q3, q4, -⟩ := (hrow (p0 + i) (by omega)).get
    rw [pk_mul, nI_add, Nat.one_mul]
    exact y_p4 hr ho hkb q2 (by omega) q4
  · rw [ea2]
    refine y_seeks hF (by omega) (fun i hi c => ?_)
    obtain ⟨t, q1, q2, q3, q4, -⟩ := (hrow (p0 + p + i) (by omega)).get
    rw [pk_mul, nI_add, Nat.one_mul]
    exact y_p5 hr ho hka q2 (by omega) q4
  · have hA := fun c : Nat → Int32 => e_passing (F := F) (n := 96) (one := true) (wt := false) (pe := nI p0) (pd := nI 1) (cf := rowf) (c := c) (kf := fun i => ky key (p0 + i)) hF ho hkb (show tb < 96 by omega) (show p ≤ 96 by omega) (fun i hi => by
      obtain ⟨t, q1, q2, q3, -⟩ := (hrow (p0 + i) (by omega)).get
      exact ⟨t, by omega, q2, by rw [e_ahead (by omega) (by decide), q3]⟩)
    have hB := fun c : Nat → Int32 => e_passing (F := F) (n := 96) (one := false) (wt := true) (pe := nI (p0 + p)) (pd := nI 1) (cf := rowf) (c := c) (kf := fun i => ky key (p0 + p + i)) hF ho hka (show ta < 96 by omega) (show q ≤ 96 by omega) (fun i hi => by
      obtain ⟨t, q1, q2, q3, -⟩ := (hrow (p0 + p + i) (by omega)).get
      exact ⟨t, by omega, q2, by rw [e_ahead (by omega) (by decide), q3]⟩)
    have hsa := sk_le (fun i => pas o kb true false (ky key (p0 + i))) p
    generalize sk (fun i => pas o kb true false (ky key (p0 + i))) p = xa at hA hsa ⊢
    generalize sk (fun i => pas o ka false true (ky key (p0 + p + i))) q = xb at hB ⊢
    unfold mX2_leaveWhatStays mX4_aim mX4_drop
    simp only [bd3_r, n0, n1, nI_add]
    rw [e_ahead (by omega) (by decide), Nat.add_zero, eb1]
    simp only [bd1_r]
    simp only [b2i_t, b2i_f] at hA hB
    rw [hA]
    simp only [bd2_r, pk_mul, nI_add, Nat.one_mul]
    rw [q_sub hsa]
    simp (disch := omega) only [q_le]
    by_cases r1 : p ≤ xa.1
    · rw [if_pos (show p - xa.1 ≤ 0 by omega), if_pos r1]
    · rw [if_neg (show ¬ p - xa.1 ≤ 0 by omega), if_neg r1, q_sub (show 1 ≤ p - xa.1 by omega), e_ahead (by omega) (by decide), show p0 + xa.1 + (p - xa.1 - 1) = p0 + p - 1 by omega, ea1]
      simp only [bd1_r]
      rw [hB]
      rfl
set_option maxHeartbeats 4000000 in
/-- the whole of it -/
theorem mrg {F n o rowo roomo p0 p q ln m7 k : Nat} {mt md fw yo : Int32} {rul rowf roomf key tag rK rT c : Nat → Int32} (hF : 1000 ≤ F) (ho : o < 4) (hr : rul 0 = nI o) (hn : n ≤ 96) (hrow : ∀ i, i < n → PK n rowf key tag i) (hsur : ∀ t, t < n → ∃ i, i < n ∧ tag i = nI t) (hp : 1 ≤ p) (hq : 1 ≤ q) (hs : p0 + p + q ≤ n) (hc : c 10 = nI ln) (hln : 1 ≤ ln ∧ ln ≤ 9) (h7 : c 7 = nI m7) (hm7 : m7 ≤ 96) :
    JR n (mX2_join F rowo roomo mt md rowf roomf c (nI o) (nI p0) (nI p) (nI q)) (mX6_merge F fw yo rul key tag rK rT (sp k c) (nI p0) (nI p) (nI q)) (nI 1, nI k) (nI (p + q)) := by
  obtain ⟨sa, d1, sb, d2, s1, s2, s3, s4⟩ := e_leave (c := c) hF ho hn hrow hp hq hs
  have had : upd (upd (sp k c) 5 ((sp k c) 5 + nI 1)) 6 ((upd (sp k c) 5 ((sp k c) 5 + nI 1)) 6 + nI (p + q)) = ad (nI 1, nI k) (nI (p + q)) c := by
    funext j
    simp only [upd, ad, sp]
    by_cases j6 : j = 6
    · subst j6; simp
    · by_cases j5 : j = 5
      · subst j5; simp
      · by_cases j11 : j = 11
        · subst j11; simp
        · simp [j5, j6, j11]
  unfold mX2_join mX6_merge
  rw [s4]
  simp (disch := omega) only [n1, n4, n5, n6, q_ck, q_cl, nI_add, had]
  rw [(s3 fw rul rK _ hr).1, ad_tst]
  simp (disch := omega) only [bd2_r, nI_add, q_eq]
  have hc1 : (tst c d1) 10 = nI ln := hc
  have h71 : (tst c d1) 7 = nI m7 := h7
  by_cases r1 : p ≤ sa
  · have e1 : sa = p := by omega
    subst e1
    rw [if_pos r1]
    simp only [bd7_r, if_true]
    rw [e_both (by omega) (by omega), show decide (0 < sa - sa ∧ 0 < q) = false from decide_eq_false (by omega)]
    simp only [bd1_r, n0, b2i_0, if_true]
    exact ⟨_, _, rowf, roomf, tst c d1, _, _, _, _, _, _, _, _, _, _, _, _, _, _, key, tag, rK, rT, ln, m7, rfl, rfl, hrow, hsur, hc1, hln, h71, hm7⟩
  · rw [if_neg r1, if_neg (show ¬ p0 + sa = p0 + p by omega), q_sub (show 1 ≤ p0 + p by omega), q_ck (by omega) (by omega), q_cl (by omega), (s3 fw rul rK _ hr).2, ad_tst]
    have hc2 : (tst (tst c d1) d2) 10 = nI ln := hc
    have h72 : (tst (tst c d1) d2) 7 = nI m7 := h7
    generalize tst (tst c d1) d2 = c2 at hc2 h72 ⊢
    simp only [bd7_r, bd2_r, nI_add]
    rw [e_both (by omega) (by omega), q_sub (show p0 + p ≤ p0 + p + sb by omega), q_sub (show p0 + sa ≤ p0 + p by omega), show p0 + p + sb - (p0 + p) = sb by omega, show p0 + p - (p0 + sa) = p - sa by omega]
    simp (disch := omega) only [bd1_r, n0, b2i_0, q_lt]
    unfold mX6_merge_138 mX6_merge_159
    simp only [n0, z00, z10, bz_0, bz_1, if_true, if_false]
    rw [q_sub (show p0 + p ≤ p0 + p + sb by omega), q_sub (show p0 + sa ≤ p0 + p by omega), show p0 + p + sb - (p0 + p) = sb by omega, show p0 + p - (p0 + sa) = p - sa by omega]
    have y1 := y_m194 (F := F) (e := p0 + p) (m := sb) (a0 := nI (p0 + sa)) (a1 := nI (p0 + p)) (b0 := nI (p0 + p)) (b1 := nI (p0 + p + sb)) (fw := nI 0) (out := yo) (rul := rul) (key := key) (tag := tag) (rK := rK) (rT := rT) (c := ad (nI 1, nI k) (nI (p + q)) c2) (by omega) F 0 (by omega) (by omega)
    have y2 := y_m194 (F := F) (e := p0 + sa) (m := p - sa) (a0 := nI (p0 + sa)) (a1 := nI (p0 + p)) (b0 := nI (p0 + p)) (b1 := nI (p0 + p + sb)) (fw := nI 1) (out := yo) (rul := rul) (key := key) (tag := tag) (rK := rK) (rT := rT) (c := ad (nI 1, nI k) (nI (p + q)) c2) (by omega) F 0 (by omega) (by omega)
    rw [cpy_0, cpy_0, if_pos rfl, ad_mvs, rs7_ad] at y1
    rw [cpy_0, cpy_0, if_neg (by decide), ad_mvs, rs7_ad] at y2
    rw [y1, y2]
    unfold mX6_merge_304
    simp only [n0, z00, z10, if_true, if_false]
    rw [q_sub (show p0 + p ≤ p0 + p + sb by omega), q_sub (show p0 + sa ≤ p0 + p by omega), show p0 + p + sb - (p0 + p) = sb by omega, show p0 + p - (p0 + sa) = p - sa by omega]
    by_cases r2 : sb < p - sa
    · rw [if_pos r2]
      have hMB : MB n (p0 + sa) (p0 + p) 0 sb (p0 + p + sb) rowf (va_cpy rowf roomf (p0 + p) 0 sb) key tag (va_cpy key rK (p0 + p) 0 sb) (va_cpy tag rT (p0 + p) 0 sb) := by
        refine ⟨by omega, by omega, by omega, hn, by omega, by omega, hrow, fun i _ hi => ?_, fun t ht => ?_⟩
        · obtain ⟨kk, t, q1, q2, q3, q4, q5⟩ := hrow (p0 + p + i) (by omega)
          refine ⟨kk, t, q1, q2, ?_, ?_, ?_⟩ <;> simp only [va_cpy] <;> rw [if_pos (by omega), Nat.sub_zero] <;> assumption
        · obtain ⟨i, q1, q2⟩ := hsur t ht
          by_cases z1 : i < p0 + p
          · exact Or.inl ⟨i, z1, q2⟩
          · by_cases z2 : i < p0 + p + sb
            · refine Or.inr (Or.inl ⟨i - (p0 + p), Nat.zero_le _, by omega, ?_⟩)
              simp only [va_cpy]
              rw [if_pos (by omega), Nat.sub_zero, show p0 + p + (i - (p0 + p)) = i by omega]
              exact q2
            · exact Or.inr (Or.inr ⟨i, by omega, q1, q2⟩)
      have h7z := rs7_7 (c := mvs c2 sb) (m := sb) hm7 (by omega) h72
      obtain ⟨z, hz1, hz2⟩ := h7z
      by_cases r3 : 0 < sb
      · rw [show decide (0 < p - sa ∧ 0 < sb) = true from decide_eq_true (by omega)]
        simp only [Bool.true_eq_false, if_false]
        rw [if_pos r2]
        unfold mX2_join_37 mX2_openBack mX4_aim mX2_join_55
        simp only [n0, z00, if_true]
        rw [e_bring hF (by omega) (by omega)]
        simp only [bd2_r, bd3_r, bd10_r, n1, nI_add]
        have hj := (jlp_b (F := F) (n := n) (o := o) (rowo := rowo) (roomo := roomo) (u := (nI 1, nI k)) (v := nI (p + q)) (rul := rul) hF ho hr hz1 96 F F (p0 + sa) (p0 + p) 0 sb (p0 + p + sb) 0 ln rowf key tag (rs7 (mvs c2 sb) sb) hMB (by rw [rs7_10]; exact hc2) hln hz2 (by omega) (by omega) (by omega) (by omega) (by omega)).1
        rw [show p0 + p - (p0 + sa) = p - sa by omega, Nat.sub_zero] at hj
        rw [show p0 + sa + (p - sa) = p0 + p by omega]
        exact hj
      · have e0 : sb = 0 := by omega
        subst e0
        rw [show decide (0 < p - sa ∧ 0 < 0) = false from decide_eq_false (by omega)]
        simp only [if_true]
        have e3 : rs7 (mvs c2 0) 0 = c2 := by
          rw [mvs_0]
          unfold rs7
          rw [h72, if_pos]
          simp (disch := omega) only [q_le]
          omega
        rw [e3]
        have e : ∀ (k : Nat) (K1 T1 E : Nat → Int32), mX6_merge_353 F rul (k + 1) (nI (p0 + sa)) (nI (p0 + p)) (nI 0) (nI 0) (nI 0) (tI (p0 + p + 0)) key tag K1 T1 E = some (nI (p0 + sa), nI (p0 + p), nI 0, nI 0, nI 0, tI (p0 + p + 0), key, tag, K1, T1, E) := by
          intro k K1 T1 E
          rw [mX6_merge_353, y_goes (by omega) (by omega) (by decide) (by decide), decide_eq_false (by omega)]
          simp only [bd1_r, n0, b2i_0, z00, if_true]
          rw [show nI 0 - nI 0 = nI 0 by decide, y_tkB_b hF (by omega) (by omega) (by omega) (by omega), cpb_0, cpb_0, mvs_0]
          rfl
        obtain ⟨F1, hk⟩ : ∃ k, F = k + 1 := ⟨F - 1, by omega⟩
        have e2 := e F1 (va_cpy key rK (p0 + p) 0 0) (va_cpy tag rT (p0 + p) 0 0) (ad (nI 1, nI k) (nI (p + q)) c2)
        rw [← hk] at e2
        refine ⟨_, _, rowf, roomf, c2, _, _, _, _, _, _, _, _, _, _, _, _, _, _, key, tag, _, _, ln, m7, rfl, (by rw [if_pos (show 0 < p - sa by omega)]; exact e2), hrow, hsur, hc2, hln, h72, hm7⟩
    · rw [if_neg r2, show decide (0 < p - sa ∧ 0 < sb) = true from decide_eq_true (by omega)]
      simp only [Bool.true_eq_false, if_false]
      rw [if_neg r2]
      have hMF : MF n 0 (p - sa) (p0 + p) (p0 + p + sb) (p0 + sa) rowf (va_cpy rowf roomf (p0 + sa) 0 (p - sa)) key tag (va_cpy key rK (p0 + sa) 0 (p - sa)) (va_cpy tag rT (p0 + sa) 0 (p - sa)) := by
        refine ⟨by omega, by omega, by omega, by omega, hn, by omega, hrow, fun i _ hi => ?_, fun t ht => ?_⟩
        · obtain ⟨kk, t, q1, q2, q3, q4, q5⟩ := hrow (p0 + sa + i) (by omega)
          refine ⟨kk, t, q1, q2, ?_, ?_, ?_⟩ <;> simp only [va_cpy] <;> rw [if_pos (by omega), Nat.sub_zero] <;> assumption
        · obtain ⟨i, q1, q2⟩ := hsur t ht
          by_cases z1 : i < p0 + sa
          · exact Or.inl ⟨i, z1, q2⟩
          · by_cases z2 : i < p0 + p
            · refine Or.inr (Or.inl ⟨i - (p0 + sa), Nat.zero_le _, by omega, ?_⟩)
              simp only [va_cpy]
              rw [if_pos (by omega), Nat.sub_zero, show p0 + sa + (i - (p0 + sa)) = i by omega]
              exact q2
            · exact Or.inr (Or.inr ⟨i, by omega, q1, q2⟩)
      have h7z := rs7_7 (c := mvs c2 (p - sa)) (m := p - sa) hm7 (by omega) h72
      obtain ⟨z, hz1, hz2⟩ := h7z
      unfold mX2_join_37 mX2_openForward mX4_aim mX2_join_55a
      simp only [n0, z10, n1, if_false]
      rw [e_bring hF (by omega) (by omega)]
      simp only [bd2_r, bd3_r, bd7_r]
      have hj := (jlp_f (F := F) (n := n) (o := o) (rowo := rowo) (roomo := roomo) (u := (nI 1, nI k)) (v := nI (p + q)) (rul := rul) hF ho hr hz1 96 F F 0 (p - sa) (p0 + p) (p0 + p + sb) (p0 + sa) 0 ln rowf key tag (rs7 (mvs c2 (p - sa)) (p - sa)) hMF (by rw [rs7_10]; exact hc2) hln hz2 (by omega) (by omega) (by omega) (by omega) (by omega)).1
      rw [show p0 + p + sb - (p0 + p) = sb by omega, Nat.sub_zero] at hj
      exact hj
