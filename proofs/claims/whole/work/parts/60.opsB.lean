/-! RULE, PUT, START -/
theorem rul_u {o pol ls lp i v : Nat} {f : Nat → Int32} (h : RU o pol ls lp f) (hi : i < 4) : RU (if i = 0 then v else o) (if i = 1 then v else pol) (if i = 2 then v else ls) (if i = 3 then v else lp) (upd f i (nI v)) := by
  obtain ⟨h1, h2, h3, h4⟩ := h
  refine ⟨?_, ?_, ?_, ?_⟩ <;> simp only [upd]
  · by_cases q : i = 0
    · subst q; simp
    · rw [if_neg q, if_neg (fun e => q e.symm)]; exact h1
  · by_cases q : i = 1
    · subst q; simp
    · rw [if_neg q, if_neg (fun e => q e.symm)]; exact h2
  · by_cases q : i = 2
    · subst q; simp
    · rw [if_neg q, if_neg (fun e => q e.symm)]; exact h3
  · by_cases q : i = 3
    · subst q; simp
    · rw [if_neg q, if_neg (fun e => q e.symm)]; exact h4
def lowN (i : Nat) : Nat := if i = 2 then 2 else if i = 3 then 1 else 0
def highN (i : Nat) : Nat := if i = 0 then 3 else if i = 1 then 2 else 9
theorem lowT_n : ∀ i, i < 4 → lowT i = nI (lowN i) := by decide
theorem highT_n : ∀ i, i < 4 → highT i = nI (highN i) := by decide
theorem RU_eq {o pol ls lp i : Nat} {f g : Nat → Int32} (h : RU o pol ls lp f) (h2 : RU o pol ls lp g) (hi : i < 4) : f i = g i := by
  obtain ⟨a1, a2, a3, a4⟩ := h
  obtain ⟨b1, b2, b3, b4⟩ := h2
  rcases (show i = 0 ∨ i = 1 ∨ i = 2 ∨ i = 3 by omega) with rfl | rfl | rfl | rfl
  · rw [a1, b1]
  · rw [a2, b2]
  · rw [a3, b3]
  · rw [a4, b4]
theorem RB_u {n o pol ls lp i v : Nat} (hb : RB n o pol ls lp) (hi : i < 4) (h1 : lowN i ≤ v) (h2 : v ≤ highN i) : RB n (if i = 0 then v else o) (if i = 1 then v else pol) (if i = 2 then v else ls) (if i = 3 then v else lp) := by
  obtain ⟨b1, b2, b3, b4, b5⟩ := hb
  unfold lowN at h1
  unfold highN at h2
  rcases (show i = 0 ∨ i = 1 ∨ i = 2 ∨ i = 3 by omega) with rfl | rfl | rfl | rfl
  · exact ⟨b1, by simp at h2 ⊢; omega, by simpa using b3, by simpa using b4, by simpa using b5⟩
  · exact ⟨b1, by simpa using b2, by simp at h2 ⊢; omega, by simpa using b4, by simpa using b5⟩
  · exact ⟨b1, by simpa using b2, by simpa using b3, by simp at h1 h2 ⊢; omega, by simpa using b5⟩
  · exact ⟨b1, by simpa using b2, by simpa using b3, by simpa using b4, by simp at h1 h2 ⊢; omega⟩
theorem y_rule1 {F i : Nat} {a2 ymany yruns ywaitAt ywaitMany : Int32} {yrules ylaid ykey ytag ycost : Nat → Int32} (hi : i < 4) : mX6_rule F ymany yruns ywaitAt ywaitMany yrules ylaid ykey ytag ycost (nI i) a2 = mX6_rule_70 F ymany ylaid (nI i) a2 (b2i (inB a2 (nI (lowN i)) (nI (highN i)))) yruns ywaitAt ywaitMany yrules ykey ytag ycost := by
  have e : inB (nI i) (nI 0) (nI 3) = true := by
    unfold inB
    rw [Bool.and_eq_true, decide_eq_true_eq, decide_eq_true_eq, q_le (by decide) (by omega), q_le (by omega) (by decide)]
    omega
  unfold mX6_rule
  rw [w0, w3, y_in, e]
  simp only [bd1_r, b2i_t, n0, z10, if_false]
  have hc : ∀ b : Bool, (if b2i b = nI 0 then mX6_rule_70 F ymany ylaid (nI i) a2 (nI 0) yruns ywaitAt ywaitMany yrules ykey ytag ycost else mX6_rule_70 F ymany ylaid (nI i) a2 1 yruns ywaitAt ywaitMany yrules ykey ytag ycost) = mX6_rule_70 F ymany ylaid (nI i) a2 (b2i b) yruns ywaitAt ywaitMany yrules ykey ytag ycost := by
    intro b; cases b <;> rfl
  rcases (show i = 0 ∨ i = 1 ∨ i = 2 ∨ i = 3 by omega) with rfl | rfl | rfl | rfl
  · rw [if_neg (by decide), if_neg (by decide)]
    unfold mX6_rule_35
    rw [if_pos (by rfl)]
    unfold mX6_rule_59
    rw [w3, y_in]
    exact hc _
  · rw [if_neg (by decide), if_neg (by decide)]
    unfold mX6_rule_35
    rw [if_neg (by decide), if_pos (by rfl)]
    unfold mX6_rule_59
    rw [w2, y_in]
    exact hc _
  · rw [if_pos (by rfl)]
    unfold mX6_rule_35
    rw [if_neg (by decide), if_neg (by decide)]
    unfold mX6_rule_59
    rw [w2, w9, y_in]
    exact hc _
  · rw [if_neg (by decide), if_pos (by rfl)]
    unfold mX6_rule_35
    rw [if_neg (by decide), if_neg (by decide)]
    unfold mX6_rule_59
    rw [w1, w9, y_in]
    exact hc _
theorem o_rule {F : Nat} {a1 a2 : Int32} (hF : 1000 ≤ F) {xlet xrec srec spol slea sdep sinr swai jord : Int32} {txtf laif rulf rowf talf plaf lenf : Nat → Int32} {ylength ymany yruns ywaitAt ywaitMany : Int32} {ytext yrules ylaid ykey ytag yrunAt yrunMany ycost : Nat → Int32} (h : GR xlet xrec srec spol slea sdep sinr swai jord txtf laif rulf rowf talf plaf lenf ylength ymany yruns ywaitAt ywaitMany ytext yrules ylaid ykey ytag yrunAt yrunMany ycost) : ∃ (r s1 s2 s3 s4 s5 s6 s7 w1 w2 w3 : Int32) (ru f1 f2 yr g1 g2 : Nat → Int32), mX5_rule F xrec laif rulf srec spol slea sdep sinr swai rowf talf jord a1 a2 = some (r, ru, s1, s2, s3, s4, s5, s6, f1, f2, s7) ∧ mX6_rule F ymany yruns ywaitAt ywaitMany yrules ylaid ykey ytag ycost a1 a2 = some (r, w1, w2, w3, yr, g1, g2, f2) ∧ GR xlet xrec s1 s2 s3 s4 s5 s6 s7 txtf laif ru f1 f2 plaf lenf ylength ymany w1 w2 w3 ytext yr ylaid g1 g2 yrunAt yrunMany f2 := by
  have h0 := h
  obtain ⟨n, len, o, pol, ls, lp, d, w, L, hb, ht, hr, hy, hl, hs, rfl, rfl, rfl, rfl, rfl, rfl, rfl, rfl, rfl, rfl, rfl, rfl, rfl, rfl⟩ := h
  cases hq : inB a1 (nI 0) (nI 3)
  · unfold mX5_rule mX6_rule
    rw [n0, n3, e_out, w0, w3, y_in, hq]
    simp only [bd1_r, Bool.not_false, b2i_t, b2i_f, n0, z10, z00, if_true, if_false]
    unfold mX6_rule_70
    simp only [n0, z00, if_true]
    exact ⟨_, _, _, _, _, _, _, _, _, _, _, _, _, _, _, _, _, rfl, rfl, h0⟩
  · obtain ⟨i, i1, i2, rfl⟩ := inB_t (by decide) (by decide) hq
    rw [y_rule1 (by omega)]
    unfold mX5_rule mX6_rule_70
    rw [n0, n3, e_out, hq]
    simp (disch := omega) only [bd1_r, Bool.not_true, b2i_t, b2i_f, n0, z10, z00, if_true, if_false, q_ck, q_cl]
    rw [lowT_n i (by omega), highT_n i (by omega), e_out]
    simp only [bd1_r]
    cases hq2 : inB a2 (nI (lowN i)) (nI (highN i))
    · simp only [Bool.not_false, b2i_t, b2i_f, z10, z00, if_true, if_false]
      exact ⟨_, _, _, _, _, _, _, _, _, _, _, _, _, _, _, _, _, rfl, rfl, h0⟩
    · have hh : highN i ≤ 9 := by unfold highN; split <;> (try split) <;> omega
      have hh2 : lowN i ≤ 2 := by unfold lowN; split <;> (try split) <;> omega
      obtain ⟨v, v1, v2, rfl⟩ := inB_t (by omega) (by omega) hq2
      simp only [Bool.not_true, b2i_t, b2i_f, z10, z00, if_true, if_false]
      rw [e_look (by omega) (by decide), RU_eq hr hy (show i < 4 by omega)]
      simp only [bd1_r]
      by_cases q : yrules i = nI v
      · rw [if_pos q, if_pos q]
        exact ⟨_, _, _, _, _, _, _, _, _, _, _, _, _, _, _, _, _, rfl, rfl, h0⟩
      · rw [if_neg q, if_neg q, e_fill (by omega) (by decide)]
        simp only [bd1_r]
        obtain ⟨s1, s2, s3, s4, s5, s6, s7, w1, w2, w3, f1, f2, g1, g2, b1, b2, b3⟩ := o_begin (srec := nI n) (spol := nI pol) (slea := nI ls) (sdep := nI d) (sinr := nI (psum L d + w)) (swai := nI w) (jord := nI o) (yruns := nI d) (ywaitAt := ywaitAt) (ywaitMany := nI w) (rowf := rowf) (c := ycost) (plaf := plaf) (lenf := lenf) (ykey := ykey) (ytag := ytag) (yrunAt := yrunAt) (yrunMany := yrunMany) hF (RB_u hb (show i < 4 by omega) v1 v2) ht (rul_u hr (show i < 4 by omega)) (rul_u hy (show i < 4 by omega)) hl
        rw [b1, b2]
        exact ⟨_, _, _, _, _, _, _, _, _, _, _, _, _, _, _, _, _, rfl, rfl, b3⟩
theorem e_noPlace {F n : Nat} {a1 : Int32} (h : 1 ≤ n) : mX5_isNoPlace F (nI n) a1 = some (b2i (!inB a1 (nI 0) (nI (n - 1)))) := by
  unfold mX5_isNoPlace
  rw [n0, n1, q_sub h, e_out]
  simp only [bd1_r, bz_b]
theorem y_isPlace {F n : Nat} {a1 : Int32} (h : 1 ≤ n) : mX6_isPlace F (nI n) a1 = some (b2i (inB a1 (nI 0) (nI (n - 1)))) := by
  unfold mX6_isPlace
  rw [w0, n1, q_sub h, y_in]
  simp only [bd1_r, bz_b]
theorem e_noKey {F : Nat} {a1 : Int32} : mX5_isNoKey F a1 = some (b2i (!inB a1 (nI 0) (nI 25))) := by
  unfold mX5_isNoKey
  rw [n0, n25, e_out]
  simp only [bd1_r, bz_b]
theorem o_put {F : Nat} {a1 a2 : Int32} (hF : 1000 ≤ F) {xlet xrec srec spol slea sdep sinr swai jord : Int32} {txtf laif rulf rowf talf plaf lenf : Nat → Int32} {ylength ymany yruns ywaitAt ywaitMany : Int32} {ytext yrules ylaid ykey ytag yrunAt yrunMany ycost : Nat → Int32} (h : GR xlet xrec srec spol slea sdep sinr swai jord txtf laif rulf rowf talf plaf lenf ylength ymany yruns ywaitAt ywaitMany ytext yrules ylaid ykey ytag yrunAt yrunMany ycost) : ∃ (r s1 s2 s3 s4 s5 s6 s7 w1 w2 w3 : Int32) (la f1 f2 ly g1 g2 : Nat → Int32), mX5_put F xrec laif rulf srec spol slea sdep sinr swai rowf talf jord a1 a2 = some (r, la, s1, s2, s3, s4, s5, s6, f1, f2, s7) ∧ mX6_put F ymany yruns ywaitAt ywaitMany yrules ylaid ykey ytag ycost a1 a2 = some (r, w1, w2, w3, ly, g1, g2, f2) ∧ GR xlet xrec s1 s2 s3 s4 s5 s6 s7 txtf la rulf f1 f2 plaf lenf ylength ymany w1 w2 w3 ytext yrules ly g1 g2 yrunAt yrunMany f2 := by
  have h0 := h
  obtain ⟨n, len, o, pol, ls, lp, d, w, L, hb, ht, hr, hy, hl, hs, rfl, rfl, rfl, rfl, rfl, rfl, rfl, rfl, rfl, rfl, rfl, rfl, rfl, rfl⟩ := h
  have hn := hb.1
  unfold mX5_put mX6_put
  rw [e_noPlace hn.1, y_isPlace hn.1]
  simp only [bd1_r]
  cases hq : inB a1 (nI 0) (nI (n - 1))
  · simp only [bd1_r, Bool.not_false, b2i_t, b2i_f, n0, z10, z00, if_true, if_false]
    exact ⟨_, _, _, _, _, _, _, _, _, _, _, _, _, _, _, _, _, rfl, rfl, h0⟩
  · obtain ⟨i, i1, i2, rfl⟩ := inB_t (by omega) (by decide) hq
    rw [e_noKey, w0, w25, y_in]
    simp (disch := omega) only [bd1_r, Bool.not_true, b2i_t, b2i_f, n0, z10, z00, if_true, if_false, q_ck, q_cl]
    cases hq2 : inB a2 (nI 0) (nI 25)
    · simp only [Bool.not_false, b2i_t, b2i_f, z10, z00, if_true, if_false]
      exact ⟨_, _, _, _, _, _, _, _, _, _, _, _, _, _, _, _, _, rfl, rfl, h0⟩
    · obtain ⟨v, v1, v2, rfl⟩ := inB_t (by omega) (by omega) hq2
      simp only [Bool.not_true, b2i_t, b2i_f, z10, z00, if_true, if_false]
      obtain ⟨k, k1, k2, k3⟩ := hl i (by omega)
      rw [e_look (by omega) (by decide), k2, k3]
      simp only [bd1_r]
      rw [e_key k1 (by omega)]
      simp only [bd1_r]
      by_cases q : nI k = nI v
      · rw [if_pos q, if_pos q]
        exact ⟨_, _, _, _, _, _, _, _, _, _, _, _, _, _, _, _, _, rfl, rfl, h0⟩
      · rw [if_neg q, if_neg q, e_rec]
        simp only [bd1_r]
        rw [e_fill (by omega) (by decide)]
        simp only [bd1_r]
        have hl2 : LD n (upd laif i (nI (i * 26 + v))) (upd ylaid i (nI v)) := by
          intro j hj
          by_cases q2 : j = i
          · subst q2; exact ⟨v, by omega, upd_s, upd_s⟩
          · obtain ⟨a, b, c, e⟩ := hl j (by omega)
            exact ⟨a, b, by rw [upd_n q2]; exact c, by rw [upd_n q2]; exact e⟩
        obtain ⟨s1, s2, s3, s4, s5, s6, s7, w1, w2, w3, f1, f2, g1, g2, b1, b2, b3⟩ := o_begin (srec := nI n) (spol := nI pol) (slea := nI ls) (sdep := nI d) (sinr := nI (psum L d + w)) (swai := nI w) (jord := nI o) (yruns := nI d) (ywaitAt := ywaitAt) (ywaitMany := nI w) (rowf := rowf) (c := ycost) (plaf := plaf) (lenf := lenf) (ykey := ykey) (ytag := ytag) (yrunAt := yrunAt) (yrunMany := yrunMany) hF hb ht hr hy hl2
        rw [b1, b2]
        exact ⟨_, _, _, _, _, _, _, _, _, _, _, _, _, _, _, _, _, rfl, rfl, b3⟩
theorem o_start {F : Nat} (hF : 1000 ≤ F) {xlet xrec srec spol slea sdep sinr swai jord : Int32} {txtf laif rulf rowf talf plaf lenf : Nat → Int32} {ylength ymany yruns ywaitAt ywaitMany : Int32} {ytext yrules ylaid ykey ytag yrunAt yrunMany ycost : Nat → Int32} (h : GR xlet xrec srec spol slea sdep sinr swai jord txtf laif rulf rowf talf plaf lenf ylength ymany yruns ywaitAt ywaitMany ytext yrules ylaid ykey ytag yrunAt yrunMany ycost) : ∃ (r s1 s2 s3 s4 s5 s6 s7 w1 w2 w3 : Int32) (f1 f2 g1 g2 : Nat → Int32), mX5_start F xrec laif rulf srec spol slea sdep sinr swai rowf talf jord = some (r, s1, s2, s3, s4, s5, s6, f1, f2, s7) ∧ mX6_start F ymany yruns ywaitAt ywaitMany yrules ylaid ykey ytag ycost = some (r, w1, w2, w3, g1, g2, f2) ∧ GR xlet xrec s1 s2 s3 s4 s5 s6 s7 txtf laif rulf f1 f2 plaf lenf ylength ymany w1 w2 w3 ytext yrules ylaid g1 g2 yrunAt yrunMany f2 := by
  obtain ⟨n, len, o, pol, ls, lp, d, w, L, hb, ht, hr, hy, hl, hs, rfl, rfl, rfl, rfl, rfl, rfl, rfl, rfl, rfl, rfl, rfl, rfl, rfl, rfl⟩ := h
  unfold mX5_start mX6_start
  rw [n11, e_look (by decide) (by decide), q_ck (by decide) (by decide), q_cl (by decide)]
  simp only [bd1_r]
  obtain ⟨s1, s2, s3, s4, s5, s6, s7, w1, w2, w3, f1, f2, g1, g2, b1, b2, b3⟩ := o_begin (srec := nI n) (spol := nI pol) (slea := nI ls) (sdep := nI d) (sinr := nI (psum L d + w)) (swai := nI w) (jord := nI o) (yruns := nI d) (ywaitAt := ywaitAt) (ywaitMany := nI w) (rowf := rowf) (c := ycost) (plaf := plaf) (lenf := lenf) (ykey := ykey) (ytag := ytag) (yrunAt := yrunAt) (yrunMany := yrunMany) hF hb ht hr hy hl
  rw [b1, b2]
  exact ⟨_, _, _, _, _, _, _, _, _, _, _, _, _, _, _, rfl, rfl, b3⟩
