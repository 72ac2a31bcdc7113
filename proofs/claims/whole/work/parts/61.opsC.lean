/-! what is only looked at -/
theorem o_next {F : Nat} (hF : 1000 ≤ F) {xlet xrec srec spol slea sdep sinr swai jord : Int32} {txtf laif rulf rowf talf plaf lenf : Nat → Int32} {ylength ymany yruns ywaitAt ywaitMany : Int32} {ytext yrules ylaid ykey ytag yrunAt yrunMany ycost : Nat → Int32} (h : GR xlet xrec srec spol slea sdep sinr swai jord txtf laif rulf rowf talf plaf lenf ylength ymany yruns ywaitAt ywaitMany ytext yrules ylaid ykey ytag yrunAt yrunMany ycost) : ∃ r : Int32, mX5_next F srec spol sdep sinr swai plaf lenf = some r ∧ mX6_next F ymany yruns ywaitMany yrules yrunAt yrunMany = some r := by
  obtain ⟨n, len, o, pol, ls, lp, d, w, L, hb, ht, hr, hy, hl, hs, rfl, rfl, rfl, rfl, rfl, rfl, rfl, rfl, rfl, rfl, rfl, rfl, rfl, rfl⟩ := h
  unfold mX5_next
  rw [e_kind hF hs.1 hb.2.2.1, y_next hF hs.2.1 hb.2.2.1 hy.2.1]
  exact ⟨_, rfl, rfl⟩
theorem o_due {F : Nat} (hF : 1000 ≤ F) {xlet xrec srec spol slea sdep sinr swai jord : Int32} {txtf laif rulf rowf talf plaf lenf : Nat → Int32} {ylength ymany yruns ywaitAt ywaitMany : Int32} {ytext yrules ylaid ykey ytag yrunAt yrunMany ycost : Nat → Int32} (h : GR xlet xrec srec spol slea sdep sinr swai jord txtf laif rulf rowf talf plaf lenf ylength ymany yruns ywaitAt ywaitMany ytext yrules ylaid ykey ytag yrunAt yrunMany ycost) : ∃ r : Int32, mX5_due F srec spol sdep sinr swai plaf lenf = some r ∧ mX6_due F ymany yruns ywaitMany yrules yrunAt yrunMany = some r := by
  obtain ⟨n, len, o, pol, ls, lp, d, w, L, hb, ht, hr, hy, hl, hs, rfl, rfl, rfl, rfl, rfl, rfl, rfl, rfl, rfl, rfl, rfl, rfl, rfl, rfl⟩ := h
  unfold mX5_due mX6_due
  rw [e_due hF hs.1 hb.2.2.1, y_due hF hs.2.1 hb.2.2.1 hy.2.1]
  exact ⟨_, rfl, rfl⟩
theorem o_waiting {F : Nat} {xlet xrec srec spol slea sdep sinr swai jord : Int32} {txtf laif rulf rowf talf plaf lenf : Nat → Int32} {ylength ymany yruns ywaitAt ywaitMany : Int32} {ytext yrules ylaid ykey ytag yrunAt yrunMany ycost : Nat → Int32} (h : GR xlet xrec srec spol slea sdep sinr swai jord txtf laif rulf rowf talf plaf lenf ylength ymany yruns ywaitAt ywaitMany ytext yrules ylaid ykey ytag yrunAt yrunMany ycost) : ∃ r : Int32, mX5_waiting F swai = some r ∧ mX6_waiting F ywaitMany = some r := by
  obtain ⟨n, len, o, pol, ls, lp, d, w, L, hb, ht, hr, hy, hl, hs, rfl, rfl, rfl, rfl, rfl, rfl, rfl, rfl, rfl, rfl, rfl, rfl, rfl, rfl⟩ := h
  unfold mX5_waiting mX6_waiting
  by_cases z : nI w ≤ 0
  · rw [if_pos z]; exact ⟨_, rfl, rfl⟩
  · rw [if_neg z]; exact ⟨_, rfl, rfl⟩
theorem o_cost {F : Nat} {a1 : Int32} {xlet xrec srec spol slea sdep sinr swai jord : Int32} {txtf laif rulf rowf talf plaf lenf : Nat → Int32} {ylength ymany yruns ywaitAt ywaitMany : Int32} {ytext yrules ylaid ykey ytag yrunAt yrunMany ycost : Nat → Int32} (h : GR xlet xrec srec spol slea sdep sinr swai jord txtf laif rulf rowf talf plaf lenf ylength ymany yruns ywaitAt ywaitMany ytext yrules ylaid ykey ytag yrunAt yrunMany ycost) : ∃ r : Int32, mX5_cost F talf a1 = some r ∧ mX6_cost F ycost a1 = some r := by
  obtain ⟨n, len, o, pol, ls, lp, d, w, L, hb, ht, hr, hy, hl, hs, rfl, rfl, rfl, rfl, rfl, rfl, rfl, rfl, rfl, rfl, rfl, rfl, rfl, rfl⟩ := h
  unfold mX5_cost mX6_cost
  rw [n0, n11, e_out, w0, w11, y_in]
  simp only [bd1_r]
  cases hq : inB a1 (nI 0) (nI 11)
  · simp only [Bool.not_false, b2i_t, b2i_f, n0, z10, z00, if_true, if_false]
    exact ⟨_, rfl, rfl⟩
  · obtain ⟨i, i1, i2, rfl⟩ := inB_t (by decide) (by decide) hq
    simp (disch := omega) only [Bool.not_true, b2i_t, b2i_f, n0, z10, z00, if_true, if_false, q_ck, q_cl]
    rw [e_look (by omega) (by decide)]
    exact ⟨_, rfl, rfl⟩
theorem o_at {F : Nat} {a1 a2 : Int32} {xlet xrec srec spol slea sdep sinr swai jord : Int32} {txtf laif rulf rowf talf plaf lenf : Nat → Int32} {ylength ymany yruns ywaitAt ywaitMany : Int32} {ytext yrules ylaid ykey ytag yrunAt yrunMany ycost : Nat → Int32} (h : GR xlet xrec srec spol slea sdep sinr swai jord txtf laif rulf rowf talf plaf lenf ylength ymany yruns ywaitAt ywaitMany ytext yrules ylaid ykey ytag yrunAt yrunMany ycost) : ∃ r : Int32, mX5_at F xrec rowf a1 a2 = some r ∧ mX6_at F ymany ykey ytag a1 a2 = some r := by
  obtain ⟨n, len, o, pol, ls, lp, d, w, L, hb, ht, hr, hy, hl, hs, rfl, rfl, rfl, rfl, rfl, rfl, rfl, rfl, rfl, rfl, rfl, rfl, rfl, rfl⟩ := h
  have hn := hb.1
  unfold mX5_at mX6_at
  rw [e_noPlace hn.1, y_isPlace hn.1]
  simp only [bd1_r]
  cases hq : inB a1 (nI 0) (nI (n - 1))
  · simp only [Bool.not_false, b2i_t, b2i_f, n0, z10, z00, if_true, if_false]
    exact ⟨_, rfl, rfl⟩
  · obtain ⟨i, i1, i2, rfl⟩ := inB_t (by omega) (by decide) hq
    rw [n0, n1, e_out, w0, w1, y_in]
    simp (disch := omega) only [bd1_r, Bool.not_true, b2i_t, b2i_f, n0, z10, z00, if_true, if_false, q_ck, q_cl]
    cases hq2 : inB a2 (nI 0) (nI 1)
    · simp only [Bool.not_false, b2i_t, b2i_f, z10, z00, if_true, if_false]
      exact ⟨_, rfl, rfl⟩
    · simp only [Bool.not_true, b2i_t, b2i_f, z10, z00, if_true, if_false]
      obtain ⟨k, t, k1, k2, k3, k4, k5⟩ := hs.2.2.1.1 i (by omega)
      rw [e_look (by omega) (by decide), k3, k4, k5]
      simp only [bd1_r]
      rw [e_key k1 (by omega), e_tag k1 (by omega)]
      simp only [bd1_r]
      by_cases z : a2 = nI 0
      · rw [if_pos z]; exact ⟨_, rfl, rfl⟩
      · rw [if_neg z]; exact ⟨_, rfl, rfl⟩
theorem pl1 {F n t q : Nat} {rowf key tag : Nat → Int32} (hn : n ≤ 96) (hR : ∀ i, i < n → PK n rowf key tag i) (hq : q < n) (ht : tag q = nI t) (htn : t < n) : ∀ (m u v i : Nat), q - i ≤ m → i ≤ q → m < u → m < v → ∃ r : Int32, mX5_place_2 F (nI n) rowf (nI t) u (nI i) = some r ∧ mX6_place_12 F tag (nI t) v (nI i) = some r := by
  intro m
  induction m with
  | zero =>
    intro u v i h1 h2 h3 h4
    obtain ⟨u, rfl⟩ : ∃ x, u = x + 1 := ⟨u - 1, by omega⟩
    obtain ⟨v, rfl⟩ : ∃ x, v = x + 1 := ⟨v - 1, by omega⟩
    obtain rfl : i = q := by omega
    obtain ⟨k, t2, k1, k2, k3, k4, k5⟩ := hR i hq
    rw [mX5_place_2, mX6_place_12, e_look (by omega) (by decide), k3]
    simp only [bd1_r]
    rw [e_tag k1 (by omega)]
    simp (disch := omega) only [bd1_r, q_le, q_ck, q_cl]
    rw [if_neg (by omega), ← k5, if_pos ht, if_pos ht]
    exact ⟨_, rfl, rfl⟩
  | succ m ih =>
    intro u v i h1 h2 h3 h4
    obtain ⟨u, rfl⟩ : ∃ x, u = x + 1 := ⟨u - 1, by omega⟩
    obtain ⟨v, rfl⟩ : ∃ x, v = x + 1 := ⟨v - 1, by omega⟩
    obtain ⟨k, t2, k1, k2, k3, k4, k5⟩ := hR i (by omega)
    rw [mX5_place_2, mX6_place_12, e_look (by omega) (by decide), k3]
    simp only [bd1_r]
    rw [e_tag k1 (by omega)]
    simp (disch := omega) only [bd1_r, q_le, q_ck, q_cl]
    rw [if_neg (by omega), ← k5]
    by_cases z : tag i = nI t
    · rw [if_pos z, if_pos z]; exact ⟨_, rfl, rfl⟩
    · rw [if_neg z, if_neg z]
      simp only [n1, nI_add]
      have : i ≠ q := fun e => z (by rw [e]; exact ht)
      exact ih u v (i + 1) (by omega) (by omega) (by omega) (by omega)
theorem pl2 {F n : Nat} {a1 : Int32} {rowf key tag : Nat → Int32} (hn : n ≤ 96) (hR : ∀ i, i < n → PK n rowf key tag i) (hq : ∀ t, t < n → ¬ nI t = a1) : ∀ (m u i : Nat), n - i ≤ m → i ≤ n → m < u → mX5_place_2 F (nI n) rowf a1 u (nI i) = some (-1) := by
  intro m
  induction m with
  | zero =>
    intro u i h1 h2 h3
    obtain ⟨u, rfl⟩ : ∃ x, u = x + 1 := ⟨u - 1, by omega⟩
    rw [mX5_place_2]
    simp (disch := omega) only [q_le]
    rw [if_pos (by omega)]
  | succ m ih =>
    intro u i h1 h2 h3
    obtain ⟨u, rfl⟩ : ∃ x, u = x + 1 := ⟨u - 1, by omega⟩
    rw [mX5_place_2]
    simp (disch := omega) only [q_le]
    by_cases z : n ≤ i
    · rw [if_pos z]
    · obtain ⟨k, t2, k1, k2, k3, k4, k5⟩ := hR i (by omega)
      rw [if_neg z, e_look (by omega) (by decide), k3]
      simp only [bd1_r]
      rw [e_tag k1 (by omega)]
      simp only [bd1_r, n1, nI_add]
      rw [if_neg (hq t2 k2)]
      exact ih u (i + 1) (by omega) (by omega) (by omega)
theorem o_place {F : Nat} {a1 : Int32} (hF : 1000 ≤ F) {xlet xrec srec spol slea sdep sinr swai jord : Int32} {txtf laif rulf rowf talf plaf lenf : Nat → Int32} {ylength ymany yruns ywaitAt ywaitMany : Int32} {ytext yrules ylaid ykey ytag yrunAt yrunMany ycost : Nat → Int32} (h : GR xlet xrec srec spol slea sdep sinr swai jord txtf laif rulf rowf talf plaf lenf ylength ymany yruns ywaitAt ywaitMany ytext yrules ylaid ykey ytag yrunAt yrunMany ycost) : ∃ r : Int32, mX5_place F xrec rowf a1 = some r ∧ mX6_place F ymany ytag a1 = some r := by
  obtain ⟨n, len, o, pol, ls, lp, d, w, L, hb, ht, hr, hy, hl, hs, rfl, rfl, rfl, rfl, rfl, rfl, rfl, rfl, rfl, rfl, rfl, rfl, rfl, rfl⟩ := h
  have hn := hb.1
  unfold mX5_place mX6_place
  rw [y_isPlace hn.1, n0]
  simp only [bd1_r]
  cases hq : inB a1 (nI 0) (nI (n - 1))
  · refine ⟨_, pl2 hn.2 hs.2.2.1.1 (fun t ht e => ?_) 96 F 0 (by omega) (by omega) (by omega), rfl⟩
    subst e
    unfold inB at hq
    simp (disch := omega) only [q_le] at hq
    simp at hq
    omega
  · obtain ⟨t, i1, i2, rfl⟩ := inB_t (by omega) (by decide) hq
    obtain ⟨q, q1, q2⟩ := hs.2.2.1.2 t (by omega)
    exact pl1 hn.2 hs.2.2.1.1 q1 q2 (by omega) 96 F F 0 (by omega) (by omega) (by omega) (by omega)
theorem i_m1 {a : Int32} (h1 : ¬ a < -1) (h2 : ¬ a = -1) {d : Nat} (hd : d < 2147483648) (h3 : a < nI d) : ∃ i, i < d ∧ a = nI i := by
  rw [Int32.lt_iff_toInt_lt] at h1 h3
  have e : (-1 : Int32).toInt = -1 := rfl
  rw [e] at h1
  rw [nI_toInt hd] at h3
  have h4 : a.toInt ≠ -1 := fun q => h2 (Int32.toInt_inj.mp (by rw [q]; rfl))
  refine ⟨a.toInt.toNat, by omega, ?_⟩
  apply Int32.toInt_inj.mp
  rw [nI_toInt (by omega)]
  omega
theorem i_m0 {a : Int32} (h1 : ¬ a < -1) : (a < 0) = (a = -1) := by
  apply propext
  constructor
  · intro h
    rw [Int32.lt_iff_toInt_lt] at h1 h
    have e : (-1 : Int32).toInt = -1 := rfl
    have e0 : (0 : Int32).toInt = 0 := rfl
    rw [e] at h1
    rw [e0] at h
    apply Int32.toInt_inj.mp
    rw [e]; omega
  · rintro rfl; decide
theorem o_run {F : Nat} {a1 a2 : Int32} (hF : 1000 ≤ F) {xlet xrec srec spol slea sdep sinr swai jord : Int32} {txtf laif rulf rowf talf plaf lenf : Nat → Int32} {ylength ymany yruns ywaitAt ywaitMany : Int32} {ytext yrules ylaid ykey ytag yrunAt yrunMany ycost : Nat → Int32} (h : GR xlet xrec srec spol slea sdep sinr swai jord txtf laif rulf rowf talf plaf lenf ylength ymany yruns ywaitAt ywaitMany ytext yrules ylaid ykey ytag yrunAt yrunMany ycost) : ∃ r : Int32, mX5_run F srec sdep swai plaf lenf a1 a2 = some r ∧ mX6_run F ymany yruns ywaitMany yrunAt yrunMany a1 a2 = some r := by
  obtain ⟨n, len, o, pol, ls, lp, d, w, L, hb, ht, hr, hy, hl, hs, rfl, rfl, rfl, rfl, rfl, rfl, rfl, rfl, rfl, rfl, rfl, rfl, rfl, rfl⟩ := h
  have hn := hb.1
  have hbd := hs.1.b
  unfold mX5_run mX6_run
  by_cases z : a1 < -1
  · rw [if_pos z, if_pos z]; exact ⟨_, rfl, rfl⟩
  · rw [if_neg z, if_neg z, w0, w2, y_in, show (0 : Int32) = nI 0 from rfl, show (2 : Int32) = nI 2 from rfl, e_out]
    simp only [bd1_r]
    cases hq : inB a2 (nI 0) (nI 2)
    · simp only [Bool.not_false, b2i_t, b2i_f, z10, z00, if_true, if_false]
      exact ⟨_, rfl, rfl⟩
    · simp only [Bool.not_true, b2i_t, b2i_f, z10, z00, if_true, if_false]
      have z2 : (a1 < nI 0) = (a1 = -1) := i_m0 z
      by_cases y : a1 = -1
      · rw [if_pos y, if_pos (by rw [z2]; exact y)]
        unfold mX6_run_31
        rw [y]
        exact ⟨_, rfl, rfl⟩
      · rw [if_neg y, if_neg (show ¬ a1 < nI 0 by rw [z2]; exact y)]
        by_cases x : a1 < nI d
        · rw [if_pos x, if_pos x]
          obtain ⟨i, i1, rfl⟩ := i_m1 z y (by omega) x
          obtain ⟨j, j1, j2, rfl⟩ := inB_t (by decide) (by decide) hq
          simp (disch := omega) only [q_eq, q_le, q_ck, q_cl, n1, nI_add]
          obtain ⟨p1, p2, p3, p4⟩ := hs.1.l i1
          obtain ⟨r1, r2, r3, r4⟩ := hs.2.1.l i1
          have hsw := hs.1.2.1
          by_cases j3 : j = 2
          · rw [if_pos j3, if_pos (show 2 ≤ j by omega), e_power hF hs.1 i1]
            simp only [bd1_r]
            by_cases i3 : i + 1 = d
            · rw [if_pos i3, if_pos (show d ≤ i + 1 by omega)]
              unfold mX6_run_95
              by_cases w0 : w = 0
              · subst w0
                exact ⟨_, rfl, rfl⟩
              · rw [if_neg w0, show (0 : Int32) = nI 0 from rfl, if_neg (by rw [q_eq (by omega) (by decide)]; exact w0), q_ck (by omega) (by omega), q_ck (by omega) (by omega), q_cl (by omega), r1, r2, y_power hF r3 (by omega) (by omega) hn.2]
                exact ⟨_, rfl, rfl⟩
            · obtain ⟨t1, t2, t3, t4⟩ := hs.2.1.l (show i + 1 < d by omega)
              rw [if_neg i3, if_neg (show ¬ d ≤ i + 1 by omega)]
              unfold mX6_run_95
              have e1 : psum L (i + 1) = psum L i + L i := rfl
              rw [t2, show (0 : Int32) = nI 0 from rfl, if_neg (by rw [q_eq (by omega) (by decide)]; omega), q_ck (by omega) (by omega), q_ck (by omega) (by omega), q_cl (by omega), r1, r2, y_power hF r3 (by omega) (by omega) hn.2]
              exact ⟨_, rfl, rfl⟩
          · rw [if_neg j3, if_neg (show ¬ 2 ≤ j by omega), e_look (i := i) (by omega) (by decide), e_look (i := i) (by omega) (by decide)]
            simp only [bd1_r]
            rw [p1, p2, r1, r2]
            by_cases j4 : j = 0
            · rw [if_pos j4]; exact ⟨_, rfl, rfl⟩
            · rw [if_neg j4]; exact ⟨_, rfl, rfl⟩
        · rw [if_neg x, if_neg x]
          unfold mX6_run_31
          have : (0 : Int32) ≤ a1 := by
            rw [← Int32.not_lt]
            show ¬ a1 < nI 0
            rw [z2]; exact y
          rw [if_pos this]
          exact ⟨_, rfl, rfl⟩
theorem rk_le {o i j : Nat} (ho : o < 4) (hi : i < 26) (hj : j < 26) : (rk o j ≤ rk o i) = (less o i j = false) := by
  have q := rk_dec o ho i hi j hj
  apply propext
  generalize less o i j = b at q
  cases b
  · simpa using q
  · simpa using q
theorem o_less {F : Nat} {a1 a2 : Int32} {xlet xrec srec spol slea sdep sinr swai jord : Int32} {txtf laif rulf rowf talf plaf lenf : Nat → Int32} {ylength ymany yruns ywaitAt ywaitMany : Int32} {ytext yrules ylaid ykey ytag yrunAt yrunMany ycost : Nat → Int32} (h : GR xlet xrec srec spol slea sdep sinr swai jord txtf laif rulf rowf talf plaf lenf ylength ymany yruns ywaitAt ywaitMany ytext yrules ylaid ykey ytag yrunAt yrunMany ycost) : ∃ r : Int32, mX5_less F rulf a1 a2 = some r ∧ mX6_less F yrules a1 a2 = some r := by
  obtain ⟨n, len, o, pol, ls, lp, d, w, L, hb, ht, hr, hy, hl, hs, rfl, rfl, rfl, rfl, rfl, rfl, rfl, rfl, rfl, rfl, rfl, rfl, rfl, rfl⟩ := h
  unfold mX5_less mX6_less
  rw [e_noKey, e_noKey, w0, w25, y_in, y_in]
  simp only [bd1_r]
  cases hq : inB a1 (nI 0) (nI 25)
  · simp only [Bool.not_false, b2i_t, b2i_f, n0, z10, z00, if_true, if_false]
    exact ⟨_, rfl, rfl⟩
  · cases hq2 : inB a2 (nI 0) (nI 25)
    · simp only [Bool.not_false, Bool.not_true, b2i_t, b2i_f, n0, z10, z00, if_true, if_false]
      exact ⟨_, rfl, rfl⟩
    · obtain ⟨i, i1, i2, rfl⟩ := inB_t (by decide) (by decide) hq
      obtain ⟨j, j1, j2, rfl⟩ := inB_t (by decide) (by decide) hq2
      simp only [Bool.not_true, b2i_t, b2i_f, n0, z10, z00, if_true, if_false]
      rw [e_look (by decide) (by decide), hr.1, y_isLess hy.1 hb.2.1 (by omega) (by omega)]
      simp only [bd1_r]
      rw [e_rank, e_rank]
      simp only [bd1_r]
      cases hh : less o i j
      · rw [if_pos (by rw [rk_le hb.2.1 (show i < 26 by omega) (show j < 26 by omega)]; exact hh)]; exact ⟨_, rfl, rfl⟩
      · rw [if_neg (by rw [rk_le hb.2.1 (show i < 26 by omega) (show j < 26 by omega), hh]; decide)]; exact ⟨_, rfl, rfl⟩
theorem o_count {F : Nat} {a1 : Int32} (hF : 1000 ≤ F) {xlet xrec srec spol slea sdep sinr swai jord : Int32} {txtf laif rulf rowf talf plaf lenf : Nat → Int32} {ylength ymany yruns ywaitAt ywaitMany : Int32} {ytext yrules ylaid ykey ytag yrunAt yrunMany ycost : Nat → Int32} (h : GR xlet xrec srec spol slea sdep sinr swai jord txtf laif rulf rowf talf plaf lenf ylength ymany yruns ywaitAt ywaitMany ytext yrules ylaid ykey ytag yrunAt yrunMany ycost) : ∃ r : Int32, mX5_count F xlet xrec rulf srec spol sdep sinr swai plaf lenf a1 = some r ∧ mX6_count F ylength ymany yruns ywaitMany yrules yrunAt yrunMany a1 = some r := by
  obtain ⟨n, len, o, pol, ls, lp, d, w, L, hb, ht, hr, hy, hl, hs, rfl, rfl, rfl, rfl, rfl, rfl, rfl, rfl, rfl, rfl, rfl, rfl, rfl, rfl⟩ := h
  unfold mX5_count mX6_count
  rw [e_kind hF hs.1 hb.2.2.1, y_next hF hs.2.1 hb.2.2.1 hy.2.1, y_inRuns hF hs.2.1]
  by_cases z0 : a1 = 0
  · rw [if_pos z0, if_pos z0]; exact ⟨_, rfl, rfl⟩
  rw [if_neg z0, if_neg z0]
  by_cases z1 : a1 = 1
  · subst z1
    rw [if_pos rfl, if_pos rfl, n0, e_look (by decide) (by decide), show (1 : Int32) - 1 = nI 0 from rfl, q_ck (by decide) (by decide), q_cl (by decide), hr.1, hy.1]; exact ⟨_, rfl, rfl⟩
  rw [if_neg z1, if_neg z1]
  by_cases z2 : a1 = 2
  · subst z2
    rw [if_pos rfl, if_pos rfl, show (2 : Int32) - 1 = nI 1 from rfl, n1, e_look (by decide) (by decide), q_ck (by decide) (by decide), q_cl (by decide), hr.2.1, hy.2.1]; exact ⟨_, rfl, rfl⟩
  rw [if_neg z2, if_neg z2]
  by_cases z3 : a1 = 3
  · subst z3
    rw [if_pos rfl, if_pos rfl, show (3 : Int32) - 1 = nI 2 from rfl, n2, e_look (by decide) (by decide), q_ck (by decide) (by decide), q_cl (by decide), hr.2.2.1, hy.2.2.1]; exact ⟨_, rfl, rfl⟩
  rw [if_neg z3, if_neg z3]
  by_cases z4 : a1 = 4
  · subst z4
    rw [if_pos rfl, if_pos rfl, show (4 : Int32) - 1 = nI 3 from rfl, n3, e_look (by decide) (by decide), q_ck (by decide) (by decide), q_cl (by decide), hr.2.2.2, hy.2.2.2]; exact ⟨_, rfl, rfl⟩
  rw [if_neg z4, if_neg z4]
  by_cases z5 : a1 = 5
  · rw [if_pos z5, if_pos z5]; exact ⟨_, rfl, rfl⟩
  rw [if_neg z5, if_neg z5]
  by_cases z6 : a1 = 6
  · rw [if_pos z6, if_pos z6]; exact ⟨_, rfl, rfl⟩
  rw [if_neg z6, if_neg z6]
  by_cases z7 : a1 = 7
  · rw [if_pos z7]
    simp only [bd1_r]
    by_cases q : nI (knd n pol d w L) = 0
    · rw [if_pos q]; exact ⟨_, rfl, rfl⟩
    · rw [if_neg q]; exact ⟨_, rfl, rfl⟩
  rw [if_neg z7]; exact ⟨_, rfl, rfl⟩
