/-! DESCENTS, INVERSIONS, SEEK -/
theorem e_stands {F n o i j : Nat} {rulf rowf key tag : Nat → Int32} (hn : n ≤ 96) (ho : o < 4) (hr : rulf 0 = nI o) (hR : ∀ i, i < n → PK n rowf key tag i) (hi : i < n) (hj : j < n) : mX5_standsLess F rulf rowf (nI i) (nI j) = some (b2i (less o (ky key i) (ky key j))) := by
  obtain ⟨t1, a1, a2, a3, a4, a5⟩ := (hR i hi).get
  obtain ⟨t2, b1, b2, b3, b4, b5⟩ := (hR j hj).get
  unfold mX5_standsLess
  rw [show (0 : Int32) = nI 0 from rfl, e_look (by decide) (by decide), hr, e_look (i := i) (by omega) (by decide), e_look (i := j) (by omega) (by decide), a3, b3]
  simp only [bd1_r]
  rw [e_key a2 (by omega), e_key b2 (by omega)]
  simp only [bd1_r]
  rw [e_rank, e_rank]
  simp only [bd1_r]
  cases hh : less o (ky key i) (ky key j)
  · rw [if_pos (by rw [rk_le ho a2 b2]; exact hh)]; rfl
  · rw [if_neg (by rw [rk_le ho a2 b2, hh]; decide)]; rfl
theorem y_stands {F n o i j : Nat} {yrules rowf key tag : Nat → Int32} (ho : o < 4) (hr : yrules 0 = nI o) (hR : ∀ i, i < n → PK n rowf key tag i) (hi : i < n) (hj : j < n) : mX6_isLess F yrules (key i) (key j) = some (b2i (less o (ky key i) (ky key j))) := by
  obtain ⟨t1, a1, a2, a3, a4, a5⟩ := (hR i hi).get
  obtain ⟨t2, b1, b2, b3, b4, b5⟩ := (hR j hj).get
  rw [a4, b4]
  exact y_isLess hr ho a2 b2
def dcn (p : Nat → Bool) : Nat → Nat → Nat
  | 0, _ => 0
  | m + 1, i => (if p i then 1 else 0) + dcn p m (i + 1)
theorem dcn_le (p : Nat → Bool) : ∀ m i, dcn p m i ≤ m
  | 0, _ => Nat.le_refl _
  | m + 1, i => by have := dcn_le p m (i + 1); unfold dcn; split <;> omega
theorem e_des {F n o hi : Nat} {rulf rowf key tag : Nat → Int32} (hn : n ≤ 96) (ho : o < 4) (hr : rulf 0 = nI o) (hR : ∀ i, i < n → PK n rowf key tag i) (hh : hi ≤ n) : ∀ (m u i x : Nat), hi - i = m → 1 ≤ i → i ≤ 97 → m < u → mX5_descentsBetween_7 F rulf rowf (nI hi) u (nI x) (nI i) = some (nI (x + dcn (fun i => less o (ky key i) (ky key (i - 1))) m i)) := by
  intro m
  induction m with
  | zero =>
    intro u i x h1 h2 h3 h4
    obtain ⟨u, rfl⟩ : ∃ x, u = x + 1 := ⟨u - 1, by omega⟩
    rw [mX5_descentsBetween_7]
    simp (disch := omega) only [q_le]
    rw [if_pos (by omega)]
    rfl
  | succ m ih =>
    intro u i x h1 h2 h3 h4
    obtain ⟨u, rfl⟩ : ∃ x, u = x + 1 := ⟨u - 1, by omega⟩
    rw [mX5_descentsBetween_7]
    simp (disch := omega) only [q_le, n1, q_sub]
    rw [if_neg (by omega), e_stands hn ho hr hR (show i < n by omega) (show i - 1 < n by omega)]
    simp only [bd1_r, nI_add]
    rw [ih u (i + 1) x (by omega) (by omega) (by omega) (by omega), ih u (i + 1) (x + 1) (by omega) (by omega) (by omega) (by omega)]
    rw [dcn]
    cases hl : less o (ky key i) (ky key (i - 1))
    · simp only [b2i_f, n0, z00, if_true, Bool.false_eq_true, if_false, Nat.zero_add]
    · simp only [b2i_t, n0, z10, if_true, if_false]
      rw [Nat.add_assoc]
theorem y_des {F n o hi : Nat} {yrules rowf key tag : Nat → Int32} (hn : n ≤ 96) (ho : o < 4) (hr : yrules 0 = nI o) (hR : ∀ i, i < n → PK n rowf key tag i) (hh : hi ≤ n) : ∀ (m u i x : Nat), hi - i = m → 1 ≤ i → i ≤ 96 → m < u → mX6_descents_4 F (nI hi) yrules key u (nI x) (nI i) = some (nI (x + dcn (fun i => less o (ky key i) (ky key (i - 1))) m i)) := by
  intro m
  induction m with
  | zero =>
    intro u i x h1 h2 h3 h4
    obtain ⟨u, rfl⟩ : ∃ x, u = x + 1 := ⟨u - 1, by omega⟩
    rw [mX6_descents_4]
    simp (disch := omega) only [q_le]
    rw [if_pos (by omega)]
    rfl
  | succ m ih =>
    intro u i x h1 h2 h3 h4
    obtain ⟨u, rfl⟩ : ∃ x, u = x + 1 := ⟨u - 1, by omega⟩
    rw [mX6_descents_4]
    simp (disch := omega) only [q_le, n0, n1, q_sub, q_ck, q_cl]
    rw [if_neg (by omega), y_stands ho hr hR (show i < n by omega) (show i - 1 < n by omega)]
    simp only [bd1_r, nI_add, Nat.add_zero]
    rw [ih u (i + 1) x (by omega) (by omega) (by omega) (by omega), ih u (i + 1) (x + 1) (by omega) (by omega) (by omega) (by omega)]
    rw [dcn]
    cases hl : less o (ky key i) (ky key (i - 1))
    · simp only [b2i_f, n0, z00, if_true, Bool.false_eq_true, if_false, Nat.zero_add]
    · simp only [b2i_t, n0, z10, if_true, if_false]
      rw [Nat.add_assoc]
theorem o_descents {F : Nat} (hF : 1000 ≤ F) {xlet xrec srec spol slea sdep sinr swai jord : Int32} {txtf laif rulf rowf talf plaf lenf : Nat → Int32} {ylength ymany yruns ywaitAt ywaitMany : Int32} {ytext yrules ylaid ykey ytag yrunAt yrunMany ycost : Nat → Int32} (h : GR xlet xrec srec spol slea sdep sinr swai jord txtf laif rulf rowf talf plaf lenf ylength ymany yruns ywaitAt ywaitMany ytext yrules ylaid ykey ytag yrunAt yrunMany ycost) : ∃ r : Int32, mX5_descents F xrec rulf rowf = some r ∧ mX6_descents F ymany yrules ykey = some r := by
  obtain ⟨n, len, o, pol, ls, lp, d, w, L, hb, ht, hr, hy, hl, hs, rfl, rfl, rfl, rfl, rfl, rfl, rfl, rfl, rfl, rfl, rfl, rfl, rfl, rfl⟩ := h
  have hn := hb.1
  unfold mX5_descents mX6_descents mX5_descentsBetween
  have e1 := e_des (F := F) hn.2 hb.2.1 hr.1 hs.2.2.1.1 (Nat.le_refl n) (n - 1) F 1 0 rfl (by omega) (by omega) (by omega)
  have e2 := y_des (F := F) hn.2 hb.2.1 hy.1 hs.2.2.1.1 (Nat.le_refl n) (n - 1) F 1 0 rfl (by omega) (by omega) (by omega)
  rw [show (0 : Int32) + 1 = nI 1 from rfl, show (0 : Int32) = nI 0 from rfl, show (1 : Int32) = nI 1 from rfl, e1, e2]
  exact ⟨_, rfl, rfl⟩
theorem inv14 {F n o i : Nat} {rulf yrules rowf key tag : Nat → Int32} {K K' : Int32 → Int32 → Option Int32} (hn : n ≤ 96) (ho : o < 4) (hr : rulf 0 = nI o) (hy : yrules 0 = nI o) (hR : ∀ i, i < n → PK n rowf key tag i) (hi : i < n) : ∀ (m u v x j : Nat), i - j = m → j ≤ i → m < u → m < v → ∃ x' : Nat, mX5_inversions_14 F rulf rowf K u (nI x) (nI i) (nI j) = K (nI x') (nI (i + 1)) ∧ mX6_inversions_14 F yrules key K' v (nI x) (nI i) (nI j) = K' (nI x') (nI (i + 1)) := by
  intro m
  induction m with
  | zero =>
    intro u v x j h1 h2 h3 h4
    obtain ⟨u, rfl⟩ : ∃ x, u = x + 1 := ⟨u - 1, by omega⟩
    obtain ⟨v, rfl⟩ : ∃ x, v = x + 1 := ⟨v - 1, by omega⟩
    rw [mX5_inversions_14, mX6_inversions_14]
    simp (disch := omega) only [q_le, n1, nI_add]
    rw [if_pos (by omega), if_pos (by omega)]
    exact ⟨x, rfl, rfl⟩
  | succ m ih =>
    intro u v x j h1 h2 h3 h4
    obtain ⟨u, rfl⟩ : ∃ x, u = x + 1 := ⟨u - 1, by omega⟩
    obtain ⟨v, rfl⟩ : ∃ x, v = x + 1 := ⟨v - 1, by omega⟩
    rw [mX5_inversions_14, mX6_inversions_14]
    simp (disch := omega) only [q_le, n0, n1, q_ck, q_cl]
    rw [if_neg (by omega), if_neg (by omega), e_stands hn ho hr hR (show i < n by omega) (show j < n by omega), y_stands ho hy hR (show i < n by omega) (show j < n by omega)]
    simp only [bd1_r, nI_add, Nat.add_zero]
    cases hl : less o (ky key i) (ky key j)
    · simp only [b2i_f, z00, if_true]
      exact ih u v x (j + 1) (by omega) (by omega) (by omega) (by omega)
    · simp only [b2i_t, z10, if_false]
      exact ih u v (x + 1) (j + 1) (by omega) (by omega) (by omega) (by omega)
theorem inv4 {F n o : Nat} {rulf yrules rowf key tag : Nat → Int32} (hF : 1000 ≤ F) (hn : n ≤ 96) (ho : o < 4) (hr : rulf 0 = nI o) (hy : yrules 0 = nI o) (hR : ∀ i, i < n → PK n rowf key tag i) : ∀ (m u v x i : Nat), n - i = m → m < u → m < v → i ≤ n → ∃ r : Int32, mX5_inversions_4 F (nI n) rulf rowf u (nI x) (nI i) = some r ∧ mX6_inversions_4 F (nI n) yrules key v (nI x) (nI i) = some r := by
  intro m
  induction m with
  | zero =>
    intro u v x i h1 h3 h4 h5
    obtain ⟨u, rfl⟩ : ∃ x, u = x + 1 := ⟨u - 1, by omega⟩
    obtain ⟨v, rfl⟩ : ∃ x, v = x + 1 := ⟨v - 1, by omega⟩
    rw [mX5_inversions_4, mX6_inversions_4]
    simp (disch := omega) only [q_le]
    rw [if_pos (by omega), if_pos (by omega)]
    exact ⟨_, rfl, rfl⟩
  | succ m ih =>
    intro u v x i h1 h3 h4 h5
    obtain ⟨u, rfl⟩ : ∃ x, u = x + 1 := ⟨u - 1, by omega⟩
    obtain ⟨v, rfl⟩ : ∃ x, v = x + 1 := ⟨v - 1, by omega⟩
    rw [mX5_inversions_4, mX6_inversions_4]
    simp (disch := omega) only [q_le, n0]
    rw [if_neg (by omega), if_neg (by omega)]
    obtain ⟨x', e1, e2⟩ := inv14 (F := F) (K := fun p0 p1 => mX5_inversions_4 F (nI n) rulf rowf u p0 p1) (K' := fun p0 p1 => mX6_inversions_4 F (nI n) yrules key v p0 p1) hn ho hr hy hR (show i < n by omega) i F F x 0 (by omega) (by omega) (by omega) (by omega)
    rw [e1, e2]
    exact ih u v x' (i + 1) (by omega) (by omega) (by omega) (by omega)
theorem o_inversions {F : Nat} (hF : 1000 ≤ F) {xlet xrec srec spol slea sdep sinr swai jord : Int32} {txtf laif rulf rowf talf plaf lenf : Nat → Int32} {ylength ymany yruns ywaitAt ywaitMany : Int32} {ytext yrules ylaid ykey ytag yrunAt yrunMany ycost : Nat → Int32} (h : GR xlet xrec srec spol slea sdep sinr swai jord txtf laif rulf rowf talf plaf lenf ylength ymany yruns ywaitAt ywaitMany ytext yrules ylaid ykey ytag yrunAt yrunMany ycost) : ∃ r : Int32, mX5_inversions F xrec rulf rowf = some r ∧ mX6_inversions F ymany yrules ykey = some r := by
  obtain ⟨n, len, o, pol, ls, lp, d, w, L, hb, ht, hr, hy, hl, hs, rfl, rfl, rfl, rfl, rfl, rfl, rfl, rfl, rfl, rfl, rfl, rfl, rfl, rfl⟩ := h
  have hn := hb.1
  unfold mX5_inversions mX6_inversions
  obtain ⟨G, rfl⟩ : ∃ G, F = G + 1 := ⟨F - 1, by omega⟩
  obtain ⟨G2, hG⟩ : ∃ G2, G + 1 = G2 + 1 := ⟨G, rfl⟩
  have e0 : mX6_inversions_4 (G + 1) (nI n) yrules ykey (G + 1) (nI 0) (nI 0) = mX6_inversions_4 (G + 1) (nI n) yrules ykey G (nI 0) (nI 1) := by
    rw [mX6_inversions_4]
    simp (disch := omega) only [q_le, n0]
    rw [if_neg (by omega), mX6_inversions_14]
    simp (disch := omega) only [q_le, n0, n1, nI_add]
    rw [if_pos (by omega)]
  rw [show (0 : Int32) = nI 0 from rfl, show (1 : Int32) = nI 1 from rfl, e0]
  exact inv4 (F := G + 1) hF hn.2 hb.2.1 hr.1 hy.1 hs.2.2.1.1 (n - 1) (G + 1) G 0 1 rfl (by omega) (by omega) (by omega)
theorem y_sk59 {F n o i hi : Nat} {yf a3 a4 : Int32} {yrules rowf key tag rK c : Nat → Int32} (hn : n ≤ 96) (ho : o < 4) (hr : yrules 0 = nI o) (hR : ∀ i, i < n → PK n rowf key tag i) (hh : hi ≤ n) : ∀ (m u x : Nat), hi - x = m → 1 ≤ x → x ≤ 97 → m < u → mX6_seek_59 F yf yrules key rK (nI i) (nI hi) a3 a4 u (nI x) c = if dcn (fun i => less o (ky key i) (ky key (i - 1))) m x = 0 then mX6_seek_59 F yf yrules key rK (nI i) (nI hi) a3 a4 1 (nI 97) c else some (-2, c) := by
  intro m
  induction m with
  | zero =>
    intro u x h1 h2 h3 h4
    obtain ⟨u, rfl⟩ : ∃ x, u = x + 1 := ⟨u - 1, by omega⟩
    rw [mX6_seek_59, mX6_seek_59]
    simp (disch := omega) only [q_le]
    rw [if_pos (show hi ≤ x by omega), if_pos (show hi ≤ 97 by omega), if_pos (by rfl)]
  | succ m ih =>
    intro u x h1 h2 h3 h4
    obtain ⟨u, rfl⟩ : ∃ x, u = x + 1 := ⟨u - 1, by omega⟩
    rw [mX6_seek_59]
    simp (disch := omega) only [q_le, n0, n1, q_sub, q_ck, q_cl]
    rw [if_neg (by omega), y_stands ho hr hR (show x < n by omega) (show x - 1 < n by omega)]
    simp only [bd1_r, nI_add]
    rw [ih u (x + 1) (by omega) (by omega) (by omega) (by omega)]
    rw [dcn]
    cases hl : less o (ky key x) (ky key (x - 1))
    · simp only [b2i_f, z00, if_true, Bool.false_eq_true, if_false, Nat.zero_add]
    · simp only [b2i_t, z10, if_true, if_false]
      rw [if_neg (by omega)]
theorem o_seek {F rowo ras : Nat} {a1 a2 a3 a4 aord eas das las yforward : Int32} {atf yroomKey : Nat → Int32} (hF : 1000 ≤ F) {xlet xrec srec spol slea sdep sinr swai jord : Int32} {txtf laif rulf rowf talf plaf lenf : Nat → Int32} {ylength ymany yruns ywaitAt ywaitMany : Int32} {ytext yrules ylaid ykey ytag yrunAt yrunMany ycost : Nat → Int32} (h : GR xlet xrec srec spol slea sdep sinr swai jord txtf laif rulf rowf talf plaf lenf ylength ymany yruns ywaitAt ywaitMany ytext yrules ylaid ykey ytag yrunAt yrunMany ycost) : ∃ (r ao e1 d1 l1 : Int32) (rs : Nat) (atf' : Nat → Int32), mX5_seek F rowo ras xrec rulf rowf aord atf eas das las a1 a2 a3 a4 = some (r, ao, atf', rs, e1, d1, l1) ∧ mX6_seek F ymany yforward yrules ykey yroomKey ycost a1 a2 a3 a4 = some (r, ycost) := by
  obtain ⟨n, len, o, pol, ls, lp, d, w, L, hb, ht, hr, hy, hl, hs, rfl, rfl, rfl, rfl, rfl, rfl, rfl, rfl, rfl, rfl, rfl, rfl, rfl, rfl⟩ := h
  have hn := hb.1
  unfold mX5_seek mX6_seek
  rw [w0, w1, w25, y_in, y_in, y_in, y_in, e_noKey, show (1 : Int32) = nI 1 from rfl, show (0 : Int32) = nI 0 from rfl, e_out]
  simp only [bd1_r]
  by_cases c1 : a1 < nI 0
  · rw [if_pos c1]
    have : inB a1 (nI 0) (nI n) = false := by unfold inB; rw [decide_eq_false (Int32.not_le.mpr c1)]; rfl
    rw [this]
    exact ⟨_, _, _, _, _, _, _, rfl, rfl⟩
  by_cases c2 : a2 < a1
  · rw [if_neg c1, if_pos c2]
    have : inB a2 a1 (nI n) = false := by unfold inB; rw [decide_eq_false (Int32.not_le.mpr c2)]; rfl
    rw [this]
    simp only [b2i_f, z00, if_true]
    refine ⟨_, _, _, _, _, _, _, rfl, ?_⟩
    split <;> rfl
  by_cases c3 : nI n < a2
  · rw [if_neg c1, if_neg c2, if_pos c3]
    have : inB a2 a1 (nI n) = false := by unfold inB; rw [decide_eq_false (Int32.not_le.mpr c3), Bool.and_false]
    rw [this]
    simp only [b2i_f, z00, if_true]
    refine ⟨_, _, _, _, _, _, _, rfl, ?_⟩
    split <;> rfl
  rw [if_neg c1, if_neg c2, if_neg c3]
  have i1 := Int32.not_lt.mp c1
  have i2 := Int32.not_lt.mp c2
  have i3 := Int32.not_lt.mp c3
  have j1 : inB a1 (nI 0) (nI n) = true := by unfold inB; rw [decide_eq_true i1, decide_eq_true (Int32.le_trans i2 i3)]; rfl
  have j2 : inB a2 a1 (nI n) = true := by unfold inB; rw [decide_eq_true i2, decide_eq_true i3]; rfl
  rw [j1, j2]
  simp only [b2i_t, z10, if_false]
  obtain ⟨i, _, i5, rfl⟩ := inB_t (by omega) (by decide) j1
  obtain ⟨j, j4, j5, rfl⟩ := inB_t (by omega) (by omega) j2
  cases hq : inB a3 (nI 0) (nI 25)
  · simp only [Bool.not_false, b2i_t, b2i_f, z10, z00, if_true, if_false]
    exact ⟨_, _, _, _, _, _, _, rfl, rfl⟩
  cases hq2 : inB a4 (nI 0) (nI 1)
  · simp only [Bool.not_true, Bool.not_false, b2i_t, b2i_f, z10, z00, if_true, if_false]
    exact ⟨_, _, _, _, _, _, _, rfl, rfl⟩
  simp only [Bool.not_true, b2i_t, b2i_f, z10, z00, if_true, if_false]
  obtain ⟨k, _, k2, rfl⟩ := inB_t (by decide) (by decide) hq
  unfold mX5_descentsBetween
  have d1 := e_des (F := F) (hi := j) hn.2 hb.2.1 hr.1 hs.2.2.1.1 j5
  have d2 := y_sk59 (F := F) (i := i) (hi := j) (yf := yforward) (a3 := nI k) (a4 := a4) (rK := yroomKey) (c := ycost) hn.2 hb.2.1 hy.1 hs.2.2.1.1 j5 (j - (i + 1)) F (i + 1) rfl (by omega) (by omega) (by omega)
  simp only [n1, nI_add]
  rw [d2]
  have hdl := dcn_le (fun i => less o (ky ykey i) (ky ykey (i - 1))) (j - (i + 1)) (i + 1)
  rw [show (0 : Int32) = nI 0 from rfl, d1 (j - (i + 1)) F (i + 1) 0 rfl (by omega) (by omega) (by omega)]
  simp (disch := omega) only [bd1_r, q_le, Nat.zero_add, Nat.le_zero_eq]
  by_cases hd0 : dcn (fun i => less o (ky ykey i) (ky ykey (i - 1))) (j - (i + 1)) (i + 1) = 0
  · rw [if_pos hd0, if_pos hd0, e_look (by decide) (by decide), hr.1, e_fill (by decide) (by decide), q_sub j4]
    simp only [bd1_r]
    unfold mX4_aim
    simp only [bd3_r]
    rw [e_rec, mX6_seek_59, if_pos (by rw [q_le (by omega) (by decide)]; omega), q_sub j4]
    simp only [bd1_r]
    have hv : ∀ x, x < j - i → ∃ t, t < 96 ∧ ky ykey (i + x) < 26 ∧ mX4_ahead F 96 (nI i) (nI 1) rowf (nI x) = some (nI (t * 26 + ky ykey (i + x))) := by
      intro x hx
      obtain ⟨t1, a1, a2, a3, a4, a5⟩ := (hs.2.2.1.1 (i + x) (by omega)).get
      refine ⟨t1, by omega, a2, ?_⟩
      unfold mX4_ahead
      rw [pk_mul, nI_add, show i + 1 * x = i + x by omega, e_look (by omega) (by decide), a3]
      rfl
    have p1 := e_passing (F := F) (n := 96) (o := o) (km := k) (tm := 0) (m := j - i) (one := false) (wt := true) (pe := nI i) (pd := nI 1) (cf := rowf) (c := upd atf 0 (nI 0)) (kf := fun x => ky ykey (i + x)) hF hb.2.1 (by omega) (by omega) (by omega) hv
    rw [show nI 0 = b2i false from rfl, show nI 1 = b2i true from rfl] at p1 ⊢
    rw [p1]
    have p2 := y_seeks (F := F) (fw := yforward) (rul := yrules) (key := ykey) (rkf := yroomKey) (c := ycost) (a1 := nI 5) (a2 := nI i) (a3 := nI 1) (a5 := nI k) (m := j - i) (ps := fun x => pas o k false true (ky ykey (i + x))) hF (by omega) (fun x hx c => by
      obtain ⟨t1, a1, a2, a3, a4, a5⟩ := (hs.2.2.1.1 (i + x) (by omega)).get
      rw [pk_mul, nI_add, show i + 1 * x = i + x by omega]
      exact y_p5 hy.1 hb.2.1 (by omega) a2 (by omega) a4)
    rw [show (5 : Int32) = nI 5 from rfl, show (1 : Int32) = nI 1 from rfl, show (0 : Int32) = nI 0 from rfl, show b2i true = nI 1 from rfl, show b2i false = nI 0 from rfl, p2]
    simp (disch := omega) only [bd2_r, q_ck, q_cl]
    have e3 : upd (tst ycost (sk (fun x => pas o k false true (ky ykey (i + x))) (j - i)).2) 0 (ycost 0) = ycost := by
      funext q
      by_cases z : q = 0
      · subst z; rw [upd_s]
      · rw [upd_n z]; exact upd_n z
    rw [e3]
    by_cases z : a4 = nI 0
    · rw [if_pos z, if_pos z]
      exact ⟨_, _, _, _, _, _, _, rfl, rfl⟩
    · rw [if_neg z, if_neg z, e_look (by decide) (by decide)]
      simp only [bd1_r, tst, upd_s]
      refine ⟨_, _, _, _, _, _, _, rfl, ?_⟩
      congr 2
      show _ = nI 0 + nI _
      rw [nI_add, Nat.zero_add]
      rw [Int32.add_comm]
      exact Int32.add_sub_cancel _ _
  · rw [if_neg hd0, if_neg hd0]
    exact ⟨_, _, _, _, _, _, _, rfl, rfl⟩
