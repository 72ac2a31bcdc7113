/-! STEP, WOULD -/
theorem o_step {F rowo roomo ra rb : Nat} {a1 mtar mdir ea da la eb db lb ya0 ya1 yb0 yb1 yforward yout : Int32} {roomf yroomKey yroomTag : Nat → Int32} (hF : 1000 ≤ F) {xlet xrec srec spol slea sdep sinr swai jord : Int32} {txtf laif rulf rowf talf plaf lenf : Nat → Int32} {ylength ymany yruns ywaitAt ywaitMany : Int32} {ytext yrules ylaid ykey ytag yrunAt yrunMany ycost : Nat → Int32} (h : GR xlet xrec srec spol slea sdep sinr swai jord txtf laif rulf rowf talf plaf lenf ylength ymany yruns ywaitAt ywaitMany ytext yrules ylaid ykey ytag yrunAt yrunMany ycost) :
    ∃ (r sd si sw m1 m2 e1 e2 e3 e4 e5 e6 yr yw yn v1 v2 v3 v4 v5 v6 : Int32) (xa xb : Nat) (f1 c pf lf rf k1 t1 rk1 rt1 ra1 rm1 : Nat → Int32), mX5_step F rowo roomo ra rb srec spol slea sdep sinr swai rowf talf plaf lenf jord mtar mdir roomf ea da la eb db lb a1 = some (r, sd, si, sw, f1, c, pf, lf, m1, m2, rf, xa, e1, e2, e3, xb, e4, e5, e6) ∧ mX6_step F ymany yruns ywaitAt ywaitMany ya0 ya1 yb0 yb1 yforward yout yrules ykey ytag yroomKey yroomTag yrunAt yrunMany ycost a1 = some (r, yr, yw, yn, v1, v2, v3, v4, v5, v6, k1, t1, rk1, rt1, ra1, rm1, c) ∧ GR xlet xrec srec spol slea sd si sw jord txtf laif rulf f1 c pf lf ylength ymany yr yw yn ytext yrules ylaid k1 t1 ra1 rm1 c := by
  have h0 := h
  obtain ⟨n, len, o, pol, ls, lp, d, w, L, hb, ht, hr, hy, hl, hs, rfl, rfl, rfl, rfl, rfl, rfl, rfl, rfl, rfl, rfl, rfl, rfl, rfl, rfl⟩ := h
  unfold mX5_step mX6_step
  rw [w1, w400, y_in, n1, n400, e_out]
  simp only [bd1_r]
  cases hq : inB a1 (nI 1) (nI 400)
  · simp only [Bool.not_false, b2i_t, b2i_f, n0, z10, z00, if_true, if_false]
    exact ⟨_, _, _, _, _, _, _, _, _, _, _, _, _, _, _, _, _, _, _, _, _, _, _, _, _, _, _, _, _, _, _, _, _, _, rfl, rfl, h0⟩
  · obtain ⟨N, N1, N2, rfl⟩ := inB_t (by decide) (by decide) hq
    simp only [Bool.not_true, b2i_t, b2i_f, n0, z10, z00, if_true, if_false]
    unfold mX3_advance
    rw [e_kind hF hs.1 hb.2.2.1]
    simp only [bd1_r, n0]
    obtain ⟨s, d', w', L', rowf', c', pf', lf', key', tag', ra', rm', wAt', mt', md', rmf', xa', ea', da', la', xb', eb', db', lb', v1, v2, v3, v4, v5, v6, rK', rT', q1, q2, q3⟩ := adv (F := F) (rowo := rowo) (roomo := roomo) (N := N) hF hb.2.1 hb.2.2.1 hy.1 hy.2.1 hy.2.2.1 hb.2.2.2.1 N2 400 F F 0 d w L rowf ycost plaf lenf ykey ytag yrunAt yrunMany ywaitAt mtar mdir roomf ra ea da la rb eb db lb ya0 ya1 yb0 yb1 yforward yout yroomKey yroomTag hs (by omega) (by omega) (by omega) (by omega)
    rw [sp_0] at q3
    rw [q2, q3]
    exact ⟨_, _, _, _, _, _, _, _, _, _, _, _, _, _, _, _, _, _, _, _, _, _, _, _, _, _, _, _, _, _, _, _, _, _, rfl, rfl, n, len, o, pol, ls, lp, d', w', L', hb, ht, hr, hy, hl, q1, rfl, rfl, rfl, rfl, rfl, rfl, rfl, rfl, rfl, rfl, rfl, rfl, rfl, rfl⟩
def agr (n : Nat) (f g : Nat → Int32) : Prop := ∀ j, j < n → f j = g j
theorem y_copy2 {F n : Nat} {f : Nat → Int32} (hn : n ≤ 96) : ∀ (m u i : Nat) (g : Nat → Int32), n - i = m → i ≤ n → m < u → (∀ j, j < i → g j = f j) → ∃ g' : Nat → Int32, mX6_copy_2 F n f u (nI i) g = some g' ∧ agr n g' f := by
  intro m
  induction m with
  | zero =>
    intro u i g h1 h2 h3 h4
    obtain ⟨u, rfl⟩ : ∃ x, u = x + 1 := ⟨u - 1, by omega⟩
    rw [mX6_copy_2, q_ofn]
    simp (disch := omega) only [q_le]
    rw [if_pos (by omega)]
    exact ⟨g, rfl, fun j hj => h4 j (by omega)⟩
  | succ m ih =>
    intro u i g h1 h2 h3 h4
    obtain ⟨u, rfl⟩ : ∃ x, u = x + 1 := ⟨u - 1, by omega⟩
    rw [mX6_copy_2, q_ofn]
    simp (disch := omega) only [q_le, n1, nI_add, q_ck, q_cl]
    rw [if_neg (by omega)]
    refine ih u (i + 1) _ (by omega) (by omega) (by omega) (fun j hj => ?_)
    by_cases z : j = i
    · subst z; rw [upd_s]
    · rw [upd_n z]; exact h4 j (by omega)
theorem y_copy {F n : Nat} {f g : Nat → Int32} (hF : 1000 ≤ F) (hn : n ≤ 96) : ∃ g' : Nat → Int32, mX6_copy F n f g = some g' ∧ agr n g' f := by
  unfold mX6_copy
  exact y_copy2 hn n F 0 g (by omega) (by omega) (by omega) (fun j hj => by omega)
theorem agr.tr {n : Nat} {f g h : Nat → Int32} (h1 : agr n f g) (h2 : agr n g h) : agr n f h := fun j hj => by rw [h1 j hj, h2 j hj]
theorem c0_tl {lp : Nat} {f g : Nat → Int32} (h : ∀ j, 12 ≤ j → f j = g j) : c0 lp f = c0 lp g := by
  funext j
  unfold c0
  by_cases z : j < 12
  · simp only [z, if_true]
  · simp only [z, if_false]; rw [h j (by omega)]
theorem o_would {F orowo oroomo ora orb : Nat} {a1 a2 osrec ospol oslea osdep osinr oswai ojord omtar omdir oea oda ola oeb odb olb ya0 ya1 yb0 yb1 yforward yout : Int32} {orowf otalf oplaf olenf oroomf yroomKey yroomTag yhadKey yhadTag yhadAt yhadMany yhadCost : Nat → Int32} (hF : 1000 ≤ F) {xlet xrec srec spol slea sdep sinr swai jord : Int32} {txtf laif rulf rowf talf plaf lenf : Nat → Int32} {ylength ymany yruns ywaitAt ywaitMany : Int32} {ytext yrules ylaid ykey ytag yrunAt yrunMany ycost : Nat → Int32} (h : GR xlet xrec srec spol slea sdep sinr swai jord txtf laif rulf rowf talf plaf lenf ylength ymany yruns ywaitAt ywaitMany ytext yrules ylaid ykey ytag yrunAt yrunMany ycost) (htl : ∀ j, 12 ≤ j → otalf j = ycost j) :
    ∃ (r s1 s2 s3 s4 s5 s6 s7 m1 m2 e1 e2 e3 e4 e5 e6 v1 v2 v3 v4 v5 v6 : Int32) (xa xb : Nat) (f1 f2 f3 f4 f5 k1 t1 rk1 rt1 ra1 rm1 c1 h1 h2 h3 h4 h5 : Nat → Int32), mX5_would F orowo oroomo ora orb xrec laif rulf osrec ospol oslea osdep osinr oswai orowf otalf oplaf olenf ojord omtar omdir oroomf oea oda ola oeb odb olb a1 a2 = some (r, s1, s2, s3, s4, s5, s6, f1, f2, f3, f4, s7, m1, m2, f5, xa, e1, e2, e3, xb, e4, e5, e6) ∧ mX6_would F ymany yruns ywaitAt ywaitMany ya0 ya1 yb0 yb1 yforward yout yrules ylaid ykey ytag yroomKey yroomTag yrunAt yrunMany ycost yhadKey yhadTag yhadAt yhadMany yhadCost a1 a2 = some (r, yruns, ywaitAt, ywaitMany, v1, v2, v3, v4, v5, v6, yrules, k1, t1, rk1, rt1, ra1, rm1, c1, h1, h2, h3, h4, h5) ∧ agr 96 k1 ykey ∧ agr 96 t1 ytag ∧ agr 96 ra1 yrunAt ∧ agr 96 rm1 yrunMany ∧ agr 12 c1 ycost := by
  have hrf : ∀ (n : Nat) (f : Nat → Int32), agr n f f := fun _ _ _ _ => rfl
  obtain ⟨n, len, o, pol, ls, lp, d, w, L, hb, ht, hr, hy, hl, hs, rfl, rfl, rfl, rfl, rfl, rfl, rfl, rfl, rfl, rfl, rfl, rfl, rfl, rfl⟩ := h
  have hn := hb.1
  unfold mX5_would mX6_would
  rw [show (1 : Int32) = nI 1 from rfl, q_ck (by decide) (by decide), q_ck (by decide) (by decide), q_cl (by decide), lowT_n 1 (by decide), highT_n 1 (by decide), show (0 : Int32) = nI 0 from rfl, show (11 : Int32) = nI 11 from rfl, e_out, e_out, w0, w2, w11, y_in, y_in, show lowN 1 = 0 from rfl, show highN 1 = 2 from rfl]
  simp only [bd1_r]
  cases hq : inB a1 (nI 0) (nI 2)
  · simp only [Bool.not_false, b2i_t, b2i_f, z10, z00, if_true, if_false]
    exact ⟨_, _, _, _, _, _, _, _, _, _, _, _, _, _, _, _, _, _, _, _, _, _, _, _, _, _, _, _, _, _, _, _, _, _, _, _, _, _, _, _, _, rfl, rfl, hrf _ _, hrf _ _, hrf _ _, hrf _ _, hrf _ _⟩
  cases hq2 : inB a2 (nI 0) (nI 11)
  · simp only [Bool.not_true, Bool.not_false, b2i_t, b2i_f, z10, z00, if_true, if_false]
    exact ⟨_, _, _, _, _, _, _, _, _, _, _, _, _, _, _, _, _, _, _, _, _, _, _, _, _, _, _, _, _, _, _, _, _, _, _, _, _, _, _, _, _, rfl, rfl, hrf _ _, hrf _ _, hrf _ _, hrf _ _, hrf _ _⟩
  simp only [Bool.not_true, b2i_t, b2i_f, z10, z00, if_true, if_false]
  obtain ⟨p, _, p2, rfl⟩ := inB_t (by decide) (by decide) hq
  obtain ⟨i, _, i2, rfl⟩ := inB_t (by decide) (by decide) hq2
  obtain ⟨h1, c1, d1⟩ := y_copy (F := F) (n := 96) (f := ykey) (g := yhadKey) hF (by decide)
  obtain ⟨h2, c2, d2⟩ := y_copy (F := F) (n := 96) (f := ytag) (g := yhadTag) hF (by decide)
  obtain ⟨h3, c3, d3⟩ := y_copy (F := F) (n := 96) (f := yrunAt) (g := yhadAt) hF (by decide)
  obtain ⟨h4, c4, d4⟩ := y_copy (F := F) (n := 96) (f := yrunMany) (g := yhadMany) hF (by decide)
  obtain ⟨h5, c5, d5⟩ := y_copy (F := F) (n := 12) (f := ycost) (g := yhadCost) hF (by decide)
  rw [c1, c2, c3, c4, c5, e_begin hF hn.2 hr.1 hr.2.2.1 hr.2.2.2]
  simp (disch := omega) only [bd1_r, q_ck, q_cl]
  have hy3 : (upd yrules 1 (nI p)) 3 = nI lp := by rw [upd_n (by decide)]; exact hy.2.2.2
  rw [y_begin hF hn.2 hy3]
  simp only [bd9_r, bd6_r]
  rw [c0_tl (lp := lp) htl]
  unfold mX3_advance
  have hST : ST n 0 0 (fun _ => 0) (va_cpy laif orowf 0 0 n) (c0 lp ycost) oplaf olenf (va_cpy ylaid ykey 0 0 n) (idT ytag n) yrunAt yrunMany (nI 0) := ST0 hn.2 hl hb.2.2.2.2
  have e0 := e_kind (F := F) (pol := p) hF hST.1 (by omega)
  rw [show psum (fun _ => 0) 0 + 0 = 0 from rfl] at e0
  rw [e0]
  simp only [bd1_r]
  obtain ⟨s, d', w', L', rowf', c', pf', lf', key', tag', ra', rm', wAt', mt', md', rmf', xa', ea', da', la', xb', eb', db', lb', v1, v2, v3, v4, v5, v6, rK', rT', g', q1, q2⟩ := advW (F := F) (n := n) (o := o) (pol := p) (ls := ls) (rowo := orowo) (roomo := oroomo) (rul := upd yrules 1 (nI p)) (a2 := nI i) (x3 := nI d) (x4 := ywaitAt) (x5 := nI w) (x6 := yrules 1) (h1 := h1) (h2 := h2) (h3 := h3) (h4 := h4) (h5 := h5) hF hb.2.1 (by omega) (by rw [upd_n (by decide)]; exact hy.1) upd_s (by rw [upd_n (by decide)]; exact hy.2.2.1) hb.2.2.2.1 288 F F 0 0 0 (fun _ => 0) _ _ oplaf olenf _ _ yrunAt yrunMany (nI 0) omtar omdir oroomf ora oea oda ola orb oeb odb olb ya0 ya1 yb0 yb1 yforward yout yroomKey yroomTag hST (mu_le hST.1) (by omega) (by omega) (by omega)
  rw [sp_0] at q2
  rw [show psum (fun _ => 0) 0 + 0 = 0 from rfl] at q1
  rw [show (400 : Int32) = nI 400 from rfl, show (0 : Int32) = nI 0 from rfl, q1, q2]
  simp only [bd19_r]
  rw [e_look (by omega) (by decide), q_ck (by omega) (by omega), show (1 : Int32) = nI 1 from rfl, q_ck (by decide) (by decide), q_cl (show 1 < 2147483648 by decide), q_cl (show i < 2147483648 by omega)]
  obtain ⟨k1, a1, b1⟩ := y_copy (F := F) (n := 96) (f := h1) (g := key') hF (by decide)
  obtain ⟨k2, a2, b2⟩ := y_copy (F := F) (n := 96) (f := h2) (g := tag') hF (by decide)
  obtain ⟨k3, a3, b3⟩ := y_copy (F := F) (n := 96) (f := h3) (g := ra') hF (by decide)
  obtain ⟨k4, a4, b4⟩ := y_copy (F := F) (n := 96) (f := h4) (g := rm') hF (by decide)
  obtain ⟨k5, a5, b5⟩ := y_copy (F := F) (n := 12) (f := h5) (g := c') hF (by decide)
  rw [a1, a2, a3, a4, a5]
  simp only [bd1_r]
  have e9 : upd (upd yrules 1 (nI p)) 1 (yrules 1) = yrules := by
    funext j
    by_cases z : j = 1
    · subst z; rw [upd_s]
    · rw [upd_n z, upd_n z]
  rw [e9]
  exact ⟨_, _, _, _, _, _, _, _, _, _, _, _, _, _, _, _, _, _, _, _, _, _, _, _, _, _, _, _, _, _, _, _, _, _, _, _, _, _, _, _, _, rfl, rfl, b1.tr d1, b2.tr d2, b3.tr d3, b4.tr d4, b5.tr d5⟩
