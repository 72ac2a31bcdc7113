/-! many STEPS -/
theorem sp_0 (c : Nat → Int32) : sp 0 c = c := by
  funext j
  by_cases h : j = 11
  · subst h; simp [sp, upd, show nI 0 = 0 from rfl]
  · simp [sp, upd, h]
theorem ST_sp {n d w k : Nat} {L : Nat → Nat} {rowf c pf lf key tag ra rm : Nat → Int32} {wAt : Int32} (h : ST n d w L rowf c pf lf key tag ra rm wAt) : ST n d w L rowf (sp k c) pf lf key tag ra rm wAt := h
theorem e_99 {F s : Nat} {d i w mt md ea da la eb db lb : Int32} {xa xb : Nat} {rowf c pf lf rmf : Nat → Int32} : mX3_advance_99 F (nI s) d i w rowf c pf lf mt md rmf xa ea da la xb eb db lb = some (nI s, d, i, w, rowf, sp s c, pf, lf, mt, md, rmf, xa, ea, da, la, xb, eb, db, lb) := by
  unfold mX3_advance_99
  rw [n11, e_add (by decide) (by decide)]
  rfl
/-- what the two loops come to -/
def AR (n pol : Nat) (X : Option (Int32 × Int32 × Int32 × Int32 × (Nat → Int32) × (Nat → Int32) × (Nat → Int32) × (Nat → Int32) × Int32 × Int32 × (Nat → Int32) × Nat × Int32 × Int32 × Int32 × Nat × Int32 × Int32 × Int32)) (Y : Option (Int32 × Int32 × Int32 × Int32 × Int32 × Int32 × Int32 × Int32 × Int32 × Int32 × (Nat → Int32) × (Nat → Int32) × (Nat → Int32) × (Nat → Int32) × (Nat → Int32) × (Nat → Int32) × (Nat → Int32))) : Prop :=
  ∃ (s d w : Nat) (L : Nat → Nat) (rowf c pf lf key tag ra rm : Nat → Int32) (wAt mt md : Int32) (rmf : Nat → Int32) (xa : Nat) (ea da la : Int32) (xb : Nat) (eb db lb v1 v2 v3 v4 v5 v6 : Int32) (rK rT : Nat → Int32),
    ST n d w L rowf c pf lf key tag ra rm wAt ∧ X = some (nI s, nI d, nI (psum L d + w), nI w, rowf, c, pf, lf, mt, md, rmf, xa, ea, da, la, xb, eb, db, lb) ∧ Y = some (nI s, nI d, wAt, nI w, v1, v2, v3, v4, v5, v6, key, tag, rK, rT, ra, rm, c)
theorem adv {F n o pol ls rowo roomo N : Nat} {rul : Nat → Int32} (hF : 1000 ≤ F) (ho : o < 4) (hp : pol < 3) (hr0 : rul 0 = nI o) (hr1 : rul 1 = nI pol) (hr2 : rul 2 = nI ls) (hls : 2 ≤ ls ∧ ls ≤ 9) (hN : N ≤ 400) : ∀ (m f g s d w : Nat) (L : Nat → Nat) (rowf c pf lf key tag ra rm : Nat → Int32) (wAt mt md : Int32) (rmf : Nat → Int32) (xa : Nat) (ea da la : Int32) (xb : Nat) (eb db lb y1 y2 y3 y4 y5 y6 : Int32) (rK rT : Nat → Int32),
    ST n d w L rowf c pf lf key tag ra rm wAt → s ≤ N → N - s ≤ m → m < f → m < g →
    AR n pol (mX3_advance_7 F rowo roomo (nI n) (nI pol) (nI ls) (nI o) (nI N) f (nI s) (nI (knd n pol d w L)) (nI d) (nI (psum L d + w)) (nI w) rowf c pf lf mt md rmf xa ea da la xb eb db lb) (mX6_step_16 F (nI n) rul (nI N) g (nI s) (nI d) wAt (nI w) y1 y2 y3 y4 y5 y6 key tag rK rT ra rm (sp s c)) := by
  intro m
  induction m with
  | zero =>
    intro f g s d w L rowf c pf lf key tag ra rm wAt mt md rmf xa ea da la xb eb db lb y1 y2 y3 y4 y5 y6 rK rT h hs hm hf hg
    obtain ⟨f, rfl⟩ : ∃ x, f = x + 1 := ⟨f - 1, by omega⟩
    obtain ⟨g, rfl⟩ : ∃ x, g = x + 1 := ⟨g - 1, by omega⟩
    rw [mX3_advance_7, mX6_step_16]
    simp (disch := omega) only [q_le]
    rw [if_pos (show N ≤ s by omega), if_pos (show N ≤ s by omega), e_99]
    exact ⟨s, d, w, L, rowf, sp s c, pf, lf, key, tag, ra, rm, wAt, mt, md, rmf, xa, ea, da, la, xb, eb, db, lb, y1, y2, y3, y4, y5, y6, rK, rT, ST_sp h, rfl, rfl⟩
  | succ m ih =>
    intro f g s d w L rowf c pf lf key tag ra rm wAt mt md rmf xa ea da la xb eb db lb y1 y2 y3 y4 y5 y6 rK rT h hs hm hf hg
    obtain ⟨f, rfl⟩ : ∃ x, f = x + 1 := ⟨f - 1, by omega⟩
    obtain ⟨g, rfl⟩ : ∃ x, g = x + 1 := ⟨g - 1, by omega⟩
    by_cases z : N ≤ s
    · rw [mX3_advance_7, mX6_step_16]
      simp (disch := omega) only [q_le]
      rw [if_pos z, if_pos z, e_99]
      exact ⟨s, d, w, L, rowf, sp s c, pf, lf, key, tag, ra, rm, wAt, mt, md, rmf, xa, ea, da, la, xb, eb, db, lb, y1, y2, y3, y4, y5, y6, rK, rT, ST_sp h, rfl, rfl⟩
    · by_cases hk : knd n pol d w L = 0
      · rw [mX3_advance_7, mX6_step_16, hk]
        simp (disch := omega) only [q_le, n0, z00, if_true]
        rw [if_neg z, if_neg z, e_99, y_next hF h.2.1 hp hr1, hk]
        simp only [bd1_r, z00, if_true]
        exact ⟨s, d, w, L, rowf, sp s c, pf, lf, key, tag, ra, rm, wAt, mt, md, rmf, xa, ea, da, la, xb, eb, db, lb, y1, y2, y3, y4, y5, y6, rK, rT, ST_sp h, rfl, rfl⟩
      · obtain ⟨d', w', L', rowf', c', pf', lf', key', tag', ra', rm', wAt', mt', md', rmf', xa', ea', da', la', xb', eb', db', lb', v1, v2, v3, v4, v5, v6, rK', rT', q1, q2, q3, q4⟩ := stp1 (rowo := rowo) (roomo := roomo) (k := s) (mt := mt) (md := md) (rmf := rmf) (xa := xa) (ea := ea) (da := da) (la := la) (xb := xb) (eb := eb) (db := db) (lb := lb) (y1 := y1) (y2 := y2) (y3 := y3) (y4 := y4) (y5 := y5) (y6 := y6) (rK := rK) (rT := rT) hF ho hp hr0 hr1 hr2 hls h hk
        rw [q3 N s f (by omega) hN, mX6_step_16, y_next hF h.2.1 hp hr1, q4]
        have hk2 : ¬ nI (knd n pol d w L) = nI 0 := by
          have : knd n pol d w L ≤ 3 := by
            unfold knd
            split
            · omega
            · split
              · omega
              · split <;> omega
          rw [q_eq (by omega) (by decide)]; exact hk
        simp (disch := omega) only [q_le, bd1_r, n0, n1, nI_add, bd16_r]
        rw [if_neg z, if_neg hk2]
        exact ih f g (s + 1) d' w' L' rowf' c' pf' lf' key' tag' ra' rm' wAt' mt' md' rmf' xa' ea' da' la' xb' eb' db' lb' v1 v2 v3 v4 v5 v6 rK' rT' q1 (by omega) (by omega) (by omega) (by omega)
/-- till all is DONE: the class within 400, the reference as long as it takes -/
theorem advW {F n o pol ls rowo roomo : Nat} {rul : Nat → Int32} {a2 x3 x4 x5 x6 : Int32} {h1 h2 h3 h4 h5 : Nat → Int32} (hF : 1000 ≤ F) (ho : o < 4) (hp : pol < 3) (hr0 : rul 0 = nI o) (hr1 : rul 1 = nI pol) (hr2 : rul 2 = nI ls) (hls : 2 ≤ ls ∧ ls ≤ 9) : ∀ (m f g s d w : Nat) (L : Nat → Nat) (rowf c pf lf key tag ra rm : Nat → Int32) (wAt mt md : Int32) (rmf : Nat → Int32) (xa : Nat) (ea da la : Int32) (xb : Nat) (eb db lb y1 y2 y3 y4 y5 y6 : Int32) (rK rT : Nat → Int32),
    ST n d w L rowf c pf lf key tag ra rm wAt → mu n d w L ≤ m → s + m < 400 → m < f → m < g →
    ∃ (s' d' w' : Nat) (L' : Nat → Nat) (rowf' c' pf' lf' key' tag' ra' rm' : Nat → Int32) (wAt' mt' md' : Int32) (rmf' : Nat → Int32) (xa' : Nat) (ea' da' la' : Int32) (xb' : Nat) (eb' db' lb' v1 v2 v3 v4 v5 v6 : Int32) (rK' rT' : Nat → Int32) (g' : Nat),
      mX3_advance_7 F rowo roomo (nI n) (nI pol) (nI ls) (nI o) (nI 400) f (nI s) (nI (knd n pol d w L)) (nI d) (nI (psum L d + w)) (nI w) rowf c pf lf mt md rmf xa ea da la xb eb db lb = some (nI s', nI d', nI (psum L' d' + w'), nI w', rowf', c', pf', lf', mt', md', rmf', xa', ea', da', la', xb', eb', db', lb') ∧
      mX6_would_117 F (nI n) a2 g x3 x4 x5 x6 (nI d) wAt (nI w) y1 y2 y3 y4 y5 y6 rul key tag rK rT ra rm (sp s c) h1 h2 h3 h4 h5 = (ck a2 12 (ck (1 : Int32) 4 (bd1 (mX6_copy F 96 h1 key') (fun ykey_172 => bd1 (mX6_copy F 96 h2 tag') (fun ytag_183 => bd1 (mX6_copy F 96 h3 ra') (fun yrunAt_194 => bd1 (mX6_copy F 96 h4 rm') (fun yrunMany_205 => bd1 (mX6_copy F 12 h5 c') (fun ycost_216 => some (c' a2.toNatClampNeg, x3, x4, x5, v1, v2, v3, v4, v5, v6, upd rul (1 : Int32).toNatClampNeg x6, ykey_172, ytag_183, rK', rT', yrunAt_194, yrunMany_205, ycost_216, h1, h2, h3, h4, h5))))))))) := by
  intro m
  induction m with
  | zero =>
    intro f g s d w L rowf c pf lf key tag ra rm wAt mt md rmf xa ea da la xb eb db lb y1 y2 y3 y4 y5 y6 rK rT h hmu hs hf hg
    obtain ⟨f, rfl⟩ : ∃ x, f = x + 1 := ⟨f - 1, by omega⟩
    obtain ⟨g, rfl⟩ : ∃ x, g = x + 1 := ⟨g - 1, by omega⟩
    by_cases hk : knd n pol d w L = 0
    · refine ⟨s, d, w, L, rowf, sp s c, pf, lf, key, tag, ra, rm, wAt, mt, md, rmf, xa, ea, da, la, xb, eb, db, lb, y1, y2, y3, y4, y5, y6, rK, rT, 0, ?_, ?_⟩
      · rw [mX3_advance_7, hk]
        simp (disch := omega) only [q_le, n0, z00, if_true]
        rw [if_neg (by omega), e_99]
      · rw [mX6_would_117, y_next hF h.2.1 hp hr1, hk]
        simp only [bd1_r, n0, z00, if_true]
    · obtain ⟨d', w', L', rowf', c', pf', lf', key', tag', ra', rm', wAt', mt', md', rmf', xa', ea', da', la', xb', eb', db', lb', v1, v2, v3, v4, v5, v6, rK', rT', q1, q2, q3, q4⟩ := stp1 (rowo := rowo) (roomo := roomo) (k := s) (mt := mt) (md := md) (rmf := rmf) (xa := xa) (ea := ea) (da := da) (la := la) (xb := xb) (eb := eb) (db := db) (lb := lb) (y1 := y1) (y2 := y2) (y3 := y3) (y4 := y4) (y5 := y5) (y6 := y6) (rK := rK) (rT := rT) hF ho hp hr0 hr1 hr2 hls h hk
      omega
  | succ m ih =>
    intro f g s d w L rowf c pf lf key tag ra rm wAt mt md rmf xa ea da la xb eb db lb y1 y2 y3 y4 y5 y6 rK rT h hmu hs hf hg
    obtain ⟨f, rfl⟩ : ∃ x, f = x + 1 := ⟨f - 1, by omega⟩
    obtain ⟨g, rfl⟩ : ∃ x, g = x + 1 := ⟨g - 1, by omega⟩
    by_cases hk : knd n pol d w L = 0
    · refine ⟨s, d, w, L, rowf, sp s c, pf, lf, key, tag, ra, rm, wAt, mt, md, rmf, xa, ea, da, la, xb, eb, db, lb, y1, y2, y3, y4, y5, y6, rK, rT, 0, ?_, ?_⟩
      · rw [mX3_advance_7, hk]
        simp (disch := omega) only [q_le, n0, z00, if_true]
        rw [if_neg (by omega), e_99]
      · rw [mX6_would_117, y_next hF h.2.1 hp hr1, hk]
        simp only [bd1_r, n0, z00, if_true]
    · obtain ⟨d', w', L', rowf', c', pf', lf', key', tag', ra', rm', wAt', mt', md', rmf', xa', ea', da', la', xb', eb', db', lb', v1, v2, v3, v4, v5, v6, rK', rT', q1, q2, q3, q4⟩ := stp1 (rowo := rowo) (roomo := roomo) (k := s) (mt := mt) (md := md) (rmf := rmf) (xa := xa) (ea := ea) (da := da) (la := la) (xb := xb) (eb := eb) (db := db) (lb := lb) (y1 := y1) (y2 := y2) (y3 := y3) (y4 := y4) (y5 := y5) (y6 := y6) (rK := rK) (rT := rT) hF ho hp hr0 hr1 hr2 hls h hk
      have hk2 : ¬ nI (knd n pol d w L) = 0 := by
        rw [n0]
        have : knd n pol d w L ≤ 3 := by
          unfold knd
          split
          · omega
          · split
            · omega
            · split <;> omega
        rw [q_eq (by omega) (by decide)]; exact hk
      rw [q3 400 s f (by omega) (by omega), mX6_would_117, y_next hF h.2.1 hp hr1, q4]
      simp only [bd1_r, bd16_r]
      rw [if_neg hk2]
      exact ih f g (s + 1) d' w' L' rowf' c' pf' lf' key' tag' ra' rm' wAt' mt' md' rmf' xa' ea' da' la' xb' eb' db' lb' v1 v2 v3 v4 v5 v6 rK' rT' q1 (by omega) (by omega) (by omega) (by omega)
theorem mu_le {n d w : Nat} {pf lf : Nat → Int32} {L : Nat → Nat} (h : SR n d w pf lf L) : mu n d w L ≤ 288 := by
  have hb := h.b
  have hn := h.2.2
  have hs := h.2.1
  unfold mu
  split <;> omega
/-! START -/
def c0 (lp : Nat) (c : Nat → Int32) : Nat → Int32 := fun j => if j = 10 then nI lp else if j < 12 then nI 0 else c j
theorem e_fill5 {F n : Nat} {f : Nat → Int32} (hn : n < 2147483648) : ∀ (fu i : Nat), i ≤ n → n - i < fu → mJ7_fill_53178_5 F n (nI 0) fu (nI i) (nI n) (fun j => if j < i then nI 0 else f j) = some (fun j => if j < n then nI 0 else f j) := by
  intro fu
  induction fu with
  | zero => intro i a b; omega
  | succ fu ih =>
    intro i a b
    rw [mJ7_fill_53178_5]
    simp (disch := omega) only [q_le, n1, nI_add]
    by_cases z : n ≤ i
    · rw [if_pos z, show i = n by omega]
    · rw [if_neg z, q_ck (by omega) (by omega), q_cl (by omega)]
      have e : upd (fun j => if j < i then nI 0 else f j) i (nI 0) = fun j => if j < i + 1 then nI 0 else f j := by
        funext j
        simp only [upd]
        by_cases q : j = i
        · subst q; simp
        · rw [if_neg q]
          by_cases q2 : j < i
          · rw [if_pos q2, if_pos (by omega)]
          · rw [if_neg q2, if_neg (by omega)]
      rw [e]
      exact ih (i + 1) (by omega) (by omega)
theorem e_clear {F : Nat} {f : Nat → Int32} (hF : 1000 ≤ F) : mX0_clearAll F 12 f = some (fun j => if j < 12 then nI 0 else f j) := by
  unfold mX0_clearAll mJ7_fill_53178
  have h := e_fill5 (F := F) (n := 12) (f := f) (by decide) F 0 (by omega) (by omega)
  simp only [Nat.not_lt_zero, if_false] at h
  rw [show (0 : Int32) = nI 0 from rfl, q_ofn, h]
  rfl
theorem e_begin3 {F n o ls lp : Nat} {pl : Int32} {laif rulf rowf talf : Nat → Int32} {s1 s2 s3 s4 s5 s6 s7 : Int32} (hF : 1000 ≤ F) (hn : n ≤ 96) (hr0 : rulf 0 = nI o) (hr2 : rulf 2 = nI ls) (hr3 : rulf 3 = nI lp) : ∀ (fu i : Nat), i ≤ n → n - i < fu → mX3_begin_3 F laif rulf (nI n) pl fu (nI i) s1 s2 s3 s4 s5 s6 (va_cpy laif rowf 0 0 i) talf s7 = some (nI n, pl, nI ls, nI 0, nI 0, nI 0, va_cpy laif rowf 0 0 n, c0 lp talf, nI o) := by
  intro fu
  induction fu with
  | zero => intro i a b; omega
  | succ fu ih =>
    intro i a b
    rw [mX3_begin_3]
    simp (disch := omega) only [q_le, n0, n1, n2, n3, n10]
    by_cases z : n ≤ i
    · rw [if_pos z, show i = n by omega, e_look (by decide) (by decide), e_look (by decide) (by decide), e_look (by decide) (by decide), e_clear hF, hr0, hr2, hr3]
      simp only [bd1_r]
      rw [e_fill (by decide) (by decide)]
      simp only [bd1_r]
      have e : upd (fun j => if j < 12 then nI 0 else talf j) 10 (nI lp) = c0 lp talf := by
        funext j; simp only [upd, c0]
      rw [e]
    · rw [if_neg z, e_look (by omega) (by decide)]
      simp only [bd1_r]
      rw [e_fill (by omega) (by decide)]
      simp only [bd1_r, nI_add]
      have e2 := cpy_s laif rowf 0 0 i
      rw [Nat.zero_add] at e2
      rw [e2]
      exact ih (i + 1) (by omega) (by omega)
theorem e_begin {F n o ls lp : Nat} {pl : Int32} {laif rulf rowf talf : Nat → Int32} {s1 s2 s3 s4 s5 s6 s7 : Int32} (hF : 1000 ≤ F) (hn : n ≤ 96) (hr0 : rulf 0 = nI o) (hr2 : rulf 2 = nI ls) (hr3 : rulf 3 = nI lp) : mX3_begin F s1 s2 s3 s4 s5 s6 rowf talf s7 laif rulf (nI n) pl = some (nI n, pl, nI ls, nI 0, nI 0, nI 0, va_cpy laif rowf 0 0 n, c0 lp talf, nI o) := by
  have h := e_begin3 (F := F) (pl := pl) (laif := laif) (rowf := rowf) (talf := talf) (s1 := s1) (s2 := s2) (s3 := s3) (s4 := s4) (s5 := s5) (s6 := s6) (s7 := s7) hF hn hr0 hr2 hr3 F 0 (by omega) (by omega)
  rw [cpy_0] at h
  exact h
theorem y_begin37 {F lp : Nat} {rul key tag c : Nat → Int32} {s1 s2 s3 : Int32} (hr3 : rul 3 = nI lp) : ∀ (fu i : Nat), i ≤ 12 → 12 - i < fu → mX6_begin_37 F rul fu (nI i) s1 s2 s3 key tag (fun j => if j < i then nI 0 else c j) = some (nI 0, nI 0, nI 0, key, tag, c0 lp c) := by
  intro fu
  induction fu with
  | zero => intro i a b; omega
  | succ fu ih =>
    intro i a b
    rw [mX6_begin_37]
    simp (disch := omega) only [q_le, n0, n1, n3, n10, n12, nI_add]
    by_cases z : 12 ≤ i
    · rw [if_pos z, show i = 12 by omega, q_ck (by decide) (by decide), q_ck (by decide) (by decide), q_cl (by decide), q_cl (by decide), hr3]
      have e : upd (fun j => if j < 12 then nI 0 else c j) 10 (nI lp) = c0 lp c := by
        funext j; simp only [upd, c0]
      rw [e]
    · rw [if_neg z, q_ck (by omega) (by omega), q_cl (by omega)]
      have e : upd (fun j => if j < i then nI 0 else c j) i (nI 0) = fun j => if j < i + 1 then nI 0 else c j := by
        funext j
        simp only [upd]
        by_cases q : j = i
        · subst q; simp
        · rw [if_neg q]
          by_cases q2 : j < i
          · rw [if_pos q2, if_pos (by omega)]
          · rw [if_neg q2, if_neg (by omega)]
      rw [e]
      exact ih (i + 1) (by omega) (by omega)
def idT (tag : Nat → Int32) (n : Nat) : Nat → Int32 := fun j => if j < n then nI j else tag j
theorem y_begin2 {F n lp : Nat} {rul laid key tag c : Nat → Int32} {s1 s2 s3 : Int32} (hF : 1000 ≤ F) (hn : n ≤ 96) (hr3 : rul 3 = nI lp) : ∀ (fu i : Nat), i ≤ n → n - i < fu → mX6_begin_2 F (nI n) rul laid fu (nI i) s1 s2 s3 (va_cpy laid key 0 0 i) (idT tag i) c = some (nI 0, nI 0, nI 0, va_cpy laid key 0 0 n, idT tag n, c0 lp c) := by
  intro fu
  induction fu with
  | zero => intro i a b; omega
  | succ fu ih =>
    intro i a b
    rw [mX6_begin_2]
    simp (disch := omega) only [q_le, n0, n1, nI_add]
    by_cases z : n ≤ i
    · rw [if_pos z, show i = n by omega]
      have h := y_begin37 (F := F) (rul := rul) (key := va_cpy laid key 0 0 n) (tag := idT tag n) (c := c) (s1 := s1) (s2 := s2) (s3 := s3) hr3 F 0 (by omega) (by omega)
      simp only [Nat.not_lt_zero, if_false] at h
      exact h
    · rw [if_neg z]
      simp (disch := omega) only [q_ck, q_cl]
      have e2 := cpy_s laid key 0 0 i
      rw [Nat.zero_add] at e2
      have e3 : upd (idT tag i) i (nI i) = idT tag (i + 1) := by
        funext j
        simp only [upd, idT]
        by_cases q : j = i
        · subst q; simp
        · rw [if_neg q]
          by_cases q2 : j < i
          · rw [if_pos q2, if_pos (by omega)]
          · rw [if_neg q2, if_neg (by omega)]
      rw [e2, e3]
      exact ih (i + 1) (by omega) (by omega)
theorem y_begin {F n lp : Nat} {rul laid key tag c : Nat → Int32} {s1 s2 s3 : Int32} (hF : 1000 ≤ F) (hn : n ≤ 96) (hr3 : rul 3 = nI lp) : mX6_begin F (nI n) s1 s2 s3 rul laid key tag c = some (nI 0, nI 0, nI 0, va_cpy laid key 0 0 n, idT tag n, c0 lp c) := by
  have h := y_begin2 (F := F) (rul := rul) (laid := laid) (key := key) (tag := tag) (c := c) (s1 := s1) (s2 := s2) (s3 := s3) hF hn hr3 F 0 (by omega) (by omega)
  rw [cpy_0, show idT tag 0 = tag by funext j; simp [idT]] at h
  exact h
/-- the row as LAID, by both -/
def LD (n : Nat) (laif laid : Nat → Int32) : Prop := ∀ i, i < n → ∃ k : Nat, k < 26 ∧ laif i = nI (i * 26 + k) ∧ laid i = nI k
theorem ST0 {n lp : Nat} {laif laid rowf key tag c pf lf ra rm : Nat → Int32} {wAt : Int32} (hn : n ≤ 96) (hl : LD n laif laid) (hlp : 1 ≤ lp ∧ lp ≤ 9) : ST n 0 0 (fun _ => 0) (va_cpy laif rowf 0 0 n) (c0 lp c) pf lf (va_cpy laid key 0 0 n) (idT tag n) ra rm wAt := by
  have hS : ∀ pf lf : Nat → Int32, SR n 0 0 pf lf (fun _ => 0) := fun pf lf => ⟨fun i hi => by omega, Nat.zero_le _, hn⟩
  refine ⟨hS pf lf, hS ra rm, ⟨fun i hi => ?_, fun t ht => ⟨t, ht, by simp [idT, ht]⟩⟩, fun z => by omega, ⟨lp, rfl, hlp⟩, 0, rfl, by decide⟩
  obtain ⟨k, k1, k2, k3⟩ := hl i hi
  refine ⟨k, i, k1, hi, ?_, ?_, by simp [idT, hi]⟩
  · simp only [va_cpy]; rw [if_pos (by omega), Nat.zero_add, Nat.sub_zero]; exact k2
  · simp only [va_cpy]; rw [if_pos (by omega), Nat.zero_add, Nat.sub_zero]; exact k3
