/-! one STEP: class against reference -/
def mgL (L : Nat → Nat) (i : Nat) : Nat → Nat := fun j => if j < i then L j else if j = i then L i + L (i + 1) else L (j + 1)
def puL (L : Nat → Nat) (d w : Nat) : Nat → Nat := fun j => if j = d then w else L j
theorem psum_pu (L : Nat → Nat) (d w : Nat) : ∀ i, i ≤ d → psum (puL L d w) i = psum L i := by
  intro i
  induction i with
  | zero => intro _; rfl
  | succ i ih =>
    intro h
    rw [psum, psum, ih (by omega)]
    congr 1
    simp only [puL]
    rw [if_neg (by omega)]
theorem psum_pu2 (L : Nat → Nat) (d w : Nat) : psum (puL L d w) (d + 1) = psum L d + w := by
  rw [psum, psum_pu L d w d (Nat.le_refl _)]
  simp [puL]
theorem psum_mg1 (L : Nat → Nat) (i : Nat) : ∀ j, j ≤ i → psum (mgL L i) j = psum L j := by
  intro j
  induction j with
  | zero => intro _; rfl
  | succ j ih =>
    intro h
    rw [psum, psum, ih (by omega)]
    congr 1
    simp only [mgL]
    rw [if_pos (by omega)]
theorem psum_mg2 (L : Nat → Nat) (i : Nat) : ∀ j, psum (mgL L i) (i + 1 + j) = psum L (i + 2 + j) := by
  intro j
  induction j with
  | zero =>
    show psum (mgL L i) (i + 1) = psum L (i + 2)
    rw [psum, psum, psum, psum_mg1 L i i (Nat.le_refl _)]
    simp only [mgL, Nat.lt_irrefl, if_false, if_true]
    omega
  | succ j ih =>
    show psum (mgL L i) (i + 1 + j + 1) = psum L (i + 2 + j + 1)
    rw [psum, psum, ih]
    congr 1
    simp only [mgL]
    rw [if_neg (by omega), if_neg (by omega)]
    congr 1
    omega
/-- a row that has closed up: from lo on, ahead of x, each is what stood behind it -/
def clU (f : Nat → Int32) (lo x : Nat) : Nat → Int32 := fun j => if lo ≤ j ∧ j < x then f (j + 1) else f j
theorem clU_0 (f : Nat → Int32) (lo : Nat) : clU f lo lo = f := by
  funext j; simp only [clU]; rw [if_neg (by omega)]
theorem clU_s (f : Nat → Int32) (lo x : Nat) (h : lo ≤ x) : upd (clU f lo x) x (clU f lo x (x + 1)) = clU f lo (x + 1) := by
  funext j
  simp only [clU, upd]
  by_cases q : j = x
  · subst q; rw [if_pos rfl, if_neg (by omega), if_pos (by omega)]
  · rw [if_neg q]
    by_cases q2 : lo ≤ j ∧ j < x
    · rw [if_pos q2, if_pos (by omega)]
    · rw [if_neg q2, if_neg (by omega)]
theorem e_cl43 {F d lo : Nat} {t : Int32} {pf lf c : Nat → Int32} (hd : d < 96) : ∀ (f x : Nat), lo ≤ x → x ≤ d → d - x < f → mX3_closeUpBehind_43 F f t (nI x) (nI d) c (clU pf lo x) (clU lf lo x) = some (nI d, upd (upd c 5 (c 5 + nI 1)) 6 ((upd c 5 (c 5 + nI 1)) 6 + t), clU pf lo d, clU lf lo d) := by
  intro f
  induction f with
  | zero => intro x a b q; omega
  | succ f ih =>
    intro x a b q
    rw [mX3_closeUpBehind_43]
    simp (disch := omega) only [n1, n5, n6, q_le, nI_add]
    by_cases z : d ≤ x
    · rw [if_pos z, e_add (by decide) (by decide)]
      simp only [bd1_r]
      rw [e_add (by decide) (by decide), show x = d by omega]
      rfl
    · rw [if_neg z, e_look (by omega) (by decide)]
      simp only [bd1_r]
      rw [e_fill (by omega) (by decide)]
      simp only [bd1_r]
      rw [e_look (by omega) (by decide)]
      simp only [bd1_r]
      rw [e_fill (by omega) (by decide)]
      simp only [bd1_r]
      rw [clU_s pf lo x a, clU_s lf lo x a]
      exact ih (x + 1) (by omega) (by omega) (by omega)
theorem y_cl161 {F d lo : Nat} {w0 w1 v1 v2 v3 v4 v5 v6 : Int32} {u1 u2 u3 u4 c pf lf : Nat → Int32} (hd : d < 96) : ∀ (f x : Nat), lo ≤ x → x ≤ d → d - x < f → mX6_oneStep_161 F f (nI x) (nI d) w0 w1 v1 v2 v3 v4 v5 v6 u1 u2 u3 u4 (clU pf lo x) (clU lf lo x) c = mX6_oneStep_203 F (nI d) w0 w1 v1 v2 v3 v4 v5 v6 u1 u2 u3 u4 (clU pf lo d) (clU lf lo d) c := by
  intro f
  induction f with
  | zero => intro x a b q; omega
  | succ f ih =>
    intro x a b q
    rw [mX6_oneStep_161]
    simp (disch := omega) only [n1, q_le, nI_add]
    by_cases z : d ≤ x
    · rw [if_pos z, show x = d by omega]
    · rw [if_neg z]
      simp (disch := omega) only [q_ck, q_cl]
      rw [clU_s pf lo x a, clU_s lf lo x a]
      exact ih (x + 1) (by omega) (by omega) (by omega)
theorem y_203 {F k : Nat} {d w0 w1 v1 v2 v3 v4 v5 v6 : Int32} {u1 u2 u3 u4 c pf lf : Nat → Int32} : mX6_oneStep_203 F d w0 w1 v1 v2 v3 v4 v5 v6 u1 u2 u3 u4 pf lf (sp k c) = some (d, w0, w1, v1, v2, v3, v4, v5, v6, u1, u2, u3, u4, pf, lf, sp (k + 1) c) := by
  unfold mX6_oneStep_203
  simp (disch := omega) only [n1, n11, q_ck, q_cl]
  have : upd (sp k c) 11 (sp k c 11 + nI 1) = sp (k + 1) c := by
    funext j
    simp only [sp, upd]
    by_cases q : j = 11
    · subst q; simp [← nI_add, Int32.add_assoc]
    · simp [q]
  rw [this]
/-- the state of a sorting -/
def ST (n d w : Nat) (L : Nat → Nat) (rowf c pf lf key tag ra rm : Nat → Int32) (wAt : Int32) : Prop :=
  SR n d w pf lf L ∧ SR n d w ra rm L ∧ RI n rowf key tag ∧ (0 < w → wAt = nI (psum L d)) ∧ (∃ ln : Nat, c 10 = nI ln ∧ 1 ≤ ln ∧ ln ≤ 9) ∧ ∃ m7 : Nat, c 7 = nI m7 ∧ m7 ≤ 96
def mu (n d w : Nat) (L : Nat → Nat) : Nat := 3 * (n - (psum L d + w)) + (if 0 < w then 2 else 0) + d
theorem SR_push {n d w : Nat} {pf lf : Nat → Int32} {L : Nat → Nat} (h : SR n d w pf lf L) (hw : 0 < w) : SR n (d + 1) 0 (upd pf d (nI (psum L d))) (upd lf d (nI w)) (puL L d w) := by
  refine ⟨fun i hi => ?_, by rw [psum_pu2]; exact h.2.1, h.2.2⟩
  by_cases q : i = d
  · subst q
    rw [upd_s, upd_s, psum_pu L i w i (Nat.le_refl _)]
    simp only [puL, if_true]
    exact ⟨trivial, trivial, hw⟩
  · rw [upd_n q, upd_n q, psum_pu L d w i (by omega)]
    simp only [puL, if_neg q]
    exact h.1 i (by omega)
theorem SR_merge {n d w i : Nat} {pf lf : Nat → Int32} {L : Nat → Nat} (h : SR n d w pf lf L) (hi : i + 1 < d) : SR n (d - 1) w (clU pf (i + 1) (d - 1)) (clU (upd lf i (nI (L i + L (i + 1)))) (i + 1) (d - 1)) (mgL L i) := by
  have e : psum (mgL L i) (d - 1) = psum L d := by
    have := psum_mg2 L i (d - 2 - i)
    rw [show i + 1 + (d - 2 - i) = d - 1 by omega, show i + 2 + (d - 2 - i) = d by omega] at this
    exact this
  refine ⟨fun j hj => ?_, by rw [e]; exact h.2.1, h.2.2⟩
  by_cases q : j ≤ i
  · rw [psum_mg1 L i j q]
    obtain ⟨p1, p2, p3⟩ := h.1 j (by omega)
    simp only [clU, mgL]
    rw [if_neg (by omega), if_neg (by omega)]
    by_cases q2 : j = i
    · subst q2
      rw [upd_s, if_neg (by omega), if_pos rfl]
      exact ⟨p1, rfl, by omega⟩
    · rw [upd_n q2, if_pos (by omega)]
      exact ⟨p1, p2, p3⟩
  · have e2 : psum (mgL L i) j = psum L (j + 1) := by
      have := psum_mg2 L i (j - 1 - i)
      rw [show i + 1 + (j - 1 - i) = j by omega, show i + 2 + (j - 1 - i) = j + 1 by omega] at this
      exact this
    obtain ⟨p1, p2, p3⟩ := h.1 (j + 1) (by omega)
    simp only [clU, mgL]
    rw [if_pos (by omega), if_pos (by omega), upd_n (by omega), if_neg (by omega), if_neg (by omega), e2]
    exact ⟨p1, p2, p3⟩
def r8 (c : Nat → Int32) (v : Int32) : Nat → Int32 := if v ≤ c 8 then c else upd c 8 v
theorem sp_r8 (c : Nat → Int32) (k : Nat) (v : Int32) : (if v ≤ (sp k c) 8 then upd (sp k c) 8 ((sp k c) 8) else upd (sp k c) 8 v) = sp k (r8 c v) := by
  have e : (sp k c) 8 = c 8 := rfl
  unfold r8
  by_cases q : v ≤ c 8
  · rw [e, if_pos q, if_pos q, ← e, upd_self]
  · rw [e, if_neg q, if_neg q]
    funext j
    simp only [sp, upd]
    by_cases q8 : j = 8
    · subst q8; simp
    · by_cases q11 : j = 11
      · subst q11; simp
      · simp [q8, q11]
set_option maxHeartbeats 8000000 in
theorem stp1 {F n o pol ls rowo roomo k d w : Nat} {L : Nat → Nat} {rul rowf c pf lf key tag ra rm rmf rK rT : Nat → Int32} {wAt mt md ea da la eb db lb y1 y2 y3 y4 y5 y6 : Int32} {xa xb : Nat} (hF : 1000 ≤ F) (ho : o < 4) (hp : pol < 3) (hr0 : rul 0 = nI o) (hr1 : rul 1 = nI pol) (hr2 : rul 2 = nI ls) (hls : 2 ≤ ls ∧ ls ≤ 9) (h : ST n d w L rowf c pf lf key tag ra rm wAt) (hk : knd n pol d w L ≠ 0) :
    ∃ (d' w' : Nat) (L' : Nat → Nat) (rowf' c' pf' lf' key' tag' ra' rm' : Nat → Int32) (wAt' mt' md' : Int32) (rmf' : Nat → Int32) (xa' : Nat) (ea' da' la' : Int32) (xb' : Nat) (eb' db' lb' v1 v2 v3 v4 v5 v6 : Int32) (rK' rT' : Nat → Int32),
      ST n d' w' L' rowf' c' pf' lf' key' tag' ra' rm' wAt' ∧ mu n d' w' L' < mu n d w L ∧
      (∀ N s f : Nat, s < N → N ≤ 400 → mX3_advance_7 F rowo roomo (nI n) (nI pol) (nI ls) (nI o) (nI N) (f + 1) (nI s) (nI (knd n pol d w L)) (nI d) (nI (psum L d + w)) (nI w) rowf c pf lf mt md rmf xa ea da la xb eb db lb = mX3_advance_7 F rowo roomo (nI n) (nI pol) (nI ls) (nI o) (nI N) f (nI (s + 1)) (nI (knd n pol d' w' L')) (nI d') (nI (psum L' d' + w')) (nI w') rowf' c' pf' lf' mt' md' rmf' xa' ea' da' la' xb' eb' db' lb') ∧
      mX6_oneStep F (nI n) (nI d) wAt (nI w) y1 y2 y3 y4 y5 y6 rul key tag rK rT ra rm (sp k c) = some (nI d', wAt', nI w', v1, v2, v3, v4, v5, v6, key', tag', rK', rT', ra', rm', sp (k + 1) c') := by
  obtain ⟨hX, hY, hR, hwA, ⟨ln, hc, hln⟩, m7, h7, hm7⟩ := h
  have hb := hX.b
  have hn := hX.2.2
  have hs := hX.2.1
  unfold mX6_oneStep
  rw [y_next hF hY hp hr1]
  simp only [bd1_r]
  cases hq : dueM n pol d w L with
  | none =>
    by_cases hw : 0 < w
    · -- PUSHED
      have hkd : knd n pol d w L = 1 := by unfold knd; rw [hq]; simp [hw]
      have hST : SR n (d + 1) 0 (upd pf d (nI (psum L d))) (upd lf d (nI w)) (puL L d w) := SR_push hX hw
      have hST2 : SR n (d + 1) 0 (upd ra d (nI (psum L d))) (upd rm d (nI w)) (puL L d w) := SR_push hY hw
      refine ⟨d + 1, 0, puL L d w, rowf, r8 c (nI (d + 1)), _, _, key, tag, _, _, wAt, mt, md, rmf, xa, ea, da, la, xb, eb, db, lb, y1, y2, y3, y4, y5, y6, rK, rT, ⟨hST, hST2, hR, fun z => by omega, ⟨ln, by unfold r8; split <;> exact hc, hln⟩, m7, by unfold r8; split <;> exact h7, hm7⟩, ?_, ?_, ?_⟩
      · unfold mu
        rw [psum_pu2, if_pos hw, if_neg (by omega)]
        omega
      · intro N s f hsN hN
        rw [hkd, mX3_advance_7]
        unfold mX3_pushWaiting mX3_advance_88
        simp (disch := omega) only [n0, n1, n2, n8, q_le, q_eq, x10, if_true, if_false, q_sub, nI_add]
        rw [if_neg (show ¬ N ≤ s by omega), e_fill (by omega) (by decide), e_fill (by omega) (by decide)]
        simp only [bd1_r]
        rw [e_raise (by decide) (by decide), show psum L d + w - w = psum L d by omega]
        simp only [bd1_r, bd5_r]
        have e1 := e_kind (F := F) hF hST hp
        simp only [psum_pu2, Nat.add_zero] at e1
        rw [e1]
        simp only [bd1_r, psum_pu2, Nat.add_zero]
        rfl
      · rw [hkd, if_pos (show nI 1 = 1 from rfl), hwA hw]
        unfold mX6_oneStep_85
        simp (disch := omega) only [n0, n1, n8, q_ck, q_cl, nI_add]
        have e8 := sp_r8 c k (nI (d + 1))
        by_cases q8 : nI (d + 1) ≤ (sp k c) 8
        · rw [if_pos q8] at e8
          rw [if_pos q8, e8, y_203]
        · rw [if_neg q8] at e8
          rw [if_neg q8, e8, y_203]
    · -- FOUND
      have w0 : w = 0 := by omega
      subst w0
      have hlt : psum L d < n := by
        by_cases z : psum L d < n
        · exact z
        · exact absurd (by unfold knd; rw [hq]; simp [z]) hk
      have hkd : knd n pol d 0 L = 2 := by unfold knd; rw [hq]; simp [hlt]
      have hin := y_inRuns hF hY
      rw [Nat.add_zero] at hin
      obtain ⟨f', kf', tf', len', T, z1, z2, z3, z4, z5⟩ := fnd (F := F) (w1 := wAt) (w2 := nI 0) (s2 := nI 0) (yr := nI d) (yrm := rm) hF ho hr0 hr2 hls hn hR hlt hin
      have hST : SR n d len' pf lf L := ⟨hX.1, z3, hn⟩
      have hST2 : SR n d len' ra rm L := ⟨hY.1, z3, hn⟩
      refine ⟨d, len', L, f', T c, pf, lf, kf', tf', ra, rm, nI (psum L d), mt, md, rmf, xa, ea, da, la, xb, eb, db, lb, y1, y2, y3, y4, y5, y6, rK, rT, ⟨hST, hST2, z1, fun _ => rfl, ⟨ln, by rw [z4.2 c 10 (by decide), hc], hln⟩, m7, by rw [z4.2 c 7 (by decide), h7], hm7⟩, ?_, ?_, ?_⟩
      · unfold mu
        rw [if_pos (show 0 < len' by omega), if_neg (show ¬ 0 < 0 by omega)]
        omega
      · intro N s f hsN hN
        rw [hkd, mX3_advance_7]
        unfold mX3_advance_88
        simp (disch := omega) only [n0, n1, n2, q_le, q_eq, if_true, if_false, nI_add, Nat.add_zero]
        rw [if_neg (show ¬ N ≤ s by omega), if_neg (show ¬ 2 = 0 by decide), if_neg (show ¬ 2 = 1 by decide), (z5 c).1]
        simp only [bd4_r]
        rw [e_kind (F := F) hF hST hp]
        rfl
      · rw [hkd, if_neg (show ¬ nI 2 = 1 by decide), if_pos (show nI 2 = 2 from rfl), (z5 (sp k c)).2]
        simp only [bd5_r]
        rw [z4.1, y_203]
  | some i =>
    -- MERGED
    have hi := dueM_lt hq
    have hkd : knd n pol d w L = 3 := by unfold knd; rw [hq]
    obtain ⟨p1, p2, p3, p4⟩ := hX.l (show i < d by omega)
    obtain ⟨q1, q2, q3, q4⟩ := hX.l hi
    obtain ⟨r1, r2, r3, r4⟩ := hY.l (show i < d by omega)
    obtain ⟨t1, t2, t3, t4⟩ := hY.l hi
    rw [psum] at q4
    obtain ⟨g1, g2, rowf', roomf', c', xa', e1, e2, e3, xb', e4, e5, e6, v1, v2, v3, v4, v5, v6, key', tag', rK', rT', ln', m7', a1, a2, a3, a4, a5, a6, a7, a8⟩ := mrg (F := F) (rowo := rowo) (roomo := roomo) (mt := mt) (md := md) (fw := y5) (yo := y6) (roomf := rmf) (rK := rK) (rT := rT) (k := k) hF ho hr0 hn hR.1 hR.2 p3 q3 (show psum L i + L i + L (i + 1) ≤ n by omega) hc hln h7 hm7
    have e : psum (mgL L i) (d - 1) = psum L d := by
      have := psum_mg2 L i (d - 2 - i)
      rw [show i + 1 + (d - 2 - i) = d - 1 by omega, show i + 2 + (d - 2 - i) = d by omega] at this
      exact this
    have hST := SR_merge hX hi
    have hST2 := SR_merge hY hi
    refine ⟨d - 1, w, mgL L i, rowf', upd (upd c' 5 (c' 5 + nI 1)) 6 ((upd c' 5 (c' 5 + nI 1)) 6 + nI (L i + L (i + 1))), _, _, key', tag', _, _, wAt, g1, g2, roomf', xa', e1, e2, e3, xb', e4, e5, e6, v1, v2, v3, v4, v5, v6, rK', rT', ⟨hST, hST2, ⟨a3, a4⟩, fun z => by rw [e]; exact hwA z, ⟨ln', a5, a6⟩, m7', a7, a8⟩, ?_, ?_, ?_⟩
    · unfold mu
      rw [e]
      omega
    · intro N s f hsN hN
      rw [hkd, mX3_advance_7]
      unfold mX3_advance_88 mX3_closeUpBehind
      simp (disch := omega) only [n0, n1, n2, q_le, q_eq]
      rw [if_neg (show ¬ N ≤ s by omega), if_neg (show ¬ 3 = 0 by decide), if_neg (show ¬ 3 = 1 by decide), if_neg (show ¬ 3 = 2 by decide), e_due hF hX hp, hq]
      simp only [bd1_r, enc, nI_add]
      rw [e_look (by omega) (by decide), e_look (by omega) (by decide), e_look (by omega) (by decide), p1, p2, q2]
      simp only [bd1_r]
      rw [a1]
      simp only [bd13_r, bd1_r, nI_add]
      rw [e_fill (by omega) (by decide), q_sub (by omega)]
      simp only [bd1_r]
      have cl := e_cl43 (F := F) (d := d - 1) (lo := i + 1) (t := nI (L i + L (i + 1))) (pf := pf) (lf := upd lf i (nI (L i + L (i + 1)))) (c := c') (by omega) F (i + 1) (Nat.le_refl _) (by omega) (by omega)
      rw [clU_0, clU_0] at cl
      rw [cl]
      simp only [bd4_r]
      have e1' := e_kind (F := F) hF hST hp
      rw [e] at e1'
      rw [e1', e]
      rfl
    · rw [hkd, if_neg (show ¬ nI 3 = 1 by decide), if_neg (show ¬ nI 3 = 2 by decide), y_due hF hY hp hr1, hq]
      simp (disch := omega) only [bd1_r, enc, q_ck, q_cl, n1, nI_add]
      rw [r1, r2, t2, a2]
      simp (disch := omega) only [bd11_r, q_ck, q_cl, nI_add, q_sub]
      have cl := y_cl161 (F := F) (d := d - 1) (lo := i + 1) (w0 := wAt) (w1 := nI w) (v1 := v1) (v2 := v2) (v3 := v3) (v4 := v4) (v5 := v5) (v6 := v6) (u1 := key') (u2 := tag') (u3 := rK') (u4 := rT') (pf := ra) (lf := upd rm i (nI (L i + L (i + 1)))) (c := ad (nI 1, nI k) (nI (L i + L (i + 1))) c') (by omega) F (i + 1) (Nat.le_refl _) (by omega) (by omega)
      rw [clU_0, clU_0] at cl
      have had : ad (nI 1, nI k) (nI (L i + L (i + 1))) c' = sp k (upd (upd c' 5 (c' 5 + nI 1)) 6 ((upd c' 5 (c' 5 + nI 1)) 6 + nI (L i + L (i + 1)))) := by
        funext j
        simp only [upd, ad, sp]
        by_cases j6 : j = 6
        · subst j6; simp
        · by_cases j5 : j = 5
          · subst j5; simp
          · by_cases j11 : j = 11
            · subst j11; simp
            · simp [j5, j6, j11]
      rw [cl, had, y_203]
