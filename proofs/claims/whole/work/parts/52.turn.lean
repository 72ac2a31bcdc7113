/-! a run that goes DOWN is turned round -/
def rvs (f : Nat → Int32) (a e i : Nat) : Nat → Int32 := fun j => if (a ≤ j ∧ j < a + i) ∨ (e ≤ j + i ∧ j < e) then f (a + e - 1 - j) else f j
theorem rvs_0 (f : Nat → Int32) (a e : Nat) : rvs f a e 0 = f := by
  funext j; simp only [rvs]; rw [if_neg (by omega)]
theorem rvs_s (f : Nat → Int32) (a e i : Nat) (h : a + 2 * i + 2 ≤ e) : upd (upd (rvs f a e i) (a + i) (f (e - 1 - i))) (e - 1 - i) (f (a + i)) = rvs f a e (i + 1) := by
  funext j
  simp only [rvs, upd]
  by_cases q1 : j = e - 1 - i
  · subst q1
    rw [if_pos rfl, if_pos (by omega)]
    congr 1; omega
  · rw [if_neg q1]
    by_cases q2 : j = a + i
    · subst q2
      rw [if_pos rfl, if_pos (by omega)]
      congr 1; omega
    · rw [if_neg q2]
      by_cases q3 : (a ≤ j ∧ j < a + i) ∨ (e ≤ j + i ∧ j < e)
      · rw [if_pos q3, if_pos (by omega)]
      · rw [if_neg q3, if_neg (by omega)]
theorem RI_rvs {n a e i : Nat} {f kf tf : Nat → Int32} (h : RI n f kf tf) (h1 : a + 2 * i ≤ e) (h2 : e ≤ n) : RI n (rvs f a e i) (rvs kf a e i) (rvs tf a e i) := by
  have ee : ∀ (g : Nat → Int32) (j : Nat), rvs g a e i j = g (if (a ≤ j ∧ j < a + i) ∨ (e ≤ j + i ∧ j < e) then a + e - 1 - j else j) := by
    intro g j
    simp only [rvs]
    split <;> rfl
  refine RI_perm (fun j => if (a ≤ j ∧ j < a + i) ∨ (e ≤ j + i ∧ j < e) then a + e - 1 - j else j) (fun j => if (a ≤ j ∧ j < a + i) ∨ (e ≤ j + i ∧ j < e) then a + e - 1 - j else j) h (fun j hj => ⟨?_, ee f j, ee kf j, ee tf j⟩) (fun j hj => ⟨?_, ?_⟩)
  · split <;> omega
  · split <;> omega
  · by_cases q : (a ≤ j ∧ j < a + i) ∨ (e ≤ j + i ∧ j < e)
    · simp only [if_pos q]
      rw [if_pos (by omega)]
      omega
    · simp only [if_neg q]
theorem e_tr7 {F a len : Nat} {f c : Nat → Int32} (h1 : a + len ≤ 96) : ∀ (fu i : Nat), i ≤ len / 2 → len / 2 - i < fu →
    mX3_turnRound_7 F (nI a) (nI len) fu (nI (len / 2)) (nI i) (rvs f a (a + len) i) c = some (rvs f a (a + len) (len / 2), mvs c (2 * (len / 2))) := by
  intro fu
  induction fu with
  | zero => intro i p q; omega
  | succ fu ih =>
    intro i p q
    rw [mX3_turnRound_7]
    simp (disch := omega) only [n1, n2, q_le, nI_add, pk_mul]
    by_cases z : len / 2 ≤ i
    · have : i = len / 2 := by omega
      subst this
      rw [if_pos z, e_add (by decide) (by decide)]
      rfl
    · rw [if_neg z, e_look (by omega) (by decide), q_sub (by omega), q_sub (by omega)]
      simp only [bd1_r]
      rw [e_look (by omega) (by decide)]
      simp only [bd1_r]
      rw [e_fill (by omega) (by decide)]
      simp only [bd1_r]
      rw [e_fill (by omega) (by decide)]
      simp only [bd1_r]
      rw [show rvs f a (a + len) i (a + i) = f (a + i) by simp only [rvs]; rw [if_neg (by omega)], show rvs f a (a + len) i (a + len - 1 - i) = f (a + len - 1 - i) by simp only [rvs]; rw [if_neg (by omega)], rvs_s f a (a + len) i (by omega)]
      exact ih (i + 1) (by omega) (by omega)
theorem y_tr17 {F a len : Nat} {kf tf c : Nat → Int32} (h1 : a + len ≤ 96) (h2 : 1 ≤ len) : ∀ (fu i : Nat), i ≤ len / 2 → len / 2 - i < fu →
    mX6_turn_17 F fu (nI (a + i)) (nI (a + len - 1 - i)) (rvs kf a (a + len) i) (rvs tf a (a + len) i) (mvs c (2 * i)) = some (rvs kf a (a + len) (len / 2), rvs tf a (a + len) (len / 2), mvs c (2 * (len / 2))) := by
  intro fu
  induction fu with
  | zero => intro i p q; omega
  | succ fu ih =>
    intro i p q
    rw [mX6_turn_17]
    simp (disch := omega) only [n1, n2, q_le]
    by_cases z : a + len - 1 - i ≤ a + i
    · have : i = len / 2 := by omega
      subst this
      rw [if_pos z]
    · rw [if_neg z]
      simp (disch := omega) only [q_ck, q_cl, nI_add, tI_m]
      obtain ⟨x, hx⟩ : ∃ x, a + len - 1 - i = x + 1 := ⟨a + len - 1 - i - 1, by omega⟩
      rw [show rvs kf a (a + len) i (a + i) = kf (a + i) by simp only [rvs]; rw [if_neg (by omega)], show rvs kf a (a + len) i (a + len - 1 - i) = kf (a + len - 1 - i) by simp only [rvs]; rw [if_neg (by omega)], rvs_s kf a (a + len) i (by omega), show rvs tf a (a + len) i (a + i) = tf (a + i) by simp only [rvs]; rw [if_neg (by omega)], show rvs tf a (a + len) i (a + len - 1 - i) = tf (a + len - 1 - i) by simp only [rvs]; rw [if_neg (by omega)], rvs_s tf a (a + len) i (by omega), hx, tI_s]
      have e2 : upd (mvs c (2 * i)) 1 (mvs c (2 * i) 1 + nI 2) = mvs c (2 * (i + 1)) := by
        have := mvs_mvs c (2 * i) 2
        rw [show 2 * i + 2 = 2 * (i + 1) by omega] at this
        exact this
      rw [e2, show x = a + len - 1 - (i + 1) by omega]
      exact ih (i + 1) (by omega) (by omega)
theorem turn2 {F n a len : Nat} {f kf tf : Nat → Int32} (hF : 1000 ≤ F) (hn : n ≤ 96) (hR : RI n f kf tf) (h1 : a + len ≤ n) (h2 : 1 ≤ len) : ∃ f' kf' tf' : Nat → Int32, RI n f' kf' tf' ∧ ∀ c e : Nat → Int32, mX3_turnRound F f c (nI a) (nI len) = some (f', mvs c (2 * (len / 2))) ∧ mX6_turn F kf tf e (nI a) (nI (a + len)) = some (kf', tf', mvs (inc 3 e) (2 * (len / 2))) := by
  refine ⟨_, _, _, RI_rvs hR (a := a) (e := a + len) (i := len / 2) (by omega) h1, fun c e => ⟨?_, ?_⟩⟩
  · unfold mX3_turnRound
    rw [n2, q_div (by omega) (by decide) (by decide)]
    have h := e_tr7 (F := F) (f := f) (c := c) (show a + len ≤ 96 by omega) F 0 (by omega) (by omega)
    rw [rvs_0] at h
    exact h
  · unfold mX6_turn
    simp (disch := omega) only [n1, n3, q_ck, q_cl, q_sub]
    have h := y_tr17 (F := F) (kf := kf) (tf := tf) (c := inc 3 e) (show a + len ≤ 96 by omega) h2 F 0 (by omega) (by omega)
    rw [rvs_0, rvs_0, mvs_0] at h
    exact h
/-! how far it goes -/
theorem goLen {F n o a : Nat} {down : Bool} {rul f kf tf : Nat → Int32} {w1 w2 : Int32} (ho : o < 4) (hr : rul 0 = nI o) (hn : n ≤ 96) (hR : RI n f kf tf) : ∀ (fu gu e : Nat), a + 2 ≤ e → e ≤ n → n - e < fu → n - e < gu → ∃ e' d : Nat, a + 2 ≤ e' ∧ e' ≤ n ∧ ∀ c : Nat → Int32, mX3_lengthAsItLies_11 F (nI n) f (nI o) (nI a) (b2i down) fu (nI e) c = some (nI (e' - a), tst c d) ∧ mX6_find_37 F (nI n) rul gu (nI a) (nI e) (b2i down) w1 w2 kf tf c = mX6_find_73 F (nI n) rul (nI a) (nI e') (b2i down) w1 w2 kf tf (tst c d) := by
  intro fu
  induction fu with
  | zero => intro gu e p q r; omega
  | succ fu ih =>
    intro gu e p q r s
    cases gu with
    | zero => omega
    | succ gu =>
    by_cases z : n ≤ e
    · refine ⟨e, 0, p, q, fun c => ⟨?_, ?_⟩⟩
      · rw [mX3_lengthAsItLies_11]
        simp (disch := omega) only [q_le]
        rw [if_pos z, q_sub (by omega), tst_0]
      · rw [mX6_find_37]
        simp (disch := omega) only [q_le]
        rw [if_pos z, tst_0]
    · obtain ⟨t1, p1, p2, p3, p4, -⟩ := (hR.1 e (by omega)).get
      obtain ⟨t2, q1, q2, q3, q4, -⟩ := (hR.1 (e - 1) (by omega)).get
      by_cases y : less o (ky kf e) (ky kf (e - 1)) = down
      · obtain ⟨e', d, r1, r2, r3⟩ := ih gu (e + 1) (by omega) (by omega) (by omega) (by omega)
        refine ⟨e', d + 1, r1, r2, fun c => ⟨?_, ?_⟩⟩
        · rw [mX3_lengthAsItLies_11]
          simp (disch := omega) only [q_le, n1]
          rw [if_neg z, e_look (by omega) (by decide), q_sub (by omega), e_look (by omega) (by decide)]
          simp only [bd1_r]
          rw [p3, q3, e_isLess ho p2 (by omega) q2 (by omega)]
          simp only [bd2_r, b2i_eq, y, if_true, nI_add]
          rw [(r3 (tst c 1)).1, tst_tst, Nat.add_comm 1]
        · rw [mX6_find_37]
          simp (disch := omega) only [q_le, n1]
          rw [if_neg z, q_ck (by omega) (by omega), q_sub (by omega), q_ck (by omega) (by omega), q_cl (by omega), q_cl (by omega), p4, q4, y_tests hr ho p2 q2]
          simp only [bd2_r, b2i_eq, y, if_true, nI_add]
          rw [(r3 (tst c 1)).2, tst_tst, Nat.add_comm 1]
      · refine ⟨e, 1, p, q, fun c => ⟨?_, ?_⟩⟩
        · rw [mX3_lengthAsItLies_11]
          simp (disch := omega) only [q_le, n1]
          rw [if_neg z, e_look (by omega) (by decide), q_sub (by omega), e_look (by omega) (by decide)]
          simp only [bd1_r]
          rw [p3, q3, e_isLess ho p2 (by omega) q2 (by omega)]
          simp only [bd2_r, b2i_eq, y, if_false]
          rw [q_sub (by omega)]
        · rw [mX6_find_37]
          simp (disch := omega) only [q_le, n1]
          rw [if_neg z, q_ck (by omega) (by omega), q_sub (by omega), q_ck (by omega) (by omega), q_cl (by omega), q_cl (by omega), p4, q4, y_tests hr ho p2 q2]
          simp only [bd2_r, b2i_eq, y, if_false]
