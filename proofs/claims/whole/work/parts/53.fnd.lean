/-! a run is FOUND: by both -/
theorem tst_mvs (c : Nat → Int32) (d m : Nat) : tst (mvs c m) d = mvs (tst c d) m := by
  funext j
  simp only [tst, mvs, upd]
  by_cases h0 : j = 0
  · subst h0; simp
  · by_cases h1 : j = 1
    · subst h1; simp
    · simp [h0, h1]
theorem inc_tst (c : Nat → Int32) (k d : Nat) (h : k ≠ 0) : inc k (tst c d) = tst (inc k c) d := by
  funext j
  simp only [tst, inc, upd]
  by_cases h0 : j = 0
  · subst h0; simp [h, Ne.symm h]
  · by_cases h1 : j = k
    · subst h1; simp [h]
    · simp [h0, h1]
theorem inc_mvs (c : Nat → Int32) (k d : Nat) (h : k ≠ 1) : inc k (mvs c d) = mvs (inc k c) d := by
  funext j
  simp only [mvs, inc, upd]
  by_cases h0 : j = 1
  · subst h0; simp [h, Ne.symm h]
  · by_cases h1 : j = k
    · subst h1; simp [h]
    · simp [h0, h1]
theorem inc_inc (c : Nat → Int32) (k i : Nat) (h : k ≠ i) : inc k (inc i c) = inc i (inc k c) := by
  funext j
  simp only [inc, upd]
  by_cases h0 : j = i
  · subst h0; simp [h, Ne.symm h]
  · by_cases h1 : j = k
    · subst h1; simp [h]
    · simp [h0, h1]
theorem mt_mt (c : Nat → Int32) (d1 m1 d2 m2 : Nat) : mvs (tst (mvs (tst c d1) m1) d2) m2 = mvs (tst c (d1 + d2)) (m1 + m2) := by
  rw [tst_mvs, mvs_mvs, tst_tst]
theorem insL {F n o a ls : Nat} {rul : Nat → Int32} {w1 w2 s1 s2 : Int32} (hF : 1000 ≤ F) (ho : o < 4) (hr : rul 0 = nI o) (hr2 : rul 2 = nI ls) (hls : 2 ≤ ls ∧ ls ≤ 9) (hn : n ≤ 96) : ∀ (k len : Nat) (f kf tf : Nat → Int32) (fu gu : Nat), RI n f kf tf → 1 ≤ len → a + len ≤ n → (if n - a < ls then n - a else ls) - len ≤ k → k < fu → k < gu →
    ∃ (f' kf' tf' : Nat → Int32) (len' d m : Nat), RI n f' kf' tf' ∧ 1 ≤ len' ∧ a + len' ≤ n ∧ ∀ c : Nat → Int32, mX3_findRun_105 F (nI o) fu (nI a) (nI len) (nI (if n - a < ls then n - a else ls)) s1 s2 f c = some (nI (a + len'), nI len', f', inc 2 (mvs (tst c d) m)) ∧ mX6_find_123 F (nI n) rul gu (nI a) (nI (a + len)) w1 w2 kf tf c = some (nI a, nI len', kf', tf', mvs (tst c d) m) := by
  intro k
  induction k with
  | zero =>
    intro len f kf tf fu gu hR h1 h2 hk hfu hgu
    obtain ⟨fu, rfl⟩ : ∃ x, fu = x + 1 := ⟨fu - 1, by omega⟩
    obtain ⟨gu, rfl⟩ : ∃ x, gu = x + 1 := ⟨gu - 1, by omega⟩
    have hw : (if n - a < ls then n - a else ls) ≤ 96 := by split <;> omega
    have hw2 : (if n - a < ls then n - a else ls) ≤ len := by omega
    refine ⟨f, kf, tf, len, 0, 0, hR, h1, h2, fun c => ⟨?_, ?_⟩⟩
    · rw [mX3_findRun_105]
      simp (disch := omega) only [q_le, n1, n2]
      rw [if_pos hw2, e_add (by decide) (by decide), tst_0, mvs_0, nI_add]
      rfl
    · rw [mX6_find_123]
      unfold mX6_find_155
      simp (disch := omega) only [q_ck, n2, q_cl, hr2, q_sub, q_le]
      rw [tst_0, mvs_0, show a + len - a = len by omega]
      by_cases z : ls ≤ len
      · rw [if_pos z]
      · rw [if_neg z, if_pos (by split at hw2 <;> omega)]
  | succ k ih =>
    intro len f kf tf fu gu hR h1 h2 hk hfu hgu
    obtain ⟨fu, rfl⟩ : ∃ x, fu = x + 1 := ⟨fu - 1, by omega⟩
    obtain ⟨gu, rfl⟩ : ∃ x, gu = x + 1 := ⟨gu - 1, by omega⟩
    by_cases hw2 : (if n - a < ls then n - a else ls) ≤ len
    · obtain ⟨f', kf', tf', len', d, m, q1, q2, q3, q4⟩ := ih len f kf tf (fu + 1) (gu + 1) hR h1 h2 (by omega) (by omega) (by omega)
      exact ⟨f', kf', tf', len', d, m, q1, q2, q3, q4⟩
    · have hw : (if n - a < ls then n - a else ls) ≤ 96 := by split <;> omega
      have hw3 : len < ls ∧ a + len < n := by split at hw2 <;> omega
      obtain ⟨f1, kf1, tf1, d1, m1, r1, r2⟩ := insN hF ho hr hn hR hw3.2
      obtain ⟨f', kf', tf', len', d, m, q1, q2, q3, q4⟩ := ih (len + 1) f1 kf1 tf1 fu gu r1 (by omega) (by omega) (by omega) (by omega) (by omega)
      refine ⟨f', kf', tf', len', d1 + d, m1 + m, q1, q2, q3, fun c => ⟨?_, ?_⟩⟩
      · rw [mX3_findRun_105]
        simp (disch := omega) only [q_le, n1, n2]
        rw [if_neg hw2, (r2 c).1]
        simp only [bd2_r, nI_add]
        rw [(q4 _).1, mt_mt]
      · rw [mX6_find_123]
        simp (disch := omega) only [q_ck, n1, n2, q_cl, hr2, q_sub, q_le]
        rw [show a + len - a = len by omega, if_neg (by omega), if_neg (by omega), (r2 c).2]
        simp only [bd3_r, nI_add]
        rw [show a + len + 1 = a + (len + 1) by omega, (q4 _).2, mt_mt]
theorem sp_inc (c : Nat → Int32) (i k : Nat) (h : i ≠ 11) : inc i (sp k c) = sp k (inc i c) := by
  funext j
  simp only [sp, inc, upd]
  by_cases h0 : j = i
  · subst h0; simp [h]
  · by_cases h1 : j = 11
    · subst h1; simp [Ne.symm h]
    · simp [h0, h1]
theorem sp_tst (c : Nat → Int32) (d k : Nat) : tst (sp k c) d = sp k (tst c d) := by
  funext j
  simp only [sp, tst, upd]
  by_cases h0 : j = 0
  · subst h0; simp
  · by_cases h1 : j = 11
    · subst h1; simp
    · simp [h0, h1]
theorem sp_mvs (c : Nat → Int32) (d k : Nat) : mvs (sp k c) d = sp k (mvs c d) := by
  funext j
  simp only [sp, mvs, upd]
  by_cases h0 : j = 1
  · subst h0; simp
  · by_cases h1 : j = 11
    · subst h1; simp
    · simp [h0, h1]
/-- a change of the counts that looks at none of the later ones -/
def Tr (T : (Nat → Int32) → (Nat → Int32)) : Prop := (∀ c k, T (sp k c) = sp k (T c)) ∧ ∀ c j, 5 ≤ j → T c j = c j
theorem fin75 {F n o a ls len : Nat} {rul f kf tf : Nat → Int32} {w1 w2 s1 s2 : Int32} (hF : 1000 ≤ F) (ho : o < 4) (hr : rul 0 = nI o) (hr2 : rul 2 = nI ls) (hls : 2 ≤ ls ∧ ls ≤ 9) (hn : n ≤ 96) (hR : RI n f kf tf) (h1 : 1 ≤ len) (h2 : a + len ≤ n) :
    ∃ (f' kf' tf' : Nat → Int32) (len' : Nat) (T : (Nat → Int32) → (Nat → Int32)), RI n f' kf' tf' ∧ 1 ≤ len' ∧ a + len' ≤ n ∧ Tr T ∧ ∀ c, mX3_findRun_75 F (nI n) (nI ls) (nI o) (nI a) (nI len) s1 s2 f c = some (nI (a + len'), nI len', f', T c) ∧ mX6_find_83 F (nI n) rul (nI a) (nI (a + len)) w1 w2 kf tf c = some (nI a, nI len', kf', tf', T c) := by
  have hw : (if n - a < ls then n - a else ls) ≤ 96 := by split <;> omega
  obtain ⟨f', kf', tf', len', d, m, q1, q2, q3, q4⟩ := insL (F := F) (w1 := w1) (w2 := w2) (s1 := s1) (s2 := s2) hF ho hr hr2 hls hn 96 len f kf tf F F hR h1 h2 (by omega) (by omega) (by omega)
  have e : (if nI n - nI a < nI ls then nI n - nI a else nI ls) = nI (if n - a < ls then n - a else ls) := by
    rw [q_sub (by omega)]
    simp (disch := omega) only [q_lt]
    split <;> rfl
  unfold mX3_findRun_75 mX6_find_83
  rw [e]
  simp (disch := omega) only [n1, n2, n4, q_le, q_ck, q_cl, hr2, q_sub]
  rw [show a + len - a = len by omega]
  have hinc : ∀ c : Nat → Int32, upd c 2 (c 2 + nI 1) = inc 2 c := fun _ => rfl
  have hinc4 : ∀ c : Nat → Int32, upd c 4 (c 4 + nI 1) = inc 4 c := fun _ => rfl
  by_cases hw2 : (if n - a < ls then n - a else ls) ≤ len
  · refine ⟨f, kf, tf, len, inc 2, hR, h1, h2, ⟨fun c k => sp_inc c 2 k (by decide), fun c j hj => by simp [inc, upd, show ¬ j = 2 by omega]⟩, fun c => ⟨?_, ?_⟩⟩
    · rw [if_pos hw2]
      obtain ⟨k, hk⟩ : ∃ k, F = k + 1 := ⟨F - 1, by omega⟩
      have e2 : ∀ k, mX3_findRun_105 F (nI o) (k + 1) (nI a) (nI len) (nI (if n - a < ls then n - a else ls)) s1 s2 f c = some (nI (a + len), nI len, f, inc 2 c) := by
        intro k
        rw [mX3_findRun_105]
        simp (disch := omega) only [q_le, n1, n2]
        rw [if_pos hw2, e_add (by decide) (by decide), nI_add]
        rfl
      have e3 := e2 k
      rw [← hk] at e3
      exact e3
    · unfold mX6_find_155
      simp (disch := omega) only [q_sub]
      rw [show a + len - a = len by omega, hinc]
      by_cases z : ls ≤ len
      · rw [if_pos z]
      · rw [if_neg z, if_pos (by split at hw2 <;> omega)]
  · have hw3 : len < ls ∧ a + len < n := by split at hw2 <;> omega
    refine ⟨f', kf', tf', len', fun c => inc 2 (mvs (tst (inc 4 c) d) m), q1, q2, q3, ⟨fun c k => ?_, fun c j hj => by simp [inc, mvs, tst, upd, show ¬ j = 2 by omega, show ¬ j = 4 by omega, show ¬ j = 0 by omega, show ¬ j = 1 by omega]⟩, fun c => ⟨?_, ?_⟩⟩
    · dsimp only
      rw [sp_inc _ _ _ (by decide), sp_tst, sp_mvs, sp_inc _ _ _ (by decide)]
    · rw [if_neg hw2, e_add (by decide) (by decide)]
      simp only [bd1_r]
      rw [hinc4, (q4 _).1]
    · rw [if_neg (show ¬ ls ≤ len by omega), if_neg (show ¬ n ≤ a + len by omega), hinc, hinc4, (q4 _).2]
      show _ = some (nI a, nI len', kf', tf', inc 2 (mvs (tst (inc 4 c) d) m))
      rw [inc_mvs _ _ _ (by decide), inc_tst _ _ _ (by decide), inc_inc _ _ _ (by decide)]
set_option maxHeartbeats 4000000 in
theorem fnd {F n o a ls : Nat} {rul f kf tf yrm : Nat → Int32} {w1 w2 s2 yr : Int32} (hF : 1000 ≤ F) (ho : o < 4) (hr : rul 0 = nI o) (hr2 : rul 2 = nI ls) (hls : 2 ≤ ls ∧ ls ≤ 9) (hn : n ≤ 96) (hR : RI n f kf tf) (ha : a < n) (hin : mX6_inRuns F yr w2 yrm = some (nI a)) :
    ∃ (f' kf' tf' : Nat → Int32) (len' : Nat) (T : (Nat → Int32) → (Nat → Int32)), RI n f' kf' tf' ∧ 1 ≤ len' ∧ a + len' ≤ n ∧ Tr T ∧ ∀ c, mX3_findRun F (nI n) (nI ls) (nI a) s2 f c (nI o) = some (nI (a + len'), nI len', f', T c) ∧ mX6_find F (nI n) yr w1 w2 rul kf tf yrm c = some (nI a, nI len', kf', tf', T c) := by
  unfold mX3_findRun mX6_find
  rw [hin]
  simp (disch := omega) only [n0, n1, bd1_r, nI_add, q_sub, q_le]
  by_cases z : n - a ≤ 1
  · simp only [if_pos z, if_pos (show n ≤ a + 1 by omega)]
    unfold mX3_findRun_48 mX3_lengthAsItLies
    obtain ⟨k, hk⟩ : ∃ k, F = k + 1 := ⟨F - 1, by omega⟩
    have e2 : ∀ k c, mX3_lengthAsItLies_11 F (nI n) f (nI o) (nI a) (nI 0) (k + 1) (nI n) c = some (nI 1, c) := by
      intro k c
      rw [mX3_lengthAsItLies_11]
      simp (disch := omega) only [q_le]
      rw [if_pos (Nat.le_refl _), q_sub (by omega), show n - a = 1 by omega]
    have e3 := e2 k
    rw [← hk] at e3
    have e4 : (if nI n < nI a + 2 then nI n else nI a + 2) = nI n := by
      rw [n2, nI_add]
      simp (disch := omega) only [q_lt]
      rw [if_pos (by omega)]
    rw [e4]
    simp only [e3, bd2_r, n0, if_true]
    exact fin75 hF ho hr hr2 hls hn hR (Nat.le_refl 1) (by omega)
  · obtain ⟨t1, p1, p2, p3, p4, -⟩ := (hR.1 (a + 1) (by omega)).get
    obtain ⟨t2, q1, q2, q3, q4, -⟩ := (hR.1 a ha).get
    simp only [if_neg z, if_neg (show ¬ n ≤ a + 1 by omega)]
    rw [e_look (show a + 1 < 96 by omega) (by decide), e_look (show a < 96 by omega) (by decide), p3, q3]
    simp (disch := omega) only [bd1_r, q_ck, q_cl]
    rw [p4, q4]
    have hX := fun c : Nat → Int32 => e_isLess (F := F) (c := c) ho p2 (show t1 < 96 by omega) q2 (show t2 < 96 by omega)
    have hY := fun c : Nat → Int32 => y_tests (F := F) (c := c) hr ho p2 q2
    simp only [hX, hY, bd2_r, b2i_0]
    generalize less o (ky kf (a + 1)) (ky kf a) = L
    obtain ⟨e, d, r1, r2, r3⟩ := goLen (F := F) (a := a) (down := L) (w1 := w1) (w2 := w2) ho hr hn hR F F (a + 2) (by omega) (by omega) (by omega) (by omega)
    have e4 : (if nI n < nI a + 2 then nI n else nI a + 2) = nI (a + 2) := by
      rw [n2, nI_add]
      simp (disch := omega) only [q_lt]
      rw [if_neg (by omega)]
    have e48 : ∀ c, (if L = false then mX3_findRun_48 F (nI n) (nI ls) (nI o) (nI a) (nI 0) (nI a) s2 f (tst c 1) else mX3_findRun_48 F (nI n) (nI ls) (nI o) (nI a) (nI 1) (nI a) s2 f (tst c 1)) = mX3_findRun_48 F (nI n) (nI ls) (nI o) (nI a) (b2i L) (nI a) s2 f (tst c 1) := fun c => by cases L <;> rfl
    simp only [e48, show a + 1 + 1 = a + 2 from rfl, (r3 _).2]
    unfold mX3_findRun_48 mX3_lengthAsItLies mX6_find_73
    rw [e4]
    simp only [(r3 _).1, bd2_r, n0, b2i_0, tst_tst]
    have hj : ∀ (c : Nat → Int32) j, 5 ≤ j → (tst c (1 + d)) j = c j := fun c j hj => by simp [tst, upd, show ¬ j = 0 by omega]
    cases L with
    | false =>
      simp only [if_true]
      obtain ⟨f', kf', tf', len', T, y1, y2, y3, y4, y5⟩ := fin75 (F := F) (w1 := w1) (w2 := w2) (s1 := nI a) (s2 := s2) hF ho hr hr2 hls hn hR (show 1 ≤ e - a by omega) (show a + (e - a) ≤ n by omega)
      rw [show a + (e - a) = e by omega] at y5
      exact ⟨f', kf', tf', len', fun c => T (tst c (1 + d)), y1, y2, y3, ⟨fun c k => by dsimp only; rw [sp_tst, y4.1], fun c j h => (y4.2 _ j h).trans (hj c j h)⟩, fun c => y5 _⟩
    | true =>
      simp only [Bool.true_eq_false, if_false]
      obtain ⟨f1, kf1, tf1, u1, u2⟩ := turn2 (F := F) hF hn hR (show a + (e - a) ≤ n by omega) (show 1 ≤ e - a by omega)
      rw [show a + (e - a) = e by omega] at u2
      have e5 : ∀ c : Nat → Int32, mX0_add F 12 (mvs c (2 * ((e - a) / 2))) (nI 3) (nI 1) = some (mvs (inc 3 c) (2 * ((e - a) / 2))) := fun c => by
        rw [e_add (by decide) (by decide)]
        exact congrArg some (inc_mvs c 3 _ (by decide))
      have u3 := fun c => (u2 c c).1
      have u4 := fun c => (u2 c c).2
      simp only [u3, u4, bd2_r, bd3_r, n3, n1, e5, bd1_r]
      obtain ⟨f', kf', tf', len', T, y1, y2, y3, y4, y5⟩ := fin75 (F := F) (w1 := w1) (w2 := w2) (s1 := nI a) (s2 := s2) hF ho hr hr2 hls hn u1 (show 1 ≤ e - a by omega) (show a + (e - a) ≤ n by omega)
      rw [show a + (e - a) = e by omega] at y5
      refine ⟨f', kf', tf', len', fun c => T (mvs (inc 3 (tst c (1 + d))) (2 * ((e - a) / 2))), y1, y2, y3, ⟨fun c k => ?_, fun c j h => (y4.2 _ j h).trans ?_⟩, fun c => y5 _⟩
      · dsimp only
        rw [sp_tst, sp_inc _ _ _ (by decide), sp_mvs, y4.1]
      · simp [mvs, inc, tst, upd, show ¬ j = 0 by omega, show ¬ j = 1 by omega, show ¬ j = 3 by omega]
