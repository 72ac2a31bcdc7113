/-! FINDING a run -/
def RI (n : Nat) (rowf key tag : Nat → Int32) : Prop := (∀ i, i < n → PK n rowf key tag i) ∧ ∀ t, t < n → ∃ i, i < n ∧ tag i = nI t
theorem RI_perm {n : Nat} {f f' kf kf' tf tf' : Nat → Int32} (σ τ : Nat → Nat) (h : RI n f kf tf) (h1 : ∀ i, i < n → σ i < n ∧ f' i = f (σ i) ∧ kf' i = kf (σ i) ∧ tf' i = tf (σ i)) (h2 : ∀ i, i < n → τ i < n ∧ σ (τ i) = i) : RI n f' kf' tf' := by
  refine ⟨fun i hi => ?_, fun t ht => ?_⟩
  · obtain ⟨q1, q2, q3, q4⟩ := h1 i hi
    unfold PK
    rw [q2, q3, q4]
    exact h.1 (σ i) q1
  · obtain ⟨i, hi, e⟩ := h.2 t ht
    obtain ⟨q1, q2⟩ := h2 i hi
    refine ⟨τ i, q1, ?_⟩
    rw [(h1 (τ i) q1).2.2.2, q2, e]
def inc (k : Nat) (c : Nat → Int32) : Nat → Int32 := upd c k (c k + nI 1)
/-! a record comes into the run -/
def shR (f : Nat → Int32) (lo hi : Nat) : Nat → Int32 := fun j => if lo < j ∧ j ≤ hi then f (j - 1) else f j
def ins (f : Nat → Int32) (lo hi : Nat) : Nat → Int32 := upd (shR f lo hi) lo (f hi)
theorem shR_0 (f : Nat → Int32) (hi : Nat) : shR f hi hi = f := by
  funext j; simp only [shR]; rw [if_neg (by omega)]
theorem shR_s (f : Nat → Int32) (lo hi : Nat) (h : lo < hi) : upd (shR f (lo + 1) hi) (lo + 1) (f lo) = shR f lo hi := by
  funext j
  simp only [shR, upd]
  by_cases q : j = lo + 1
  · subst q; rw [if_pos rfl, if_pos (by omega)]; rfl
  · rw [if_neg q]
    by_cases q2 : lo + 1 < j ∧ j ≤ hi
    · rw [if_pos q2, if_pos (by omega)]
    · rw [if_neg q2, if_neg (by omega)]
theorem ins_self (f : Nat → Int32) (hi : Nat) : ins f hi hi = f := by
  unfold ins; rw [shR_0]; exact upd_self f hi
theorem RI_ins {n lo hi : Nat} {f kf tf : Nat → Int32} (h : RI n f kf tf) (h1 : lo ≤ hi) (h2 : hi < n) : RI n (ins f lo hi) (ins kf lo hi) (ins tf lo hi) := by
  have e : ∀ (g : Nat → Int32) (j : Nat), ins g lo hi j = g (if j = lo then hi else if lo < j ∧ j ≤ hi then j - 1 else j) := by
    intro g j
    simp only [ins, upd, shR]
    by_cases q : j = lo
    · rw [if_pos q, if_pos q]
    · rw [if_neg q, if_neg q]; split <;> rfl
  refine RI_perm (fun j => if j = lo then hi else if lo < j ∧ j ≤ hi then j - 1 else j) (fun i => if i = hi then lo else if lo ≤ i ∧ i < hi then i + 1 else i) h (fun i hi2 => ⟨?_, e f i, e kf i, e tf i⟩) (fun i hi2 => ⟨?_, ?_⟩)
  · repeat' split
    all_goals omega
  · repeat' split
    all_goals omega
  · repeat' split
    all_goals omega
theorem e_in95 {F a len lo : Nat} {f c : Nat → Int32} (h1 : a + len < 96) (h2 : lo < len) : ∀ (fu i : Nat), lo ≤ i → i ≤ len → i - lo < fu →
    mX3_insertNext_95 F (nI a) (nI len) fu (f (a + len)) (nI lo) (nI i) (shR f (a + i) (a + len)) c = some (ins f (a + lo) (a + len), mvs c (len - lo + 1)) := by
  intro fu
  induction fu with
  | zero => intro i p q r; omega
  | succ fu ih =>
    intro i p q r
    rw [mX3_insertNext_95]
    simp (disch := omega) only [n1, q_le, nI_add]
    by_cases z : i ≤ lo
    · have : i = lo := by omega
      subst this
      rw [if_pos z, e_fill (by omega) (by decide)]
      simp only [bd1_r]
      rw [e_add (by decide) (by decide), q_sub (by omega), nI_add]
      rfl
    · obtain ⟨j, rfl⟩ : ∃ j, i = j + 1 := ⟨i - 1, by omega⟩
      rw [if_neg z, q_sub (by omega), e_look (by omega) (by decide)]
      simp only [bd1_r]
      rw [e_fill (by omega) (by decide)]
      simp only [bd1_r, tI_m]
      rw [tI_s, show a + (j + 1) - 1 = a + j by omega, show shR f (a + (j + 1)) (a + len) (a + j) = f (a + j) by simp only [shR]; rw [if_neg (by omega)], show a + (j + 1) = a + j + 1 by omega, shR_s f (a + j) (a + len) (by omega)]
      exact ih j (by omega) (by omega) (by omega)
theorem y_in88 {F a len lo : Nat} {kf tf c : Nat → Int32} (h1 : a + len < 96) (h2 : lo < len) : ∀ (fu i : Nat), lo ≤ i → i ≤ len → i - lo < fu →
    mX6_put1_88 F (nI (a + len)) fu (kf (a + len)) (tf (a + len)) (nI (a + lo)) (nI (a + i)) (shR kf (a + i) (a + len)) (shR tf (a + i) (a + len)) c = some (ins kf (a + lo) (a + len), ins tf (a + lo) (a + len), mvs c (len - lo + 1)) := by
  intro fu
  induction fu with
  | zero => intro i p q r; omega
  | succ fu ih =>
    intro i p q r
    rw [mX6_put1_88]
    simp (disch := omega) only [n1, q_le, q_ck, q_cl]
    by_cases z : a + i ≤ a + lo
    · have : i = lo := by omega
      subst this
      rw [if_pos z, q_sub (by omega), nI_add, show a + len - (a + i) = len - i by omega]
      rfl
    · obtain ⟨j, rfl⟩ : ∃ j, i = j + 1 := ⟨i - 1, by omega⟩
      rw [if_neg z, q_sub (by omega)]
      simp (disch := omega) only [q_ck, q_cl, tI_m]
      rw [show a + (j + 1) - 1 = a + j by omega, show a + (j + 1) = a + j + 1 by omega, tI_s, show shR kf (a + j + 1) (a + len) (a + j) = kf (a + j) by simp only [shR]; rw [if_neg (by omega)], show shR tf (a + j + 1) (a + len) (a + j) = tf (a + j) by simp only [shR]; rw [if_neg (by omega)], shR_s kf (a + j) (a + len) (by omega), shR_s tf (a + j) (a + len) (by omega)]
      exact ih j (by omega) (by omega) (by omega)
theorem e_in20 {F n o a len k t : Nat} {f kf tf : Nat → Int32} (hF : 1000 ≤ F) (ho : o < 4) (hn : n ≤ 96) (hrow : ∀ i, i < n → PK n f kf tf i) (h1 : a + len < n) (hk : k < 26) (ht : t < 96) (hf : f (a + len) = nI (t * 26 + k)) : ∀ (fu low high j : Nat) (c : Nat → Int32), low ≤ high → high ≤ len → high - low < fu → j + (high - low) < 1000 →
    mX3_insertNext_20 F (nI o) (nI a) (nI len) fu (nI (t * 26 + k)) (nI low) (nI high) (nI j) f c = some (ins f (a + (skL (fun i => !less o k (ky kf (a + i))) fu low high false).1) (a + len), mvs (tst c (skL (fun i => !less o k (ky kf (a + i))) fu low high false).2) (if (skL (fun i => !less o k (ky kf (a + i))) fu low high false).1 = len then 0 else len - (skL (fun i => !less o k (ky kf (a + i))) fu low high false).1 + 1)) := by
  intro fu
  induction fu with
  | zero => intro low high j c p q r; omega
  | succ fu ih =>
    intro low high j c p q r s
    rw [mX3_insertNext_20, skL]
    simp (disch := omega) only [n1000, n0, n1, n2, q_le, nI_add, q_div, Bool.false_and, Bool.false_eq_true, if_false]
    rw [if_neg (show ¬ 1000 ≤ j by omega)]
    by_cases z : low < high
    · rw [if_neg (show ¬ high ≤ low by omega), if_pos z, e_look (by omega) (by decide)]
      obtain ⟨t2, p1, p2, p3, -⟩ := (hrow (a + (low + high) / 2) (by omega)).get
      simp only [bd1_r]
      rw [p3, e_isLess ho hk ht p2 (by omega)]
      simp only [bd2_r, b2i_0]
      cases hL : less o k (ky kf (a + (low + high) / 2)) with
      | true =>
        simp only [Bool.true_eq_false, if_false, Bool.not_true]
        rw [ih low ((low + high) / 2) (j + 1) (tst c 1) (by omega) (by omega) (by omega) (by omega), tst_tst, Nat.add_comm 1]
        simp only [Bool.false_eq_true, if_false]
      | false =>
        simp only [if_true, Bool.not_false]
        rw [ih ((low + high) / 2 + 1) high (j + 1) (tst c 1) (by omega) (by omega) (by omega) (by omega), tst_tst, Nat.add_comm 1]
    · have : low = high := by omega
      subst this
      rw [if_pos (Nat.le_refl _), if_neg z]
      unfold mX3_insertNext_85
      simp (disch := omega) only [q_eq]
      by_cases z2 : low = len
      · subst z2
        rw [if_pos rfl, if_pos rfl, ins_self, mvs_0, tst_0]
      · rw [if_neg z2, if_neg z2, tst_0, ← hf]
        have h2 := e_in95 (F := F) (f := f) (c := c) (show a + len < 96 by omega) (show low < len by omega) F len (by omega) (by omega) (by omega)
        rw [shR_0] at h2
        exact h2
theorem y_in23 {F n o a len k : Nat} {rul f kf tf : Nat → Int32} (hF : 1000 ≤ F) (ho : o < 4) (hr : rul 0 = nI o) (hn : n ≤ 96) (hrow : ∀ i, i < n → PK n f kf tf i) (h1 : a + len < n) (hk : k < 26) (hkf : kf (a + len) = nI k) : ∀ (fu low high : Nat) (c : Nat → Int32), low ≤ high → high ≤ len → high - low < fu →
    mX6_put1_23 F rul (nI a) (nI (a + len)) fu (nI k) (tf (a + len)) (nI low) (nI high) kf tf c = some (ins kf (a + (skL (fun i => !less o k (ky kf (a + i))) fu low high false).1) (a + len), ins tf (a + (skL (fun i => !less o k (ky kf (a + i))) fu low high false).1) (a + len), mvs (tst c (skL (fun i => !less o k (ky kf (a + i))) fu low high false).2) (if (skL (fun i => !less o k (ky kf (a + i))) fu low high false).1 = len then 0 else len - (skL (fun i => !less o k (ky kf (a + i))) fu low high false).1 + 1)) := by
  intro fu
  induction fu with
  | zero => intro low high c p q r; omega
  | succ fu ih =>
    intro low high c p q r
    rw [mX6_put1_23, skL]
    simp (disch := omega) only [n0, n1, n2, q_le, nI_add, q_div, q_ck, q_cl, Bool.false_and, Bool.false_eq_true, if_false]
    by_cases z : low < high
    · rw [if_neg (show ¬ high ≤ low by omega), if_pos z]
      obtain ⟨t2, p1, p2, p3, p4, -⟩ := (hrow (a + (low + high) / 2) (by omega)).get
      rw [p4, y_tests hr ho hk p2]
      simp only [bd2_r, b2i_0]
      cases hL : less o k (ky kf (a + (low + high) / 2)) with
      | true =>
        simp only [Bool.true_eq_false, if_false, Bool.not_true]
        rw [ih low ((low + high) / 2) (tst c 1) (by omega) (by omega) (by omega), tst_tst, Nat.add_comm 1]
        simp only [Bool.false_eq_true, if_false]
      | false =>
        simp only [if_true, Bool.not_false]
        rw [ih ((low + high) / 2 + 1) high (tst c 1) (by omega) (by omega) (by omega), tst_tst, Nat.add_comm 1]
    · have : low = high := by omega
      subst this
      rw [if_pos (Nat.le_refl _), if_neg z]
      simp (disch := omega) only [q_eq]
      by_cases z2 : low = len
      · subst z2
        rw [if_pos rfl, if_pos rfl, ins_self, ins_self, mvs_0, tst_0]
      · rw [if_neg (by omega), if_neg z2, tst_0, ← hkf]
        have h2 := y_in88 (F := F) (kf := kf) (tf := tf) (c := c) (show a + len < 96 by omega) (show low < len by omega) F len (by omega) (by omega) (by omega)
        rw [shR_0, shR_0] at h2
        exact h2
/-- the next record comes into the run: by both -/
theorem insN {F n o a len : Nat} {rul f kf tf : Nat → Int32} (hF : 1000 ≤ F) (ho : o < 4) (hr : rul 0 = nI o) (hn : n ≤ 96) (hR : RI n f kf tf) (h1 : a + len < n) : ∃ (f' kf' tf' : Nat → Int32) (d m : Nat), RI n f' kf' tf' ∧ ∀ c : Nat → Int32, mX3_insertNext F f c (nI o) (nI a) (nI len) = some (f', mvs (tst c d) m) ∧ mX6_put1 F rul kf tf c (nI a) (nI (a + len)) = some (kf', tf', mvs (tst c d) m) := by
  obtain ⟨t, p1, p2, p3, p4, -⟩ := (hR.1 (a + len) h1).get
  have hle := skL_le (fun i => !less o (ky kf (a + len)) (ky kf (a + i))) F 0 len false (Nat.zero_le _)
  refine ⟨_, _, _, (skL (fun i => !less o (ky kf (a + len)) (ky kf (a + i))) F 0 len false).2, (if (skL (fun i => !less o (ky kf (a + len)) (ky kf (a + i))) F 0 len false).1 = len then 0 else len - (skL (fun i => !less o (ky kf (a + len)) (ky kf (a + i))) F 0 len false).1 + 1), RI_ins hR (lo := a + (skL (fun i => !less o (ky kf (a + len)) (ky kf (a + i))) F 0 len false).1) (hi := a + len) (by omega) h1, fun c => ⟨?_, ?_⟩⟩
  · unfold mX3_insertNext
    rw [nI_add, e_look (by omega) (by decide), p3]
    exact e_in20 hF ho hn hR.1 h1 p2 (by omega) p3 F 0 len 0 c (Nat.zero_le _) (Nat.le_refl _) (by omega) (by omega)
  · unfold mX6_put1
    simp (disch := omega) only [n0, q_ck, q_cl, q_sub]
    rw [p4, show a + len - a = len by omega]
    exact y_in23 hF ho hr hn hR.1 h1 p2 p4 F 0 len c (Nat.zero_le _) (Nat.le_refl _) (by omega)
