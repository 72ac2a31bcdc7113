/-! moving records: forward and back -/
def tI (o : Nat) : Int32 := nI o - nI 1
theorem tI_s (o : Nat) : tI (o + 1) = nI o := by unfold tI; rw [q_sub (by omega)]; rfl
theorem tI_m (o : Nat) : nI o + -nI 1 = tI o := by unfold tI; rw [Int32.sub_eq_add_neg]
theorem tI_i {o i : Nat} (h : i < o) : tI o + -nI 1 * nI i = nI (o - 1 - i) := by
  obtain ⟨p, rfl⟩ : ∃ p, o = p + 1 := ⟨o - 1, by omega⟩
  rw [tI_s, Int32.neg_mul, ← Int32.sub_eq_add_neg, pk_mul, q_sub (by omega)]
  congr 1; omega
def mvs (c : Nat → Int32) (d : Nat) : Nat → Int32 := upd c 1 (c 1 + nI d)
theorem mvs_0 (c : Nat → Int32) : mvs c 0 = c := by
  funext j
  by_cases h : j = 1
  · subst h; simp [mvs, upd, show nI 0 = 0 from rfl]
  · simp [mvs, upd, h]
theorem mvs_mvs (c : Nat → Int32) (a b : Nat) : mvs (mvs c a) b = mvs c (a + b) := by
  funext j
  by_cases h : j = 1
  · subst h; simp [mvs, upd, ← nI_add, Int32.add_assoc]
  · simp [mvs, upd, h]
theorem cpy_0 (f g : Nat → Int32) (sp dp : Nat) : va_cpy f g sp dp 0 = g := by
  funext j
  simp only [va_cpy]
  rw [if_neg (by omega)]
theorem cpy_s (f g : Nat → Int32) (sp dp m : Nat) : upd (va_cpy f g sp dp m) (dp + m) (f (sp + m)) = va_cpy f g sp dp (m + 1) := by
  funext j
  simp only [va_cpy, upd]
  by_cases h : j = dp + m
  · subst h
    rw [if_pos rfl, if_pos (by omega)]
    congr 1; omega
  · rw [if_neg h]
    by_cases h2 : dp ≤ j ∧ j < dp + m
    · rw [if_pos h2, if_pos (by omega)]
    · rw [if_neg h2, if_neg (by omega)]
theorem cpy_out (f g : Nat → Int32) (sp dp m j : Nat) (h : dp + m ≤ j) : va_cpy f g sp dp m j = g j := by
  simp only [va_cpy]; rw [if_neg (by omega)]
/-- m records, from below sp (exclusive) to below dp (exclusive), the last first -/
def cpb (f g : Nat → Int32) (sp dp m : Nat) : Nat → Int32 := fun j => if dp ≤ j + m ∧ j < dp then f (sp - (dp - j)) else g j
theorem cpb_0 (f g : Nat → Int32) (sp dp : Nat) : cpb f g sp dp 0 = g := by
  funext j
  simp only [cpb]
  rw [if_neg (by omega)]
theorem cpb_s (f g : Nat → Int32) (sp dp m : Nat) (h1 : m < sp) (h2 : m < dp) : upd (cpb f g sp dp m) (dp - 1 - m) (f (sp - 1 - m)) = cpb f g sp dp (m + 1) := by
  funext j
  simp only [cpb, upd]
  by_cases h : j = dp - 1 - m
  · subst h
    rw [if_pos rfl, if_pos (by omega)]
    congr 1; omega
  · rw [if_neg h]
    by_cases h3 : dp ≤ j + m ∧ j < dp
    · rw [if_pos h3, if_pos (by omega)]
    · rw [if_neg h3, if_neg (by omega)]
theorem cpb_out (f g : Nat → Int32) (sp dp m j : Nat) (h : j + m < dp) : cpb f g sp dp m j = g j := by
  simp only [cpb]; rw [if_neg (by omega)]
theorem e_ahead {F n e i : Nat} {f : Nat → Int32} (h : e + i < n) (hn : n < 2147483648) : mX4_ahead F n (nI e) (nI 1) f (nI i) = some (f (e + i)) := by
  unfold mX4_ahead
  rw [pk_mul, nI_add, Nat.one_mul, e_look h hn]; rfl
theorem e_aheadB {F n o i : Nat} {f : Nat → Int32} (h : i < o) (h2 : o ≤ n) (hn : n < 2147483648) : mX4_ahead F n (tI o) (-nI 1) f (nI i) = some (f (o - 1 - i)) := by
  unfold mX4_ahead
  rw [tI_i h, e_look (by omega) hn]; rfl
/-! the class -/
theorem e_tm2 {F a0 out m la : Nat} {roomf rowf c : Nat → Int32} (h1 : a0 + m ≤ 48) (h2 : out + m ≤ 96) (h3 : m ≤ la) : ∀ (f i : Nat), i ≤ m → m - i < f →
    mX2_take_m_2 F (nI 1) (nI 1) roomf (nI m) f (nI i) (nI (out + i)) (va_cpy roomf rowf a0 out i) c (nI (a0 + i)) (nI (la - i)) = some (nI (out + m), va_cpy roomf rowf a0 out m, mvs c m, nI (a0 + m), nI (la - m)) := by
  intro f
  induction f with
  | zero => intro i a b; omega
  | succ f ih =>
    intro i ha hb
    rw [mX2_take_m_2]
    simp (disch := omega) only [n0, n1, q_le]
    by_cases q : m ≤ i
    · have : i = m := by omega
      subst this
      rw [if_pos q, e_add (by decide) (by decide)]
      rfl
    · rw [if_neg q, e_ahead (by omega) (by decide)]
      simp only [bd1_r, Nat.add_zero]
      rw [e_fill (by omega) (by decide)]
      unfold mX4_drop
      simp only [bd1_r, bd2_r, pk_mul, nI_add, Nat.mul_one]
      rw [cpy_s, q_sub (by omega), show la - i - 1 = la - (i + 1) by omega]
      exact ih (i + 1) (by omega) (by omega)
/-- A, forward: from the room -/
theorem e_tkA_f {F a0 out m la : Nat} {roomf rowf c : Nat → Int32} (hF : 1000 ≤ F) (h1 : a0 + m ≤ 48) (h2 : out + m ≤ 96) (h3 : m ≤ la) : mX2_take_m F (nI out) (nI 1) rowf c (nI a0) (nI 1) (nI la) roomf (nI m) = some (nI (out + m), va_cpy roomf rowf a0 out m, mvs c m, nI (a0 + m), nI (la - m)) := by
  have h := e_tm2 (F := F) (rowf := rowf) (c := c) (roomf := roomf) h1 h2 h3 F 0 (by omega) (by omega)
  rw [cpy_0] at h
  exact h
theorem e_tr2 {F b0 out m la : Nat} {rowf c : Nat → Int32} (h1 : b0 + m ≤ 96) (h2 : out ≤ b0) (h3 : m ≤ la) : ∀ (f i : Nat), i ≤ m → m - i < f →
    mX2_take_r_2 F (nI 1) (nI 1) (nI m) f (nI i) (nI (out + i)) (va_cpy rowf rowf b0 out i) c (nI (b0 + i)) (nI (la - i)) = some (nI (out + m), va_cpy rowf rowf b0 out m, mvs c m, nI (b0 + m), nI (la - m)) := by
  intro f
  induction f with
  | zero => intro i a b; omega
  | succ f ih =>
    intro i ha hb
    rw [mX2_take_r_2]
    simp (disch := omega) only [n0, n1, q_le]
    by_cases q : m ≤ i
    · have : i = m := by omega
      subst this
      rw [if_pos q, e_add (by decide) (by decide)]
      rfl
    · rw [if_neg q, e_ahead (by omega) (by decide)]
      simp only [bd1_r, Nat.add_zero]
      rw [e_fill (by omega) (by decide), cpy_out _ _ _ _ _ _ (by omega)]
      unfold mX4_drop
      simp only [bd1_r, bd2_r, pk_mul, nI_add, Nat.mul_one]
      rw [cpy_s, q_sub (by omega), show la - i - 1 = la - (i + 1) by omega]
      exact ih (i + 1) (by omega) (by omega)
/-- B, forward: in the row -/
theorem e_tkB_f {F b0 out m la : Nat} {rowf c : Nat → Int32} (hF : 1000 ≤ F) (h1 : b0 + m ≤ 96) (h2 : out ≤ b0) (h3 : m ≤ la) : mX2_take_r F (nI out) (nI 1) rowf c (nI b0) (nI 1) (nI la) (nI m) = some (nI (out + m), va_cpy rowf rowf b0 out m, mvs c m, nI (b0 + m), nI (la - m)) := by
  have h := e_tr2 (F := F) (c := c) (rowf := rowf) h1 h2 h3 F 0 (by omega) (by omega)
  rw [cpy_0] at h
  exact h
theorem e_tr2b {F a1 o1 m la : Nat} {rowf c : Nat → Int32} (h1 : a1 ≤ o1) (h2 : o1 ≤ 96) (h3 : m ≤ la) (h4 : m ≤ a1) : ∀ (f i : Nat), i ≤ m → m - i < f →
    mX2_take_r_2 F (-nI 1) (-nI 1) (nI m) f (nI i) (tI (o1 - i)) (cpb rowf rowf a1 o1 i) c (tI (a1 - i)) (nI (la - i)) = some (tI (o1 - m), cpb rowf rowf a1 o1 m, mvs c m, tI (a1 - m), nI (la - m)) := by
  intro f
  induction f with
  | zero => intro i a b; omega
  | succ f ih =>
    intro i ha hb
    rw [mX2_take_r_2]
    simp (disch := omega) only [n0, n1, q_le]
    by_cases q : m ≤ i
    · have : i = m := by omega
      subst this
      rw [if_pos q, e_add (by decide) (by decide)]
      rfl
    · rw [if_neg q, e_aheadB (by omega) (by omega) (by decide)]
      simp only [bd1_r, Nat.sub_zero]
      obtain ⟨x, hx⟩ : ∃ x, o1 - i = x + 1 := ⟨o1 - i - 1, by omega⟩
      obtain ⟨y, hy⟩ : ∃ y, a1 - i = y + 1 := ⟨a1 - i - 1, by omega⟩
      rw [hx, hy, tI_s, tI_s, e_fill (by omega) (by decide), cpb_out _ _ _ _ _ _ (by omega)]
      unfold mX4_drop
      simp only [bd1_r, bd2_r, tI_m, show -nI 1 * nI 1 = -nI 1 by decide]
      rw [show x = o1 - 1 - i by omega, show y + 1 - 1 = a1 - 1 - i by omega, cpb_s _ _ _ _ _ (by omega) (by omega), nI_add, q_sub (by omega), show la - i - 1 = la - (i + 1) by omega, show o1 - 1 - i = o1 - (i + 1) by omega, show y = a1 - (i + 1) by omega]
      exact ih (i + 1) (by omega) (by omega)
/-- A, back: in the row -/
theorem e_tkA_b {F a1 o1 m la : Nat} {rowf c : Nat → Int32} (hF : 1000 ≤ F) (h1 : a1 ≤ o1) (h2 : o1 ≤ 96) (h3 : m ≤ la) (h4 : m ≤ a1) : mX2_take_r F (tI o1) (-nI 1) rowf c (tI a1) (-nI 1) (nI la) (nI m) = some (tI (o1 - m), cpb rowf rowf a1 o1 m, mvs c m, tI (a1 - m), nI (la - m)) := by
  have h := e_tr2b (F := F) (c := c) (rowf := rowf) h1 h2 h3 h4 F 0 (by omega) (by omega)
  rw [cpb_0] at h
  exact h
theorem e_tm2b {F b1 o1 m la : Nat} {roomf rowf c : Nat → Int32} (h1 : b1 ≤ 48) (h2 : o1 ≤ 96) (h3 : m ≤ la) (h4 : m ≤ b1) (h5 : m ≤ o1) : ∀ (f i : Nat), i ≤ m → m - i < f →
    mX2_take_m_2 F (-nI 1) (-nI 1) roomf (nI m) f (nI i) (tI (o1 - i)) (cpb roomf rowf b1 o1 i) c (tI (b1 - i)) (nI (la - i)) = some (tI (o1 - m), cpb roomf rowf b1 o1 m, mvs c m, tI (b1 - m), nI (la - m)) := by
  intro f
  induction f with
  | zero => intro i a b; omega
  | succ f ih =>
    intro i ha hb
    rw [mX2_take_m_2]
    simp (disch := omega) only [n0, n1, q_le]
    by_cases q : m ≤ i
    · have : i = m := by omega
      subst this
      rw [if_pos q, e_add (by decide) (by decide)]
      rfl
    · rw [if_neg q, e_aheadB (by omega) (by omega) (by decide)]
      simp only [bd1_r, Nat.sub_zero]
      obtain ⟨x, hx⟩ : ∃ x, o1 - i = x + 1 := ⟨o1 - i - 1, by omega⟩
      obtain ⟨y, hy⟩ : ∃ y, b1 - i = y + 1 := ⟨b1 - i - 1, by omega⟩
      rw [hx, hy, tI_s, tI_s, e_fill (by omega) (by decide)]
      unfold mX4_drop
      simp only [bd1_r, bd2_r, tI_m, show -nI 1 * nI 1 = -nI 1 by decide]
      rw [show x = o1 - 1 - i by omega, show y + 1 - 1 = b1 - 1 - i by omega, cpb_s _ _ _ _ _ (by omega) (by omega), nI_add, q_sub (by omega), show la - i - 1 = la - (i + 1) by omega, show o1 - 1 - i = o1 - (i + 1) by omega, show y = b1 - (i + 1) by omega]
      exact ih (i + 1) (by omega) (by omega)
/-- B, back: from the room -/
theorem e_tkB_b {F b1 o1 m la : Nat} {roomf rowf c : Nat → Int32} (hF : 1000 ≤ F) (h1 : b1 ≤ 48) (h2 : o1 ≤ 96) (h3 : m ≤ la) (h4 : m ≤ b1) (h5 : m ≤ o1) : mX2_take_m F (tI o1) (-nI 1) rowf c (tI b1) (-nI 1) (nI la) roomf (nI m) = some (tI (o1 - m), cpb roomf rowf b1 o1 m, mvs c m, tI (b1 - m), nI (la - m)) := by
  have h := e_tm2b (F := F) (c := c) (rowf := rowf) (roomf := roomf) h1 h2 h3 h4 h5 F 0 (by omega) (by omega)
  rw [cpb_0] at h
  exact h
