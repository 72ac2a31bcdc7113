/-! the reference's takes -/
theorem z10 : (nI 1 = nI 0) = False := by decide
theorem z00 : (nI 0 = nI 0) = True := by decide
theorem y_puts_f {F out : Nat} {key tag c : Nat → Int32} {k t : Int32} (h : out < 96) : mX6_puts F (nI 1) (nI out) key tag c k t = some (nI (out + 1), upd key out k, upd tag out t, mvs c 1) := by
  unfold mX6_puts mX6_puts_37
  simp (disch := omega) only [n0, n1, q_ck, z10, if_false, q_cl, nI_add]
  rfl
theorem y_puts_b {F o : Nat} {key tag c : Nat → Int32} {k t : Int32} (h : o < 96) : mX6_puts F (nI 0) (nI o) key tag c k t = some (tI o, upd key o k, upd tag o t, mvs c 1) := by
  unfold mX6_puts mX6_puts_37
  simp (disch := omega) only [n0, n1, q_ck, z00, if_true, q_cl, nI_add, tI_m]
  rfl
theorem y_tA27_f {F i a1 a0 out : Nat} {rK rT key tag c : Nat → Int32} {K : Int32 → Int32 → Int32 → Int32 → (Nat → Int32) → (Nat → Int32) → (Nat → Int32) → Option (Int32 × Int32 × Int32 × (Nat → Int32) × (Nat → Int32) × (Nat → Int32))} (h1 : a0 < 96) (h2 : out < 96) :
    mX6_takeA_27 F (nI 1) rK rT K (nI i) (nI a0) (nI a0) (nI a1) (nI out) key tag c = K (nI (i + 1)) (nI (a0 + 1)) (nI a1) (nI (out + 1)) (upd key out (rK a0)) (upd tag out (rT a0)) (mvs c 1) := by
  unfold mX6_takeA_27 mX6_keyA mX6_takeA_56 mX6_takeA_76 mX6_takeA_97
  simp (disch := omega) only [n0, n1, q_ck, z10, if_false, q_cl, nI_add, bd1_r, bd4_r, y_puts_f, q_sub, Nat.sub_zero]
theorem y_tA27_b {F i a1 a0 o : Nat} {rK rT key tag c : Nat → Int32} {K : Int32 → Int32 → Int32 → Int32 → (Nat → Int32) → (Nat → Int32) → (Nat → Int32) → Option (Int32 × Int32 × Int32 × (Nat → Int32) × (Nat → Int32) × (Nat → Int32))} (h1 : a1 < 96) (h2 : o < 96) :
    mX6_takeA_27 F (nI 0) rK rT K (nI i) (nI a1) (nI a0) (nI (a1 + 1)) (nI o) key tag c = K (nI (i + 1)) (nI a0) (nI a1) (tI o) (upd key o (key a1)) (upd tag o (tag a1)) (mvs c 1) := by
  unfold mX6_takeA_27 mX6_keyA mX6_takeA_56 mX6_takeA_76 mX6_takeA_97
  simp (disch := omega) only [n0, n1, q_ck, z00, if_true, q_cl, nI_add, bd1_r, bd4_r, y_puts_b, q_sub, Nat.add_zero, Nat.add_sub_cancel]
theorem y_tB27_f {F i b1 b0 out : Nat} {rK rT key tag c : Nat → Int32} {K : Int32 → Int32 → Int32 → Int32 → (Nat → Int32) → (Nat → Int32) → (Nat → Int32) → Option (Int32 × Int32 × Int32 × (Nat → Int32) × (Nat → Int32) × (Nat → Int32))} (h1 : b0 < 96) (h2 : out < 96) :
    mX6_takeB_27 F (nI 1) rK rT K (nI i) (nI b0) (nI b0) (nI b1) (nI out) key tag c = K (nI (i + 1)) (nI (b0 + 1)) (nI b1) (nI (out + 1)) (upd key out (key b0)) (upd tag out (tag b0)) (mvs c 1) := by
  unfold mX6_takeB_27 mX6_keyB mX6_takeB_56 mX6_takeB_76 mX6_takeB_97
  simp (disch := omega) only [n0, n1, q_ck, z10, if_false, q_cl, nI_add, bd1_r, bd4_r, y_puts_f, q_sub, Nat.sub_zero]
theorem y_tB27_b {F i b1 b0 o : Nat} {rK rT key tag c : Nat → Int32} {K : Int32 → Int32 → Int32 → Int32 → (Nat → Int32) → (Nat → Int32) → (Nat → Int32) → Option (Int32 × Int32 × Int32 × (Nat → Int32) × (Nat → Int32) × (Nat → Int32))} (h1 : b1 < 96) (h2 : o < 96) :
    mX6_takeB_27 F (nI 0) rK rT K (nI i) (nI b1) (nI b0) (nI (b1 + 1)) (nI o) key tag c = K (nI (i + 1)) (nI b0) (nI b1) (tI o) (upd key o (rK b1)) (upd tag o (rT b1)) (mvs c 1) := by
  unfold mX6_takeB_27 mX6_keyB mX6_takeB_56 mX6_takeB_76 mX6_takeB_97
  simp (disch := omega) only [n0, n1, q_ck, z00, if_true, q_cl, nI_add, bd1_r, bd4_r, y_puts_b, q_sub, Nat.add_zero, Nat.add_sub_cancel]
theorem y_tA2_f {F a0 a1 out m : Nat} {rK rT key tag c : Nat → Int32} (h1 : a0 + m ≤ 96) (h2 : out + m ≤ 96) : ∀ (f i : Nat), i ≤ m → m - i < f →
    mX6_takeA_2 F (nI 1) rK rT (nI m) f (nI i) (nI (a0 + i)) (nI a1) (nI (out + i)) (va_cpy rK key a0 out i) (va_cpy rT tag a0 out i) (mvs c i) = some (nI (a0 + m), nI a1, nI (out + m), va_cpy rK key a0 out m, va_cpy rT tag a0 out m, mvs c m) := by
  intro f
  induction f with
  | zero => intro i a b; omega
  | succ f ih =>
    intro i ha hb
    rw [mX6_takeA_2]
    simp (disch := omega) only [n0, n1, q_le, z10, if_false]
    by_cases q : m ≤ i
    · have : i = m := by omega
      subst this
      rw [if_pos q]
    · rw [if_neg q, y_tA27_f (by omega) (by omega), cpy_s, cpy_s, mvs_mvs]
      exact ih (i + 1) (by omega) (by omega)
theorem y_tkA_f {F a0 a1 out m : Nat} {rK rT key tag c : Nat → Int32} (hF : 1000 ≤ F) (h1 : a0 + m ≤ 96) (h2 : out + m ≤ 96) : mX6_takeA F (nI a0) (nI a1) (nI 1) (nI out) key tag rK rT c (nI m) = some (nI (a0 + m), nI a1, nI (out + m), va_cpy rK key a0 out m, va_cpy rT tag a0 out m, mvs c m) := by
  have h := y_tA2_f (F := F) (a1 := a1) (rK := rK) (rT := rT) (key := key) (tag := tag) (c := c) h1 h2 F 0 (by omega) (by omega)
  rw [cpy_0, cpy_0, mvs_0] at h
  exact h
theorem y_tB2_f {F b0 b1 out m : Nat} {rK rT key tag c : Nat → Int32} (h1 : b0 + m ≤ 96) (h2 : out ≤ b0) : ∀ (f i : Nat), i ≤ m → m - i < f →
    mX6_takeB_2 F (nI 1) rK rT (nI m) f (nI i) (nI (b0 + i)) (nI b1) (nI (out + i)) (va_cpy key key b0 out i) (va_cpy tag tag b0 out i) (mvs c i) = some (nI (b0 + m), nI b1, nI (out + m), va_cpy key key b0 out m, va_cpy tag tag b0 out m, mvs c m) := by
  intro f
  induction f with
  | zero => intro i a b; omega
  | succ f ih =>
    intro i ha hb
    rw [mX6_takeB_2]
    simp (disch := omega) only [n0, n1, q_le, z10, if_false]
    by_cases q : m ≤ i
    · have : i = m := by omega
      subst this
      rw [if_pos q]
    · rw [if_neg q, y_tB27_f (by omega) (by omega), cpy_out key _ _ _ _ _ (by omega), cpy_out tag _ _ _ _ _ (by omega), cpy_s, cpy_s, mvs_mvs]
      exact ih (i + 1) (by omega) (by omega)
theorem y_tkB_f {F b0 b1 out m : Nat} {rK rT key tag c : Nat → Int32} (hF : 1000 ≤ F) (h1 : b0 + m ≤ 96) (h2 : out ≤ b0) : mX6_takeB F (nI b0) (nI b1) (nI 1) (nI out) key tag rK rT c (nI m) = some (nI (b0 + m), nI b1, nI (out + m), va_cpy key key b0 out m, va_cpy tag tag b0 out m, mvs c m) := by
  have h := y_tB2_f (F := F) (b1 := b1) (rK := rK) (rT := rT) (key := key) (tag := tag) (c := c) h1 h2 F 0 (by omega) (by omega)
  rw [cpy_0, cpy_0, mvs_0] at h
  exact h
theorem y_tA2_b {F a0 a1 o1 m : Nat} {rK rT key tag c : Nat → Int32} (h1 : a1 ≤ o1) (h2 : o1 ≤ 96) (h3 : m ≤ a1) : ∀ (f i : Nat), i ≤ m → m - i < f →
    mX6_takeA_2 F (nI 0) rK rT (nI m) f (nI i) (nI a0) (nI (a1 - i)) (tI (o1 - i)) (cpb key key a1 o1 i) (cpb tag tag a1 o1 i) (mvs c i) = some (nI a0, nI (a1 - m), tI (o1 - m), cpb key key a1 o1 m, cpb tag tag a1 o1 m, mvs c m) := by
  intro f
  induction f with
  | zero => intro i a b; omega
  | succ f ih =>
    intro i ha hb
    rw [mX6_takeA_2]
    simp (disch := omega) only [n0, n1, q_le, z00, if_true]
    by_cases q : m ≤ i
    · have : i = m := by omega
      subst this
      rw [if_pos q]
    · obtain ⟨x, hx⟩ : ∃ x, o1 - i = x + 1 := ⟨o1 - i - 1, by omega⟩
      obtain ⟨y, hy⟩ : ∃ y, a1 - i = y + 1 := ⟨a1 - i - 1, by omega⟩
      rw [if_neg q, hx, hy, tI_s, q_sub (by omega), Nat.add_sub_cancel, y_tA27_b (by omega) (by omega), cpb_out key _ _ _ _ _ (by omega), cpb_out tag _ _ _ _ _ (by omega), show x = o1 - 1 - i by omega, show y = a1 - 1 - i by omega, cpb_s _ _ _ _ _ (by omega) (by omega), cpb_s _ _ _ _ _ (by omega) (by omega), mvs_mvs, show o1 - 1 - i = o1 - (i + 1) by omega, show a1 - 1 - i = a1 - (i + 1) by omega]
      exact ih (i + 1) (by omega) (by omega)
theorem y_tkA_b {F a0 a1 o1 m : Nat} {rK rT key tag c : Nat → Int32} (hF : 1000 ≤ F) (h1 : a1 ≤ o1) (h2 : o1 ≤ 96) (h3 : m ≤ a1) : mX6_takeA F (nI a0) (nI a1) (nI 0) (tI o1) key tag rK rT c (nI m) = some (nI a0, nI (a1 - m), tI (o1 - m), cpb key key a1 o1 m, cpb tag tag a1 o1 m, mvs c m) := by
  have h := y_tA2_b (F := F) (a0 := a0) (rK := rK) (rT := rT) (key := key) (tag := tag) (c := c) h1 h2 h3 F 0 (by omega) (by omega)
  rw [cpb_0, cpb_0, mvs_0] at h
  exact h
theorem y_tB2_b {F b0 b1 o1 m : Nat} {rK rT key tag c : Nat → Int32} (h1 : b1 ≤ 96) (h2 : o1 ≤ 96) (h3 : m ≤ b1) (h4 : m ≤ o1) : ∀ (f i : Nat), i ≤ m → m - i < f →
    mX6_takeB_2 F (nI 0) rK rT (nI m) f (nI i) (nI b0) (nI (b1 - i)) (tI (o1 - i)) (cpb rK key b1 o1 i) (cpb rT tag b1 o1 i) (mvs c i) = some (nI b0, nI (b1 - m), tI (o1 - m), cpb rK key b1 o1 m, cpb rT tag b1 o1 m, mvs c m) := by
  intro f
  induction f with
  | zero => intro i a b; omega
  | succ f ih =>
    intro i ha hb
    rw [mX6_takeB_2]
    simp (disch := omega) only [n0, n1, q_le, z00, if_true]
    by_cases q : m ≤ i
    · have : i = m := by omega
      subst this
      rw [if_pos q]
    · obtain ⟨x, hx⟩ : ∃ x, o1 - i = x + 1 := ⟨o1 - i - 1, by omega⟩
      obtain ⟨y, hy⟩ : ∃ y, b1 - i = y + 1 := ⟨b1 - i - 1, by omega⟩
      rw [if_neg q, hx, hy, tI_s, q_sub (by omega), Nat.add_sub_cancel, y_tB27_b (by omega) (by omega), show x = o1 - 1 - i by omega, show y = b1 - 1 - i by omega, cpb_s _ _ _ _ _ (by omega) (by omega), cpb_s _ _ _ _ _ (by omega) (by omega), mvs_mvs, show o1 - 1 - i = o1 - (i + 1) by omega, show b1 - 1 - i = b1 - (i + 1) by omega]
      exact ih (i + 1) (by omega) (by omega)
theorem y_tkB_b {F b0 b1 o1 m : Nat} {rK rT key tag c : Nat → Int32} (hF : 1000 ≤ F) (h1 : b1 ≤ 96) (h2 : o1 ≤ 96) (h3 : m ≤ b1) (h4 : m ≤ o1) : mX6_takeB F (nI b0) (nI b1) (nI 0) (tI o1) key tag rK rT c (nI m) = some (nI b0, nI (b1 - m), tI (o1 - m), cpb rK key b1 o1 m, cpb rT tag b1 o1 m, mvs c m) := by
  have h := y_tB2_b (F := F) (b0 := b0) (rK := rK) (rT := rT) (key := key) (tag := tag) (c := c) h1 h2 h3 h4 F 0 (by omega) (by omega)
  rw [cpb_0, cpb_0, mvs_0] at h
  exact h
/-! who is left -/
theorem e_both {F a b : Nat} (ha : a < 2147483648) (hb : b < 2147483648) : mX2_bothAreLeft F (nI a) (nI b) = some (b2i (decide (0 < a ∧ 0 < b))) := by
  unfold mX2_bothAreLeft
  simp (disch := omega) only [n0, n1, q_le, bz_0, bz_1]
  by_cases h1 : a ≤ 0
  · rw [if_pos h1, show decide (0 < a ∧ 0 < b) = false by simp; omega]; rfl
  · rw [if_neg h1]
    by_cases h2 : b ≤ 0
    · rw [if_pos h2, show decide (0 < a ∧ 0 < b) = false by simp; omega]; rfl
    · rw [if_neg h2, show decide (0 < a ∧ 0 < b) = true by simp; omega]; rfl
theorem y_goes {F a0 a1 b0 b1 : Nat} (h1 : a0 < 2147483648) (h2 : a1 < 2147483648) (h3 : b0 < 2147483648) (h4 : b1 < 2147483648) : mX6_goesOn F (nI a0) (nI a1) (nI b0) (nI b1) = some (b2i (decide (a0 < a1 ∧ b0 < b1))) := by
  unfold mX6_goesOn
  simp (disch := omega) only [n0, n1, q_le, bz_0, bz_1]
  by_cases q1 : a1 ≤ a0
  · rw [if_pos q1, show decide (a0 < a1 ∧ b0 < b1) = false by simp; omega]; rfl
  · rw [if_neg q1]
    by_cases q2 : b1 ≤ b0
    · rw [if_pos q2, show decide (a0 < a1 ∧ b0 < b1) = false by simp; omega]; rfl
    · rw [if_neg q2, show decide (a0 < a1 ∧ b0 < b1) = true by simp; omega]; rfl
