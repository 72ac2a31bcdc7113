/-! the reference counts a MERGE and its RECORDS ahead of it, the class behind it -/
def ad (x : Int32 × Int32) (y : Int32) (c : Nat → Int32) : Nat → Int32 := fun j => if j = 5 then c 5 + x.1 else if j = 6 then c 6 + y else if j = 11 then c 11 + x.2 else c j
theorem ad_upd {x : Int32 × Int32} {y v : Int32} {c : Nat → Int32} {k : Nat} (h5 : k ≠ 5) (h6 : k ≠ 6) (h11 : k ≠ 11) : upd (ad x y c) k v = ad x y (upd c k v) := by
  funext j
  simp only [upd, ad]
  by_cases q : j = k
  · subst q; simp [h5, h6, h11]
  · simp only [if_neg q, if_neg (Ne.symm h5), if_neg (Ne.symm h6), if_neg (Ne.symm h11)]
theorem ad_tst {x : Int32 × Int32} {y : Int32} {c : Nat → Int32} {d : Nat} : tst (ad x y c) d = ad x y (tst c d) := ad_upd (by decide) (by decide) (by decide)
theorem ad_mvs {x : Int32 × Int32} {y : Int32} {c : Nat → Int32} {d : Nat} : mvs (ad x y c) d = ad x y (mvs c d) := ad_upd (by decide) (by decide) (by decide)
theorem ad_10 {x : Int32 × Int32} {y : Int32} {c : Nat → Int32} : ad x y c 10 = c 10 := rfl
theorem ad_9 {x : Int32 × Int32} {y : Int32} {c : Nat → Int32} : ad x y c 9 = c 9 := rfl
theorem ad_7 {x : Int32 × Int32} {y : Int32} {c : Nat → Int32} : ad x y c 7 = c 7 := rfl
theorem ad_1 {x : Int32 × Int32} {y : Int32} {c : Nat → Int32} : ad x y c 1 = c 1 := rfl
/-! a record as the class has it, and as the reference has it -/
def PK (n : Nat) (f kf tf : Nat → Int32) (i : Nat) : Prop := ∃ k t : Nat, k < 26 ∧ t < n ∧ f i = nI (t * 26 + k) ∧ kf i = nI k ∧ tf i = nI t
def ky (kf : Nat → Int32) (i : Nat) : Nat := (kf i).toNatClampNeg
theorem PK.get {n : Nat} {f kf tf : Nat → Int32} {i : Nat} (h : PK n f kf tf i) : ∃ t, t < n ∧ ky kf i < 26 ∧ f i = nI (t * 26 + ky kf i) ∧ kf i = nI (ky kf i) ∧ tf i = nI t := by
  obtain ⟨k, t, h1, h2, h3, h4, h5⟩ := h
  have e : ky kf i = k := by unfold ky; rw [h4, q_cl (by omega)]
  exact ⟨t, h2, by rw [e]; exact h1, by rw [e]; exact h3, by rw [e]; exact h4, h5⟩
theorem PK.cpy {n : Nat} {f f' kf kf' tf tf' : Nat → Int32} {sp dp m i : Nat} (h1 : dp ≤ i → i < dp + m → PK n f kf tf (sp + (i - dp))) (h2 : PK n f' kf' tf' i) : PK n (va_cpy f f' sp dp m) (va_cpy kf kf' sp dp m) (va_cpy tf tf' sp dp m) i := by
  have e : ∀ (f g : Nat → Int32), va_cpy f g sp dp m i = if dp ≤ i ∧ i < dp + m then f (sp + (i - dp)) else g i := fun _ _ => rfl
  unfold PK
  rw [e, e, e]
  by_cases h : dp ≤ i ∧ i < dp + m
  · rw [if_pos h, if_pos h, if_pos h]; exact h1 h.1 h.2
  · rw [if_neg h, if_neg h, if_neg h]; exact h2
theorem PK_cpb {n : Nat} {f f' kf kf' tf tf' : Nat → Int32} {sp dp m i : Nat} (h1 : dp ≤ i + m → i < dp → PK n f kf tf (sp - (dp - i))) (h2 : PK n f' kf' tf' i) : PK n (cpb f f' sp dp m) (cpb kf kf' sp dp m) (cpb tf tf' sp dp m) i := by
  simp only [PK, cpb]
  by_cases h : dp ≤ i + m ∧ i < dp
  · simp only [if_pos h]; exact h1 h.1 h.2
  · simp only [if_neg h]; exact h2
def MF (n a0 a1 b0 b1 out : Nat) (rowf roomf key tag rK rT : Nat → Int32) : Prop :=
  a0 ≤ a1 ∧ a1 ≤ 48 ∧ b0 ≤ b1 ∧ b1 ≤ n ∧ n ≤ 96 ∧ out + (a1 - a0) = b0 ∧ (∀ i, i < n → PK n rowf key tag i) ∧ (∀ i, a0 ≤ i → i < a1 → PK n roomf rK rT i) ∧ ∀ t, t < n → (∃ i, i < out ∧ tag i = nI t) ∨ (∃ i, a0 ≤ i ∧ i < a1 ∧ rT i = nI t) ∨ ∃ i, b0 ≤ i ∧ i < n ∧ tag i = nI t
def MB (n a0 a1 b0 b1 out : Nat) (rowf roomf key tag rK rT : Nat → Int32) : Prop :=
  a0 ≤ a1 ∧ b0 ≤ b1 ∧ b1 ≤ 48 ∧ n ≤ 96 ∧ a1 + (b1 - b0) = out ∧ out ≤ n ∧ (∀ i, i < n → PK n rowf key tag i) ∧ (∀ i, b0 ≤ i → i < b1 → PK n roomf rK rT i) ∧ ∀ t, t < n → (∃ i, i < a1 ∧ tag i = nI t) ∨ (∃ i, b0 ≤ i ∧ i < b1 ∧ rT i = nI t) ∨ ∃ i, out ≤ i ∧ i < n ∧ tag i = nI t
theorem MF.A {n a0 a1 b0 b1 out m : Nat} {rowf roomf key tag rK rT : Nat → Int32} (h : MF n a0 a1 b0 b1 out rowf roomf key tag rK rT) (hm : m ≤ a1 - a0) : MF n (a0 + m) a1 b0 b1 (out + m) (va_cpy roomf rowf a0 out m) roomf (va_cpy rK key a0 out m) (va_cpy rT tag a0 out m) rK rT := by
  obtain ⟨h1, h2, h3, h4, h5, h6, h7, h8, h9⟩ := h
  refine ⟨by omega, h2, h3, h4, h5, by omega, fun i hi => PK.cpy (fun _ _ => h8 _ (by omega) (by omega)) (h7 i hi), fun i q1 q2 => h8 i (by omega) q2, fun t ht => ?_⟩
  rcases h9 t ht with ⟨i, q1, q2⟩ | ⟨i, q1, q2, q3⟩ | ⟨i, q1, q2, q3⟩
  · exact Or.inl ⟨i, by omega, by simp only [va_cpy]; rw [if_neg (by omega)]; exact q2⟩
  · by_cases hi : i < a0 + m
    · exact Or.inl ⟨out + (i - a0), by omega, by simp only [va_cpy]; rw [if_pos (by omega), show a0 + (out + (i - a0) - out) = i by omega]; exact q3⟩
    · exact Or.inr (Or.inl ⟨i, by omega, q2, q3⟩)
  · exact Or.inr (Or.inr ⟨i, q1, q2, by simp only [va_cpy]; rw [if_neg (by omega)]; exact q3⟩)
theorem MF.B {n a0 a1 b0 b1 out m : Nat} {rowf roomf key tag rK rT : Nat → Int32} (h : MF n a0 a1 b0 b1 out rowf roomf key tag rK rT) (hm : m ≤ b1 - b0) : MF n a0 a1 (b0 + m) b1 (out + m) (va_cpy rowf rowf b0 out m) roomf (va_cpy key key b0 out m) (va_cpy tag tag b0 out m) rK rT := by
  obtain ⟨h1, h2, h3, h4, h5, h6, h7, h8, h9⟩ := h
  refine ⟨h1, h2, by omega, h4, h5, by omega, fun i hi => PK.cpy (fun _ _ => h7 _ (by omega)) (h7 i hi), h8, fun t ht => ?_⟩
  rcases h9 t ht with ⟨i, q1, q2⟩ | ⟨i, q1, q2, q3⟩ | ⟨i, q1, q2, q3⟩
  · exact Or.inl ⟨i, by omega, by simp only [va_cpy]; rw [if_neg (by omega)]; exact q2⟩
  · exact Or.inr (Or.inl ⟨i, q1, q2, q3⟩)
  · by_cases hi : i < b0 + m
    · exact Or.inl ⟨out + (i - b0), by omega, by simp only [va_cpy]; rw [if_pos (by omega), show b0 + (out + (i - b0) - out) = i by omega]; exact q3⟩
    · exact Or.inr (Or.inr ⟨i, by omega, q2, by simp only [va_cpy]; rw [if_neg (by omega)]; exact q3⟩)
theorem MB.A {n a0 a1 b0 b1 out m : Nat} {rowf roomf key tag rK rT : Nat → Int32} (h : MB n a0 a1 b0 b1 out rowf roomf key tag rK rT) (hm : m ≤ a1 - a0) : MB n a0 (a1 - m) b0 b1 (out - m) (cpb rowf rowf a1 out m) roomf (cpb key key a1 out m) (cpb tag tag a1 out m) rK rT := by
  obtain ⟨h1, h2, h3, h4, h5, h6, h7, h8, h9⟩ := h
  refine ⟨by omega, h2, h3, h4, by omega, by omega, fun i hi => PK_cpb (fun _ _ => h7 _ (by omega)) (h7 i hi), h8, fun t ht => ?_⟩
  rcases h9 t ht with ⟨i, q1, q2⟩ | ⟨i, q1, q2, q3⟩ | ⟨i, q1, q2, q3⟩
  · by_cases hi : i < a1 - m
    · exact Or.inl ⟨i, hi, by simp only [cpb]; rw [if_neg (by omega)]; exact q2⟩
    · exact Or.inr (Or.inr ⟨out - (a1 - i), by omega, by omega, by simp only [cpb]; rw [if_pos (by omega), show a1 - (out - (out - (a1 - i))) = i by omega]; exact q2⟩)
  · exact Or.inr (Or.inl ⟨i, q1, q2, q3⟩)
  · exact Or.inr (Or.inr ⟨i, by omega, q2, by simp only [cpb]; rw [if_neg (by omega)]; exact q3⟩)
theorem MB.B {n a0 a1 b0 b1 out m : Nat} {rowf roomf key tag rK rT : Nat → Int32} (h : MB n a0 a1 b0 b1 out rowf roomf key tag rK rT) (hm : m ≤ b1 - b0) : MB n a0 a1 b0 (b1 - m) (out - m) (cpb roomf rowf b1 out m) roomf (cpb rK key b1 out m) (cpb rT tag b1 out m) rK rT := by
  obtain ⟨h1, h2, h3, h4, h5, h6, h7, h8, h9⟩ := h
  refine ⟨h1, by omega, by omega, h4, by omega, by omega, fun i hi => PK_cpb (fun _ _ => h8 _ (by omega) (by omega)) (h7 i hi), fun i q1 q2 => h8 i q1 (by omega), fun t ht => ?_⟩
  rcases h9 t ht with ⟨i, q1, q2⟩ | ⟨i, q1, q2, q3⟩ | ⟨i, q1, q2, q3⟩
  · exact Or.inl ⟨i, q1, by simp only [cpb]; rw [if_neg (by omega)]; exact q2⟩
  · by_cases hi : i < b1 - m
    · exact Or.inr (Or.inl ⟨i, q1, hi, q3⟩)
    · exact Or.inr (Or.inr ⟨out - (b1 - i), by omega, by omega, by simp only [cpb]; rw [if_pos (by omega), show b1 - (out - (out - (b1 - i))) = i by omega]; exact q3⟩)
  · exact Or.inr (Or.inr ⟨i, by omega, q2, by simp only [cpb]; rw [if_neg (by omega)]; exact q3⟩)
/-! which pass, by the reference -/
theorem y_keyA_f {F i : Nat} {key rK : Nat → Int32} (h : i < 96) : mX6_keyA F (nI 1) key rK (nI i) = some (rK i) := by
  unfold mX6_keyA; simp (disch := omega) only [n0, z10, if_false, q_ck, q_cl]
theorem y_keyA_b {F i : Nat} {key rK : Nat → Int32} (h : i < 96) : mX6_keyA F (nI 0) key rK (nI i) = some (key i) := by
  unfold mX6_keyA; simp (disch := omega) only [n0, z00, if_true, q_ck, q_cl]
theorem y_keyB_f {F i : Nat} {key rK : Nat → Int32} (h : i < 96) : mX6_keyB F (nI 1) key rK (nI i) = some (key i) := by
  unfold mX6_keyB; simp (disch := omega) only [n0, z10, if_false, q_ck, q_cl]
theorem y_keyB_b {F i : Nat} {key rK : Nat → Int32} (h : i < 96) : mX6_keyB F (nI 0) key rK (nI i) = some (rK i) := by
  unfold mX6_keyB; simp (disch := omega) only [n0, z00, if_true, q_ck, q_cl]
theorem b2i_neg {c : Nat → Int32} {b : Bool} : (if b2i b = nI 0 then (some (nI 1, c)) else (some (nI 0, c))) = some (b2i (!b), c) := by cases b <;> rfl
theorem y_p0 {F o km k i : Nat} {rul key rK c : Nat → Int32} (hr : rul 0 = nI o) (ho : o < 4) (h1 : km < 26) (h2 : k < 26) (hi : i < 96) (hk : rK i = nI k) : mX6_passes F (nI 1) rul key rK c (nI 0) (nI i) (nI km) = some (b2i (pas o km true false k), tst c 1) := by
  unfold mX6_passes
  rw [show (0 : Int32) = nI 0 from rfl, if_pos (by decide), y_keyA_f hi, hk]
  simp only [bd1_r, y_tests hr ho h1 h2, bd2_r, n0, n1, bz_0, bz_1, b2i_neg, pas]
  cases less o km k <;> rfl
theorem y_p1 {F o km k i : Nat} {rul key rK c : Nat → Int32} (hr : rul 0 = nI o) (ho : o < 4) (h1 : km < 26) (h2 : k < 26) (hi : i < 96) (hk : key i = nI k) : mX6_passes F (nI 1) rul key rK c (nI 1) (nI i) (nI km) = some (b2i (pas o km false true k), tst c 1) := by
  unfold mX6_passes
  rw [if_neg (by decide), if_pos (by decide), y_keyB_f hi, hk]
  simp only [bd1_r, y_tests hr ho h2 h1, bd2_r, bz_b, pas]
  cases less o k km <;> rfl
theorem y_p2 {F o km k i : Nat} {rul key rK c : Nat → Int32} (hr : rul 0 = nI o) (ho : o < 4) (h1 : km < 26) (h2 : k < 26) (hi : i < 96) (hk : key i = nI k) : mX6_passes F (nI 0) rul key rK c (nI 2) (nI i) (nI km) = some (b2i (pas o km true true k), tst c 1) := by
  unfold mX6_passes
  rw [if_neg (by decide), if_neg (by decide), if_pos (by decide), y_keyA_b hi, hk]
  simp only [bd1_r, y_tests hr ho h1 h2, bd2_r, bz_b, pas]
  cases less o km k <;> rfl
theorem y_p3 {F o km k i : Nat} {rul key rK c : Nat → Int32} (hr : rul 0 = nI o) (ho : o < 4) (h1 : km < 26) (h2 : k < 26) (hi : i < 96) (hk : rK i = nI k) : mX6_passes F (nI 0) rul key rK c (nI 3) (nI i) (nI km) = some (b2i (pas o km false false k), tst c 1) := by
  unfold mX6_passes
  rw [if_neg (by decide), if_neg (by decide), if_neg (by decide), if_pos (by decide), y_keyB_b hi, hk]
  simp only [bd1_r, y_tests hr ho h2 h1, bd2_r, n0, n1, bz_0, bz_1, b2i_neg, pas]
  cases less o k km <;> rfl
theorem y_p4 {F o km k i : Nat} {fw : Int32} {rul key rK c : Nat → Int32} (hr : rul 0 = nI o) (ho : o < 4) (h1 : km < 26) (h2 : k < 26) (hi : i < 96) (hk : key i = nI k) : mX6_passes F fw rul key rK c (nI 4) (nI i) (nI km) = some (b2i (pas o km true false k), tst c 1) := by
  unfold mX6_passes
  rw [if_neg (by decide), if_neg (by decide), if_neg (by decide), if_neg (by decide), if_pos (by decide), q_ck hi (by omega), q_cl (by omega), hk]
  simp only [bd1_r, y_tests hr ho h1 h2, bd2_r, n0, n1, bz_0, bz_1, b2i_neg, pas]
  cases less o km k <;> rfl
theorem y_p5 {F o km k i : Nat} {fw : Int32} {rul key rK c : Nat → Int32} (hr : rul 0 = nI o) (ho : o < 4) (h1 : km < 26) (h2 : k < 26) (hi : i < 96) (hk : key i = nI k) : mX6_passes F fw rul key rK c (nI 5) (nI i) (nI km) = some (b2i (pas o km false true k), tst c 1) := by
  unfold mX6_passes
  rw [if_neg (by decide), if_neg (by decide), if_neg (by decide), if_neg (by decide), if_neg (by decide), q_ck hi (by omega), q_cl (by omega), hk]
  simp only [bd1_r, y_tests hr ho h2 h1, bd2_r, bz_b, pas]
  cases less o k km <;> rfl
