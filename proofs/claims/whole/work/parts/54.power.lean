/-! POWERS -/
theorem x10 : ((1 : Nat) = 0) = False := by decide
theorem x00 : ((0 : Nat) = 0) = True := by decide
def pwL (m1 m2 w : Nat) : Nat → Nat → Nat
  | 0, k => k
  | f + 1, k => if m1 * 2 ^ k / w = m2 * 2 ^ k / w then pwL m1 m2 w f (k + 1) else k
def pw (n a p q : Nat) : Nat := pwL (2 * a + p) (2 * a + 2 * p + q) (2 * n) 20 1
theorem pw7 {m1 m2 w : Nat} (h1 : m1 + 2 ≤ m2) (h0 : 0 < w) (hw : w ≤ 192) : ¬ m1 * 2 ^ 7 / w = m2 * 2 ^ 7 / w := by
  intro h
  have h2 : m1 * 2 ^ 7 + w ≤ m2 * 2 ^ 7 := by omega
  have h3 := Nat.div_le_div_right (c := w) h2
  rw [Nat.add_div_right _ h0] at h3
  omega
theorem pwL_fuel {m1 m2 w : Nat} (h1 : m1 + 2 ≤ m2) (h0 : 0 < w) (hw : w ≤ 192) : ∀ (f g k : Nat), k ≤ 7 → 7 - k < f → 7 - k < g → pwL m1 m2 w f k = pwL m1 m2 w g k := by
  intro f
  induction f with
  | zero => intro g k a b; omega
  | succ f ih =>
    intro g k a b c
    cases g with
    | zero => omega
    | succ g =>
      rw [pwL, pwL]
      by_cases q : m1 * 2 ^ k / w = m2 * 2 ^ k / w
      · have : k ≠ 7 := fun e => pw7 h1 h0 hw (by rw [← e]; exact q)
        rw [if_pos q, if_pos q]
        exact ih g (k + 1) (by omega) (by omega) (by omega)
      · rw [if_neg q, if_neg q]
theorem pwL_le {m1 m2 w : Nat} (h1 : m1 + 2 ≤ m2) (h0 : 0 < w) (hw : w ≤ 192) : ∀ (f k : Nat), k ≤ 7 → 7 - k < f → pwL m1 m2 w f k ≤ 7 := by
  intro f
  induction f with
  | zero => intro k a b; omega
  | succ f ih =>
    intro k a b
    rw [pwL]
    by_cases q : m1 * 2 ^ k / w = m2 * 2 ^ k / w
    · have : k ≠ 7 := fun e => pw7 h1 h0 hw (by rw [← e]; exact q)
      rw [if_pos q]
      exact ih (k + 1) (by omega) (by omega)
    · rw [if_neg q]; exact a
theorem shl32 : ∀ m, m < 400 → ∀ k, k < 8 → nI m <<< (nI k &&& 31) = nI (m * 2 ^ k) := by decide +kernel
theorem shl64 : ∀ m, m < 400 → ∀ k, k < 8 → lN m <<< ((nI k).toInt64 &&& 63) = lN (m * 2 ^ k) := by decide +kernel
theorem lgc {x y : Int64} : (lg_cmp x y = 0) = (x = y) := by
  unfold lg_cmp
  by_cases h1 : y < x
  · rw [if_pos h1]
    have : ¬ x = y := fun e => by subst e; exact Int64.lt_irrefl h1
    simp [this]
  · rw [if_neg h1]
    by_cases h2 : x = y
    · rw [if_pos h2]; simp [h2]
    · rw [if_neg h2]; simp [h2]
theorem p2 (k : Nat) (h : k ≤ 7) : 2 ^ k ≤ 128 := by
  have := Nat.pow_le_pow_right (n := 2) (by decide) h
  exact this
theorem e_pw99 {F m1 m2 w : Nat} (h1 : m1 + 2 ≤ m2) (hm : m2 < 400) (h0 : 0 < w) (hw : w ≤ 192) : ∀ (f k : Nat), k ≤ 7 → 7 - k < f → mX3_powerBehind_99 F f (nI m1) (nI m2) (nI w) (nI k) = some (nI (pwL m1 m2 w f k)) := by
  intro f
  induction f with
  | zero => intro k a b; omega
  | succ f ih =>
    intro k a b
    have hp := p2 k a
    have b1 : m1 * 2 ^ k ≤ 400 * 128 := Nat.mul_le_mul (by omega) hp
    have b2 : m2 * 2 ^ k ≤ 400 * 128 := Nat.mul_le_mul (by omega) hp
    have d1 := Nat.div_le_self (m1 * 2 ^ k) w
    have d2 := Nat.div_le_self (m2 * 2 ^ k) w
    rw [mX3_powerBehind_99, pwL, shl32 m1 (by omega) k (by omega), shl32 m2 hm k (by omega), q_div (by omega) h0 (by omega), q_div (by omega) h0 (by omega)]
    unfold dz
    simp (disch := omega) only [n0, n1, n20, q_le, q_eq, nI_add]
    rw [if_neg (show ¬ 20 ≤ k by omega), if_neg (show ¬ w = 0 by omega), if_neg (show ¬ w = 0 by omega)]
    by_cases q : m1 * 2 ^ k / w = m2 * 2 ^ k / w
    · have : k ≠ 7 := fun e => pw7 h1 h0 hw (by rw [← e]; exact q)
      rw [if_pos q, if_pos q]
      exact ih (k + 1) (by omega) (by omega)
    · rw [if_neg q, if_neg q]
theorem y_pw3 {F n a p q : Nat} (h1 : 1 ≤ p) (h2 : 1 ≤ q) (hs : a + p + q ≤ n) (hn : n ≤ 96) : ∀ (f k : Nat), k ≤ 7 → 7 - k < f → mX6_power_3 F (nI n) (nI a) (nI p) (nI q) f (nI k) = some (nI (pwL (2 * a + p) (2 * a + 2 * p + q) (2 * n) f k)) := by
  intro f
  induction f with
  | zero => intro k a b; omega
  | succ f ih =>
    intro k hk b
    have hp := p2 k hk
    have b1 : (2 * a + p) * 2 ^ k ≤ 400 * 128 := Nat.mul_le_mul (by omega) hp
    have b2 : (2 * a + 2 * p + q) * 2 ^ k ≤ 400 * 128 := Nat.mul_le_mul (by omega) hp
    have d1 := Nat.div_le_self ((2 * a + p) * 2 ^ k) (2 * n)
    have d2 := Nat.div_le_self ((2 * a + 2 * p + q) * 2 ^ k) (2 * n)
    rw [mX6_power_3, pwL]
    rw [show (2 : Int64) = lN 2 from rfl, nI_l (show n < 2 ^ 31 by omega), nI_l (show a < 2 ^ 31 by omega), nI_l (show p < 2 ^ 31 by omega), nI_l (show q < 2 ^ 31 by omega), lN_mul, lN_mul, lN_mul, lN_add, lN_add, lN_add, shl64 _ (by omega) k (by omega), shl64 _ (by omega) k (by omega), pk_lDiv (by omega) (by omega) (by omega), pk_lDiv (by omega) (by omega) (by omega)]
    unfold dzl
    have hz : ¬ lN (2 * n) = 0 := by
      rw [show (0 : Int64) = lN 0 from rfl, pk_lEQ (by omega) (by decide)]; omega
    rw [if_neg hz, if_neg hz]
    simp only [lgc]
    have hq : lN ((2 * a + p) * 2 ^ k / (2 * n)) = lN ((2 * a + 2 * p + q) * 2 ^ k / (2 * n)) ↔ (2 * a + p) * 2 ^ k / (2 * n) = (2 * a + 2 * p + q) * 2 ^ k / (2 * n) := pk_lEQ (by omega) (by omega)
    by_cases z : (2 * a + p) * 2 ^ k / (2 * n) = (2 * a + 2 * p + q) * 2 ^ k / (2 * n)
    · have : k ≠ 7 := fun e => pw7 (show 2 * a + p + 2 ≤ 2 * a + 2 * p + q by omega) (show 0 < 2 * n by omega) (by omega) (by rw [← e]; exact z)
      rw [if_pos (hq.mpr z), if_pos z, n1, nI_add]
      exact ih (k + 1) (by omega) (by omega)
    · rw [if_neg (fun w => z (hq.mp w)), if_neg z]
theorem y_power {F n a p q : Nat} (hF : 1000 ≤ F) (h1 : 1 ≤ p) (h2 : 1 ≤ q) (hs : a + p + q ≤ n) (hn : n ≤ 96) : mX6_power F (nI n) (nI a) (nI p) (nI q) = some (nI (pw n a p q)) := by
  unfold mX6_power pw
  rw [n1, y_pw3 h1 h2 hs hn F 1 (by omega) (by omega), pwL_fuel (by omega) (by omega) (by omega) F 20 1 (by omega) (by omega) (by omega)]
theorem pw_le {n a p q : Nat} (h1 : 1 ≤ p) (h2 : 1 ≤ q) (hs : a + p + q ≤ n) (hn : n ≤ 96) : pw n a p q ≤ 7 := pwL_le (by omega) (by omega) (by omega) 20 1 (by omega) (by omega)
/-! the stack -/
def psum (L : Nat → Nat) : Nat → Nat
  | 0 => 0
  | i + 1 => psum L i + L i
theorem psum_le (L : Nat → Nat) : ∀ (j i : Nat), i < j → psum L i + L i ≤ psum L j := by
  intro j
  induction j with
  | zero => intro i h; omega
  | succ j ih =>
    intro i h
    rw [psum]
    by_cases q : i = j
    · subst q; exact Nat.le_refl _
    · have := ih i (by omega); omega
theorem psum_ge (L : Nat → Nat) : ∀ d : Nat, (∀ i, i < d → 1 ≤ L i) → d ≤ psum L d := by
  intro d
  induction d with
  | zero => intro _; exact Nat.zero_le _
  | succ d ih =>
    intro h
    rw [psum]
    have := ih (fun i hi => h i (by omega))
    have := h d (by omega)
    omega
/-- the runs on the stack, as rows hold them -/
def SR (n d w : Nat) (pf lf : Nat → Int32) (L : Nat → Nat) : Prop := (∀ i, i < d → pf i = nI (psum L i) ∧ lf i = nI (L i) ∧ 1 ≤ L i) ∧ psum L d + w ≤ n ∧ n ≤ 96
theorem SR.b {n d w : Nat} {pf lf : Nat → Int32} {L : Nat → Nat} (h : SR n d w pf lf L) : d ≤ psum L d ∧ d + w ≤ n := by
  have := psum_ge L d (fun i hi => (h.1 i hi).2.2)
  have := h.2.1
  omega
theorem SR.l {n d w i : Nat} {pf lf : Nat → Int32} {L : Nat → Nat} (h : SR n d w pf lf L) (hi : i < d) : pf i = nI (psum L i) ∧ lf i = nI (L i) ∧ 1 ≤ L i ∧ psum L i + L i ≤ psum L d := ⟨(h.1 i hi).1, (h.1 i hi).2.1, (h.1 i hi).2.2, psum_le L d i hi⟩
theorem y_in7 {F n d w : Nat} {pf lf : Nat → Int32} {L : Nat → Nat} (h : SR n d w pf lf L) : ∀ (f i x : Nat), i ≤ d → d - i < f → mX6_inRuns_7 F (nI d) lf f (nI (x + psum L i)) (nI i) = some (nI (x + psum L d)) := by
  have hb := h.b
  have hn := h.2.2
  intro f
  induction f with
  | zero => intro i x a b; omega
  | succ f ih =>
    intro i x a b
    rw [mX6_inRuns_7]
    simp (disch := omega) only [q_le, n1]
    by_cases q : d ≤ i
    · rw [if_pos q, show i = d by omega]
    · rw [if_neg q, q_ck (by omega) (by omega), q_cl (by omega), (h.l (by omega)).2.1, nI_add, nI_add]
      have h2 := ih (i + 1) x (by omega) (by omega)
      rw [psum, ← Nat.add_assoc] at h2
      exact h2
theorem y_inRuns {F n d w : Nat} {pf lf : Nat → Int32} {L : Nat → Nat} (hF : 1000 ≤ F) (h : SR n d w pf lf L) : mX6_inRuns F (nI d) (nI w) lf = some (nI (psum L d + w)) := by
  have hb := h.b
  have hn := h.2.2
  have := y_in7 (F := F) h F 0 w (by omega) (by omega)
  rw [show w + psum L d = psum L d + w by omega] at this
  exact this
theorem e_power {F n d w i : Nat} {pf lf : Nat → Int32} {L : Nat → Nat} (hF : 1000 ≤ F) (h : SR n d w pf lf L) (hi : i < d) : mX3_powerBehind F (nI n) (nI d) (nI w) pf lf (nI i) = some (if i + 1 = d then (if w = 0 then -nI 4 else nI (pw n (psum L i) (L i) w)) else nI (pw n (psum L i) (L i) (L (i + 1)))) := by
  have hb := h.b
  have hn := h.2.2
  have hs := h.2.1
  obtain ⟨p1, p2, p3, p4⟩ := h.l hi
  unfold mX3_powerBehind mX3_powerBehind_15 mX3_powerBehind_37
  simp (disch := omega) only [n0, n1, n2, n4, q_sub, q_eq, q_le, q_lt, nI_add, pk_mul, x00, x10, if_true, if_false]
  by_cases z : i = d - 1
  · rw [if_pos z, if_pos (show i + 1 = d by omega)]
    by_cases z2 : w = 0
    · rw [if_pos (show w ≤ 0 by omega), if_pos z2]
    · rw [if_neg (show ¬ w ≤ 0 by omega), if_neg z2, if_pos (show 0 < n by omega), e_look (by omega) (by decide), e_look (by omega) (by decide), p1, p2]
      simp only [bd1_r, pk_mul, nI_add]
      rw [e_pw99 (by omega) (by omega) (by omega) (by omega) F 1 (by omega) (by omega), pwL_fuel (by omega) (by omega) (by omega) F 20 1 (by omega) (by omega) (by omega)]
      unfold pw
      rw [show 2 * psum L i + L i + L i + w = 2 * psum L i + 2 * L i + w by omega]
  · obtain ⟨q1, q2, q3, q4⟩ := h.l (show i + 1 < d by omega)
    rw [psum] at q1 q4
    rw [if_neg z, if_neg (show ¬ i + 1 = d by omega), e_look (by omega) (by decide), q2]
    simp (disch := omega) only [bd1_r, q_le]
    rw [if_neg (show ¬ L (i + 1) ≤ 0 by omega), if_pos (show 0 < n by omega), e_look (by omega) (by decide), e_look (by omega) (by decide), p1, p2]
    simp only [bd1_r, pk_mul, nI_add]
    rw [e_pw99 (by omega) (by omega) (by omega) (by omega) F 1 (by omega) (by omega), pwL_fuel (by omega) (by omega) (by omega) F 20 1 (by omega) (by omega) (by omega)]
    unfold pw
    rw [show 2 * psum L i + L i + L i + L (i + 1) = 2 * psum L i + 2 * L i + L (i + 1) by omega]
