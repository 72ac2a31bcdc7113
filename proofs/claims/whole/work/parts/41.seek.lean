/-! SEEK: one function for both -/
theorem b2i_eq {a b : Bool} : (b2i a = b2i b) = (a = b) := by cases a <;> cases b <;> simp [b2i, show ¬ (nI 1 = nI 0) by decide, show ¬ (nI 0 = nI 1) by decide]
theorem b2i_0 {a : Bool} : (b2i a = nI 0) = (a = false) := b2i_eq (b := false)
theorem tst_0 (c : Nat → Int32) : tst c 0 = c := by
  funext j
  by_cases h : j = 0
  · subst h; simp [tst, upd, show nI 0 = 0 from rfl]
  · simp [tst, upd, h]
theorem tst_tst (c : Nat → Int32) (a b : Nat) : tst (tst c a) b = tst c (a + b) := by
  funext j
  by_cases h : j = 0
  · subst h; simp [tst, upd, ← nI_add, Int32.add_assoc]
  · simp [tst, upd, h]
def skL (ps : Nat → Bool) : Nat → Nat → Nat → Bool → Nat × Nat
  | 0, low, _, _ => (low, 0)
  | f + 1, low, high, lp => if low < high then
      (if ps (if lp && decide (2 * low < high) then 2 * low else (low + high) / 2) then
        ((skL ps f ((if lp && decide (2 * low < high) then 2 * low else (low + high) / 2) + 1) high (lp && decide (2 * low < high))).1, (skL ps f ((if lp && decide (2 * low < high) then 2 * low else (low + high) / 2) + 1) high (lp && decide (2 * low < high))).2 + 1)
      else ((skL ps f low (if lp && decide (2 * low < high) then 2 * low else (low + high) / 2) false).1, (skL ps f low (if lp && decide (2 * low < high) then 2 * low else (low + high) / 2) false).2 + 1))
    else (low, 0)
theorem skL_tr (lp : Bool) (low high : Nat) (h : low < high) : low ≤ (if lp && decide (2 * low < high) then 2 * low else (low + high) / 2) ∧ (if lp && decide (2 * low < high) then 2 * low else (low + high) / 2) < high := by
  by_cases q : (lp && decide (2 * low < high)) = true
  · rw [if_pos q]
    simp at q
    omega
  · rw [if_neg q]
    omega
theorem skL_fuel (ps : Nat → Bool) : ∀ (f g low high : Nat) (lp : Bool), high - low < f → high - low < g → skL ps f low high lp = skL ps g low high lp := by
  intro f
  induction f with
  | zero => intro g low high lp h; omega
  | succ f ih =>
    intro g low high lp h1 h2
    cases g with
    | zero => omega
    | succ g =>
      rw [skL, skL]
      by_cases q : low < high
      · rw [if_pos q, if_pos q]
        have ht := skL_tr lp low high q
        rw [ih g _ high (lp && decide (2 * low < high)) (by omega) (by omega), ih g low _ false (by omega) (by omega)]
      · rw [if_neg q, if_neg q]
theorem skL_le (ps : Nat → Bool) : ∀ (f low high : Nat) (lp : Bool), low ≤ high → low ≤ (skL ps f low high lp).1 ∧ (skL ps f low high lp).1 ≤ high := by
  intro f
  induction f with
  | zero => intro low high lp h; exact ⟨Nat.le_refl _, h⟩
  | succ f ih =>
    intro low high lp h
    rw [skL]
    by_cases q : low < high
    · rw [if_pos q]
      have ht := skL_tr lp low high q
      generalize (if lp && decide (2 * low < high) then 2 * low else (low + high) / 2) = tr at ht ⊢
      generalize (lp && decide (2 * low < high)) = lq
      have i1 := ih (tr + 1) high lq (by omega)
      have i2 := ih low tr false (by omega)
      by_cases q2 : ps tr = true
      · rw [if_pos q2]
        show low ≤ (skL ps f (tr + 1) high lq).1 ∧ (skL ps f (tr + 1) high lq).1 ≤ high
        omega
      · rw [if_neg q2]
        show low ≤ (skL ps f low tr false).1 ∧ (skL ps f low tr false).1 ≤ high
        omega
    · rw [if_neg q]
      exact ⟨Nat.le_refl _, h⟩
theorem skL_tf (ps : Nat → Bool) (f low high : Nat) (h : high ≤ 2 * low) : skL ps f low high true = skL ps f low high false := by
  cases f with
  | zero => rfl
  | succ f =>
    rw [skL, skL]
    have : decide (2 * low < high) = false := by simp; omega
    simp only [this, Bool.and_false]
/-- how many of m pass, and the tests that takes -/
def sk (ps : Nat → Bool) (m : Nat) : Nat × Nat := skL ps (m + 1) 0 m true
theorem sk_le (ps : Nat → Bool) (m : Nat) : (sk ps m).1 ≤ m := (skL_le ps (m + 1) 0 m true (Nat.zero_le _)).2
/-- only what lies below m is asked -/
theorem skL_congr (ps qs : Nat → Bool) : ∀ (f low high : Nat) (lp : Bool), (∀ i, i < high → ps i = qs i) → skL ps f low high lp = skL qs f low high lp := by
  intro f
  induction f with
  | zero => intro low high lp h; rfl
  | succ f ih =>
    intro low high lp h
    rw [skL, skL]
    by_cases q : low < high
    · rw [if_pos q, if_pos q]
      have ht := skL_tr lp low high q
      rw [h _ ht.2, ih _ high _ h, ih low _ false (fun i hi => h i (by omega))]
    · rw [if_neg q, if_neg q]
theorem sk_congr (ps qs : Nat → Bool) (m : Nat) (h : ∀ i, i < m → ps i = qs i) : sk ps m = sk qs m := skL_congr ps qs _ _ _ _ h
/-! the class -/
def pas (o km : Nat) (one wt : Bool) (k : Nat) : Bool := (if one then less o km k else less o k km) == wt
theorem e_p70 {F n o km tm k t tr : Nat} {one wt : Bool} {pe pd : Int32} {cf c : Nat → Int32} {K : Int32 → Int32 → Int32 → Int32 → (Nat → Int32) → Option (Int32 × (Nat → Int32))} {x5 x6 x7 x8 : Int32} (ho : o < 4) (h1 : km < 26) (h2 : tm < 96) (h3 : k < 26) (h4 : t < 96) (hv : mX4_ahead F n pe pd cf (nI tr) = some (nI (t * 26 + k))) :
    mX1_passing_70 F n (nI o) pe pd cf (nI (tm * 26 + km)) (b2i one) (b2i wt) K x5 x6 x7 x8 (nI tr) c = if pas o km one wt k then K (nI (tr + 1)) x6 x7 (x8 + nI 1) (tst c 1) else K x5 (nI tr) (nI 0) (x8 + nI 1) (tst c 1) := by
  unfold mX1_passing_70 mX1_passing_101 pas
  rw [hv]
  simp only [bd1_r, n0, n1, b2i_0, e_isLess ho h3 h4 h1 h2, e_isLess ho h1 h2 h3 h4, bd2_r, b2i_eq, nI_add]
  cases one <;> cases wt <;> simp
theorem e_p15 {F n o km tm m : Nat} {one wt : Bool} {pe pd : Int32} {cf : Nat → Int32} {kf : Nat → Nat} (ho : o < 4) (h1 : km < 26) (h2 : tm < 96) (hm : m ≤ 96) (hv : ∀ i, i < m → ∃ t, t < 96 ∧ kf i < 26 ∧ mX4_ahead F n pe pd cf (nI i) = some (nI (t * 26 + kf i))) :
    ∀ (f low high j : Nat) (lp : Bool) (c : Nat → Int32), high ≤ m → low ≤ high → high - low < f → j + (high - low) < 1000 →
      mX1_passing_15 F n (nI o) pe pd cf (nI (tm * 26 + km)) (b2i one) (b2i wt) f (nI low) (nI high) (b2i lp) (nI j) c = some (nI (skL (fun i => pas o km one wt (kf i)) f low high lp).1, tst c (skL (fun i => pas o km one wt (kf i)) f low high lp).2) := by
  intro f
  induction f with
  | zero => intro low high j lp c a b d; omega
  | succ f ih =>
    intro low high j lp c ha hb hd hj
    rw [mX1_passing_15, skL]
    simp (disch := omega) only [n1000, n0, n1, n2, q_le, b2i_0, pk_mul]
    rw [if_neg (by omega)]
    by_cases q : low < high
    · rw [if_neg (by omega), if_pos q]
      have ht := skL_tr lp low high q
      have h49 : (if lp = false then mX1_passing_49 F n (nI o) pe pd cf (nI (tm * 26 + km)) (b2i one) (b2i wt) (fun p0 p1 p2 p3 p4 => mX1_passing_15 F n (nI o) pe pd cf (nI (tm * 26 + km)) (b2i one) (b2i wt) f p0 p1 p2 p3 p4) (nI low) (nI high) (nI j) (nI 0) c
          else if high ≤ 2 * low then mX1_passing_49 F n (nI o) pe pd cf (nI (tm * 26 + km)) (b2i one) (b2i wt) (fun p0 p1 p2 p3 p4 => mX1_passing_15 F n (nI o) pe pd cf (nI (tm * 26 + km)) (b2i one) (b2i wt) f p0 p1 p2 p3 p4) (nI low) (nI high) (nI j) (nI 0) c
          else mX1_passing_49 F n (nI o) pe pd cf (nI (tm * 26 + km)) (b2i one) (b2i wt) (fun p0 p1 p2 p3 p4 => mX1_passing_15 F n (nI o) pe pd cf (nI (tm * 26 + km)) (b2i one) (b2i wt) f p0 p1 p2 p3 p4) (nI low) (nI high) (nI j) (nI 1) c)
          = mX1_passing_70 F n (nI o) pe pd cf (nI (tm * 26 + km)) (b2i one) (b2i wt) (fun p0 p1 p2 p3 p4 => mX1_passing_15 F n (nI o) pe pd cf (nI (tm * 26 + km)) (b2i one) (b2i wt) f p0 p1 p2 p3 p4) (nI low) (nI high) (b2i (lp && decide (2 * low < high))) (nI j) (nI (if lp && decide (2 * low < high) then 2 * low else (low + high) / 2)) c := by
        unfold mX1_passing_49
        simp (disch := omega) only [n0, n1, n2, pk_mul, nI_add, q_div]
        by_cases q2 : 2 * low < high
        · cases lp
          · simp [q2, b2i]
          · simp [q2, b2i, show ¬ high ≤ 2 * low by omega, show ¬ (nI 1 = nI 0) by decide]
        · cases lp
          · simp [q2, b2i]
          · simp [q2, b2i, show high ≤ 2 * low by omega]
      rw [h49]
      generalize (if lp && decide (2 * low < high) then 2 * low else (low + high) / 2) = tr at ht ⊢
      generalize (lp && decide (2 * low < high)) = lq
      obtain ⟨t, ht1, hk1, hv1⟩ := hv tr (by omega)
      rw [e_p70 ho h1 h2 hk1 ht1 hv1]
      by_cases q3 : pas o km one wt (kf tr) = true
      · rw [if_pos q3, if_pos q3]
        show mX1_passing_15 F n (nI o) pe pd cf _ _ _ f (nI (tr + 1)) (nI high) (b2i lq) (nI j + nI 1) (tst c 1) = _
        rw [nI_add, ih (tr + 1) high (j + 1) lq (tst c 1) ha (by omega) (by omega) (by omega), tst_tst, Nat.add_comm 1]
      · rw [if_neg q3, if_neg q3]
        show mX1_passing_15 F n (nI o) pe pd cf _ _ _ f (nI low) (nI tr) (b2i false) (nI j + nI 1) (tst c 1) = _
        rw [nI_add, ih low tr (j + 1) false (tst c 1) (by omega) (by omega) (by omega) (by omega), tst_tst, Nat.add_comm 1]
    · rw [if_pos (by omega), if_neg q, tst_0]
/-- the class's SEEK -/
theorem e_passing {F n o km tm m : Nat} {one wt : Bool} {pe pd : Int32} {cf c : Nat → Int32} {kf : Nat → Nat} (hF : 1000 ≤ F) (ho : o < 4) (h1 : km < 26) (h2 : tm < 96) (hm : m ≤ 96) (hv : ∀ i, i < m → ∃ t, t < 96 ∧ kf i < 26 ∧ mX4_ahead F n pe pd cf (nI i) = some (nI (t * 26 + kf i))) :
    mX1_passing F n (nI o) c pe pd (nI m) cf (nI (tm * 26 + km)) (b2i one) (b2i wt) = some (nI (sk (fun i => pas o km one wt (kf i)) m).1, tst c (sk (fun i => pas o km one wt (kf i)) m).2) := by
  have h := e_p15 (F := F) (n := n) (one := one) (wt := wt) ho h1 h2 hm hv F 0 m 0 true c (Nat.le_refl _) (Nat.zero_le _) (by omega) (by omega)
  unfold mX1_passing sk
  rw [skL_fuel _ (m + 1) F 0 m true (by omega) (by omega)]
  exact h
/-! the reference -/
theorem y_s81 {F m : Nat} {fw : Int32} {rul key rkf : Nat → Int32} {a1 a2 a3 a5 : Int32} {ps : Nat → Bool} (hm : m ≤ 96) (hps : ∀ i, i < m → ∀ c, mX6_passes F fw rul key rkf c a1 (a2 + a3 * nI i) a5 = some (b2i (ps i), tst c 1)) :
    ∀ (f low high : Nat) (c : Nat → Int32), high ≤ m → low ≤ high → high - low < f → mX6_seeks_81 F fw rul key rkf a1 a2 a3 a5 f (nI low) (nI high) c = some (nI (skL ps f low high false).1, tst c (skL ps f low high false).2) := by
  intro f
  induction f with
  | zero => intro low high c a b d; omega
  | succ f ih =>
    intro low high c ha hb hd
    rw [mX6_seeks_81, skL]
    simp (disch := omega) only [n0, n1, n2, q_le, nI_add, q_div, Bool.false_and, Bool.false_eq_true, if_false]
    by_cases q : low < high
    · rw [if_neg (by omega), if_pos q, hps ((low + high) / 2) (by omega) c]
      simp only [bd2_r, b2i_0]
      by_cases q3 : ps ((low + high) / 2) = true
      · rw [if_neg (by simp [q3]), if_pos q3, ih _ high _ ha (by omega) (by omega), tst_tst, Nat.add_comm 1]
      · rw [if_pos (by simpa using q3), if_neg q3, ih low _ _ (by omega) (by omega) (by omega), tst_tst, Nat.add_comm 1]
    · rw [if_pos (by omega), if_neg q, tst_0]
theorem y_s13 {F m : Nat} {fw : Int32} {rul key rkf : Nat → Int32} {a1 a2 a3 a5 : Int32} {ps : Nat → Bool} (hF : 1000 ≤ F) (hm : m ≤ 96) (hps : ∀ i, i < m → ∀ c, mX6_passes F fw rul key rkf c a1 (a2 + a3 * nI i) a5 = some (b2i (ps i), tst c 1)) :
    ∀ (f low : Nat) (c : Nat → Int32), low ≤ m → m - low + 1 < f → mX6_seeks_13 F fw rul key rkf a1 a2 a3 (nI m) a5 f (nI low) (nI m) (nI (2 * low)) (nI 1) c = some (nI (skL ps f low m true).1, tst c (skL ps f low m true).2) := by
  intro f
  induction f with
  | zero => intro low c a b; omega
  | succ f ih =>
    intro low c ha hd
    rw [mX6_seeks_13]
    simp (disch := omega) only [n0, n1, n2, q_le, q_eq, show ¬ ((1 : Nat) = 0) by decide, if_false]
    by_cases q : m ≤ 2 * low
    · rw [if_pos q, y_s81 hm hps F low m c (Nat.le_refl _) ha (by omega), skL_tf _ _ _ _ q, skL_fuel ps F (f + 1) low m false (by omega) (by omega)]
    · rw [if_neg q, hps (2 * low) (by omega) c]
      simp only [bd2_r, b2i_0]
      have hsk : skL ps (f + 1) low m true = if ps (2 * low) then ((skL ps f (2 * low + 1) m true).1, (skL ps f (2 * low + 1) m true).2 + 1) else ((skL ps f low (2 * low) false).1, (skL ps f low (2 * low) false).2 + 1) := by
        rw [skL, if_pos (show low < m by omega), show decide (2 * low < m) = true by simp; omega]
        simp only [Bool.and_self, if_true]
      rw [hsk]
      by_cases q3 : ps (2 * low) = true
      · rw [if_neg (by simp [q3]), if_pos q3]
        unfold mX6_seeks_54 mX6_seeks_68
        simp only [n0, n1, n2, b2i_0, q3, Bool.true_eq_false, if_false, pk_mul, nI_add]
        have h2 := ih (2 * low + 1) (tst c 1) (by omega) (by omega)
        rw [show 2 * (2 * low + 1) = 2 * (2 * low) + 2 by omega] at h2
        rw [show b2i true = nI 1 from rfl, h2, tst_tst, Nat.add_comm 1]
      · have q4 : ps (2 * low) = false := by simpa using q3
        rw [if_pos q4, if_neg q3]
        unfold mX6_seeks_54 mX6_seeks_68
        simp only [n0, n1, n2, b2i_0, q4, if_true, pk_mul, nI_add]
        cases f with
        | zero => omega
        | succ f =>
          rw [mX6_seeks_13]
          simp only [n0, b2i_0, if_true]
          rw [y_s81 hm hps F low (2 * low) (tst c 1) (by omega) (by omega) (by omega), tst_tst, skL_fuel ps F (f + 1) low (2 * low) false (by omega) (by omega), Nat.add_comm 1]
/-- the reference's SEEK -/
theorem y_seeks {F m : Nat} {fw : Int32} {rul key rkf c : Nat → Int32} {a1 a2 a3 a5 : Int32} {ps : Nat → Bool} (hF : 1000 ≤ F) (hm : m ≤ 96) (hps : ∀ i, i < m → ∀ c, mX6_passes F fw rul key rkf c a1 (a2 + a3 * nI i) a5 = some (b2i (ps i), tst c 1)) :
    mX6_seeks F fw rul key rkf c a1 a2 a3 (nI m) a5 = some (nI (sk ps m).1, tst c (sk ps m).2) := by
  have h := y_s13 (fw := fw) (a1 := a1) hF hm hps F 0 c (Nat.zero_le _) (by omega)
  unfold mX6_seeks sk
  rw [skL_fuel ps (m + 1) F 0 m true (by omega) (by omega)]
  exact h
