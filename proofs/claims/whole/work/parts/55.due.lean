/-! which MERGE is next -/
def lowP (d : Nat) (L : Nat → Nat) : Nat := if 3 ≤ d ∧ L (d - 3) < L (d - 1) then d - 3 else d - 2
def offB (d : Nat) (L : Nat → Nat) : Prop := (3 ≤ d ∧ L (d - 3) ≤ L (d - 2) + L (d - 1)) ∨ (4 ≤ d ∧ L (d - 4) ≤ L (d - 3) + L (d - 2))
def dueL (pol d : Nat) (L : Nat → Nat) : Option Nat := if pol = 0 ∨ d < 2 then none else if pol = 1 then (if L (d - 2) ≤ 2 * L (d - 1) then some (d - 2) else none) else if (3 ≤ d ∧ L (d - 3) ≤ L (d - 2) + L (d - 1)) ∨ (4 ≤ d ∧ L (d - 4) ≤ L (d - 3) + L (d - 2)) then some (lowP d L) else if L (d - 2) ≤ L (d - 1) then some (d - 2) else none
def dueM (n pol d w : Nat) (L : Nat → Nat) : Option Nat := if 0 < w then (if pol = 0 ∧ 2 ≤ d ∧ pw n (psum L (d - 1)) (L (d - 1)) w < pw n (psum L (d - 2)) (L (d - 2)) (L (d - 1)) then some (d - 2) else none) else match dueL pol d L with | some i => some i | none => if psum L d < n ∨ d < 2 then none else some (if pol = 2 then lowP d L else d - 2)
def enc (x : Option Nat) : Int32 := match x with | none => -nI 4 | some i => nI i
theorem lowP_lt {d : Nat} {L : Nat → Nat} (h : 2 ≤ d) : lowP d L + 1 < d := by unfold lowP; split <;> omega
theorem dueM_lt {n pol d w i : Nat} {L : Nat → Nat} (h : dueM n pol d w L = some i) : i + 1 < d := by
  unfold dueM dueL at h
  by_cases hw : 0 < w
  · rw [if_pos hw] at h
    split at h
    · next q => cases h; omega
    · cases h
  · rw [if_neg hw] at h
    by_cases q1 : pol = 0 ∨ d < 2
    · rw [if_pos q1] at h
      dsimp only at h
      by_cases q2 : psum L d < n ∨ d < 2
      · rw [if_pos q2] at h; cases h
      · rw [if_neg q2] at h
        cases h
        split
        · exact lowP_lt (by omega)
        · omega
    · rw [if_neg q1] at h
      have hl := lowP_lt (d := d) (L := L) (by omega)
      have key : ∀ x : Option Nat, (∀ y, x = some y → y + 1 < d) → (match x with | some i => some i | none => if psum L d < n ∨ d < 2 then none else some (if pol = 2 then lowP d L else d - 2)) = some i → i + 1 < d := by
        intro x hx hh
        cases x with
        | some y => cases hh; exact hx _ rfl
        | none =>
          dsimp only at hh
          by_cases q2 : psum L d < n ∨ d < 2
          · rw [if_pos q2] at hh; cases hh
          · rw [if_neg q2] at hh
            cases hh
            split <;> omega
      refine key _ (fun y hy => ?_) h
      split at hy
      · split at hy
        · cases hy; omega
        · cases hy
      · split at hy
        · cases hy; exact hl
        · split at hy
          · cases hy; omega
          · cases hy
theorem enc_none {x : Option Nat} (h : ∀ i, x = some i → i < 2147483648) : (enc x = -nI 4) = (x = none) := by
  cases x with
  | none => simp [enc]
  | some i => simp only [enc, eq_iff_iff]; exact ⟨fun q => absurd q (q_neg (h i rfl) (by decide) (by decide)), fun q => by cases q⟩
theorem e_fromTop {F n d w k : Nat} {pf lf : Nat → Int32} {L : Nat → Nat} (h : SR n d w pf lf L) (hk : k < d) : mX3_fromTop F (nI d) lf (nI k) = some (nI (L (d - 1 - k))) := by
  have hb := h.b
  have hn := h.2.2
  unfold mX3_fromTop
  rw [n1, q_sub (by omega), q_sub (by omega), e_look (by omega) (by decide), (h.l (by omega)).2.1]
  rfl
theorem SR.L {n d w i : Nat} {pf lf : Nat → Int32} {L : Nat → Nat} (h : SR n d w pf lf L) (hi : i < d) : L i ≤ 96 := by
  have := (h.l hi).2.2.2
  have := h.2.1
  have := h.2.2
  omega
theorem e_lower {F n d w : Nat} {pf lf : Nat → Int32} {L : Nat → Nat} (h : SR n d w pf lf L) (hd : 2 ≤ d) : mX3_lowerPairIfThirdIsShort F (nI d) lf = some (nI (lowP d L)) := by
  have hb := h.b
  have hn := h.2.2
  unfold mX3_lowerPairIfThirdIsShort mX3_lowerPairIfThirdIsShort_30 lowP
  simp (disch := omega) only [n0, n2, n3, q_lt]
  by_cases z : d < 3
  · rw [if_pos z, q_sub hd, if_neg (by omega)]
  · have := h.L (show d - 3 < d by omega)
    have := h.L (show d - 1 < d by omega)
    rw [if_neg z, e_fromTop h (by omega), e_fromTop h (by omega), show d - 1 - 2 = d - 3 by omega, Nat.sub_zero]
    simp (disch := omega) only [bd1_r, q_le]
    by_cases y : L (d - 1) ≤ L (d - 3)
    · rw [if_pos y, q_sub hd, if_neg (by omega)]
    · rw [if_neg y, q_sub (by omega), if_pos (by omega)]
theorem e_off {F n d w : Nat} {pf lf : Nat → Int32} {L : Nat → Nat} (h : SR n d w pf lf L) (hd : 2 ≤ d) : mX3_isOffBalance F (nI d) lf = some (b2i (decide ((3 ≤ d ∧ L (d - 3) ≤ L (d - 2) + L (d - 1)) ∨ (4 ≤ d ∧ L (d - 4) ≤ L (d - 3) + L (d - 2))))) := by
  have hb := h.b
  have hn := h.2.2
  unfold mX3_isOffBalance mX3_isOffBalance_27
  simp (disch := omega) only [n0, n1, n2, n3, n4, q_lt, bz_0, bz_1]
  by_cases z : d < 3
  · rw [if_pos z, if_pos (by omega), decide_eq_false (by omega)]; rfl
  · have l3 := h.L (show d - 3 < d by omega)
    have l2 := h.L (show d - 2 < d by omega)
    have l1 := h.L (show d - 1 < d by omega)
    rw [if_neg z, e_fromTop h (show 2 < d by omega), e_fromTop h (show 1 < d by omega), e_fromTop h (show 0 < d by omega), show d - 1 - 2 = d - 3 by omega, show d - 1 - 1 = d - 2 by omega, Nat.sub_zero]
    simp (disch := omega) only [bd1_r, nI_add, q_le]
    by_cases y : L (d - 3) ≤ L (d - 2) + L (d - 1)
    · rw [if_pos y, decide_eq_true (by omega)]; rfl
    · rw [if_neg y]
      by_cases x : d < 4
      · rw [if_pos x, decide_eq_false (by omega)]; rfl
      · have l4 := h.L (show d - 4 < d by omega)
        rw [if_neg x, e_fromTop h (show 3 < d by omega), show d - 1 - 3 = d - 4 by omega]
        simp (disch := omega) only [bd1_r, nI_add, q_lt]
        by_cases u : L (d - 3) + L (d - 2) < L (d - 4)
        · rw [if_pos u, decide_eq_false (by omega)]; rfl
        · rw [if_neg u, decide_eq_true (by omega)]; rfl
theorem e_byLen {F n d w pol : Nat} {pf lf : Nat → Int32} {L : Nat → Nat} (h : SR n d w pf lf L) (hp : pol < 3) : mX3_firstByLengths F (nI pol) (nI d) lf = some (enc (dueL pol d L)) := by
  have hb := h.b
  have hn := h.2.2
  unfold mX3_firstByLengths dueL
  simp (disch := omega) only [n0, n1, n2, n4, q_eq, q_le]
  by_cases p0 : pol = 0
  · rw [if_pos p0, if_pos (Or.inl p0)]; rfl
  · rw [if_neg p0]
    by_cases hd : 2 ≤ d
    · have l2 := h.L (show d - 2 < d by omega)
      have l1 := h.L (show d - 1 < d by omega)
      rw [if_pos hd, if_neg (show ¬ (pol = 0 ∨ d < 2) by omega), e_fromTop h (show 1 < d by omega), e_fromTop h (show 0 < d by omega), show d - 1 - 1 = d - 2 by omega, Nat.sub_zero, e_off h hd, e_lower h hd]
      simp (disch := omega) only [bd1_r, pk_mul, q_lt, b2i_0]
      by_cases p1 : pol = 1
      · rw [if_pos p1, if_pos p1]
        by_cases y : 2 * L (d - 1) < L (d - 2)
        · rw [if_pos y, if_neg (by omega)]; rfl
        · rw [if_neg y, if_pos (by omega), q_sub hd]; rfl
      · rw [if_neg p1, if_neg p1]
        by_cases q : (3 ≤ d ∧ L (d - 3) ≤ L (d - 2) + L (d - 1)) ∨ (4 ≤ d ∧ L (d - 4) ≤ L (d - 3) + L (d - 2))
        · rw [if_neg (by rw [decide_eq_true q]; decide), if_pos q]; rfl
        · rw [if_pos (decide_eq_false q), if_neg q]
          by_cases y : L (d - 1) < L (d - 2)
          · rw [if_pos y, if_neg (by omega)]; rfl
          · rw [if_neg y, if_pos (by omega), q_sub hd]; rfl
    · rw [if_neg hd, if_pos (Or.inr (by omega))]; rfl
theorem dueL_lt {pol d i : Nat} {L : Nat → Nat} (h : dueL pol d L = some i) : i < d := by
  have := dueM_lt (n := 0) (pol := pol) (d := d) (w := 0) (L := L) (i := i) (by unfold dueM; rw [if_neg (by omega), h])
  omega
/-- the class -/
theorem e_due {F n d w pol : Nat} {pf lf : Nat → Int32} {L : Nat → Nat} (hF : 1000 ≤ F) (h : SR n d w pf lf L) (hp : pol < 3) : mX3_firstToMerge F (nI n) (nI pol) (nI d) (nI (psum L d + w)) (nI w) pf lf = some (enc (dueM n pol d w L)) := by
  have hb := h.b
  have hn := h.2.2
  have hs := h.2.1
  unfold mX3_firstToMerge dueM
  rw [e_byLen h hp]
  simp (disch := omega) only [n0, n4, bd1_r, q_le]
  by_cases hw : 0 < w
  · rw [if_neg (show ¬ w ≤ 0 by omega), if_pos hw]
    unfold mX3_firstByPowers mX3_firstByPowers_43
    simp (disch := omega) only [n0, n1, n2, n4, q_eq, q_lt, x00, x10, if_true, if_false]
    by_cases p0 : pol = 0
    · rw [if_pos p0]
      by_cases hd : d < 2
      · rw [if_pos hd, if_neg (show ¬ (pol = 0 ∧ 2 ≤ d ∧ _) by omega)]; rfl
      · have l2 := h.l (show d - 2 < d by omega)
        have l1 := h.l (show d - 1 < d by omega)
        have e1 : psum L (d - 1) = psum L (d - 2) + L (d - 2) := by rw [show d - 1 = (d - 2) + 1 by omega, psum]
        have e2 : psum L d = psum L (d - 1) + L (d - 1) := by rw [show d = (d - 1) + 1 by omega, psum]; simp
        have b1 := pw_le (n := n) (a := psum L (d - 2)) (p := L (d - 2)) (q := L (d - 1)) (by omega) (by omega) (by omega) hn
        have b2 := pw_le (n := n) (a := psum L (d - 1)) (p := L (d - 1)) (q := w) (by omega) (by omega) (by omega) hn
        rw [if_neg hd, q_sub (show 2 ≤ d by omega), q_sub (show 1 ≤ d by omega), e_power hF h (show d - 2 < d by omega), e_power hF h (show d - 1 < d by omega), if_neg (show ¬ d - 2 + 1 = d by omega), if_pos (show d - 1 + 1 = d by omega), if_neg (show ¬ w = 0 by omega), show d - 2 + 1 = d - 1 by omega]
        simp (disch := omega) only [bd1_r, q_le]
        by_cases y : pw n (psum L (d - 2)) (L (d - 2)) (L (d - 1)) ≤ pw n (psum L (d - 1)) (L (d - 1)) w
        · rw [if_pos y, if_neg (by omega)]; rfl
        · rw [if_neg y, if_pos (by omega)]; rfl
    · rw [if_neg p0, if_neg (show ¬ (pol = 0 ∧ 2 ≤ d ∧ _) by omega)]; rfl
  · have w0 : w = 0 := by omega
    subst w0
    rw [if_pos (Nat.le_refl 0), if_neg hw, Nat.add_zero]
    cases hq : dueL pol d L with
    | some i =>
      have := dueL_lt hq
      rw [if_neg (show ¬ enc (some i) = -nI 4 from q_neg (by omega) (by decide) (by decide))]
    | none =>
      simp only [enc, if_true]
      by_cases hin : n ≤ psum L d
      · rw [if_pos hin]
        unfold mX3_firstAtTheEnd mX3_firstAtTheEnd_31
        simp (disch := omega) only [n0, n1, n2, n4, q_eq, q_le, x00, x10, if_true, if_false]
        by_cases hd : 2 ≤ d
        · rw [if_pos hd, if_neg (show ¬ (psum L d < n ∨ d < 2) by omega), q_sub hd, e_lower h hd]
          simp only [bd1_r]
          by_cases p2 : pol = 2
          · rw [if_neg (by omega), if_neg (by omega), if_pos p2]; rfl
          · rw [if_neg p2]
            by_cases p0 : pol = 0
            · rw [if_pos p0]; rfl
            · rw [if_neg p0, if_pos (by omega)]; rfl
        · rw [if_neg hd, if_pos (show psum L d < n ∨ d < 2 by omega)]; rfl
      · rw [if_neg hin, if_pos (show psum L d < n ∨ d < 2 by omega)]
/-! the reference -/
def lv (d : Nat) (L : Nat → Nat) (k : Nat) : Nat := if k < d then L (d - 1 - k) else 0
theorem y_308 {F n d w pol : Nat} {ra rm rul : Nat → Int32} {L : Nat → Nat} (hF : 1000 ≤ F) (h : SR n d w ra rm L) (hp : pol < 3) (hr : rul 1 = nI pol) : mX6_mergeNext_308 F (nI n) (nI d) (nI w) rul rm (nI (lv d L 0)) (nI (lv d L 2)) = some (enc (if psum L d + w < n ∨ d < 2 then none else some (if pol = 2 then lowP d L else d - 2))) := by
  have hb := h.b
  have hn := h.2.2
  have hs := h.2.1
  unfold mX6_mergeNext_308 mX6_mergeNext_362
  rw [y_inRuns hF h]
  simp (disch := omega) only [n1, n2, n4, n3, bd1_r, q_lt, q_le, q_ck, q_cl, hr, q_eq]
  by_cases z : psum L d + w < n
  · rw [if_pos z, if_pos (Or.inl z)]; rfl
  · rw [if_neg z]
    by_cases hd : 2 ≤ d
    · rw [if_pos hd, if_neg (show ¬ (psum L d + w < n ∨ d < 2) by omega), q_sub hd]
      by_cases p2 : pol = 2
      · rw [if_pos p2, if_pos p2]
        unfold lowP
        by_cases d2 : d ≤ 2
        · rw [if_pos d2, if_neg (show ¬ (3 ≤ d ∧ _) by omega)]; rfl
        · have l3 := h.L (show d - 3 < d by omega)
          have l1 := h.L (show d - 1 < d by omega)
          have e0 : lv d L 0 = L (d - 1) := by unfold lv; rw [if_pos (by omega), Nat.sub_zero]
          have e2 : lv d L 2 = L (d - 3) := by unfold lv; rw [if_pos (by omega), show d - 1 - 2 = d - 3 by omega]
          rw [if_neg d2, e0, e2]
          simp (disch := omega) only [q_le]
          by_cases y : L (d - 1) ≤ L (d - 3)
          · rw [if_pos y, if_neg (by omega)]; rfl
          · rw [if_neg y, if_pos (by omega), q_sub (by omega)]; rfl
      · rw [if_neg p2, if_neg p2]; rfl
    · rw [if_neg hd, if_pos (show psum L d + w < n ∨ d < 2 by omega)]; rfl
theorem y_94 {F n d w pol : Nat} {ra rm rul : Nat → Int32} {L : Nat → Nat} (hF : 1000 ≤ F) (h : SR n d w ra rm L) (hp : pol < 3) (hr : rul 1 = nI pol) : mX6_mergeNext_94 F (nI n) (nI d) (nI w) rul ra rm (nI (lv d L 0)) (nI (lv d L 1)) (nI (lv d L 2)) (nI (lv d L 3)) = some (enc (dueM n pol d w L)) := by
  have hb := h.b
  have hn := h.2.2
  have hs := h.2.1
  have h308 := y_308 hF h hp hr
  have hl : ∀ k, lv d L k ≤ 96 := by
    intro k
    unfold lv
    split
    · exact h.L (by omega)
    · omega
  have l0 := hl 0
  have l1 := hl 1
  have l2 := hl 2
  have l3 := hl 3
  have e0 : 0 < d → lv d L 0 = L (d - 1) := fun q => by unfold lv; rw [if_pos q, Nat.sub_zero]
  have e1 : 1 < d → lv d L 1 = L (d - 2) := fun q => by unfold lv; rw [if_pos q, show d - 1 - 1 = d - 2 by omega]
  have e2 : 2 < d → lv d L 2 = L (d - 3) := fun q => by unfold lv; rw [if_pos q, show d - 1 - 2 = d - 3 by omega]
  have e3 : 3 < d → lv d L 3 = L (d - 4) := fun q => by unfold lv; rw [if_pos q, show d - 1 - 3 = d - 4 by omega]
  unfold mX6_mergeNext_94 dueM
  simp (disch := omega) only [n0, n1, n2, q_le, q_ck, q_cl, hr, q_eq, pk_mul, q_lt]
  by_cases hw : 0 < w
  · rw [if_neg (show ¬ w ≤ 0 by omega), if_pos hw]
    unfold mX6_mergeNext_165
    simp only [n0, n2, n4, z00, z10, if_true, if_false]
    by_cases p0 : pol = 0
    · rw [if_pos p0]
      by_cases hd : d ≤ 1
      · rw [if_pos hd, if_neg (show ¬ (pol = 0 ∧ 2 ≤ d ∧ _) by omega)]; rfl
      · have m2 := h.l (show d - 2 < d by omega)
        have m1 := h.l (show d - 1 < d by omega)
        have f1 : psum L (d - 1) = psum L (d - 2) + L (d - 2) := by rw [show d - 1 = (d - 2) + 1 by omega, psum]
        have f2 : psum L d = psum L (d - 1) + L (d - 1) := by rw [show d = (d - 1) + 1 by omega, psum]; simp
        have b1 := pw_le (n := n) (a := psum L (d - 2)) (p := L (d - 2)) (q := L (d - 1)) (by omega) (by omega) (by omega) hn
        have b2 := pw_le (n := n) (a := psum L (d - 1)) (p := L (d - 1)) (q := w) (by omega) (by omega) (by omega) hn
        rw [if_neg hd, q_sub (show 2 ≤ d by omega), q_sub (show 1 ≤ d by omega), q_ck (by omega) (by omega), q_cl (by omega), m2.1, e0 (by omega), e1 (by omega), y_power hF (by omega) (by omega) (by omega) hn]
        simp only [bd1_r]
        rw [q_ck (by omega) (by omega), q_cl (by omega), m1.1, y_power hF (by omega) (by omega) (by omega) hn]
        simp (disch := omega) only [bd1_r, q_le]
        by_cases y : pw n (psum L (d - 2)) (L (d - 2)) (L (d - 1)) ≤ pw n (psum L (d - 1)) (L (d - 1)) w
        · rw [if_pos y, if_neg (by omega)]; rfl
        · rw [if_neg y, if_pos (by omega)]; rfl
    · rw [if_neg p0, if_neg (show ¬ (pol = 0 ∧ 2 ≤ d ∧ _) by omega)]; rfl
  · have w0 : w = 0 := by omega
    subst w0
    rw [if_pos (Nat.le_refl 0), if_neg hw]
    rw [Nat.add_zero] at h308
    obtain ⟨E0, hE0⟩ : ∃ E0, E0 = some (enc (if psum L d < n ∨ d < 2 then none else some (if pol = 2 then lowP d L else d - 2))) := ⟨_, rfl⟩
    rw [← hE0] at h308
    have h278 : mX6_mergeNext_278 F (nI n) (nI d) (nI 0) rul rm (nI (lv d L 0)) (nI (lv d L 1)) (nI (lv d L 2)) = (if pol = 2 then (if d ≤ 1 then E0 else if lv d L 0 < lv d L 1 then E0 else some (nI d - nI 2)) else E0) := by
      unfold mX6_mergeNext_278
      simp (disch := omega) only [n1, n2, q_ck, q_cl, hr, q_eq, q_le, q_lt]
      rw [h308]
    have h257 : mX6_mergeNext_257 F (nI d) (nI (lv d L 0)) (nI (lv d L 2)) = (if lv d L 0 ≤ lv d L 2 then some (nI d - nI 2) else some (nI d - nI 3)) := by
      unfold mX6_mergeNext_257
      simp (disch := omega) only [n2, n3, q_le]
    have h241 : mX6_mergeNext_241 F (nI n) (nI d) (nI 0) rul rm (nI (lv d L 0)) (nI (lv d L 1)) (nI (lv d L 2)) (nI (lv d L 3)) = (if d ≤ 3 then mX6_mergeNext_278 F (nI n) (nI d) (nI 0) rul rm (nI (lv d L 0)) (nI (lv d L 1)) (nI (lv d L 2)) else if lv d L 2 + lv d L 1 < lv d L 3 then mX6_mergeNext_278 F (nI n) (nI d) (nI 0) rul rm (nI (lv d L 0)) (nI (lv d L 1)) (nI (lv d L 2)) else mX6_mergeNext_257 F (nI d) (nI (lv d L 0)) (nI (lv d L 2))) := by
      unfold mX6_mergeNext_241
      simp (disch := omega) only [n3, q_le, q_lt, nI_add]
    have h216 : mX6_mergeNext_216 F (nI n) (nI d) (nI 0) rul rm (nI (lv d L 0)) (nI (lv d L 1)) (nI (lv d L 2)) (nI (lv d L 3)) = (if pol = 2 then (if d ≤ 2 then mX6_mergeNext_241 F (nI n) (nI d) (nI 0) rul rm (nI (lv d L 0)) (nI (lv d L 1)) (nI (lv d L 2)) (nI (lv d L 3)) else if lv d L 2 ≤ lv d L 1 + lv d L 0 then mX6_mergeNext_257 F (nI d) (nI (lv d L 0)) (nI (lv d L 2)) else mX6_mergeNext_241 F (nI n) (nI d) (nI 0) rul rm (nI (lv d L 0)) (nI (lv d L 1)) (nI (lv d L 2)) (nI (lv d L 3))) else mX6_mergeNext_278 F (nI n) (nI d) (nI 0) rul rm (nI (lv d L 0)) (nI (lv d L 1)) (nI (lv d L 2))) := by
      unfold mX6_mergeNext_216
      simp (disch := omega) only [n1, n2, q_ck, q_cl, hr, q_eq, q_le, nI_add]
    rw [h216, h241, h278, h257]
    unfold dueL
    by_cases p1 : pol = 1
    · rw [if_pos p1, if_neg (show ¬ pol = 2 by omega), if_neg (show ¬ pol = 2 by omega)]
      by_cases hd : d ≤ 1
      · rw [if_pos hd, if_pos (show pol = 0 ∨ d < 2 by omega)]; exact hE0
      · rw [if_neg hd, if_neg (show ¬ (pol = 0 ∨ d < 2) by omega), if_pos p1, e0 (by omega), e1 (by omega)]
        by_cases y : 2 * L (d - 1) < L (d - 2)
        · rw [if_pos y, if_neg (show ¬ L (d - 2) ≤ 2 * L (d - 1) by omega)]; exact hE0
        · rw [if_neg y, if_pos (show L (d - 2) ≤ 2 * L (d - 1) by omega), q_sub (by omega)]; rfl
    · rw [if_neg p1]
      by_cases p2 : pol = 2
      · rw [if_pos p2, if_pos p2]
        by_cases hd : d ≤ 1
        · rw [if_pos (show d ≤ 2 by omega), if_pos (show d ≤ 3 by omega), if_pos hd, if_pos (show pol = 0 ∨ d < 2 by omega)]; exact hE0
        · rw [if_neg (show ¬ (pol = 0 ∨ d < 2) by omega), if_neg p1, e0 (by omega), e1 (by omega), if_neg hd]
          have q278 : ¬ ((3 ≤ d ∧ L (d - 3) ≤ L (d - 2) + L (d - 1)) ∨ (4 ≤ d ∧ L (d - 4) ≤ L (d - 3) + L (d - 2))) → (if L (d - 1) < L (d - 2) then E0 else some (nI d - nI 2)) = some (enc (match (if (3 ≤ d ∧ L (d - 3) ≤ L (d - 2) + L (d - 1)) ∨ (4 ≤ d ∧ L (d - 4) ≤ L (d - 3) + L (d - 2)) then some (lowP d L) else if L (d - 2) ≤ L (d - 1) then some (d - 2) else none) with | some i => some i | none => if psum L d < n ∨ d < 2 then none else some (if pol = 2 then lowP d L else d - 2))) := by
            intro hno
            rw [if_neg hno]
            by_cases y : L (d - 1) < L (d - 2)
            · rw [if_pos y, if_neg (show ¬ L (d - 2) ≤ L (d - 1) by omega)]; exact hE0
            · rw [if_neg y, if_pos (show L (d - 2) ≤ L (d - 1) by omega), q_sub (by omega)]; rfl
          by_cases d2 : d ≤ 2
          · rw [if_pos d2, if_pos (show d ≤ 3 by omega)]
            exact q278 (by omega)
          · have hlow : (if L (d - 1) ≤ lv d L 2 then some (nI d - nI 2) else some (nI d - nI 3)) = some (nI (lowP d L)) := by
              unfold lowP
              rw [e2 (by omega)]
              by_cases y : L (d - 1) ≤ L (d - 3)
              · rw [if_pos y, if_neg (by omega), q_sub (by omega)]
              · rw [if_neg y, if_pos (by omega), q_sub (by omega)]
            rw [if_neg d2, hlow, e2 (by omega)]
            by_cases y : L (d - 3) ≤ L (d - 2) + L (d - 1)
            · rw [if_pos y, if_pos (Or.inl ⟨by omega, y⟩)]; rfl
            · rw [if_neg y]
              by_cases d3 : d ≤ 3
              · rw [if_pos d3]
                exact q278 (by omega)
              · rw [if_neg d3, e3 (by omega)]
                by_cases y3 : L (d - 3) + L (d - 2) < L (d - 4)
                · rw [if_pos y3]
                  exact q278 (by omega)
                · rw [if_neg y3, if_pos (Or.inr ⟨by omega, by omega⟩)]; rfl
      · rw [if_neg p2, if_neg p2, if_pos (show pol = 0 ∨ d < 2 by omega)]; exact hE0
theorem y_due {F n d w pol : Nat} {ra rm rul : Nat → Int32} {L : Nat → Nat} (hF : 1000 ≤ F) (h : SR n d w ra rm L) (hp : pol < 3) (hr : rul 1 = nI pol) : mX6_mergeNext F (nI n) (nI d) (nI w) rul ra rm = some (enc (dueM n pol d w L)) := by
  have hb := h.b
  have hn := h.2.2
  have h94 := y_94 hF h hp hr
  have hrm : ∀ k, k < d → rm (d - 1 - k) = nI (lv d L k) := fun k hk => by
    unfold lv; rw [if_pos hk, (h.l (show d - 1 - k < d by omega)).2.1]
  have h0 : ∀ k, ¬ k < d → lv d L k = 0 := fun k hk => by unfold lv; rw [if_neg hk]
  unfold mX6_mergeNext mX6_mergeNext_22 mX6_mergeNext_46 mX6_mergeNext_70
  simp (disch := omega) only [n0, n1, n2, n3, n4, q_le]
  by_cases z4 : 3 < d
  · rw [if_neg (show ¬ d ≤ 0 by omega), q_sub (show 1 ≤ d by omega), q_ck (by omega) (by omega), q_cl (by omega), if_neg (show ¬ d ≤ 1 by omega), q_sub (show 2 ≤ d by omega), q_ck (by omega) (by omega), q_cl (by omega), if_neg (show ¬ d ≤ 2 by omega), q_sub (show 3 ≤ d by omega), q_ck (by omega) (by omega), q_cl (by omega), if_neg (show ¬ d ≤ 3 by omega), q_sub (show 4 ≤ d by omega), q_ck (by omega) (by omega), q_cl (by omega), show d - 1 = d - 1 - 0 by omega, hrm 0 (by omega), show d - 2 = d - 1 - 1 by omega, hrm 1 (by omega), show d - 3 = d - 1 - 2 by omega, hrm 2 (by omega), show d - 4 = d - 1 - 3 by omega, hrm 3 (by omega)]
    exact h94
  · rw [h0 3 z4] at h94
    by_cases z3 : 2 < d
    · rw [if_neg (show ¬ d ≤ 0 by omega), q_sub (show 1 ≤ d by omega), q_ck (by omega) (by omega), q_cl (by omega), if_neg (show ¬ d ≤ 1 by omega), q_sub (show 2 ≤ d by omega), q_ck (by omega) (by omega), q_cl (by omega), if_neg (show ¬ d ≤ 2 by omega), q_sub (show 3 ≤ d by omega), q_ck (by omega) (by omega), q_cl (by omega), if_pos (show d ≤ 3 by omega), show d - 1 = d - 1 - 0 by omega, hrm 0 (by omega), show d - 2 = d - 1 - 1 by omega, hrm 1 (by omega), show d - 3 = d - 1 - 2 by omega, hrm 2 (by omega)]
      exact h94
    · rw [h0 2 z3] at h94
      by_cases z2 : 1 < d
      · rw [if_neg (show ¬ d ≤ 0 by omega), q_sub (show 1 ≤ d by omega), q_ck (by omega) (by omega), q_cl (by omega), if_neg (show ¬ d ≤ 1 by omega), q_sub (show 2 ≤ d by omega), q_ck (by omega) (by omega), q_cl (by omega), if_pos (show d ≤ 2 by omega), if_pos (show d ≤ 3 by omega), show d - 1 = d - 1 - 0 by omega, hrm 0 (by omega), show d - 2 = d - 1 - 1 by omega, hrm 1 (by omega)]
        exact h94
      · rw [h0 1 z2] at h94
        by_cases z1 : 0 < d
        · rw [if_neg (show ¬ d ≤ 0 by omega), q_sub (show 1 ≤ d by omega), q_ck (by omega) (by omega), q_cl (by omega), if_pos (show d ≤ 1 by omega), if_pos (show d ≤ 2 by omega), if_pos (show d ≤ 3 by omega), show d - 1 = d - 1 - 0 by omega, hrm 0 (by omega)]
          exact h94
        · rw [h0 0 z1] at h94
          rw [if_pos (show d ≤ 0 by omega), if_pos (show d ≤ 1 by omega), if_pos (show d ≤ 2 by omega), if_pos (show d ≤ 3 by omega)]
          exact h94
/-! the kind of the next STEP -/
def knd (n pol d w : Nat) (L : Nat → Nat) : Nat := match dueM n pol d w L with | some _ => 3 | none => if 0 < w then 1 else if psum L d < n then 2 else 0
theorem e_kind {F n d w pol : Nat} {pf lf : Nat → Int32} {L : Nat → Nat} (hF : 1000 ≤ F) (h : SR n d w pf lf L) (hp : pol < 3) : mX3_kindOfNext F (nI n) (nI pol) (nI d) (nI (psum L d + w)) (nI w) pf lf = some (nI (knd n pol d w L)) := by
  have hb := h.b
  have hn := h.2.2
  have hs := h.2.1
  unfold mX3_kindOfNext knd
  rw [e_due hF h hp]
  simp (disch := omega) only [bd1_r, n0, n1, n2, n3, n4, q_le]
  cases hq : dueM n pol d w L with
  | some i =>
    have := dueM_lt hq
    rw [if_neg (show ¬ enc (some i) = -nI 4 from q_neg (by omega) (by decide) (by decide))]
  | none =>
    simp only [enc, if_true]
    by_cases hw : 0 < w
    · rw [if_neg (by omega), if_pos hw]
    · rw [if_pos (by omega), if_neg hw]
      by_cases y : psum L d < n
      · rw [if_neg (by omega), if_pos y]
      · rw [if_pos (by omega), if_neg y]
theorem y_next {F n d w pol : Nat} {ra rm rul : Nat → Int32} {L : Nat → Nat} (hF : 1000 ≤ F) (h : SR n d w ra rm L) (hp : pol < 3) (hr : rul 1 = nI pol) : mX6_next F (nI n) (nI d) (nI w) rul ra rm = some (nI (knd n pol d w L)) := by
  have hb := h.b
  have hn := h.2.2
  have hs := h.2.1
  unfold mX6_next knd
  rw [y_due hF h hp hr, y_inRuns hF h]
  simp (disch := omega) only [bd1_r, n0, n1, n2, n3, n4, q_le]
  cases hq : dueM n pol d w L with
  | some i =>
    have := dueM_lt hq
    rw [if_neg (show ¬ enc (some i) = -nI 4 from q_neg (by omega) (by decide) (by decide))]
  | none =>
    simp only [enc, if_true]
    by_cases hw : 0 < w
    · rw [if_neg (by omega), if_pos hw]
    · rw [if_pos (by omega), if_neg hw]
      by_cases y : psum L d < n
      · rw [if_neg (by omega), if_pos y]
      · rw [if_pos (by omega), if_neg y]
