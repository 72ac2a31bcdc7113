/-! the room is filled -/
def rs7 (c : Nat → Int32) (m : Nat) : Nat → Int32 := if nI m ≤ c 7 then c else upd c 7 (nI m)
theorem upd_self (c : Nat → Int32) (k : Nat) : upd c k (c k) = c := by
  funext j
  simp only [upd]
  split
  · next h => rw [h]
  · rfl
theorem rs7_ad {x : Int32 × Int32} {y : Int32} {c : Nat → Int32} {m : Nat} : rs7 (ad x y c) m = ad x y (rs7 c m) := by
  unfold rs7
  rw [ad_7]
  split
  · rfl
  · exact ad_upd (by decide) (by decide) (by decide)
theorem rs7_10 {c : Nat → Int32} {m : Nat} : rs7 c m 10 = c 10 := by unfold rs7; split <;> rfl
theorem rs7_7 {c : Nat → Int32} {m x : Nat} (hx : x ≤ 96) (hm : m ≤ 96) (h : c 7 = nI x) : ∃ z : Nat, z ≤ 96 ∧ rs7 c m 7 = nI z := by
  unfold rs7
  split
  · exact ⟨x, hx, h⟩
  · exact ⟨m, hm, upd_s⟩
theorem e_br2 {F e m : Nat} {rowf roomf c : Nat → Int32} (h1 : e + m ≤ 96) (h2 : m ≤ 48) : ∀ (f i : Nat), i ≤ m → m - i < f →
    mX2_bringIntoRoom_2 F (nI e) (nI 1) (nI m) rowf f (nI i) (va_cpy rowf roomf e 0 i) c = some (va_cpy rowf roomf e 0 m, rs7 (mvs c m) m) := by
  intro f
  induction f with
  | zero => intro i a b; omega
  | succ f ih =>
    intro i ha hb
    rw [mX2_bringIntoRoom_2]
    simp (disch := omega) only [n1, n7, q_le]
    by_cases q : m ≤ i
    · have : i = m := by omega
      subst this
      rw [if_pos q, e_add (by decide) (by decide)]
      simp only [bd1_r]
      rw [e_raise (by decide) (by decide)]
      rfl
    · rw [if_neg q, e_ahead (by omega) (by decide)]
      simp only [bd1_r]
      rw [e_fill (by omega) (by decide)]
      simp only [bd1_r, nI_add]
      have e2 := cpy_s rowf roomf e 0 i
      rw [Nat.zero_add] at e2
      rw [e2]
      exact ih (i + 1) (by omega) (by omega)
theorem e_bring {F e m : Nat} {rowf roomf c : Nat → Int32} (hF : 1000 ≤ F) (h1 : e + m ≤ 96) (h2 : m ≤ 48) : mX2_bringIntoRoom F roomf c (nI e) (nI 1) (nI m) rowf = some (va_cpy rowf roomf e 0 m, rs7 (mvs c m) m) := by
  have h := e_br2 (F := F) (c := c) (rowf := rowf) (roomf := roomf) h1 h2 F 0 (by omega) (by omega)
  rw [cpy_0] at h
  exact h
theorem y_m194 {F e m : Nat} {a0 a1 b0 b1 fw out : Int32} {rul key tag rK rT c : Nat → Int32} (h1 : e + m ≤ 96) : ∀ (f i : Nat), i ≤ m → m - i < f →
    mX6_merge_194 F rul f (nI e) (nI m) (nI i) a0 a1 b0 b1 fw out key tag (va_cpy key rK e 0 i) (va_cpy tag rT e 0 i) c = (if fw = nI 0 then mX6_merge_304 F rul (b1 - nI 1) a0 a1 b0 b1 fw out key tag (va_cpy key rK e 0 m) (va_cpy tag rT e 0 m) (rs7 (mvs c m) m) else mX6_merge_304 F rul a0 a0 a1 b0 b1 fw out key tag (va_cpy key rK e 0 m) (va_cpy tag rT e 0 m) (rs7 (mvs c m) m)) := by
  intro f
  induction f with
  | zero => intro i a b; omega
  | succ f ih =>
    intro i ha hb
    rw [mX6_merge_194]
    simp (disch := omega) only [n0, n1, n7, q_le, nI_add, q_ck, q_cl]
    by_cases q : m ≤ i
    · have : i = m := by omega
      subst this
      rw [if_pos q]
      unfold mX6_merge_282
      simp (disch := omega) only [n0, n1, q_ck, q_cl]
      have e7 : upd c 1 (c 1 + nI i) 7 = c 7 := rfl
      unfold rs7 mvs
      rw [e7]
      by_cases q7 : nI i ≤ c 7
      · rw [if_pos q7, if_pos q7, ← e7, upd_self]
      · rw [if_neg q7, if_neg q7]
    · rw [if_neg q]
      have e2 := cpy_s key rK e 0 i
      have e3 := cpy_s tag rT e 0 i
      rw [Nat.zero_add] at e2 e3
      rw [e2, e3]
      exact ih (i + 1) (by omega) (by omega)
/-! singly, whole -/
theorem sgl_f {F n o ln a0 a1 b0 b1 out : Nat} {x : Int32 × Int32} {y : Int32} {rul rowf roomf key tag rK rT c : Nat → Int32} (hF : 1000 ≤ F) (ho : o < 4) (hr : rul 0 = nI o) (hc : c 10 = nI ln) (hln : 1 ≤ ln ∧ ln ≤ 9) (hM : MF n a0 a1 b0 b1 out rowf roomf key tag rK rT) :
    ∃ (a0' a1' b0' b1' out' : Nat) (fl : Bool) (rowf' key' tag' c' : Nat → Int32), mX2_takeSingly_f F (nI out) (nI 1) rowf roomf c (nI o) (nI a0) (nI 1) (nI (a1 - a0)) (nI b0) (nI 1) (nI (b1 - b0)) = some (b2i fl, nI out', rowf', c', nI a0', nI (a1' - a0'), nI b0', nI (b1' - b0')) ∧
      mX6_singly F (nI a0) (nI a1) (nI b0) (nI b1) (nI 1) (nI out) rul key tag rK rT (ad x y c) = some (nI a0', nI a1', nI b0', nI b1', nI out', key', tag', ad x y c') ∧
      MF n a0' a1' b0' b1' out' rowf' roomf key' tag' rK rT ∧ (∀ j, 2 ≤ j → c' j = c j) ∧ (a0' < a1' → b0' < b1' → fl = true) ∧ (a0 < a1 → b0 < b1 → (a1' - a0') + (b1' - b0') < (a1 - a0) + (b1 - b0)) := by
  have hM' := hM
  obtain ⟨h1, h2, h3, h4, h5, h6, -⟩ := hM'
  obtain ⟨p1, p2, p3, p4, p5, p6, p7, p8, p9, p10, r1, r2, r3, r4, r5, r6, r7⟩ := sg4_f (x := x) (y := y) hF ho hr hln F F a0 a1 b0 b1 out 0 0 false false rowf key tag c hM hc (by omega) (Or.inl rfl) (by omega) (by omega) (by omega)
  refine ⟨p1, p2, p3, p4, p5, decide (ln ≤ p6), p7, p8, p9, p10, ?_, r2, r3, r4, fun u v => decide_eq_true (r5 u v), fun u v => r7 u v (by omega)⟩
  unfold mX2_takeSingly_f
  rw [n10, e_look (by decide) (by decide), hc]
  exact r1
theorem sgl_b {F n o ln a0 a1 b0 b1 out : Nat} {x : Int32 × Int32} {y : Int32} {rul rowf roomf key tag rK rT c : Nat → Int32} (hF : 1000 ≤ F) (ho : o < 4) (hr : rul 0 = nI o) (hc : c 10 = nI ln) (hln : 1 ≤ ln ∧ ln ≤ 9) (hM : MB n a0 a1 b0 b1 out rowf roomf key tag rK rT) :
    ∃ (a0' a1' b0' b1' out' : Nat) (fl : Bool) (rowf' key' tag' c' : Nat → Int32), mX2_takeSingly_b F (tI out) (-nI 1) rowf roomf c (nI o) (tI a1) (-nI 1) (nI (a1 - a0)) (tI b1) (-nI 1) (nI (b1 - b0)) = some (b2i fl, tI out', rowf', c', tI a1', nI (a1' - a0'), tI b1', nI (b1' - b0')) ∧
      mX6_singly F (nI a0) (nI a1) (nI b0) (nI b1) (nI 0) (tI out) rul key tag rK rT (ad x y c) = some (nI a0', nI a1', nI b0', nI b1', tI out', key', tag', ad x y c') ∧
      MB n a0' a1' b0' b1' out' rowf' roomf key' tag' rK rT ∧ (∀ j, 2 ≤ j → c' j = c j) ∧ (a0' < a1' → b0' < b1' → fl = true) ∧ (a0 < a1 → b0 < b1 → (a1' - a0') + (b1' - b0') < (a1 - a0) + (b1 - b0)) := by
  have hM' := hM
  obtain ⟨h1, h2, h3, h4, h5, h6, -⟩ := hM'
  obtain ⟨p1, p2, p3, p4, p5, p6, p7, p8, p9, p10, r1, r2, r3, r4, r5, r6, r7⟩ := sg4_b (x := x) (y := y) hF ho hr hln F F a0 a1 b0 b1 out 0 0 false false rowf key tag c hM hc (by omega) (Or.inl rfl) (by omega) (by omega) (by omega)
  refine ⟨p1, p2, p3, p4, p5, decide (ln ≤ p6), p7, p8, p9, p10, ?_, r2, r3, r4, fun u v => decide_eq_true (r5 u v), fun u v => r7 u v (by omega)⟩
  unfold mX2_takeSingly_b
  rw [n10, e_look (by decide) (by decide), hc]
  exact r1
