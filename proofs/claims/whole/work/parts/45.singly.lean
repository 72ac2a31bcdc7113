/-! SINGLY -/
theorem z01 : (nI 0 = nI 1) = False := by decide
theorem q_01 : (nI 0 ≤ nI 1) = True := by decide
theorem q_0m : (nI 0 ≤ -nI 1) = False := by decide
theorem e129_f {F ln cnt : Nat} {mt ea la eb lb : Int32} {rowf c : Nat → Int32} (h1 : ln < 2147483648) (h2 : cnt < 2147483648) : mX2_takeSingly_f_129 F (nI ln) (nI cnt) mt rowf c ea la eb lb = some (b2i (decide (ln ≤ cnt)), mt, rowf, c, ea, la, eb, lb) := by
  unfold mX2_takeSingly_f_129
  simp (disch := omega) only [n0, n1, q_lt, bz_0, bz_1]
  by_cases h : cnt < ln
  · rw [if_pos h, show decide (ln ≤ cnt) = false by simp; omega]; rfl
  · rw [if_neg h, show decide (ln ≤ cnt) = true by simp; omega]; rfl
set_option maxHeartbeats 4000000 in
/-- one by one, f -/
theorem sg4_f {F n o ln : Nat} {x : Int32 × Int32} {y : Int32} {rul roomf rK rT : Nat → Int32} (hF : 1000 ≤ F) (ho : o < 4) (hr : rul 0 = nI o) (hln : 1 ≤ ln ∧ ln ≤ 9) : ∀ (f g a0 a1 b0 b1 out cnt x4 : Nat) (lA lB : Bool) (rowf key tag c : Nat → Int32), MF n a0 a1 b0 b1 out rowf roomf key tag rK rT → c 10 = nI ln → cnt ≤ ln → (cnt = 0 ∨ lB = !lA) → (a1 - a0) + (b1 - b0) < f → (a1 - a0) + (b1 - b0) < g → x4 + ((a1 - a0) + (b1 - b0)) ≤ 96 →
    ∃ (a0' a1' b0' b1' out' cnt' : Nat) (rowf' key' tag' c' : Nat → Int32), mX2_takeSingly_f_17 F (nI 1) roomf (nI o) (nI 1) (nI 1) f (nI ln) (nI cnt) (b2i lA) (nI x4) (nI out) rowf c (nI a0) (nI (a1 - a0)) (nI b0) (nI (b1 - b0)) = some (b2i (decide (ln ≤ cnt')), nI out', rowf', c', nI a0', nI (a1' - a0'), nI b0', nI (b1' - b0')) ∧
      mX6_singly_4 F (nI 1) rul rK rT g (nI cnt) (b2i lB) (nI a0) (nI a1) (nI b0) (nI b1) (nI out) key tag (ad x y c) = some (nI a0', nI a1', nI b0', nI b1', nI out', key', tag', ad x y c') ∧
      MF n a0' a1' b0' b1' out' rowf' roomf key' tag' rK rT ∧ (∀ j, 2 ≤ j → c' j = c j) ∧ (a0' < a1' → b0' < b1' → ln ≤ cnt') ∧ (a1' - a0') + (b1' - b0') ≤ (a1 - a0) + (b1 - b0) ∧ (a0 < a1 → b0 < b1 → cnt < ln → (a1' - a0') + (b1' - b0') < (a1 - a0) + (b1 - b0)) := by
  intro f
  induction f with
  | zero => intro g a0 a1 b0 b1 out cnt x4 lA lB rowf key tag c _ _ _ _ h; omega
  | succ f ih =>
    intro g a0 a1 b0 b1 out cnt x4 lA lB rowf key tag c hM hc hcnt hl hf hg hx
    cases g with
    | zero => omega
    | succ g =>
    have hM' := hM
    obtain ⟨h1, h2, h3, h4, h5, h6, h7, h8, -⟩ := hM'
    rw [mX2_takeSingly_f_17, mX6_singly_4, y_goes (by omega) (by omega) (by omega) (by omega)]
    simp (disch := omega) only [n0, n1, n96, n10, q_le, bd1_r, b2i_0, q_ck, q_cl, ad_10, hc]
    by_cases hb : a0 < a1 ∧ b0 < b1
    · rw [if_neg (show ¬ 96 ≤ x4 by omega), e_both (by omega) (by omega), show decide (0 < a1 - a0 ∧ 0 < b1 - b0) = true by simp; omega, show decide (a0 < a1 ∧ b0 < b1) = true by simp; omega]
      simp only [bd1_r, b2i_0, Bool.true_eq_false, if_false]
      by_cases hq : ln ≤ cnt
      · rw [if_pos hq, if_pos hq, e129_f (by omega) (by omega)]
        exact ⟨a0, a1, b0, b1, out, cnt, rowf, key, tag, c, rfl, rfl, hM, fun _ _ => rfl, fun _ _ => hq, Nat.le_refl _, fun _ _ h => by omega⟩
      · rw [if_neg hq, if_neg hq]
        obtain ⟨tb, htb, hkb, eb1, eb2, -⟩ := (h7 b0 (by omega)).get
        obtain ⟨ta, hta0, hka, ea1, ea2, -⟩ := (h8 a0 (by omega) (by omega)).get
        generalize ky key b0 = kb at hkb eb1 eb2
        generalize ky rK a0 = ka at hka ea1 ea2
        rw [e_ahead (show b0 + 0 < 96 by omega) (by decide), e_ahead (show a0 + 0 < 48 by omega) (by decide), y_keyB_f (show b0 < 96 by omega), y_keyA_f (show a0 < 96 by omega), Nat.add_zero, Nat.add_zero, eb1, ea1, eb2, ea2]
        simp only [bd1_r, z10, if_false]
        rw [e_isLess ho hkb (by omega) hka (by omega), y_tests hr ho hkb hka]
        rw [ad_tst]
        simp only [bd1_r, bd2_r, q_01, if_true]
        have hcc : ∀ j, 2 ≤ j → (mvs (tst c 1) 1) j = c j := fun j hj => by simp [mvs, tst, upd, show ¬ j = 0 by omega, show ¬ j = 1 by omega]
        cases hL : less o kb ka with
        | false =>
          -- A is taken
          unfold mX2_takeSingly_f_75 mX2_takeSingly_f_83 mX2_takeSingly_f_98 mX2_takeSingly_f_119a mX6_singly_84 mX6_singly_101
          obtain ⟨cn, hcn, hcn1, hcn2, hcn3⟩ : ∃ cn : Nat, cn ≤ ln ∧ 1 ≤ cn ∧ nI cn = (if true = lA then nI (cnt + 1) else nI 1) ∧ nI cn = (if cnt = 0 then nI (cnt + 1) else if false = lB then nI (cnt + 1) else nI 1) := by
            rcases hl with hl | hl
            · subst hl; exact ⟨1, hln.1, Nat.le_refl _, by cases lA <;> rfl, rfl⟩
            · subst hl
              cases lA
              · exact ⟨1, hln.1, Nat.le_refl _, rfl, by by_cases z : cnt = 0 <;> simp [z]⟩
              · exact ⟨cnt + 1, by omega, by omega, rfl, by by_cases z : cnt = 0 <;> simp [z]⟩
          have hcz : (nI cnt = nI 0) = (cnt = 0) := q_eq (by omega) (by decide)
          have hta := e_tkA_f (F := F) (a0 := a0) (out := out) (m := 1) (la := a1 - a0) (roomf := roomf) (c := tst c 1) (rowf := rowf) hF (by omega) (by omega) (by omega)
          have hya := y_tkA_f (F := F) (a0 := a0) (a1 := a1) (out := out) (m := 1) (rK := rK) (rT := rT) (c := ad x y (tst c 1)) (key := key) (tag := tag) hF (by omega) (by omega)
          simp (disch := omega) only [n0, n1, b2i_t, b2i_f, z10, z00, z01, if_true, if_false, hta, hya, ad_mvs, bd5_r, bd6_r, nI_add, hcz]
          have hT : ∀ (K : Int32 → Option (Int32 × Int32 × (Nat → Int32) × (Nat → Int32) × Int32 × Int32 × Int32 × Int32)), (if nI 1 = b2i lA then K (nI (cnt + 1)) else K (nI 1)) = K (nI cn) := fun K => by
            rw [hcn2]; cases lA <;> rfl
          have hT2 : ∀ (K : Int32 → Option (Int32 × Int32 × Int32 × Int32 × Int32 × (Nat → Int32) × (Nat → Int32) × (Nat → Int32))), (if cnt = 0 then K (nI (cnt + 1)) else if nI 0 = b2i lB then K (nI (cnt + 1)) else K (nI 1)) = K (nI cn) := fun K => by
            rw [hcn3]; by_cases z : cnt = 0
            · rw [if_pos z, if_pos z]
            · rw [if_neg z, if_neg z]; cases lB <;> rfl
          rw [hT (fun z => mX2_takeSingly_f_17 F (nI 1) roomf (nI o) (nI 1) (nI 1) f (nI ln) z (nI 1) (nI (x4 + 1)) (nI (out + 1)) (va_cpy roomf rowf a0 out 1) (mvs (tst c 1) 1) (nI (a0 + 1)) (nI (a1 - a0 - 1)) (nI b0) (nI (b1 - b0))), hT2 (fun z => mX6_singly_4 F (nI 1) rul rK rT g z (nI 0) (nI (a0 + 1)) (nI a1) (nI b0) (nI b1) (nI (out + 1)) (va_cpy rK key a0 out 1) (va_cpy rT tag a0 out 1) (ad x y (mvs (tst c 1) 1)))]
          obtain ⟨p1, p2, p3, p4, p5, p6, p7, p8, p9, p10, r1, r2, r3, r4, r5, r6, r7⟩ := ih g (a0 + 1) a1 b0 b1 (out + 1) cn (x4 + 1) true false _ _ _ (mvs (tst c 1) 1) (MF.A hM (m := 1) (by omega)) (by rw [hcc 10 (by decide), hc]) hcn (Or.inr rfl) (by omega) (by omega) (by omega)
          rw [show a1 - (a0 + 1) = a1 - a0 - 1 by omega] at r1
          exact ⟨p1, p2, p3, p4, p5, p6, p7, p8, p9, p10, r1, r2, r3, fun j hj => by rw [r4 j hj, hcc j hj], r5, by omega, fun _ _ _ => by omega⟩
        | true =>
          unfold mX2_takeSingly_f_75 mX2_takeSingly_f_83 mX2_takeSingly_f_98 mX2_takeSingly_f_119 mX6_singly_84 mX6_singly_101
          obtain ⟨cn, hcn, hcn1, hcn2, hcn3⟩ : ∃ cn : Nat, cn ≤ ln ∧ 1 ≤ cn ∧ nI cn = (if false = lA then nI (cnt + 1) else nI 1) ∧ nI cn = (if cnt = 0 then nI (cnt + 1) else if true = lB then nI (cnt + 1) else nI 1) := by
            rcases hl with hl | hl
            · subst hl; exact ⟨1, hln.1, Nat.le_refl _, by cases lA <;> rfl, rfl⟩
            · subst hl
              cases lA
              · exact ⟨cnt + 1, by omega, by omega, rfl, by by_cases z : cnt = 0 <;> simp [z]⟩
              · exact ⟨1, hln.1, Nat.le_refl _, rfl, by by_cases z : cnt = 0 <;> simp [z]⟩
          have hcz : (nI cnt = nI 0) = (cnt = 0) := q_eq (by omega) (by decide)
          have hta := e_tkB_f (F := F) (b0 := b0) (out := out) (m := 1) (la := b1 - b0) (c := tst c 1) (rowf := rowf) hF (by omega) (by omega) (by omega)
          have hya := y_tkB_f (F := F) (b0 := b0) (b1 := b1) (out := out) (m := 1) (rK := rK) (rT := rT) (c := ad x y (tst c 1)) (key := key) (tag := tag) hF (by omega) (by omega)
          simp (disch := omega) only [n0, n1, b2i_t, b2i_f, z10, z00, z01, if_true, if_false, hta, hya, ad_mvs, bd5_r, bd6_r, nI_add, hcz]
          have hT : ∀ (K : Int32 → Option (Int32 × Int32 × (Nat → Int32) × (Nat → Int32) × Int32 × Int32 × Int32 × Int32)), (if nI 0 = b2i lA then K (nI (cnt + 1)) else K (nI 1)) = K (nI cn) := fun K => by
            rw [hcn2]; cases lA <;> rfl
          have hT2 : ∀ (K : Int32 → Option (Int32 × Int32 × Int32 × Int32 × Int32 × (Nat → Int32) × (Nat → Int32) × (Nat → Int32))), (if cnt = 0 then K (nI (cnt + 1)) else if nI 1 = b2i lB then K (nI (cnt + 1)) else K (nI 1)) = K (nI cn) := fun K => by
            rw [hcn3]; by_cases z : cnt = 0
            · rw [if_pos z, if_pos z]
            · rw [if_neg z, if_neg z]; cases lB <;> rfl
          rw [hT (fun z => mX2_takeSingly_f_17 F (nI 1) roomf (nI o) (nI 1) (nI 1) f (nI ln) z (nI 0) (nI (x4 + 1)) (nI (out + 1)) (va_cpy rowf rowf b0 out 1) (mvs (tst c 1) 1) (nI a0) (nI (a1 - a0)) (nI (b0 + 1)) (nI (b1 - b0 - 1))), hT2 (fun z => mX6_singly_4 F (nI 1) rul rK rT g z (nI 1) (nI a0) (nI a1) (nI (b0 + 1)) (nI b1) (nI (out + 1)) (va_cpy key key b0 out 1) (va_cpy tag tag b0 out 1) (ad x y (mvs (tst c 1) 1)))]
          obtain ⟨p1, p2, p3, p4, p5, p6, p7, p8, p9, p10, r1, r2, r3, r4, r5, r6, r7⟩ := ih g a0 a1 (b0 + 1) b1 (out + 1) cn (x4 + 1) false true _ _ _ (mvs (tst c 1) 1) (MF.B hM (m := 1) (by omega)) (by rw [hcc 10 (by decide), hc]) hcn (Or.inr rfl) (by omega) (by omega) (by omega)
          rw [show b1 - (b0 + 1) = b1 - b0 - 1 by omega] at r1
          exact ⟨p1, p2, p3, p4, p5, p6, p7, p8, p9, p10, r1, r2, r3, fun j hj => by rw [r4 j hj, hcc j hj], r5, by omega, fun _ _ _ => by omega⟩
    · rw [show decide (a0 < a1 ∧ b0 < b1) = false by simp; omega]
      simp only [if_true]
      refine ⟨a0, a1, b0, b1, out, cnt, rowf, key, tag, c, ?_, rfl, hM, fun _ _ => rfl, fun p q => absurd ⟨p, q⟩ hb, Nat.le_refl _, fun p q => absurd ⟨p, q⟩ hb⟩
      by_cases hx2 : 96 ≤ x4
      · rw [if_pos hx2, e129_f (by omega) (by omega)]
      · rw [if_neg hx2, e_both (by omega) (by omega), show decide (0 < a1 - a0 ∧ 0 < b1 - b0) = false by simp; omega]
        simp only [bd1_r, b2i_0, if_true]
        rw [e129_f (by omega) (by omega)]
theorem e129_b {F ln cnt : Nat} {mt ea la eb lb : Int32} {rowf c : Nat → Int32} (h1 : ln < 2147483648) (h2 : cnt < 2147483648) : mX2_takeSingly_b_129 F (nI ln) (nI cnt) mt rowf c ea la eb lb = some (b2i (decide (ln ≤ cnt)), mt, rowf, c, ea, la, eb, lb) := by
  unfold mX2_takeSingly_b_129
  simp (disch := omega) only [n0, n1, q_lt, bz_0, bz_1]
  by_cases h : cnt < ln
  · rw [if_pos h, show decide (ln ≤ cnt) = false by simp; omega]; rfl
  · rw [if_neg h, show decide (ln ≤ cnt) = true by simp; omega]; rfl
set_option maxHeartbeats 4000000 in
/-- one by one, b -/
theorem sg4_b {F n o ln : Nat} {x : Int32 × Int32} {y : Int32} {rul roomf rK rT : Nat → Int32} (hF : 1000 ≤ F) (ho : o < 4) (hr : rul 0 = nI o) (hln : 1 ≤ ln ∧ ln ≤ 9) : ∀ (f g a0 a1 b0 b1 out cnt x4 : Nat) (lA lB : Bool) (rowf key tag c : Nat → Int32), MB n a0 a1 b0 b1 out rowf roomf key tag rK rT → c 10 = nI ln → cnt ≤ ln → (cnt = 0 ∨ lB = !lA) → (a1 - a0) + (b1 - b0) < f → (a1 - a0) + (b1 - b0) < g → x4 + ((a1 - a0) + (b1 - b0)) ≤ 96 →
    ∃ (a0' a1' b0' b1' out' cnt' : Nat) (rowf' key' tag' c' : Nat → Int32), mX2_takeSingly_b_17 F (-nI 1) roomf (nI o) (-nI 1) (-nI 1) f (nI ln) (nI cnt) (b2i lA) (nI x4) (tI out) rowf c (tI a1) (nI (a1 - a0)) (tI b1) (nI (b1 - b0)) = some (b2i (decide (ln ≤ cnt')), tI out', rowf', c', tI a1', nI (a1' - a0'), tI b1', nI (b1' - b0')) ∧
      mX6_singly_4 F (nI 0) rul rK rT g (nI cnt) (b2i lB) (nI a0) (nI a1) (nI b0) (nI b1) (tI out) key tag (ad x y c) = some (nI a0', nI a1', nI b0', nI b1', tI out', key', tag', ad x y c') ∧
      MB n a0' a1' b0' b1' out' rowf' roomf key' tag' rK rT ∧ (∀ j, 2 ≤ j → c' j = c j) ∧ (a0' < a1' → b0' < b1' → ln ≤ cnt') ∧ (a1' - a0') + (b1' - b0') ≤ (a1 - a0) + (b1 - b0) ∧ (a0 < a1 → b0 < b1 → cnt < ln → (a1' - a0') + (b1' - b0') < (a1 - a0) + (b1 - b0)) := by
  intro f
  induction f with
  | zero => intro g a0 a1 b0 b1 out cnt x4 lA lB rowf key tag c _ _ _ _ h; omega
  | succ f ih =>
    intro g a0 a1 b0 b1 out cnt x4 lA lB rowf key tag c hM hc hcnt hl hf hg hx
    cases g with
    | zero => omega
    | succ g =>
    have hM' := hM
    obtain ⟨h1, h2, h3, h4, h5, h6, h7, h8, -⟩ := hM'
    rw [mX2_takeSingly_b_17, mX6_singly_4, y_goes (by omega) (by omega) (by omega) (by omega)]
    simp (disch := omega) only [n0, n1, n96, n10, q_le, bd1_r, b2i_0, q_ck, q_cl, ad_10, hc]
    by_cases hb : a0 < a1 ∧ b0 < b1
    · rw [if_neg (show ¬ 96 ≤ x4 by omega), e_both (by omega) (by omega), show decide (0 < a1 - a0 ∧ 0 < b1 - b0) = true by simp; omega, show decide (a0 < a1 ∧ b0 < b1) = true by simp; omega]
      simp only [bd1_r, b2i_0, Bool.true_eq_false, if_false]
      by_cases hq : ln ≤ cnt
      · rw [if_pos hq, if_pos hq, e129_b (by omega) (by omega)]
        exact ⟨a0, a1, b0, b1, out, cnt, rowf, key, tag, c, rfl, rfl, hM, fun _ _ => rfl, fun _ _ => hq, Nat.le_refl _, fun _ _ h => by omega⟩
      · rw [if_neg hq, if_neg hq]
        obtain ⟨tb, htb, hkb, eb1, eb2, -⟩ := (h8 (b1 - 1) (by omega) (by omega)).get
        obtain ⟨ta, hta0, hka, ea1, ea2, -⟩ := (h7 (a1 - 1) (by omega)).get
        generalize ky rK (b1 - 1) = kb at hkb eb1 eb2
        generalize ky key (a1 - 1) = ka at hka ea1 ea2
        rw [e_aheadB (show 0 < b1 by omega) (show b1 ≤ 48 by omega) (by decide), e_aheadB (show 0 < a1 by omega) (show a1 ≤ 96 by omega) (by decide), q_sub (show 1 ≤ b1 by omega), q_sub (show 1 ≤ a1 by omega), y_keyB_b (show b1 - 1 < 96 by omega), y_keyA_b (show a1 - 1 < 96 by omega), Nat.sub_zero, Nat.sub_zero, eb1, ea1, eb2, ea2]
        simp only [bd1_r, z00, if_true]
        rw [e_isLess ho hkb (by omega) hka (by omega), y_tests hr ho hkb hka]
        rw [ad_tst]
        simp only [bd1_r, bd2_r, q_0m, if_false]
        have hcc : ∀ j, 2 ≤ j → (mvs (tst c 1) 1) j = c j := fun j hj => by simp [mvs, tst, upd, show ¬ j = 0 by omega, show ¬ j = 1 by omega]
        cases hL : less o kb ka with
        | true =>
          -- A is taken
          unfold mX2_takeSingly_b_75 mX2_takeSingly_b_83 mX2_takeSingly_b_98 mX2_takeSingly_b_119a mX6_singly_84 mX6_singly_101
          obtain ⟨cn, hcn, hcn1, hcn2, hcn3⟩ : ∃ cn : Nat, cn ≤ ln ∧ 1 ≤ cn ∧ nI cn = (if true = lA then nI (cnt + 1) else nI 1) ∧ nI cn = (if cnt = 0 then nI (cnt + 1) else if false = lB then nI (cnt + 1) else nI 1) := by
            rcases hl with hl | hl
            · subst hl; exact ⟨1, hln.1, Nat.le_refl _, by cases lA <;> rfl, rfl⟩
            · subst hl
              cases lA
              · exact ⟨1, hln.1, Nat.le_refl _, rfl, by by_cases z : cnt = 0 <;> simp [z]⟩
              · exact ⟨cnt + 1, by omega, by omega, rfl, by by_cases z : cnt = 0 <;> simp [z]⟩
          have hcz : (nI cnt = nI 0) = (cnt = 0) := q_eq (by omega) (by decide)
          have hta := e_tkA_b (F := F) (a1 := a1) (o1 := out) (m := 1) (la := a1 - a0) (c := tst c 1) (rowf := rowf) hF (by omega) (by omega) (by omega) (by omega)
          have hya := y_tkA_b (F := F) (a0 := a0) (a1 := a1) (o1 := out) (m := 1) (rK := rK) (rT := rT) (c := ad x y (tst c 1)) (key := key) (tag := tag) hF (by omega) (by omega) (by omega)
          simp (disch := omega) only [n0, n1, b2i_t, b2i_f, z10, z00, z01, if_true, if_false, hta, hya, ad_mvs, bd5_r, bd6_r, nI_add, hcz]
          have hT : ∀ (K : Int32 → Option (Int32 × Int32 × (Nat → Int32) × (Nat → Int32) × Int32 × Int32 × Int32 × Int32)), (if nI 1 = b2i lA then K (nI (cnt + 1)) else K (nI 1)) = K (nI cn) := fun K => by
            rw [hcn2]; cases lA <;> rfl
          have hT2 : ∀ (K : Int32 → Option (Int32 × Int32 × Int32 × Int32 × Int32 × (Nat → Int32) × (Nat → Int32) × (Nat → Int32))), (if cnt = 0 then K (nI (cnt + 1)) else if nI 0 = b2i lB then K (nI (cnt + 1)) else K (nI 1)) = K (nI cn) := fun K => by
            rw [hcn3]; by_cases z : cnt = 0
            · rw [if_pos z, if_pos z]
            · rw [if_neg z, if_neg z]; cases lB <;> rfl
          rw [hT (fun z => mX2_takeSingly_b_17 F (-nI 1) roomf (nI o) (-nI 1) (-nI 1) f (nI ln) z (nI 1) (nI (x4 + 1)) (tI (out - 1)) (cpb rowf rowf a1 out 1) (mvs (tst c 1) 1) (tI (a1 - 1)) (nI (a1 - a0 - 1)) (tI b1) (nI (b1 - b0))), hT2 (fun z => mX6_singly_4 F (nI 0) rul rK rT g z (nI 0) (nI a0) (nI (a1 - 1)) (nI b0) (nI b1) (tI (out - 1)) (cpb key key a1 out 1) (cpb tag tag a1 out 1) (ad x y (mvs (tst c 1) 1)))]
          obtain ⟨p1, p2, p3, p4, p5, p6, p7, p8, p9, p10, r1, r2, r3, r4, r5, r6, r7⟩ := ih g a0 (a1 - 1) b0 b1 (out - 1) cn (x4 + 1) true false _ _ _ (mvs (tst c 1) 1) (MB.A hM (m := 1) (by omega)) (by rw [hcc 10 (by decide), hc]) hcn (Or.inr rfl) (by omega) (by omega) (by omega)
          rw [show a1 - 1 - a0 = a1 - a0 - 1 by omega] at r1
          exact ⟨p1, p2, p3, p4, p5, p6, p7, p8, p9, p10, r1, r2, r3, fun j hj => by rw [r4 j hj, hcc j hj], r5, by omega, fun _ _ _ => by omega⟩
        | false =>
          unfold mX2_takeSingly_b_75 mX2_takeSingly_b_83 mX2_takeSingly_b_98 mX2_takeSingly_b_119 mX6_singly_84 mX6_singly_101
          obtain ⟨cn, hcn, hcn1, hcn2, hcn3⟩ : ∃ cn : Nat, cn ≤ ln ∧ 1 ≤ cn ∧ nI cn = (if false = lA then nI (cnt + 1) else nI 1) ∧ nI cn = (if cnt = 0 then nI (cnt + 1) else if true = lB then nI (cnt + 1) else nI 1) := by
            rcases hl with hl | hl
            · subst hl; exact ⟨1, hln.1, Nat.le_refl _, by cases lA <;> rfl, rfl⟩
            · subst hl
              cases lA
              · exact ⟨cnt + 1, by omega, by omega, rfl, by by_cases z : cnt = 0 <;> simp [z]⟩
              · exact ⟨1, hln.1, Nat.le_refl _, rfl, by by_cases z : cnt = 0 <;> simp [z]⟩
          have hcz : (nI cnt = nI 0) = (cnt = 0) := q_eq (by omega) (by decide)
          have hta := e_tkB_b (F := F) (b1 := b1) (o1 := out) (m := 1) (la := b1 - b0) (roomf := roomf) (c := tst c 1) (rowf := rowf) hF (by omega) (by omega) (by omega) (by omega) (by omega)
          have hya := y_tkB_b (F := F) (b0 := b0) (b1 := b1) (o1 := out) (m := 1) (rK := rK) (rT := rT) (c := ad x y (tst c 1)) (key := key) (tag := tag) hF (by omega) (by omega) (by omega) (by omega)
          simp (disch := omega) only [n0, n1, b2i_t, b2i_f, z10, z00, z01, if_true, if_false, hta, hya, ad_mvs, bd5_r, bd6_r, nI_add, hcz]
          have hT : ∀ (K : Int32 → Option (Int32 × Int32 × (Nat → Int32) × (Nat → Int32) × Int32 × Int32 × Int32 × Int32)), (if nI 0 = b2i lA then K (nI (cnt + 1)) else K (nI 1)) = K (nI cn) := fun K => by
            rw [hcn2]; cases lA <;> rfl
          have hT2 : ∀ (K : Int32 → Option (Int32 × Int32 × Int32 × Int32 × Int32 × (Nat → Int32) × (Nat → Int32) × (Nat → Int32))), (if cnt = 0 then K (nI (cnt + 1)) else if nI 1 = b2i lB then K (nI (cnt + 1)) else K (nI 1)) = K (nI cn) := fun K => by
            rw [hcn3]; by_cases z : cnt = 0
            · rw [if_pos z, if_pos z]
            · rw [if_neg z, if_neg z]; cases lB <;> rfl
          rw [hT (fun z => mX2_takeSingly_b_17 F (-nI 1) roomf (nI o) (-nI 1) (-nI 1) f (nI ln) z (nI 0) (nI (x4 + 1)) (tI (out - 1)) (cpb roomf rowf b1 out 1) (mvs (tst c 1) 1) (tI a1) (nI (a1 - a0)) (tI (b1 - 1)) (nI (b1 - b0 - 1))), hT2 (fun z => mX6_singly_4 F (nI 0) rul rK rT g z (nI 1) (nI a0) (nI a1) (nI b0) (nI (b1 - 1)) (tI (out - 1)) (cpb rK key b1 out 1) (cpb rT tag b1 out 1) (ad x y (mvs (tst c 1) 1)))]
          obtain ⟨p1, p2, p3, p4, p5, p6, p7, p8, p9, p10, r1, r2, r3, r4, r5, r6, r7⟩ := ih g a0 a1 b0 (b1 - 1) (out - 1) cn (x4 + 1) false true _ _ _ (mvs (tst c 1) 1) (MB.B hM (m := 1) (by omega)) (by rw [hcc 10 (by decide), hc]) hcn (Or.inr rfl) (by omega) (by omega) (by omega)
          rw [show b1 - 1 - b0 = b1 - b0 - 1 by omega] at r1
          exact ⟨p1, p2, p3, p4, p5, p6, p7, p8, p9, p10, r1, r2, r3, fun j hj => by rw [r4 j hj, hcc j hj], r5, by omega, fun _ _ _ => by omega⟩
    · rw [show decide (a0 < a1 ∧ b0 < b1) = false by simp; omega]
      simp only [if_true]
      refine ⟨a0, a1, b0, b1, out, cnt, rowf, key, tag, c, ?_, rfl, hM, fun _ _ => rfl, fun p q => absurd ⟨p, q⟩ hb, Nat.le_refl _, fun p q => absurd ⟨p, q⟩ hb⟩
      by_cases hx2 : 96 ≤ x4
      · rw [if_pos hx2, e129_b (by omega) (by omega)]
      · rw [if_neg hx2, e_both (by omega) (by omega), show decide (0 < a1 - a0 ∧ 0 < b1 - b0) = false by simp; omega]
        simp only [bd1_r, b2i_0, if_true]
        rw [e129_b (by omega) (by omega)]
