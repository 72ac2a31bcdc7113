/-! bounds, and what class and reference have in common between two calls -/
def inB (a b c : Int32) : Bool := decide (b ≤ a) && decide (a ≤ c)
theorem e_out {F : Nat} {a b c : Int32} : mX5_isOutside F a b c = some (b2i (!inB a b c)) := by
  unfold mX5_isOutside inB
  by_cases h1 : a < b
  · rw [if_pos h1, show decide (b ≤ a) = false from decide_eq_false (Int32.not_le.mpr h1)]; rfl
  · rw [if_neg h1, show decide (b ≤ a) = true from decide_eq_true (Int32.not_lt.mp h1)]
    by_cases h2 : a ≤ c
    · rw [if_pos h2, show decide (a ≤ c) = true from decide_eq_true h2]; rfl
    · rw [if_neg h2, show decide (a ≤ c) = false from decide_eq_false h2]; rfl
theorem w_lt {a b : Int32} : (a.toInt64 < b.toInt64) ↔ a < b := by
  rw [Int64.lt_iff_toInt_lt, Int32.lt_iff_toInt_lt, Int32.toInt_toInt64, Int32.toInt_toInt64]
theorem y_in {F : Nat} {a b c : Int32} : mX6_in F a.toInt64 b.toInt64 c.toInt64 = some (b2i (inB a b c)) := by
  unfold mX6_in inB
  by_cases h1 : a < b
  · rw [if_pos ((lg_cmp_lt _ _).mpr (w_lt.mpr h1)), show decide (b ≤ a) = false from decide_eq_false (Int32.not_le.mpr h1)]; rfl
  · rw [if_neg (fun q => h1 (w_lt.mp ((lg_cmp_lt _ _).mp q))), show decide (b ≤ a) = true from decide_eq_true (Int32.not_lt.mp h1)]
    by_cases h2 : c < a
    · rw [if_pos ((lg_cmp_gt _ _).mpr (w_lt.mpr h2)), show decide (a ≤ c) = false from decide_eq_false (Int32.not_le.mpr h2)]; rfl
    · rw [if_neg (fun q => h2 (w_lt.mp ((lg_cmp_gt _ _).mp q))), show decide (a ≤ c) = true from decide_eq_true (Int32.not_lt.mp h2)]; rfl
theorem w0 : (0 : Int64) = (nI 0).toInt64 := rfl
theorem w1 : (1 : Int64) = (nI 1).toInt64 := rfl
theorem w2 : (2 : Int64) = (nI 2).toInt64 := rfl
theorem w3 : (3 : Int64) = (nI 3).toInt64 := rfl
theorem w9 : (9 : Int64) = (nI 9).toInt64 := rfl
theorem w11 : (11 : Int64) = (nI 11).toInt64 := rfl
theorem w25 : (25 : Int64) = (nI 25).toInt64 := rfl
theorem w32 : (32 : Int64) = (nI 32).toInt64 := rfl
theorem w97 : (97 : Int64) = (nI 97).toInt64 := rfl
theorem w122 : (122 : Int64) = (nI 122).toInt64 := rfl
theorem w126 : (126 : Int64) = (nI 126).toInt64 := rfl
theorem w400 : (400 : Int64) = (nI 400).toInt64 := rfl
theorem inB_t {a : Int32} {l h : Nat} (hh : h < 2147483648) (hl : l < 2147483648) (q : inB a (nI l) (nI h) = true) : ∃ i, l ≤ i ∧ i ≤ h ∧ a = nI i := by
  unfold inB at q
  rw [Bool.and_eq_true, decide_eq_true_eq, decide_eq_true_eq, Int32.le_iff_toInt_le, Int32.le_iff_toInt_le, nI_toInt hh, nI_toInt hl] at q
  refine ⟨a.toInt.toNat, by omega, by omega, ?_⟩
  apply Int32.toInt_inj.mp
  rw [nI_toInt (by omega)]
  omega
theorem bi_t {F T : Option Int32} {b : Bool} : b = true → (if b2i b = nI 0 then F else T) = T := by rintro rfl; rfl
theorem nb {b : Bool} : (b2i b = nI 0) = (b = false) := b2i_0
def RB (n o pol ls lp : Nat) : Prop := (1 ≤ n ∧ n ≤ 96) ∧ o < 4 ∧ pol < 3 ∧ (2 ≤ ls ∧ ls ≤ 9) ∧ (1 ≤ lp ∧ lp ≤ 9)
def RU (o pol ls lp : Nat) (f : Nat → Int32) : Prop := f 0 = nI o ∧ f 1 = nI pol ∧ f 2 = nI ls ∧ f 3 = nI lp
def TX (len : Nat) (f g : Nat → Int32) : Prop := len ≤ 200 ∧ ∀ i, i < len → f i = g i
/-- what they have in common -/
def GR (xlet xrec srec spol slea sdep sinr swai jord : Int32) (txtf laif rulf rowf talf plaf lenf : Nat → Int32) (ylength ymany yruns ywaitAt ywaitMany : Int32) (ytext yrules ylaid ykey ytag yrunAt yrunMany ycost : Nat → Int32) : Prop :=
  ∃ (n len o pol ls lp d w : Nat) (L : Nat → Nat), RB n o pol ls lp ∧ TX len txtf ytext ∧ RU o pol ls lp rulf ∧ RU o pol ls lp yrules ∧ LD n laif ylaid ∧ ST n d w L rowf talf plaf lenf ykey ytag yrunAt yrunMany ywaitAt ∧ xlet = nI len ∧ ylength = nI len ∧ xrec = nI n ∧ srec = nI n ∧ ymany = nI n ∧ spol = nI pol ∧ slea = nI ls ∧ jord = nI o ∧ sdep = nI d ∧ sinr = nI (psum L d + w) ∧ swai = nI w ∧ yruns = nI d ∧ ywaitMany = nI w ∧ ycost = talf
theorem o_begin {F n len o pol ls lp : Nat} {srec spol slea sdep sinr swai jord yruns ywaitAt ywaitMany : Int32} {txtf laif rulf rowf c plaf lenf ytext yrules ylaid ykey ytag yrunAt yrunMany : Nat → Int32} (hF : 1000 ≤ F) (hb : RB n o pol ls lp) (ht : TX len txtf ytext) (hr : RU o pol ls lp rulf) (hy : RU o pol ls lp yrules) (hl : LD n laif ylaid) :
    ∃ (s1 s2 s3 s4 s5 s6 s7 w1 w2 w3 : Int32) (f1 f2 g1 g2 : Nat → Int32), mX5_beginAnew F (nI n) laif rulf srec spol slea sdep sinr swai rowf c jord = some (s1, s2, s3, s4, s5, s6, f1, f2, s7) ∧ mX6_begin F (nI n) yruns ywaitAt ywaitMany yrules ylaid ykey ytag c = some (w1, w2, w3, g1, g2, f2) ∧ GR (nI len) (nI n) s1 s2 s3 s4 s5 s6 s7 txtf laif rulf f1 f2 plaf lenf (nI len) (nI n) w1 w2 w3 ytext yrules ylaid g1 g2 yrunAt yrunMany f2 := by
  refine ⟨nI n, nI pol, nI ls, nI 0, nI 0, nI 0, nI o, nI 0, nI 0, nI 0, va_cpy laif rowf 0 0 n, c0 lp c, va_cpy ylaid ykey 0 0 n, idT ytag n, ?_, y_begin hF hb.1.2 hy.2.2.2, n, len, o, pol, ls, lp, 0, 0, fun _ => 0, hb, ht, hr, hy, hl, ST0 (lp := lp) hb.1.2 hl hb.2.2.2.2, rfl, rfl, rfl, rfl, rfl, rfl, rfl, rfl, rfl, rfl, rfl, rfl, rfl, rfl⟩
  unfold mX5_beginAnew
  rw [n1, e_look (by decide) (by decide), hr.2.1]
  simp only [bd1_r]
  rw [e_begin hF hb.1.2 hr.1 hr.2.2.1 hr.2.2.2]
  rfl
