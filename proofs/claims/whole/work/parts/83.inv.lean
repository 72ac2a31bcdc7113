/-! the law: what holds at the head of its loop; one theorem a case (wip/whole/law/lawgen.py) -/
def WD (cA : ClassId) (xo txto txtv laio laiv rulo rulv so rowo rowv talo talv plao plav leno lenv jo mo roomo roomv ao bo oso orowo orowv otalo otalv oplao oplav oleno olenv ojo omo oroomo oroomv oao obo ajo ato atv aso yo vytext vyrules vylaid vykey vytag vyroomKey vyroomTag vyrunAt vyrunMany vycost vyhadKey vyhadTag vyhadAt vyhadMany vyhadCost : Nat) (xlet : Int32) (xrec : Int32) (txtf : Nat → Int32) (laif : Nat → Int32) (rulf : Nat → Int32) (srec : Int32) (spol : Int32) (slea : Int32) (sdep : Int32) (sinr : Int32) (swai : Int32) (rowf : Nat → Int32) (talf : Nat → Int32) (plaf : Nat → Int32) (lenf : Nat → Int32) (jord : Int32) (mtar : Int32) (mdir : Int32) (roomf : Nat → Int32) (ra : Nat) (ea : Int32) (da : Int32) (la : Int32) (rb : Nat) (eb : Int32) (db : Int32) (lb : Int32) (osrec : Int32) (ospol : Int32) (oslea : Int32) (osdep : Int32) (osinr : Int32) (oswai : Int32) (orowf : Nat → Int32) (otalf : Nat → Int32) (oplaf : Nat → Int32) (olenf : Nat → Int32) (ojord : Int32) (omtar : Int32) (omdir : Int32) (oroomf : Nat → Int32) (ora : Nat) (oea : Int32) (oda : Int32) (ola : Int32) (orb : Nat) (oeb : Int32) (odb : Int32) (olb : Int32) (aord : Int32) (atf : Nat → Int32) (ras : Nat) (eas : Int32) (das : Int32) (las : Int32) (ylength : Int32) (ymany : Int32) (yruns : Int32) (ywaitAt : Int32) (ywaitMany : Int32) (ya0 : Int32) (ya1 : Int32) (yb0 : Int32) (yb1 : Int32) (yforward : Int32) (yout : Int32) (ytext : Nat → Int32) (yrules : Nat → Int32) (ylaid : Nat → Int32) (ykey : Nat → Int32) (ytag : Nat → Int32) (yroomKey : Nat → Int32) (yroomTag : Nat → Int32) (yrunAt : Nat → Int32) (yrunMany : Nat → Int32) (ycost : Nat → Int32) (yhadKey : Nat → Int32) (yhadTag : Nat → Int32) (yhadAt : Nat → Int32) (yhadMany : Nat → Int32) (yhadCost : Nat → Int32) : va_W := [(xo, .inr (5, [.ref txto, .int xlet, .ref laio, .int xrec, .ref rulo, .ref so, .ref oso, .ref ajo, .ref aso])), (txto, .inr (0, [.ref txtv])), (txtv, .inl (cA, 200, .inl txtf)), (laio, .inr (0, [.ref laiv])), (laiv, .inl (cA, 96, .inl laif)), (rulo, .inr (0, [.ref rulv])), (rulv, .inl (cA, 4, .inl rulf)), (so, .inr (3, [.ref rowo, .ref talo, .ref plao, .ref leno, .ref jo, .ref mo, .int srec, .int spol, .int slea, .int sdep, .int sinr, .int swai])), (rowo, .inr (0, [.ref rowv])), (rowv, .inl (cA, 96, .inl rowf)), (talo, .inr (0, [.ref talv])), (talv, .inl (cA, 12, .inl talf)), (plao, .inr (0, [.ref plav])), (plav, .inl (cA, 96, .inl plaf)), (leno, .inr (0, [.ref lenv])), (lenv, .inl (cA, 96, .inl lenf)), (jo, .inr (1, [.ref talo, .int jord])), (mo, .inr (2, [.ref rowo, .ref roomo, .ref talo, .ref jo, .ref ao, .ref bo, .int mtar, .int mdir])), (roomo, .inr (0, [.ref roomv])), (roomv, .inl (cA, 48, .inl roomf)), (ao, .inr (4, [.ref ra, .int ea, .int da, .int la])), (bo, .inr (4, [.ref rb, .int eb, .int db, .int lb])), (oso, .inr (3, [.ref orowo, .ref otalo, .ref oplao, .ref oleno, .ref ojo, .ref omo, .int osrec, .int ospol, .int oslea, .int osdep, .int osinr, .int oswai])), (orowo, .inr (0, [.ref orowv])), (orowv, .inl (cA, 96, .inl orowf)), (otalo, .inr (0, [.ref otalv])), (otalv, .inl (cA, 12, .inl otalf)), (oplao, .inr (0, [.ref oplav])), (oplav, .inl (cA, 96, .inl oplaf)), (oleno, .inr (0, [.ref olenv])), (olenv, .inl (cA, 96, .inl olenf)), (ojo, .inr (1, [.ref otalo, .int ojord])), (omo, .inr (2, [.ref orowo, .ref oroomo, .ref otalo, .ref ojo, .ref oao, .ref obo, .int omtar, .int omdir])), (oroomo, .inr (0, [.ref oroomv])), (oroomv, .inl (cA, 48, .inl oroomf)), (oao, .inr (4, [.ref ora, .int oea, .int oda, .int ola])), (obo, .inr (4, [.ref orb, .int oeb, .int odb, .int olb])), (ajo, .inr (1, [.ref ato, .int aord])), (ato, .inr (0, [.ref atv])), (atv, .inl (cA, 12, .inl atf)), (aso, .inr (4, [.ref ras, .int eas, .int das, .int las])), (yo, .inr (6, [.int ylength, .ref vytext, .ref vyrules, .int ymany, .ref vylaid, .ref vykey, .ref vytag, .ref vyroomKey, .ref vyroomTag, .int yruns, .ref vyrunAt, .ref vyrunMany, .int ywaitAt, .int ywaitMany, .ref vycost, .ref vyhadKey, .ref vyhadTag, .ref vyhadAt, .ref vyhadMany, .ref vyhadCost, .int ya0, .int ya1, .int yb0, .int yb1, .int yforward, .int yout])), (vytext, .inl (cA, 200, .inl ytext)), (vyrules, .inl (cA, 4, .inl yrules)), (vylaid, .inl (cA, 96, .inl ylaid)), (vykey, .inl (cA, 96, .inl ykey)), (vytag, .inl (cA, 96, .inl ytag)), (vyroomKey, .inl (cA, 96, .inl yroomKey)), (vyroomTag, .inl (cA, 96, .inl yroomTag)), (vyrunAt, .inl (cA, 96, .inl yrunAt)), (vyrunMany, .inl (cA, 96, .inl yrunMany)), (vycost, .inl (cA, 12, .inl ycost)), (vyhadKey, .inl (cA, 96, .inl yhadKey)), (vyhadTag, .inl (cA, 96, .inl yhadTag)), (vyhadAt, .inl (cA, 96, .inl yhadAt)), (vyhadMany, .inl (cA, 96, .inl yhadMany)), (vyhadCost, .inl (cA, 12, .inl yhadCost))]
/-- one function for another that is like it within the array -/
theorem vp_rep {D : va_G} {cl : List vw_C} {ws : va_W} {H : Heap} {a n : Nat} {cA : ClassId} {f g : Nat → Int32} (hP : va_P D cl ws H) (k : Nat) (hk : ws[k]? = some (a, .inl (cA, n, .inl f))) (h : agr n f g) : va_P D cl (ws.set k (a, .inl (cA, n, .inl g))) H := by
  intro j q hj
  by_cases z : k = j
  · subst z
    have hl : k < ws.length := (List.getElem?_eq_some_iff.mp hk).1
    rw [List.getElem?_set_self hl] at hj
    cases hj
    have h1 : H[a]? = some (vp_cell cA (n, .inl f)) := hP k _ hk
    show H[a]? = some (vp_cell cA (n, .inl g))
    rw [h1]
    have e : (fun j : Fin n => Value.int (f j.val)) = fun j : Fin n => Value.int (g j.val) := funext fun j => by rw [h j.val j.isLt]
    show some (arrV cA n (fun j => .int (f j))) = some (arrV cA n (fun j => .int (g j)))
    unfold arrV
    rw [e]
  · rw [List.getElem?_set_ne z] at hj
    exact hP j q hj
theorem vd_rep {A : Nat → Prop} {ws : va_W} {a : Nat} {e e2 : va_E} (hD : va_D A ws) (k : Nat) (hk : ws[k]? = some (a, e)) : va_D A (ws.set k (a, e2)) := by
  have key : ∀ (j : Nat) (q : Nat × va_E), (ws.set k (a, e2))[j]? = some q → ∃ q2 : Nat × va_E, ws[j]? = some q2 ∧ q2.1 = q.1 := by
    intro j q hj
    by_cases z : k = j
    · subst z
      have hl : k < ws.length := (List.getElem?_eq_some_iff.mp hk).1
      rw [List.getElem?_set_self hl] at hj
      cases hj
      exact ⟨_, hk, rfl⟩
    · rw [List.getElem?_set_ne z] at hj
      exact ⟨q, hj, rfl⟩
  refine ⟨fun i j p q h1 h2 h3 => ?_, fun j q hj => ?_⟩
  · obtain ⟨p2, a1, a2⟩ := key i p h1
    obtain ⟨q2, b1, b2⟩ := key j q h2
    exact hD.1 i j p2 q2 a1 b1 (by rw [a2, b2]; exact h3)
  · obtain ⟨q2, b1, b2⟩ := key j q hj
    rw [← b2]; exact hD.2 j q2 b1
