/-! soundness: new cells, nulls, switches, divisions, returns -/
theorem hW_push {cA : Nat → ClassId} {q : Nat → Nat} {tF : hTF} {qF : hQF} {a : hA} {I : hI} {J : hJ} {Q : hQ} {n q' : Nat} {x : Nat × Nat} (hw : wfQ qF a Q) (ht : tF a.1 = none) (hq : ∀ j, qF a.1 j = none) :
    hW cA (va_up q a.1 q') tF qF (hnew a n x) (va_up I a.1 (fun _ => 0)) (va_up J a.1 (fun _ => 0)) (va_up Q a.1 (fun _ => none)) = hW cA q tF qF a I J Q ++ [(q', hE cA q (fun _ => none) (fun _ _ => none) (fun _ => x) (fun _ _ => 0) (fun _ _ => 0) (fun _ _ => none) 0)] := by
  have e0 : ∀ k, k < a.1 → hE cA (va_up q a.1 q') tF qF (va_up a.2.2.2 a.1 x) (va_up I a.1 (fun _ => 0)) (va_up J a.1 (fun _ => 0)) (va_up Q a.1 (fun _ => none)) k = hE cA q tF qF a.2.2.2 I J Q k := by
    intro k hk
    have hne : k ≠ a.1 := by omega
    have e1 : tE tF (va_up a.2.2.2 a.1 x) k = tE tF a.2.2.2 k := by unfold tE va_up; simp [hne]
    have e2 : qE qF (va_up Q a.1 (fun _ => none)) k = qE qF Q k := by funext j; unfold qE va_up; simp [hne]
    rw [hE_cong (I := I) (J := J) (Q := Q) (t := a.2.2.2) e1 (va_up_ne _ _ hne) (va_up_ne _ _ hne) e2]
    have e3 : ∀ j, (qE qF Q k j).map (va_up q a.1 q') = (qE qF Q k j).map q := by
      intro j
      cases h : qE qF Q k j with
      | none => rfl
      | some z =>
        have hz := hw k j z hk h
        simp only [Option.map_some]
        rw [va_up_ne _ _ (by omega)]
    unfold hE hV
    simp only [e3]
  unfold hW
  show (List.range (a.1 + 1)).map _ = _
  rw [List.range_succ, List.map_append]
  congr 1
  · apply List.map_congr_left
    intro k hk
    have hk' : k < a.1 := by simpa using hk
    show (va_up q a.1 q' k, hE cA (va_up q a.1 q') tF qF (va_up a.2.2.2 a.1 x) _ _ _ k) = _
    rw [e0 k hk', va_up_ne _ _ (by omega)]
  · show [(va_up q a.1 q' a.1, hE cA (va_up q a.1 q') tF qF (va_up a.2.2.2 a.1 x) _ _ _ a.1)] = _
    rw [va_up_self]
    have e1 : tE tF (va_up a.2.2.2 a.1 x) a.1 = x := by unfold tE; rw [ht]; exact va_up_self _ _ _
    have e2 : ∀ j, qE qF (va_up Q a.1 (fun _ => none)) a.1 j = none := by intro j; unfold qE; rw [hq]; show va_up Q a.1 (fun _ => none) a.1 j = none; rw [va_up_self]
    congr 2
    unfold hE hV
    simp only [e1, e2, va_up_self]
    rfl
theorem wf_new {qF : hQF} {a : hA} {Q : hQ} {n : Nat} {x : Nat × Nat} (hw : wfQ qF a Q) (hq : ∀ j, qF a.1 j = none) : wfQ qF (hnew a n x) (va_up Q a.1 (fun _ => none)) := by
  intro k j z hk h
  have hk' : k < a.1 + 1 := hk
  show z < a.1 + 1
  by_cases e : k = a.1
  · subst e
    unfold qE at h
    rw [hq, va_up_self] at h
    cases h
  · have : qE qF (va_up Q a.1 (fun _ => none)) k j = qE qF Q k j := by unfold qE va_up; simp [e]
    rw [this] at h
    have := hw k j z (by omega) h
    omega
theorem cv_new {q : Nat → Nat} {N q' : Nat} {v : Value} (h : rlt N v) : cv (va_up q N q') v = cv q v := by
  cases v with
  | ref k =>
    have hk : k < N := h
    show Value.ref (va_up q N q' k) = Value.ref (q k)
    rw [va_up_ne _ _ (Nat.ne_of_lt hk)]
  | _ => rfl
theorem hLs_new {ls : Array Slot} {n N q' : Nat} {q : Nat → Nat} {lv : lL} (h : hLs ls n q lv) (hr : ∀ (i : Nat) (v : Value), lv[i]? = some (some v) → rlt N v) : hLs ls n (va_up q N q') lv := by
  obtain ⟨h0, l, h1, h2⟩ := h
  exact ⟨h0, l, h1, fun i v hv => by rw [cv_new (hr i v hv)]; exact h2 i v hv⟩
theorem map_new {q : Nat → Nat} {N q' : Nat} {st : List Value} (hr : ∀ v ∈ st, rlt N v) : st.map (cv (va_up q N q')) = st.map (cv q) := List.map_congr_left fun v hv => cv_new (hr v hv)
theorem kd_len (x : Nat) (h : x < 11) : ∀ j, j < (kd x).length → (kd x).getD j 9 < 4 := by
  match x, h with
  | 0, _ => decide
  | 1, _ => decide
  | 2, _ => decide
  | 3, _ => decide
  | 4, _ => decide
  | 5, _ => decide
  | 6, _ => decide
  | 7, _ => decide
  | 8, _ => decide
  | 9, _ => decide
  | 10, _ => decide
  | n + 11, h => omega
section NW9
variable {p : Program} {l : Launch} {e : Env} {R : Room} {s : State} {m : MethodId} {args : Array Value} {below : List Frame} {meth : Method} {c : Code} {Qx : State → Prop} {A : Nat → Prop} {D : va_G} {cA : Nat → ClassId} {q0 : Nat → Nat} {tF : hTF} {qF : hQF} {al : Bool} {N0 u0 z0 um zm base nL d : Nat} {cc : ByteArray} {own : String} {ret : Option FieldType} {ini : Bool} {pc : Nat} {lv lv' : lL} {st st' : List Value} {a : hA} {I : hI} {J : hJ} {Q : hQ}
theorem dflt_kind {x : Nat} {ty : FieldType} (h4 : x < 4) (h : kty x ty = true) : defaultValue ty = hV (fun k => k) (fun _ _ => none) (fun _ _ => 0) (fun _ _ => 0) (fun _ _ => none) 0 0 x := by
  match x, h4 with
  | 0, _ => simp only [kty, decide_eq_true_eq] at h; subst h; rfl
  | 1, _ => simp only [kty, decide_eq_true_eq] at h; subst h; rfl
  | 2, _ => cases ty <;> first | rfl | (simp [kty] at h; done)
  | 3, _ => simp only [kty, decide_eq_true_eq] at h; subst h; rfl
  | n + 4, h4 => omega
theorem gw_new {idx x : Nat} (C : cx p R s m args meth c A D cA cc own nL ret ini d N0 base u0 z0 um zm) (hal : al = true) (hd : decode cc pc = .ok (.new idx, 3)) (hlk : ∀ r, vwCl[x]? = some r → Cond.classLink own idx r.1 ∈ lw_g) (h11 : x < 11) (ht : tF a.1 = none ∧ ∀ j, qF a.1 j = none) (hr : rok a.1 lv st) (hu : a.2.1 + 1 ≤ um ∧ a.2.2.1 + (kd x).length ≤ zm)
    (k : gw p l e R s m args below meth c Qx A D cA q0 tF qF al N0 u0 z0 um zm (pc + 3) lv (.ref a.1 :: st) (hnew a (kd x).length (x, 0)) (va_up I a.1 (fun _ => 0)) (va_up J a.1 (fun _ => 0)) (va_up Q a.1 (fun _ => none))) : gw p l e R s m args below meth c Qx A D cA q0 tF qF al N0 u0 z0 um zm pc lv st a I J Q := by
  obtain ⟨hx, hb, hml, -, -, hown, hts, hK, hA, -, hum, hzm, -, -, hbs⟩ := C
  intro q H locs ls h1 h2 hP hD hS hl
  obtain ⟨rc, e1, e2, e3, e4, e5, e6, e7, e8⟩ := cls_ok x h11
  have hfs : ∀ j, j < rc.2.2 → defaultValue (tyA x j) = vp_V ((kd x).mapIdx (fun j z => hV q (fun _ _ => none) (fun _ _ => 0) (fun _ _ => 0) (fun _ _ => none) 0 j z)) j := by
    intro j hj
    have hj' : j < (kd x).length := by rw [e5]; exact hj
    unfold vp_V
    have hg : (kd x)[j]? = some ((kd x).getD j 9) := by rw [List.getD_eq_getElem?_getD, List.getElem?_eq_getElem hj']; rfl
    rw [dflt_kind (kd_len x h11 j hj') (e6 j hj), List.getD_eq_getElem?_getD (l := List.mapIdx _ _), List.getElem?_mapIdx, hg]
    rfl
  obtain ⟨g1, g2, g3, g4, g5, g6⟩ := h2
  refine va_new hx hb hts e2 (tyA x) e3 hown (hts _ (hlk rc e1)) (hts _ e7) (hts _ e8) hK.1 hP hD hS hA e1 hfs (by omega) (by rw [← e5]; omega) hd (fun q' H1 hP1 hD1 hS1 => ?_)
  have hcellE : hE cA q (fun _ => none) (fun _ _ => none) (fun _ => (x, 0)) (fun _ _ => 0) (fun _ _ => 0) (fun _ _ => none) 0 = .inr (x, (kd x).mapIdx (fun j z => hV q (fun _ _ => none) (fun _ _ => 0) (fun _ _ => 0) (fun _ _ => none) 0 j z)) := hE_obj rfl h11
  rw [← hcellE, ← hW_push (n := (kd x).length) g6 ht.1 ht.2] at hP1 hD1
  have kz := k (va_up q a.1 q') H1 locs ls ⟨fun k' hk' => by rw [va_up_ne _ _ (by omega)]; exact h1.1 k' hk', fun h => absurd (h.symm.trans hal) (by decide)⟩ ⟨Nat.le_succ_of_le g1, Nat.le_succ_of_le g2, hu.1, Nat.le_trans g4 (Nat.le_add_right _ _), hu.2, wf_new g6 ht.2⟩ hP1 hD1 hS1 (hLs_new hl hr.1)
  rw [List.map_cons, map_new hr.2] at kz
  have ec : cv (va_up q a.1 q') (.ref a.1) = .ref q' := by show Value.ref (va_up q a.1 q' a.1) = _; rw [va_up_self]
  rw [ec] at kz
  have eu : (hnew a (kd x).length (x, 0)).2.1 - u0 = a.2.1 - u0 + 1 := by show a.2.1 + 1 - u0 = _; omega
  have ez : (hnew a (kd x).length (x, 0)).2.2.1 - z0 = a.2.2.1 - z0 + rc.2.2 := by show a.2.2.1 + (kd x).length - z0 = _; rw [e5]; omega
  rw [eu, ez] at kz
  exact kz
theorem same_arr {U : State} {cB : ClassId} {ty : FieldType} {i : Nat} {cC : ClassId} (hK : va_K D vwCl (tysA cA ++ [(cB, ty)]) U) (hi : (tysA cA)[i]? = some (cC, ty)) (hn : ∀ C, ty = .object C → va_RA U cB (.object C) → va_RA U cC (.object C) → cB = cC) : cB = cC := by
  have h1 := (hK.2 5 (cB, ty) rfl).2
  have hi' : (tysA cA ++ [(cB, ty)])[i]? = some (cC, ty) := by
    have hl := (List.getElem?_eq_some_iff.mp hi).1
    rw [List.getElem?_append_left hl]
    exact hi
  have h2 := (hK.2 i (cC, ty) hi').2
  cases ty with
  | object C => exact hn C rfl h1 h2
  | _ => exact Option.some.inj (Eq.trans (Eq.symm h1) h2)
theorem same_arrO {U : State} {cB cC : ClassId} {C : String} (h1 : va_RA U cB (.object C)) (h2 : va_RA U cC (.object C)) : cB = cC := by
  obtain ⟨kA, comp, a1, a2, a3, a4⟩ := h1
  obtain ⟨kB, comp2, b1, b2, b3, b4⟩ := h2
  exact Option.some.inj (a4.symm.trans b4)
theorem gw_newi {y : Nat} {v : Int32} {r : List Value} (C : cx p R s m args meth c A D cA cc own nL ret ini d N0 base u0 z0 um zm) (hal : al = true) (hd : decode cc pc = .ok (.newarray .int, 2)) (hw : Cond.arrayClass .int ∈ lw_g) (hy : y ≤ 10000) (hv : v.toNatClampNeg = y) (hv0 : ¬ v < 0) (ht : tF a.1 = none ∧ ∀ j, qF a.1 j = none) (hr : rok a.1 lv r) (hu : a.2.1 + 1 ≤ um ∧ a.2.2.1 + y ≤ zm)
    (k : gw p l e R s m args below meth c Qx A D cA q0 tF qF al N0 u0 z0 um zm (pc + 2) lv (.ref a.1 :: r) (hnew a y (11, y)) (va_up I a.1 (fun _ => 0)) (va_up J a.1 (fun _ => 0)) (va_up Q a.1 (fun _ => none))) : gw p l e R s m args below meth c Qx A D cA q0 tF qF al N0 u0 z0 um zm pc lv (.int v :: r) a I J Q := by
  obtain ⟨hx, hb, hml, -, -, hown, hts, hK, hA, -, hum, hzm, -, -, hbs⟩ := C
  intro q H locs ls h1 h2 hP hD hS hl
  obtain ⟨g1, g2, g3, g4, g5, g6⟩ := h2
  refine va_newa (a0 := (y, .inl (fun _ => 0))) (atype := .int) (ty := .int) hx hb (hts _ hw) rfl hK.1 hP hD hS hA (fun _ => rfl) hv0 hv (Nat.le_trans (Nat.mul_le_mul hy (Nat.le_refl _)) (by decide)) (by omega) (by omega) hd (fun q' cB H1 hK1 hP1 hD1 hS1 => ?_)
  obtain rfl : cB = cA 11 := same_arr hK1 (i := 0) rfl (fun C hC => by cases hC)
  have hcellE : hE cA q (fun _ => none) (fun _ _ => none) (fun _ => (11, y)) (fun _ _ => 0) (fun _ _ => 0) (fun _ _ => none) 0 = .inl (cA 11, y, .inl (fun _ => 0)) := hE_int rfl
  rw [← hcellE, ← hW_push (n := y) g6 ht.1 ht.2] at hP1 hD1
  have kz := k (va_up q a.1 q') H1 locs ls ⟨fun k' hk' => by rw [va_up_ne _ _ (by omega)]; exact h1.1 k' hk', fun h => absurd (h.symm.trans hal) (by decide)⟩ ⟨Nat.le_succ_of_le g1, Nat.le_succ_of_le g2, hu.1, Nat.le_trans g4 (Nat.le_add_right _ _), hu.2, wf_new g6 ht.2⟩ hP1 hD1 hS1 (hLs_new hl hr.1)
  rw [List.map_cons, map_new hr.2] at kz
  have ec : cv (va_up q a.1 q') (.ref a.1) = .ref q' := by show Value.ref (va_up q a.1 q' a.1) = _; rw [va_up_self]
  rw [ec] at kz
  have eu : (hnew a y (11, y)).2.1 - u0 = a.2.1 - u0 + 1 := by show a.2.1 + 1 - u0 = _; omega
  have ez : (hnew a y (11, y)).2.2.1 - z0 = a.2.2.1 - z0 + y := by show a.2.2.1 + y - z0 = _; omega
  rw [eu, ez] at kz
  exact kz
theorem gw_newl {y : Nat} {v : Int32} {r : List Value} (C : cx p R s m args meth c A D cA cc own nL ret ini d N0 base u0 z0 um zm) (hal : al = true) (hd : decode cc pc = .ok (.newarray .long, 2)) (hw : Cond.arrayClass .long ∈ lw_g) (hy : y ≤ 10000) (hv : v.toNatClampNeg = y) (hv0 : ¬ v < 0) (ht : tF a.1 = none ∧ ∀ j, qF a.1 j = none) (hr : rok a.1 lv r) (hu : a.2.1 + 1 ≤ um ∧ a.2.2.1 + y ≤ zm)
    (k : gw p l e R s m args below meth c Qx A D cA q0 tF qF al N0 u0 z0 um zm (pc + 2) lv (.ref a.1 :: r) (hnew a y (12, y)) (va_up I a.1 (fun _ => 0)) (va_up J a.1 (fun _ => 0)) (va_up Q a.1 (fun _ => none))) : gw p l e R s m args below meth c Qx A D cA q0 tF qF al N0 u0 z0 um zm pc lv (.int v :: r) a I J Q := by
  obtain ⟨hx, hb, hml, -, -, hown, hts, hK, hA, -, hum, hzm, -, -, hbs⟩ := C
  intro q H locs ls h1 h2 hP hD hS hl
  obtain ⟨g1, g2, g3, g4, g5, g6⟩ := h2
  refine va_newa (a0 := (y, .inr (.inl (fun _ => 0)))) (atype := .long) (ty := .long) hx hb (hts _ hw) rfl hK.1 hP hD hS hA (fun _ => rfl) hv0 hv (Nat.le_trans (Nat.mul_le_mul hy (Nat.le_refl _)) (by decide)) (by omega) (by omega) hd (fun q' cB H1 hK1 hP1 hD1 hS1 => ?_)
  obtain rfl : cB = cA 12 := same_arr hK1 (i := 1) rfl (fun C hC => by cases hC)
  have hcellE : hE cA q (fun _ => none) (fun _ _ => none) (fun _ => (12, y)) (fun _ _ => 0) (fun _ _ => 0) (fun _ _ => none) 0 = .inl (cA 12, y, .inr (.inl (fun _ => 0))) := hE_long rfl
  rw [← hcellE, ← hW_push (n := y) g6 ht.1 ht.2] at hP1 hD1
  have kz := k (va_up q a.1 q') H1 locs ls ⟨fun k' hk' => by rw [va_up_ne _ _ (by omega)]; exact h1.1 k' hk', fun h => absurd (h.symm.trans hal) (by decide)⟩ ⟨Nat.le_succ_of_le g1, Nat.le_succ_of_le g2, hu.1, Nat.le_trans g4 (Nat.le_add_right _ _), hu.2, wf_new g6 ht.2⟩ hP1 hD1 hS1 (hLs_new hl hr.1)
  rw [List.map_cons, map_new hr.2] at kz
  have ec : cv (va_up q a.1 q') (.ref a.1) = .ref q' := by show Value.ref (va_up q a.1 q' a.1) = _; rw [va_up_self]
  rw [ec] at kz
  have eu : (hnew a y (12, y)).2.1 - u0 = a.2.1 - u0 + 1 := by show a.2.1 + 1 - u0 = _; omega
  have ez : (hnew a y (12, y)).2.2.1 - z0 = a.2.2.1 - z0 + y := by show a.2.2.1 + y - z0 = _; omega
  rw [eu, ez] at kz
  exact kz
theorem gw_newq {idx x y : Nat} {K : String} {v : Int32} {r : List Value} (C : cx p R s m args meth c A D cA cc own nL ret ini d N0 base u0 z0 um zm) (hal : al = true) (hd : decode cc pc = .ok (.anewarray idx, 3)) (hlk : Cond.classLink own idx K ∈ lw_g) (hKx : (x = 13 ∧ K = RX6) ∨ (x = 14 ∧ K = RX7) ∨ (x = 15 ∧ K = RX8)) (hy : y ≤ 10000) (hv : v.toNatClampNeg = y) (hv0 : ¬ v < 0) (ht : tF a.1 = none ∧ ∀ j, qF a.1 j = none) (hr : rok a.1 lv r) (hu : a.2.1 + 1 ≤ um ∧ a.2.2.1 + y ≤ zm)
    (k : gw p l e R s m args below meth c Qx A D cA q0 tF qF al N0 u0 z0 um zm (pc + 3) lv (.ref a.1 :: r) (hnew a y (x, y)) (va_up I a.1 (fun _ => 0)) (va_up J a.1 (fun _ => 0)) (va_up Q a.1 (fun _ => none))) : gw p l e R s m args below meth c Qx A D cA q0 tF qF al N0 u0 z0 um zm pc lv (.int v :: r) a I J Q := by
  obtain ⟨hx, hb, hml, -, -, hown, hts, hK, hA, -, hum, hzm, -, -, hbs⟩ := C
  intro q H locs ls h1 h2 hP hD hS hl
  obtain ⟨g1, g2, g3, g4, g5, g6⟩ := h2
  have hao : va_AO K s := by
    rcases hKx with ⟨-, rfl⟩ | ⟨-, rfl⟩ | ⟨-, rfl⟩
    · exact hK.2.2.1
    · exact hK.2.2.2.1
    · exact hK.2.2.2.2
  refine va_newq hx hb hown (hts _ hlk) hao hK.1 hP hD hS hA hv0 hv (by omega) (by omega) (by omega) hd (fun q' cB H1 hK1 hP1 hD1 hS1 => ?_)
  obtain rfl : cB = cA x := by
    rcases hKx with ⟨rfl, rfl⟩ | ⟨rfl, rfl⟩ | ⟨rfl, rfl⟩
    · exact same_arr hK1 (i := 2) rfl (fun C hC h1 h2 => same_arrO h1 h2)
    · exact same_arr hK1 (i := 3) rfl (fun C hC h1 h2 => same_arrO h1 h2)
    · exact same_arr hK1 (i := 4) rfl (fun C hC h1 h2 => same_arrO h1 h2)
  have hcellE : hE cA q (fun _ => none) (fun _ _ => none) (fun _ => (x, y)) (fun _ _ => 0) (fun _ _ => 0) (fun _ _ => none) 0 = .inl (cA x, y, .inr (.inr (.inr (.inr (fun _ => none))))) := hE_ref rfl (by rcases hKx with ⟨rfl, -⟩ | ⟨rfl, -⟩ | ⟨rfl, -⟩ <;> decide)
  rw [← hcellE, ← hW_push (n := y) g6 ht.1 ht.2] at hP1 hD1
  have kz := k (va_up q a.1 q') H1 locs ls ⟨fun k' hk' => by rw [va_up_ne _ _ (by omega)]; exact h1.1 k' hk', fun h => absurd (h.symm.trans hal) (by decide)⟩ ⟨Nat.le_succ_of_le g1, Nat.le_succ_of_le g2, hu.1, Nat.le_trans g4 (Nat.le_add_right _ _), hu.2, wf_new g6 ht.2⟩ hP1 hD1 hS1 (hLs_new hl hr.1)
  rw [List.map_cons, map_new hr.2] at kz
  have ec : cv (va_up q a.1 q') (.ref a.1) = .ref q' := by show Value.ref (va_up q a.1 q' a.1) = _; rw [va_up_self]
  rw [ec] at kz
  have eu : (hnew a y (x, y)).2.1 - u0 = a.2.1 - u0 + 1 := by show a.2.1 + 1 - u0 = _; omega
  have ez : (hnew a y (x, y)).2.2.1 - z0 = a.2.2.1 - z0 + y := by show a.2.2.1 + y - z0 = _; omega
  rw [eu, ez] at kz
  exact kz
end NW9
