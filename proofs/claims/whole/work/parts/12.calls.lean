/-! the kinds of calls -/
def okM (own : String) (idx d : Nat) (dd : cdT) (n kind rc : Nat) (L : List (Int32 × Nat)) : Bool :=
  decide (dd.1.cls ≠ "java/lang/invoke/MethodHandle") && decide (dd.1.cls ≠ "java/lang/invoke/VarHandle") && decide ((parseMethodDescriptor dd.1.desc).map (fun z => z.parameters.length) = some (if kind = 1 then n else n - 1)) && decide (dd.2.2.2.2 + 1 ≤ d) && decide (dd.2.2.1 ≤ 45) && memH (hn L 1) (Cond.initialized dd.1.cls)
    && (if kind = 0 then decide (dd.1.name = "<init>") && memH (hn L 2) (Cond.instanceMethod dd.1) && decide (dd.2.2.2.1 = none) && decide (1 ≤ n) && (memH (hn L 0) (Cond.methodLink own idx dd.1) || memN (hn L 0) (Cond.methodLinkNest own idx dd.1 RX9))
      else if kind = 1 then memH (hn L 2) (Cond.static dd.1) && (memH (hn L 0) (Cond.methodLink own idx dd.1) || memN (hn L 0) (Cond.methodLinkNest own idx dd.1 RX9))
      else memH (hn L 2) (Cond.instanceMethod dd.1) && memH (hn L 3) (Cond.selects dd.1.cls dd.1 dd.1) && decide (1 ≤ n) && memH (hn L 0) (Cond.methodLink own idx dd.1) && decide ((vwCl[rc]?).map (fun r => r.1) = some dd.1.cls))
section CK
variable {p : Program} {l : Launch} {e : Env} {R : Room} {s : State} {m : MethodId} {args : Array Value} {below : List Frame} {meth : Method} {c : Code} {Qx : State → Prop} {A : Nat → Prop} {D : va_G} {cA : Nat → ClassId} {q0 : Nat → Nat} {tF : hTF} {qF : hQF} {al : Bool} {N0 u0 z0 um zm base nL d : Nat} {cc : ByteArray} {own : String} {ret : Option FieldType} {ini : Bool} {pc : Nat} {lv lv' : lL} {st st' : List Value} {a : hA} {I : hI} {J : hJ} {Q : hQ}
theorem take_map {q : Nat → Nat} {n : Nat} {o : Nat} {av : List Value} (h : (st.take n).reverse = .ref o :: av) : st.map (cv q) = (av.map (cv q)).reverse ++ .ref (q o) :: (st.drop n).map (cv q) := by
  have h1 : st.take n = av.reverse ++ [.ref o] := by
    rw [← List.reverse_reverse (st.take n), h, List.reverse_cons]
  conv => lhs; rw [← List.take_append_drop n st, h1]
  simp [cv]
theorem take_mapS {q : Nat → Nat} {n : Nat} : st.map (cv q) = (((st.take n).reverse).map (cv q)).reverse ++ (st.drop n).map (cv q) := by
  conv => lhs; rw [← List.take_append_drop n st]
  simp
theorem gw_virtual {idx : Nat} {dd : cdT} {ee : ev} {o : Nat} {av : List Value} (C : cx p R s m args meth c A D cA cc own nL ret ini d N0 base u0 z0 um zm) (hcon : Con l tF qF base dd ee) (hd : decode cc pc = .ok (.invokevirtual idx, 3)) {L : List (Int32 × Nat)} (hok : okM own idx d dd ee.1 2 ee.2.1 L = true)
    (hal : ee.2.2.1 = true → al = true) (hlen : ee.1 ≤ st.length) (hu : a.2.1 ≤ um → a.2.1 + ee.2.2.2.1 ≤ um) (hz : a.2.2.1 ≤ zm → a.2.2.1 + ee.2.2.2.2.1 ≤ zm) (hrok : ee.2.2.1 = true → rok a.1 lv (st.drop ee.1)) (hc8 : cat8 (st.drop ee.1) ≤ 8) (hav : (st.take ee.1).reverse = .ref o :: av) (hin : cin base a o = true) (ht : (tE tF a.2.2.2 o).1 = ee.2.1)
    (k : ee.2.2.2.2.2 (.ref o :: av) a I J Q (fun v a' I' J' Q' => gw p l e R s m args below meth c Qx A D cA q0 tF qF al N0 u0 z0 um zm (pc + 3) lv (v.toList ++ st.drop ee.1) a' I' J' Q')) : gw p l e R s m args below meth c Qx A D cA q0 tF qF al N0 u0 z0 um zm pc lv st a I J Q := by
  have hlen2 : (Value.ref o :: av).length = ee.1 := by rw [← hav, List.length_reverse, List.length_take]; omega
  unfold okM at hok
  simp only [Bool.and_eq_true, decide_eq_true_eq, if_neg (show ¬ (2 : Nat) = 0 by decide), if_neg (show ¬ (2 : Nat) = 1 by decide)] at hok
  obtain ⟨⟨⟨⟨⟨⟨m1, m2⟩, m3⟩, m4⟩, m5⟩, m6⟩, ⟨⟨⟨m7, m8⟩, m9⟩, m10⟩, m11⟩ := hok
  have m6 := memH_ok m6
  have m7 := memH_ok m7
  have m8 := memH_ok m8
  have m10 := memH_ok m10
  refine gw_call (dd := dd) (ee := ee) C hal hlen hu hz hrok (K := fun v a' I' J' Q' => gw p l e R s m args below meth c Qx A D cA q0 tF qF al N0 u0 z0 um zm (pc + 3) lv (v.toList ++ st.drop ee.1) a' I' J' Q') (fun q sz hb hw => hcon.2 D cA q _ a I J Q _ sz hb hw (by rw [hav]; exact hlen2) (by rw [hav]; exact k)) ?_ (fun v a' I' J' Q' h => h)
  obtain ⟨hx, hb, hml, -, -, hown, hts, hK, hA, -, hum, hzm, hfr, hlo, hbs⟩ := C
  intro q H locs ls hcs hN hls hP hpre hM
  have hlt := cin_lt hbs hN hin
  obtain ⟨rc, e1, e2⟩ : ∃ rc, vwCl[ee.2.1]? = some rc ∧ rc.1 = dd.1.cls := by
    cases h : vwCl[ee.2.1]? with
    | none => rw [h] at m11; cases m11
    | some rc => rw [h] at m11; exact ⟨rc, rfl, Option.some.inj m11⟩
  have h11 : ee.2.1 < 11 := (List.getElem?_eq_some_iff.mp e1).1
  have hcell := hW_get (cA := cA) (q := q) (tF := tF) (qF := qF) (I := I) (J := J) (Q := Q) hlt
  rw [hE_obj ht h11] at hcell
  obtain ⟨cell, w1, w2, w3⟩ := va_recv hK.1 hP e1 hcell
  rw [hav] at hM hpre ⊢
  have hcw : CallW R s args own dd.1.cls idx dd.1 dd.2.1 dd.2.2.1 dd.2.2.2.1 (lwm dd) (rmd dd.2.2.2.2 ee.2.2.2.1 ee.2.2.2.2.1) ee.2.2.2.1 ee.2.2.2.2.1 (ee.1 - 1) :=
    ⟨callB_of (ee.1 - 1) hts (good_lwm hcon.1) rfl rfl rfl (hts _ m6) (hts _ m10) ⟨m1, m2, m3⟩ ⟨by rw [hfr]; exact m4, by rw [hlo]; show 8 + (dd.2.2.1 + 11) + 64 * dd.2.2.2.2 ≤ 64 * d; omega⟩, hts _ m7, hts _ m8⟩
  exact va_runV (As := av.map (cv q)) (b := q o) ⟨hx, hb, hml, hown, hts⟩ hM hcw ⟨pre_blind, ⟨cell, w1, w2, by rw [← e2]; exact w3⟩, hpre⟩ rfl (by rw [List.length_map]; simp at hlen2; omega) (hls.trans hml) (take_map hav) (by
    show 2 * 0 + _ ≤ 8
    have := cat8_sum q (st.drop ee.1)
    omega) hd hcs
theorem gw_static {idx : Nat} {dd : cdT} {ee : ev} (C : cx p R s m args meth c A D cA cc own nL ret ini d N0 base u0 z0 um zm) (hcon : Con l tF qF base dd ee) (hd : decode cc pc = .ok (.invokestatic idx, 3)) {L : List (Int32 × Nat)} (hok : okM own idx d dd ee.1 1 ee.2.1 L = true)
    (hal : ee.2.2.1 = true → al = true) (hlen : ee.1 ≤ st.length) (hu : a.2.1 ≤ um → a.2.1 + ee.2.2.2.1 ≤ um) (hz : a.2.2.1 ≤ zm → a.2.2.1 + ee.2.2.2.2.1 ≤ zm) (hrok : ee.2.2.1 = true → rok a.1 lv (st.drop ee.1)) (hc8 : cat8 (st.drop ee.1) ≤ 8)
    (k : ee.2.2.2.2.2 (st.take ee.1).reverse a I J Q (fun v a' I' J' Q' => gw p l e R s m args below meth c Qx A D cA q0 tF qF al N0 u0 z0 um zm (pc + 3) lv (v.toList ++ st.drop ee.1) a' I' J' Q')) : gw p l e R s m args below meth c Qx A D cA q0 tF qF al N0 u0 z0 um zm pc lv st a I J Q := by
  have hlen2 : ((st.take ee.1).reverse).length = ee.1 := by rw [List.length_reverse, List.length_take]; omega
  unfold okM at hok
  simp only [Bool.and_eq_true, Bool.or_eq_true, decide_eq_true_eq, if_neg (show ¬ (1 : Nat) = 0 by decide), if_true] at hok
  obtain ⟨⟨⟨⟨⟨⟨m1, m2⟩, m3⟩, m4⟩, m5⟩, m6⟩, m7, m8⟩ := hok
  have m6 := memH_ok m6
  have m7 := memH_ok m7
  have m8 := m8.imp memH_ok memN_ok
  refine gw_call (dd := dd) (ee := ee) C hal hlen hu hz hrok (K := fun v a' I' J' Q' => gw p l e R s m args below meth c Qx A D cA q0 tF qF al N0 u0 z0 um zm (pc + 3) lv (v.toList ++ st.drop ee.1) a' I' J' Q') (fun q sz hb hw => hcon.2 D cA q _ a I J Q _ sz hb hw hlen2 k) ?_ (fun v a' I' J' Q' h => h)
  obtain ⟨hx, hb, hml, -, -, hown, hts, hK, hA, -, hum, hzm, hfr, hlo, hbs⟩ := C
  intro q H locs ls hcs hN hls hP hpre hM
  have hroom : (rmd dd.2.2.2.2 ee.2.2.2.1 ee.2.2.2.2.1).frames + 1 ≤ R.frames ∧ 8 + (dd.2.2.1 + 11) + (rmd dd.2.2.2.2 ee.2.2.2.1 ee.2.2.2.2.1).locals ≤ R.locals := ⟨by rw [hfr]; exact m4, by rw [hlo]; show 8 + (dd.2.2.1 + 11) + 64 * dd.2.2.2.2 ≤ 64 * d; omega⟩
  have h8 : 2 * (F0 m pc ls (st.map (cv q))).monitorRoom + (((st.drop ee.1).map (cv q)).map fun v => v.category).sum ≤ 8 := by
    show 2 * 0 + _ ≤ 8
    have := cat8_sum q (st.drop ee.1)
    omega
  rcases m8 with m8 | m8
  · exact va_runS (As := ((st.take ee.1).reverse).map (cv q)) ⟨hx, hb, hml, hown, hts⟩ hM ⟨callB_of ee.1 hts (good_lwm hcon.1) rfl rfl rfl (hts _ m6) (hts _ m8) ⟨m1, m2, m3⟩ hroom, hts _ m7⟩ ⟨pre_blind, hpre⟩ rfl (by rw [List.length_map]; exact hlen2) (hls.trans hml) take_mapS h8 hd hcs
  · exact va_runSN (As := ((st.take ee.1).reverse).map (cv q)) ⟨hx, hb, hml, hown, hts⟩ hM ⟨va_cnB ee.1 hts (good_lwm hcon.1) rfl rfl rfl (hK.2.1 _ m8) (hts _ m6) ⟨m1, m2, m3⟩ hroom, hts _ m7, trivial⟩ ⟨pre_blind, hpre⟩ rfl (by rw [List.length_map]; exact hlen2) (hls.trans hml) take_mapS h8 hd hcs
theorem gw_special {idx : Nat} {dd : cdT} {ee : ev} {o : Nat} {av : List Value} (C : cx p R s m args meth c A D cA cc own nL ret ini d N0 base u0 z0 um zm) (hcon : Con l tF qF base dd ee) (hd : decode cc pc = .ok (.invokespecial idx, 3)) {L : List (Int32 × Nat)} (hok : okM own idx d dd ee.1 0 ee.2.1 L = true)
    (hal : ee.2.2.1 = true → al = true) (hlen : ee.1 ≤ st.length) (hu : a.2.1 ≤ um → a.2.1 + ee.2.2.2.1 ≤ um) (hz : a.2.2.1 ≤ zm → a.2.2.1 + ee.2.2.2.2.1 ≤ zm) (hrok : ee.2.2.1 = true → rok a.1 lv (st.drop ee.1)) (hc8 : cat8 (st.drop ee.1) ≤ 8) (hav : (st.take ee.1).reverse = .ref o :: av)
    (k : ee.2.2.2.2.2 (.ref o :: av) a I J Q (fun v a' I' J' Q' => gw p l e R s m args below meth c Qx A D cA q0 tF qF al N0 u0 z0 um zm (pc + 3) lv (v.toList ++ st.drop ee.1) a' I' J' Q')) : gw p l e R s m args below meth c Qx A D cA q0 tF qF al N0 u0 z0 um zm pc lv st a I J Q := by
  have hlen2 : (Value.ref o :: av).length = ee.1 := by rw [← hav, List.length_reverse, List.length_take]; omega
  unfold okM at hok
  simp only [Bool.and_eq_true, Bool.or_eq_true, decide_eq_true_eq, if_true, if_neg (show ¬ (0 : Nat) = 1 by decide)] at hok
  obtain ⟨⟨⟨⟨⟨⟨m1, m2⟩, m3⟩, m4⟩, m5⟩, m6⟩, ⟨⟨⟨m7, m8⟩, m9⟩, m10⟩, m11⟩ := hok
  have m6 := memH_ok m6
  have m8 := memH_ok m8
  have m11 := m11.imp memH_ok memN_ok
  refine gw_call (dd := dd) (ee := ee) C hal hlen hu hz hrok (K := fun v a' I' J' Q' => gw p l e R s m args below meth c Qx A D cA q0 tF qF al N0 u0 z0 um zm (pc + 3) lv (v.toList ++ st.drop ee.1) a' I' J' Q') (fun q sz hb hw => hcon.2 D cA q _ a I J Q _ sz hb hw (by rw [hav]; exact hlen2) (by rw [hav]; exact k)) ?_ (fun v a' I' J' Q' h => h)
  obtain ⟨hx, hb, hml, -, -, hown, hts, hK, hA, -, hum, hzm, hfr, hlo, hbs⟩ := C
  intro q H locs ls hcs hN hls hP hpre hM
  rw [hav] at hM hpre ⊢
  have hroom : (rmd dd.2.2.2.2 ee.2.2.2.1 ee.2.2.2.2.1).frames + 1 ≤ R.frames ∧ 8 + (dd.2.2.1 + 11) + (rmd dd.2.2.2.2 ee.2.2.2.1 ee.2.2.2.2.1).locals ≤ R.locals := ⟨by rw [hfr]; exact m4, by rw [hlo]; show 8 + (dd.2.2.1 + 11) + 64 * dd.2.2.2.2 ≤ 64 * d; omega⟩
  have h8 : 2 * (F0 m pc ls (st.map (cv q))).monitorRoom + (((st.drop ee.1).map (cv q)).map fun v => v.category).sum ≤ 8 := by
    show 2 * 0 + _ ≤ 8
    have := cat8_sum q (st.drop ee.1)
    omega
  have hlw : lwm dd = Cond.code dd.1 dd.2.1 dd.2.2.1 none :: lw_g := by unfold lwm; rw [m9]
  rcases m11 with m11 | m11
  · exact va_runI (As := av.map (cv q)) (b := q o) ⟨hx, hb, hml, hown, hts⟩ hM ⟨callB_of (ee.1 - 1) hts (good_lwm hcon.1) hlw rfl rfl (hts _ m6) (hts _ m11) ⟨m1, m2, m3⟩ hroom, m7, hts _ m8⟩ ⟨pre_blind, hpre⟩ rfl (by rw [List.length_map]; simp at hlen2; omega) (hls.trans hml) (take_map hav) h8 hd hcs
  · exact va_runIN (As := av.map (cv q)) (b := q o) ⟨hx, hb, hml, hown, hts⟩ hM ⟨va_cnB (ee.1 - 1) hts (good_lwm hcon.1) hlw rfl rfl (hK.2.1 _ m11) (hts _ m6) ⟨m1, m2, m3⟩ hroom, m7, hts _ m8⟩ ⟨pre_blind, hpre⟩ rfl (by rw [List.length_map]; simp at hlen2; omega) (hls.trans hml) (take_map hav) h8 hd hcs
theorem gw_object {idx : Nat} {o : Nat} {r : List Value} (C : cx p R s m args meth c A D cA cc own nL ret ini d N0 base u0 z0 um zm) (hd1 : 1 ≤ d) (hd : decode cc pc = .ok (.invokespecial idx, 3)) (w1 : Cond.methodLink own idx objectInit ∈ lw_g) (w2 : Cond.instanceMethod objectInit ∈ lw_g) (w3 : Cond.code objectInit ⟨#[0xb1]⟩ 1 none ∈ lw_g) (hc8 : cat8 r ≤ 8)
    (k : gw p l e R s m args below meth c Qx A D cA q0 tF qF al N0 u0 z0 um zm (pc + 3) lv r a I J Q) : gw p l e R s m args below meth c Qx A D cA q0 tF qF al N0 u0 z0 um zm pc lv (.ref o :: r) a I J Q := by
  obtain ⟨hx, hb, hml, -, -, hown, hts, hK, hA, -, hum, hzm, hfr, hlo, hbs⟩ := C
  intro q H locs ls h1 h2 hP hD hS hl
  obtain ⟨hll, l0, h8, h9⟩ := id hl
  refine W.objInit hx hb hown (hts _ w1) (hts _ w2) (hts _ w3) rfl h8.1 rfl hd (by rw [hfr]; exact hd1) ?_ (k q H locs ls h1 h2 hP hD hS hl)
  show 2 * 0 + _ + 12 ≤ R.locals
  have := cat8_sum q r
  rw [hlo]
  omega
theorem gw_max {idx : Nat} {x y : Int32} {r : List Value} (C : cx p R s m args meth c A D cA cc own nL ret ini d N0 base u0 z0 um zm) (hd1 : 1 ≤ d) (hd : decode cc pc = .ok (.invokestatic idx, 3)) (w1 : Cond.methodLink own idx Lib.Math.max.name ∈ lw_g) (w2 : Cond.static Lib.Math.max.name ∈ lw_g) (w3 : Cond.initialized "java/lang/Math" ∈ lw_g) (w4 : Cond.code Lib.Math.max.name Lib.Math.max.code 2 (some .int) ∈ lw_g) (hc8 : cat8 r ≤ 8)
    (k : gw p l e R s m args below meth c Qx A D cA q0 tF qF al N0 u0 z0 um zm (pc + 3) lv (.int (if x < y then y else x) :: r) a I J Q) : gw p l e R s m args below meth c Qx A D cA q0 tF qF al N0 u0 z0 um zm pc lv (.int y :: .int x :: r) a I J Q := by
  obtain ⟨hx, hb, hml, -, -, hown, hts, hK, hA, -, hum, hzm, hfr, hlo, hbs⟩ := C
  intro q H locs ls h1 h2 hP hD hS hl
  obtain ⟨hll, l0, h8, h9⟩ := id hl
  have := cat8_sum q r
  exact va_mmax hx hb h8.1.symm hown (hts _ w1) (hts _ w2) (hts _ w3) (hts _ w4) (by rw [hfr]; exact hd1) (by rw [hlo]; omega) (by omega) (by omega) hd (k q H locs ls h1 h2 hP hD hS hl)
theorem gw_min {idx : Nat} {x y : Int32} {r : List Value} (C : cx p R s m args meth c A D cA cc own nL ret ini d N0 base u0 z0 um zm) (hd1 : 1 ≤ d) (hd : decode cc pc = .ok (.invokestatic idx, 3)) (w1 : Cond.methodLink own idx Lib.Math.min.name ∈ lw_g) (w2 : Cond.static Lib.Math.min.name ∈ lw_g) (w3 : Cond.initialized "java/lang/Math" ∈ lw_g) (w4 : Cond.code Lib.Math.min.name Lib.Math.min.code 2 (some .int) ∈ lw_g) (hc8 : cat8 r ≤ 8)
    (k : gw p l e R s m args below meth c Qx A D cA q0 tF qF al N0 u0 z0 um zm (pc + 3) lv (.int (if y < x then y else x) :: r) a I J Q) : gw p l e R s m args below meth c Qx A D cA q0 tF qF al N0 u0 z0 um zm pc lv (.int y :: .int x :: r) a I J Q := by
  obtain ⟨hx, hb, hml, -, -, hown, hts, hK, hA, -, hum, hzm, hfr, hlo, hbs⟩ := C
  intro q H locs ls h1 h2 hP hD hS hl
  obtain ⟨hll, l0, h8, h9⟩ := id hl
  have := cat8_sum q r
  exact va_mmin hx hb h8.1.symm hown (hts _ w1) (hts _ w2) (hts _ w3) (hts _ w4) (by rw [hfr]; exact hd1) (by rw [hlo]; omega) (by omega) (by omega) hd (k q H locs ls h1 h2 hP hD hS hl)
end CK
