/-! soundness: arrays, new, branches -/
section AO8
variable {p : Program} {l : Launch} {e : Env} {R : Room} {s : State} {m : MethodId} {args : Array Value} {below : List Frame} {meth : Method} {c : Code} {Qx : State → Prop} {A : Nat → Prop} {D : va_G} {cA : Nat → ClassId} {q0 : Nat → Nat} {tF : hTF} {qF : hQF} {al : Bool} {N0 u0 z0 um zm base nL d : Nat} {cc : ByteArray} {own : String} {ret : Option FieldType} {ini : Bool} {pc : Nat} {lv lv' : lL} {st st' : List Value} {a : hA} {I : hI} {J : hJ} {Q : hQ}
theorem gw_iaload {o : Nat} {i : Int32} {r : List Value} (C : cx p R s m args meth c A D cA cc own nL ret ini d N0 base u0 z0 um zm) (hd : decode cc pc = .ok (.iaload, 1)) (hin : cin base a o = true) (ht : (tE tF a.2.2.2 o).1 = 11) (hi : vp_in i (tE tF a.2.2.2 o).2)
    (k : gw p l e R s m args below meth c Qx A D cA q0 tF qF al N0 u0 z0 um zm (pc + 1) lv (.int (I o i.toNatClampNeg) :: r) a I J Q) : gw p l e R s m args below meth c Qx A D cA q0 tF qF al N0 u0 z0 um zm pc lv (.int i :: .ref o :: r) a I J Q := by
  obtain ⟨hx, hb, hml, -, -, hown, hts, hK, -, -, -, -, -, -, hbs⟩ := C
  intro q H locs ls h1 h2 hP hD hS hl
  have hcell := hW_get (cA := cA) (q := q) (tF := tF) (qF := qF) (I := I) (J := J) (Q := Q) (cin_lt hbs h2.1 hin)
  rw [hE_int ht] at hcell
  exact va_iald hx hb hK.1 hP o 0 hcell rfl hi hd (k q H locs ls h1 h2 hP hD hS hl)
theorem gw_laload {o : Nat} {i : Int32} {r : List Value} (C : cx p R s m args meth c A D cA cc own nL ret ini d N0 base u0 z0 um zm) (hd : decode cc pc = .ok (.laload, 1)) (hin : cin base a o = true) (ht : (tE tF a.2.2.2 o).1 = 12) (hi : vp_in i (tE tF a.2.2.2 o).2)
    (k : gw p l e R s m args below meth c Qx A D cA q0 tF qF al N0 u0 z0 um zm (pc + 1) lv (.long (J o i.toNatClampNeg) :: r) a I J Q) : gw p l e R s m args below meth c Qx A D cA q0 tF qF al N0 u0 z0 um zm pc lv (.int i :: .ref o :: r) a I J Q := by
  obtain ⟨hx, hb, hml, -, -, hown, hts, hK, -, -, -, -, -, -, hbs⟩ := C
  intro q H locs ls h1 h2 hP hD hS hl
  have hcell := hW_get (cA := cA) (q := q) (tF := tF) (qF := qF) (I := I) (J := J) (Q := Q) (cin_lt hbs h2.1 hin)
  rw [hE_long ht] at hcell
  exact va_lald hx hb hK.1 hP o 1 hcell rfl hi hd (k q H locs ls h1 h2 hP hD hS hl)
theorem gw_aaload {o : Nat} {i : Int32} {r : List Value} (C : cx p R s m args meth c A D cA cc own nL ret ini d N0 base u0 z0 um zm) (hd : decode cc pc = .ok (.aaload, 1)) (hin : cin base a o = true) (ht : 12 < (tE tF a.2.2.2 o).1) (ht2 : (tE tF a.2.2.2 o).1 < 16) (hi : vp_in i (tE tF a.2.2.2 o).2)
    (k : gw p l e R s m args below meth c Qx A D cA q0 tF qF al N0 u0 z0 um zm (pc + 1) lv (rv (qE qF Q o i.toNatClampNeg) :: r) a I J Q) : gw p l e R s m args below meth c Qx A D cA q0 tF qF al N0 u0 z0 um zm pc lv (.int i :: .ref o :: r) a I J Q := by
  obtain ⟨hx, hb, hml, -, -, hown, hts, hK, -, -, -, -, -, -, hbs⟩ := C
  intro q H locs ls h1 h2 hP hD hS hl
  have hcell := hW_get (cA := cA) (q := q) (tF := tF) (qF := qF) (I := I) (J := J) (Q := Q) (cin_lt hbs h2.1 hin)
  rw [hE_ref rfl ht] at hcell
  have kz := k q H locs ls h1 h2 hP hD hS hl
  rw [List.map_cons, cv_rv] at kz
  rcases (show (tE tF a.2.2.2 o).1 = 13 ∨ (tE tF a.2.2.2 o).1 = 14 ∨ (tE tF a.2.2.2 o).1 = 15 by omega) with e | e | e <;> rw [e] at hcell
  · exact va_aldq (C := RX6) hx hb hK.1 hP o 2 hcell rfl hi hd kz
  · exact va_aldq (C := RX7) hx hb hK.1 hP o 3 hcell rfl hi hd kz
  · exact va_aldq (C := RX8) hx hb hK.1 hP o 4 hcell rfl hi hd kz
theorem gw_iastore {o : Nat} {i v : Int32} {r : List Value} (C : cx p R s m args meth c A D cA cc own nL ret ini d N0 base u0 z0 um zm) (hd : decode cc pc = .ok (.iastore, 1)) (hin : cin base a o = true) (ht : (tE tF a.2.2.2 o).1 = 11) (hi : vp_in i (tE tF a.2.2.2 o).2)
    (k : gw p l e R s m args below meth c Qx A D cA q0 tF qF al N0 u0 z0 um zm (pc + 1) lv r a (up2 I o i.toNatClampNeg v) J Q) : gw p l e R s m args below meth c Qx A D cA q0 tF qF al N0 u0 z0 um zm pc lv (.int v :: .int i :: .ref o :: r) a I J Q := by
  obtain ⟨hx, hb, hml, -, -, hown, hts, hK, -, -, -, -, -, -, hbs⟩ := C
  intro q H locs ls h1 h2 hP hD hS hl
  have hlt := cin_lt hbs h2.1 hin
  have hcell := hW_get (cA := cA) (q := q) (tF := tF) (qF := qF) (I := I) (J := J) (Q := Q) hlt
  rw [hE_int ht] at hcell
  refine va_iast hx hb hK.1 hP hD hS o 0 hcell rfl hi hd (fun H1 locs1 hP1 hD1 hS1 => ?_)
  have hset : (hW cA q tF qF a I J Q).set o (q o, .inl (cA 11, (tE tF a.2.2.2 o).2, .inl (upd (I o) i.toNatClampNeg v))) = hW cA q tF qF a (up2 I o i.toNatClampNeg v) J Q := by
    refine hW_set hlt ?_ (fun k' hk' => hE_cong rfl (up2_ne hk') rfl rfl)
    rw [hE_int ht, up2_row]
  rw [hset] at hP1 hD1
  exact k q H1 locs1 ls h1 h2 hP1 hD1 hS1 hl
theorem gw_lastore {o : Nat} {i : Int32} {v : Int64} {r : List Value} (C : cx p R s m args meth c A D cA cc own nL ret ini d N0 base u0 z0 um zm) (hd : decode cc pc = .ok (.lastore, 1)) (hin : cin base a o = true) (ht : (tE tF a.2.2.2 o).1 = 12) (hi : vp_in i (tE tF a.2.2.2 o).2)
    (k : gw p l e R s m args below meth c Qx A D cA q0 tF qF al N0 u0 z0 um zm (pc + 1) lv r a I (up2 J o i.toNatClampNeg v) Q) : gw p l e R s m args below meth c Qx A D cA q0 tF qF al N0 u0 z0 um zm pc lv (.long v :: .int i :: .ref o :: r) a I J Q := by
  obtain ⟨hx, hb, hml, -, -, hown, hts, hK, -, -, -, -, -, -, hbs⟩ := C
  intro q H locs ls h1 h2 hP hD hS hl
  have hlt := cin_lt hbs h2.1 hin
  have hcell := hW_get (cA := cA) (q := q) (tF := tF) (qF := qF) (I := I) (J := J) (Q := Q) hlt
  rw [hE_long ht] at hcell
  refine va_last hx hb hK.1 hP hD hS o 1 hcell rfl hi hd (fun H1 locs1 hP1 hD1 hS1 => ?_)
  have hset : (hW cA q tF qF a I J Q).set o (q o, .inl (cA 12, (tE tF a.2.2.2 o).2, .inr (.inl (vp_updL (J o) i.toNatClampNeg v)))) = hW cA q tF qF a I (up2 J o i.toNatClampNeg v) Q := by
    refine hW_set hlt ?_ (fun k' hk' => hE_cong rfl rfl (up2_ne hk') rfl)
    rw [hE_long ht, up2_rowL]
  rw [hset] at hP1 hD1
  exact k q H1 locs1 ls h1 h2 hP1 hD1 hS1 hl
theorem qE_ne {o j k' : Nat} {v : Option Nat} (h : k' ≠ o) : qE qF (up2 Q o j v) k' = qE qF Q k' := by
  funext i
  unfold qE
  rw [up2_ne h]
theorem qE_row {o j : Nat} {v : Nat} (h : qF o j = none) : (fun i => (qE qF (up2 Q o j (some v)) o i)) = va_up (qE qF Q o) j (some v) := by
  funext i
  unfold qE va_up up2
  by_cases hi : i = j
  · subst hi
    simp [h]
  · simp [hi]
theorem wf_up {o j v : Nat} (h : qF o j = none) (hv : v < a.1) (hw : wfQ qF a Q) : wfQ qF a (up2 Q o j (some v)) := by
  intro k i x hk hq
  by_cases ho : k = o
  · subst ho
    have e := congrFun (qE_row (qF := qF) (Q := Q) (v := v) h) i
    rw [e] at hq
    unfold va_up at hq
    split at hq
    · cases hq; exact hv
    · exact hw k i x hk hq
  · rw [qE_ne ho] at hq
    exact hw k i x hk hq
theorem gw_aastore {o v : Nat} {i : Int32} {r : List Value} (C : cx p R s m args meth c A D cA cc own nL ret ini d N0 base u0 z0 um zm) (hd : decode cc pc = .ok (.aastore, 1)) (hin : cin base a o = true) (hinv : cin base a v = true) (ht : (tE tF a.2.2.2 v).1 + 7 = (tE tF a.2.2.2 o).1) (h5 : 5 < (tE tF a.2.2.2 v).1) (h9 : (tE tF a.2.2.2 v).1 < 9) (hi : vp_in i (tE tF a.2.2.2 o).2) (hq : qF o i.toNatClampNeg = none)
    (k : gw p l e R s m args below meth c Qx A D cA q0 tF qF al N0 u0 z0 um zm (pc + 1) lv r a I J (up2 Q o i.toNatClampNeg (some v))) : gw p l e R s m args below meth c Qx A D cA q0 tF qF al N0 u0 z0 um zm pc lv (.ref v :: .int i :: .ref o :: r) a I J Q := by
  obtain ⟨hx, hb, hml, -, -, hown, hts, hK, -, -, -, -, -, -, hbs⟩ := C
  intro q H locs ls h1 h2 hP hD hS hl
  have hlt := cin_lt hbs h2.1 hin
  have hlv := cin_lt hbs h2.1 hinv
  have hcell := hW_get (cA := cA) (q := q) (tF := tF) (qF := qF) (I := I) (J := J) (Q := Q) hlt
  have hcv := hW_get (cA := cA) (q := q) (tF := tF) (qF := qF) (I := I) (J := J) (Q := Q) hlv
  rw [hE_ref ht.symm (by omega)] at hcell
  rw [hE_obj rfl (by omega)] at hcv
  have kz : ∀ (H1 : Heap) (locs1 : List Loc), va_P D vwCl ((hW cA q tF qF a I J Q).set o (q o, .inl (cA ((tE tF a.2.2.2 v).1 + 7), (tE tF a.2.2.2 o).2, .inr (.inr (.inr (.inr (va_up (fun j => (qE qF Q o j).map q) i.toNatClampNeg (some (q v))))))))) H1 → va_D A ((hW cA q tF qF a I J Q).set o (q o, .inl (cA ((tE tF a.2.2.2 v).1 + 7), (tE tF a.2.2.2 o).2, .inr (.inr (.inr (.inr (va_up (fun j => (qE qF Q o j).map q) i.toNatClampNeg (some (q v))))))))) → va_S A s.heap H1 locs1 → W p l e R s m args below meth c H1 locs1 (a.2.1 - u0) (a.2.2.1 - z0) Qx (F0 m (pc + 1) ls (r.map (cv q))) := by
    intro H1 locs1 hP1 hD1 hS1
    have hset : (hW cA q tF qF a I J Q).set o (q o, .inl (cA ((tE tF a.2.2.2 v).1 + 7), (tE tF a.2.2.2 o).2, .inr (.inr (.inr (.inr (va_up (fun j => (qE qF Q o j).map q) i.toNatClampNeg (some (q v)))))))) = hW cA q tF qF a I J (up2 Q o i.toNatClampNeg (some v)) := by
      refine hW_set hlt ?_ (fun k' hk' => hE_cong rfl rfl rfl (qE_ne hk'))
      rw [hE_ref ht.symm (by omega)]
      have e : (fun j => (qE qF (up2 Q o i.toNatClampNeg (some v)) o j).map q) = va_up (fun j => (qE qF Q o j).map q) i.toNatClampNeg (some (q v)) := by
        funext j
        have e := congrFun (qE_row (qF := qF) (Q := Q) (v := v) hq) j
        rw [e]
        unfold va_up
        split <;> rfl
      rw [e]
    rw [hset] at hP1 hD1
    exact k q H1 locs1 ls h1 ⟨h2.1, h2.2.1, h2.2.2.1, h2.2.2.2.1, h2.2.2.2.2.1, wf_up hq hlv h2.2.2.2.2.2⟩ hP1 hD1 hS1 hl
  rcases (show (tE tF a.2.2.2 v).1 = 6 ∨ (tE tF a.2.2.2 v).1 = 7 ∨ (tE tF a.2.2.2 v).1 = 8 by omega) with e | e | e <;> rw [e] at hcell hcv kz
  · exact va_astq (r := (RX6, TX6, 6)) hx hb hK.1 hP hD hS o 2 v 6 hcell rfl hcv rfl hi hd kz
  · exact va_astq (r := (RX7, TX7, 3)) hx hb hK.1 hP hD hS o 3 v 7 hcell rfl hcv rfl hi hd kz
  · exact va_astq (r := (RX8, TX8, 3)) hx hb hK.1 hP hD hS o 4 v 8 hcell rfl hcv rfl hi hd kz
theorem gw_alen {o : Nat} {r : List Value} (C : cx p R s m args meth c A D cA cc own nL ret ini d N0 base u0 z0 um zm) (hd : decode cc pc = .ok (.arraylength, 1)) (hin : cin base a o = true) (ht : 10 < (tE tF a.2.2.2 o).1) (ht2 : (tE tF a.2.2.2 o).1 < 16)
    (k : gw p l e R s m args below meth c Qx A D cA q0 tF qF al N0 u0 z0 um zm (pc + 1) lv (.int (Int32.ofNat (tE tF a.2.2.2 o).2) :: r) a I J Q) : gw p l e R s m args below meth c Qx A D cA q0 tF qF al N0 u0 z0 um zm pc lv (.ref o :: r) a I J Q := by
  obtain ⟨hx, hb, hml, -, -, hown, hts, hK, -, -, -, -, -, -, hbs⟩ := C
  intro q H locs ls h1 h2 hP hD hS hl
  have hcell := hW_get (cA := cA) (q := q) (tF := tF) (qF := qF) (I := I) (J := J) (Q := Q) (cin_lt hbs h2.1 hin)
  have kz := k q H locs ls h1 h2 hP hD hS hl
  rcases (show (tE tF a.2.2.2 o).1 = 11 ∨ (tE tF a.2.2.2 o).1 = 12 ∨ (tE tF a.2.2.2 o).1 = 13 ∨ (tE tF a.2.2.2 o).1 = 14 ∨ (tE tF a.2.2.2 o).1 = 15 by omega) with e | e | e | e | e
  · rw [hE_int e] at hcell
    exact va_alen hx hb hK.1 hP o 0 hcell rfl rfl hd kz
  · rw [hE_long e] at hcell
    exact va_alen hx hb hK.1 hP o 1 hcell rfl rfl hd kz
  · rw [hE_ref e (by omega)] at hcell
    exact va_alen hx hb hK.1 hP o 2 hcell rfl rfl hd kz
  · rw [hE_ref e (by omega)] at hcell
    exact va_alen hx hb hK.1 hP o 3 hcell rfl rfl hd kz
  · rw [hE_ref e (by omega)] at hcell
    exact va_alen hx hb hK.1 hP o 4 hcell rfl rfl hd kz
theorem gw_if {cd : ClassFile.Cond} {off : Int} {tgt : Nat} {x : Int32} {r : List Value} (C : cx p R s m args meth c A D cA cc own nL ret ini d N0 base u0 z0 um zm) (hd : decode cc pc = .ok (.ifCond cd off, 3)) (ht : (pc : Int) + off = (tgt : Int))
    (k : ifc cd x 0 (gw p l e R s m args below meth c Qx A D cA q0 tF qF al N0 u0 z0 um zm tgt lv r a I J Q) (gw p l e R s m args below meth c Qx A D cA q0 tF qF al N0 u0 z0 um zm (pc + 3) lv r a I J Q)) : gw p l e R s m args below meth c Qx A D cA q0 tF qF al N0 u0 z0 um zm pc lv (.int x :: r) a I J Q := by
  obtain ⟨hx, hb, -⟩ := C
  intro q H locs ls h1 h2 hP hD hS hl
  cases cd with
  | eq => exact lv_if_eq hx hb hd ht (fun c => k.1 c q H locs ls h1 h2 hP hD hS hl) (fun c => k.2 c q H locs ls h1 h2 hP hD hS hl)
  | ne => exact lv_if_ne hx hb hd ht (fun c => k.1 c q H locs ls h1 h2 hP hD hS hl) (fun c => k.2 c q H locs ls h1 h2 hP hD hS hl)
  | lt => exact lv_if_lt hx hb hd ht (fun c => k.1 c q H locs ls h1 h2 hP hD hS hl) (fun c => k.2 c q H locs ls h1 h2 hP hD hS hl)
  | ge => exact lv_if_ge hx hb hd ht (fun c => k.1 c q H locs ls h1 h2 hP hD hS hl) (fun c => k.2 c q H locs ls h1 h2 hP hD hS hl)
  | gt => exact lv_if_gt hx hb hd ht (fun c => k.1 c q H locs ls h1 h2 hP hD hS hl) (fun c => k.2 c q H locs ls h1 h2 hP hD hS hl)
  | le => exact lv_if_le hx hb hd ht (fun c => k.1 c q H locs ls h1 h2 hP hD hS hl) (fun c => k.2 c q H locs ls h1 h2 hP hD hS hl)
theorem gw_icmp {cd : ClassFile.Cond} {off : Int} {tgt : Nat} {x y : Int32} {r : List Value} (C : cx p R s m args meth c A D cA cc own nL ret ini d N0 base u0 z0 um zm) (hd : decode cc pc = .ok (.if_icmp cd off, 3)) (ht : (pc : Int) + off = (tgt : Int))
    (k : ifc cd x y (gw p l e R s m args below meth c Qx A D cA q0 tF qF al N0 u0 z0 um zm tgt lv r a I J Q) (gw p l e R s m args below meth c Qx A D cA q0 tF qF al N0 u0 z0 um zm (pc + 3) lv r a I J Q)) : gw p l e R s m args below meth c Qx A D cA q0 tF qF al N0 u0 z0 um zm pc lv (.int y :: .int x :: r) a I J Q := by
  obtain ⟨hx, hb, -⟩ := C
  intro q H locs ls h1 h2 hP hD hS hl
  cases cd with
  | eq => exact lv_icmp_eq hx hb hd ht (fun c => k.1 c q H locs ls h1 h2 hP hD hS hl) (fun c => k.2 c q H locs ls h1 h2 hP hD hS hl)
  | ne => exact lv_icmp_ne hx hb hd ht (fun c => k.1 c q H locs ls h1 h2 hP hD hS hl) (fun c => k.2 c q H locs ls h1 h2 hP hD hS hl)
  | lt => exact lv_icmp_lt hx hb hd ht (fun c => k.1 c q H locs ls h1 h2 hP hD hS hl) (fun c => k.2 c q H locs ls h1 h2 hP hD hS hl)
  | ge => exact lv_icmp_ge hx hb hd ht (fun c => k.1 c q H locs ls h1 h2 hP hD hS hl) (fun c => k.2 c q H locs ls h1 h2 hP hD hS hl)
  | gt => exact lv_icmp_gt hx hb hd ht (fun c => k.1 c q H locs ls h1 h2 hP hD hS hl) (fun c => k.2 c q H locs ls h1 h2 hP hD hS hl)
  | le => exact lv_icmp_le hx hb hd ht (fun c => k.1 c q H locs ls h1 h2 hP hD hS hl) (fun c => k.2 c q H locs ls h1 h2 hP hD hS hl)
theorem gw_goto {off : Int} {tgt : Nat} {r : List Value} (C : cx p R s m args meth c A D cA cc own nL ret ini d N0 base u0 z0 um zm) (hd : decode cc pc = .ok (.goto off, 3)) (ht : (pc : Int) + off = (tgt : Int))
    (k : gw p l e R s m args below meth c Qx A D cA q0 tF qF al N0 u0 z0 um zm tgt lv r a I J Q) : gw p l e R s m args below meth c Qx A D cA q0 tF qF al N0 u0 z0 um zm pc lv r a I J Q := by
  obtain ⟨hx, hb, -⟩ := C
  intro q H locs ls h1 h2 hP hD hS hl
  exact lv_goto hx hb hd ht (k q H locs ls h1 h2 hP hD hS hl)
end AO8
