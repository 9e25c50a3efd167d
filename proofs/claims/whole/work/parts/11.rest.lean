/-! soundness: returns, nulls, divisions, switches, the kinds of calls -/
section RS
variable {p : Program} {l : Launch} {e : Env} {R : Room} {s : State} {m : MethodId} {args : Array Value} {below : List Frame} {meth : Method} {c : Code} {Qx : State → Prop} {A : Nat → Prop} {D : va_G} {cA : Nat → ClassId} {q0 : Nat → Nat} {tF : hTF} {qF : hQF} {al : Bool} {N0 u0 z0 um zm base nL d : Nat} {cc : ByteArray} {own : String} {ret : Option FieldType} {ini : Bool} {pc : Nat} {lv lv' : lL} {st st' : List Value} {a : hA} {I : hI} {J : hJ} {Q : hQ}
/-- the end of a method -/
def mq (below : List Frame) (s : State) (args : Array Value) (A : Nat → Prop) (D : va_G) (cA : Nat → ClassId) (q0 : Nat → Nat) (tF : hTF) (qF : hQF) (al : Bool) (N0 u0 z0 mc ms : Nat) (t0 : Nat → Nat × Nat) (I0 : hI) (J0 : hJ) (Q0 : hQ) (K : hR) : State → Prop := MQ below (cPost D cA q0 tF qF al (N0, u0, z0, t0) I0 J0 Q0 A mc ms K) args s mc ms A
def rtK (K : hR) (u0 z0 mc ms : Nat) : hR := fun v a I J Q => K v (a.1, u0 + mc, z0 + ms, a.2.2.2) I J Q
theorem ret_post {mc ms : Nat} {t0 : Nat → Nat × Nat} {I0 : hI} {J0 : hJ} {Q0 : hQ} {K : hR} {v : Option Value} {q : Nat → Nat} {H : Heap} {locs : List Loc} (hR : rtK K u0 z0 mc ms v a I J Q) (h1 : (∀ k, k < N0 → q k = q0 k) ∧ (al = false → q = q0)) (h2 : N0 ≤ a.1 ∧ u0 ≤ a.2.1 ∧ a.2.1 ≤ um ∧ z0 ≤ a.2.2.1 ∧ a.2.2.1 ≤ zm ∧ wfQ qF a Q) (hP : va_P D vwCl (hW cA q tF qF a I J Q) H) (hD : va_D A (hW cA q tF qF a I J Q)) (hS : va_S A s.heap H locs) (t : State) (ht : t.heap = H) : cPost D cA q0 tF qF al (N0, u0, z0, t0) I0 J0 Q0 A mc ms K args s (.returned (v.map (cv q))) t :=
  ⟨⟨v, a, I, J, Q, q, rfl, hR, h1, h2.1, h2.2.2.2.2.2, by rw [ht]; exact hP, hD⟩, hS.F ht⟩
theorem gw_ireturn {mc ms : Nat} {t0 : Nat → Nat × Nat} {I0 : hI} {J0 : hJ} {Q0 : hQ} {K : hR} {x : Int32} {ty : FieldType} (C : cx p R s m args meth c A D cA cc own nL ret ini d N0 base u0 z0 um zm) (hc : R.cells = mc) (hs : R.slots = ms) (hd : decode cc pc = .ok (.ireturn, 1)) (hr : ret = some ty) (hn : narrow ty (.int x) = .int x) (hR : rtK K u0 z0 mc ms (some (.int x)) a I J Q) :
    gw p l e R s m args below meth c (mq below s args A D cA q0 tF qF al N0 u0 z0 mc ms t0 I0 J0 Q0 K) A D cA q0 tF qF al N0 u0 z0 um zm pc lv [.int x] a I J Q := by
  obtain ⟨hx, hb, hml, hrt, hlocks, hown, hts, hK, hA, -, hum, hzm, -, -, hbs⟩ := C
  intro q H locs ls h1 h2 hP hD hS hl
  refine W.widen (k := mc) (n := ms) (by omega) (by omega) ?_
  exact W.zret hx hb (hrt.trans hr) hn (fun t ht hW => ret_post hR h1 h2 hP hD hS t ht) hS.2.2 hd hlocks
theorem gw_lreturn {mc ms : Nat} {t0 : Nat → Nat × Nat} {I0 : hI} {J0 : hJ} {Q0 : hQ} {K : hR} {x : Int64} (C : cx p R s m args meth c A D cA cc own nL ret ini d N0 base u0 z0 um zm) (hc : R.cells = mc) (hs : R.slots = ms) (hd : decode cc pc = .ok (.lreturn, 1)) (hr : ret = some .long) (hR : rtK K u0 z0 mc ms (some (.long x)) a I J Q) :
    gw p l e R s m args below meth c (mq below s args A D cA q0 tF qF al N0 u0 z0 mc ms t0 I0 J0 Q0 K) A D cA q0 tF qF al N0 u0 z0 um zm pc lv [.long x] a I J Q := by
  obtain ⟨hx, hb, hml, hrt, hlocks, hown, hts, hK, hA, -, hum, hzm, -, -, hbs⟩ := C
  intro q H locs ls h1 h2 hP hD hS hl
  refine W.widen (k := mc) (n := ms) (by omega) (by omega) ?_
  exact W.lret hx hb (hrt.trans hr) (fun t ht hW => ret_post hR h1 h2 hP hD hS t ht) hS.2.2 hd hlocks
theorem gw_areturn {mc ms : Nat} {t0 : Nat → Nat × Nat} {I0 : hI} {J0 : hJ} {Q0 : hQ} {K : hR} {v : Value} {ty : FieldType} (C : cx p R s m args meth c A D cA cc own nL ret ini d N0 base u0 z0 um zm) (hc : R.cells = mc) (hs : R.slots = ms) (hd : decode cc pc = .ok (.areturn, 1)) (hr : ret = some ty) (hty : (∃ n, ty = .object n) ∨ ∃ t, ty = .array t) (hv : v = .null ∨ ∃ k, v = .ref k) (hR : rtK K u0 z0 mc ms (some v) a I J Q) :
    gw p l e R s m args below meth c (mq below s args A D cA q0 tF qF al N0 u0 z0 mc ms t0 I0 J0 Q0 K) A D cA q0 tF qF al N0 u0 z0 um zm pc lv [v] a I J Q := by
  obtain ⟨hx, hb, hml, hrt, hlocks, hown, hts, hK, hA, -, hum, hzm, -, -, hbs⟩ := C
  intro q H locs ls h1 h2 hP hD hS hl
  refine W.widen (k := mc) (n := ms) (by omega) (by omega) ?_
  exact W.aret (v := cv q v) hx hb (hrt.trans hr) hty (by rcases hv with rfl | ⟨k, rfl⟩; exact Or.inl rfl; exact Or.inr ⟨_, rfl⟩) (fun t ht hW => ret_post hR h1 h2 hP hD hS t ht) hS.2.2 hd hlocks
theorem gw_return {mc ms : Nat} {t0 : Nat → Nat × Nat} {I0 : hI} {J0 : hJ} {Q0 : hQ} {K : hR} (C : cx p R s m args meth c A D cA cc own nL ret ini d N0 base u0 z0 um zm) (hc : R.cells = mc) (hs : R.slots = ms) (hd : decode cc pc = .ok (.return_, 1)) (hr : ret = none) (hR : rtK K u0 z0 mc ms none a I J Q) :
    gw p l e R s m args below meth c (mq below s args A D cA q0 tF qF al N0 u0 z0 mc ms t0 I0 J0 Q0 K) A D cA q0 tF qF al N0 u0 z0 um zm pc lv [] a I J Q := by
  obtain ⟨hx, hb, hml, hrt, hlocks, hown, hts, hK, hA, -, hum, hzm, -, -, hbs⟩ := C
  intro q H locs ls h1 h2 hP hD hS hl
  refine W.widen (k := mc) (n := ms) (by omega) (by omega) ?_
  exact W.vret hx hb (hrt.trans hr) (fun t ht hW => ret_post hR h1 h2 hP hD hS t ht) hS.2.2 hd hlocks
theorem gw_div {x y : Int32} {r : List Value} (C : cx p R s m args meth c A D cA cc own nL ret ini d N0 base u0 z0 um zm) (hd : decode cc pc = .ok (.idiv, 1)) (hne : ¬ y = 0) (k : gw p l e R s m args below meth c Qx A D cA q0 tF qF al N0 u0 z0 um zm (pc + 1) lv (.int (x / y) :: r) a I J Q) : gw p l e R s m args below meth c Qx A D cA q0 tF qF al N0 u0 z0 um zm pc lv (.int y :: .int x :: r) a I J Q := by
  obtain ⟨hx, hb, -⟩ := C
  intro q H locs ls h1 h2 hP hD hS hl
  exact lv_idiv hx hb hd hne (k q H locs ls h1 h2 hP hD hS hl)
theorem gw_rem {x y : Int32} {r : List Value} (C : cx p R s m args meth c A D cA cc own nL ret ini d N0 base u0 z0 um zm) (hd : decode cc pc = .ok (.irem, 1)) (hne : ¬ y = 0) (k : gw p l e R s m args below meth c Qx A D cA q0 tF qF al N0 u0 z0 um zm (pc + 1) lv (.int (x - x / y * y) :: r) a I J Q) : gw p l e R s m args below meth c Qx A D cA q0 tF qF al N0 u0 z0 um zm pc lv (.int y :: .int x :: r) a I J Q := by
  obtain ⟨hx, hb, -⟩ := C
  intro q H locs ls h1 h2 hP hD hS hl
  exact lv_irem hx hb hd hne (k q H locs ls h1 h2 hP hD hS hl)
theorem gw_ifnullR {off : Int} {k0 : Nat} {r : List Value} (C : cx p R s m args meth c A D cA cc own nL ret ini d N0 base u0 z0 um zm) (hd : decode cc pc = .ok (.ifnull off, 3)) (k : gw p l e R s m args below meth c Qx A D cA q0 tF qF al N0 u0 z0 um zm (pc + 3) lv r a I J Q) : gw p l e R s m args below meth c Qx A D cA q0 tF qF al N0 u0 z0 um zm pc lv (.ref k0 :: r) a I J Q := by
  obtain ⟨hx, hb, -⟩ := C
  intro q H locs ls h1 h2 hP hD hS hl
  exact lv_ifnull hx hb hd (k q H locs ls h1 h2 hP hD hS hl)
theorem gw_ifnullN {off : Int} {tgt : Nat} {r : List Value} (C : cx p R s m args meth c A D cA cc own nL ret ini d N0 base u0 z0 um zm) (hd : decode cc pc = .ok (.ifnull off, 3)) (ht : (pc : Int) + off = (tgt : Int)) (k : gw p l e R s m args below meth c Qx A D cA q0 tF qF al N0 u0 z0 um zm tgt lv r a I J Q) : gw p l e R s m args below meth c Qx A D cA q0 tF qF al N0 u0 z0 um zm pc lv (.null :: r) a I J Q := by
  obtain ⟨hx, hb, -⟩ := C
  intro q H locs ls h1 h2 hP hD hS hl
  exact lv_ifnullN hx hb hd ht (k q H locs ls h1 h2 hP hD hS hl)
theorem gw_ifnonnullR {off : Int} {tgt k0 : Nat} {r : List Value} (C : cx p R s m args meth c A D cA cc own nL ret ini d N0 base u0 z0 um zm) (hd : decode cc pc = .ok (.ifnonnull off, 3)) (ht : (pc : Int) + off = (tgt : Int)) (k : gw p l e R s m args below meth c Qx A D cA q0 tF qF al N0 u0 z0 um zm tgt lv r a I J Q) : gw p l e R s m args below meth c Qx A D cA q0 tF qF al N0 u0 z0 um zm pc lv (.ref k0 :: r) a I J Q := by
  obtain ⟨hx, hb, -⟩ := C
  intro q H locs ls h1 h2 hP hD hS hl
  exact lv_ifnonnull hx hb hd ht (k q H locs ls h1 h2 hP hD hS hl)
theorem gw_ifnonnullN {off : Int} {r : List Value} (C : cx p R s m args meth c A D cA cc own nL ret ini d N0 base u0 z0 um zm) (hd : decode cc pc = .ok (.ifnonnull off, 3)) (k : gw p l e R s m args below meth c Qx A D cA q0 tF qF al N0 u0 z0 um zm (pc + 3) lv r a I J Q) : gw p l e R s m args below meth c Qx A D cA q0 tF qF al N0 u0 z0 um zm pc lv (.null :: r) a I J Q := by
  obtain ⟨hx, hb, -⟩ := C
  intro q H locs ls h1 h2 hP hD hS hl
  exact lv_ifnonnullN hx hb hd (k q H locs ls h1 h2 hP hD hS hl)
theorem swx_miss {x : Int32} {L : List (Int32 × Nat)} {T : Nat → Prop} {dp : Prop} (h : swx x L T dp) (hn : ∀ v t, (v, t) ∈ L → x ≠ v) : dp := by
  induction L with
  | nil => exact h
  | cons y L ih => exact ih (h.2 (hn y.1 y.2 List.mem_cons_self)) (fun v t hv => hn v t (List.mem_cons_of_mem _ hv))
theorem swx_hit {x : Int32} {L : List (Int32 × Nat)} {T : Nat → Prop} {dp : Prop} (h : swx x L T dp) (he : ∃ v t, (v, t) ∈ L ∧ x = v) : ∃ (i : Nat) (v : Int32) (t : Nat), L[i]? = some (v, t) ∧ x = v ∧ T t ∧ ∀ j, j < i → ∀ w u, L[j]? = some (w, u) → x ≠ w := by
  induction L with
  | nil => obtain ⟨v, t, h1, -⟩ := he; cases h1
  | cons y L ih =>
    by_cases e : x = y.1
    · exact ⟨0, y.1, y.2, rfl, e, h.1 e, fun j hj => by omega⟩
    · obtain ⟨v, t, h1, h2⟩ := he
      have h3 : (v, t) ∈ L := by
        rcases List.mem_cons.mp h1 with h4 | h4
        · exact absurd (by rw [h2, ← h4]) e
        · exact h4
      obtain ⟨i, v', t', g1, g2, g3, g4⟩ := ih (h.2 e) ⟨v, t, h3, h2⟩
      refine ⟨i + 1, v', t', g1, g2, g3, fun j hj w u hw => ?_⟩
      cases j with
      | zero => cases hw; exact e
      | succ j => exact g4 j (by omega) w u hw
def tabOK (pc : Nat) (dflt lo hi : Int) (offs : Array Int) (x : Nat) (L : List (Int32 × Nat)) : Bool := decide ((pc : Int) + dflt = (x : Int)) && decide (hi - lo + 1 = (L.length : Int)) && (List.range L.length).all (fun j => match L[j]?, offs[j]? with
  | some y, some o => decide (y.1.toInt = lo + (j : Int)) && decide ((pc : Int) + o = (y.2 : Int))
  | _, _ => false)
def lookOK (pc : Nat) (dflt : Int) (ps : Array (Int × Int)) (x : Nat) (L : List (Int32 × Nat)) : Bool := decide ((pc : Int) + dflt = (x : Int)) && decide (ps.toList = L.map (fun y => (y.1.toInt, (y.2 : Int) - (pc : Int)))) && (ps.toList.zip (ps.toList.drop 1)).all (fun y => decide (y.1.1 < y.2.1))
theorem gw_table {dflt lo hi : Int} {offs : Array Int} {len x : Nat} {L : List (Int32 × Nat)} {v : Int32} {r : List Value} (C : cx p R s m args meth c A D cA cc own nL ret ini d N0 base u0 z0 um zm) (hd : decode cc pc = .ok (.tableswitch dflt lo hi offs, len)) (hok : tabOK pc dflt lo hi offs x L = true)
    (k : swx v L (fun t => gw p l e R s m args below meth c Qx A D cA q0 tF qF al N0 u0 z0 um zm t lv r a I J Q) (gw p l e R s m args below meth c Qx A D cA q0 tF qF al N0 u0 z0 um zm x lv r a I J Q)) : gw p l e R s m args below meth c Qx A D cA q0 tF qF al N0 u0 z0 um zm pc lv (.int v :: r) a I J Q := by
  obtain ⟨hx, hb, -⟩ := C
  unfold tabOK at hok
  rw [Bool.and_eq_true, Bool.and_eq_true, decide_eq_true_eq, decide_eq_true_eq, List.all_eq_true] at hok
  obtain ⟨⟨o1, o2⟩, o3⟩ := hok
  have o4 : ∀ j, j < L.length → ∃ y o, L[j]? = some y ∧ offs[j]? = some o ∧ y.1.toInt = lo + (j : Int) ∧ (pc : Int) + o = (y.2 : Int) := by
    intro j hj
    have := o3 j (List.mem_range.mpr hj)
    split at this
    · rename_i y o hy ho
      rw [Bool.and_eq_true, decide_eq_true_eq, decide_eq_true_eq] at this
      exact ⟨y, o, hy, ho, this.1, this.2⟩
    · cases this
  by_cases hin : lo ≤ v.toInt ∧ v.toInt ≤ hi
  · have hj : (v.toInt - lo).toNat < L.length := by omega
    obtain ⟨y, o, y1, y2, y3, y4⟩ := o4 _ hj
    have hv : v = y.1 := Int32.toInt_inj.mp (by rw [y3]; omega)
    obtain ⟨i, w, t, g1, g2, g3, -⟩ := swx_hit k ⟨y.1, y.2, List.mem_of_getElem? y1, hv⟩
    obtain ⟨y', o', z1, z2, z3, z4⟩ := o4 i (List.getElem?_eq_some_iff.mp g1).1
    rw [g1] at z1
    cases z1
    have ei : i = (v.toInt - lo).toNat := by
      have : v.toInt = lo + (i : Int) := by rw [g2]; exact z3
      omega
    subst ei
    intro q H locs ls h1 h2 hP hD hS hl
    exact lv_tableIn hx hb hd (by omega) (by omega) z2 z4 (g3 q H locs ls h1 h2 hP hD hS hl)
  · have hm := swx_miss k (fun w t hw he => by
      obtain ⟨i, hi'⟩ := List.getElem?_of_mem hw
      obtain ⟨y', o', z1, z2, z3, z4⟩ := o4 i (List.getElem?_eq_some_iff.mp hi').1
      rw [hi'] at z1
      cases z1
      have hl := (List.getElem?_eq_some_iff.mp hi').1
      have z3' : w.toInt = lo + (i : Int) := z3
      rw [← he] at z3'
      exact hin ⟨by omega, by omega⟩)
    intro q H locs ls h1 h2 hP hD hS hl
    exact lv_tableOut hx hb hd (by omega) o1 (hm q H locs ls h1 h2 hP hD hS hl)
theorem look_off {L : List (Int32 × Nat)} {v : Int32} {T : Nat → Prop} {dp : Prop} {dflt : Int} {x pc : Nat} (hx : (pc : Int) + dflt = (x : Int)) (h : swx v L T dp) : ∃ (off : Int) (tgt : Nat), Op.lookupswitch.offset (L.map (fun y => (y.1.toInt, (y.2 : Int) - (pc : Int)))) dflt v.toInt = off ∧ (pc : Int) + off = (tgt : Int) ∧ (T tgt ∨ (tgt = x ∧ dp)) := by
  induction L with
  | nil => exact ⟨dflt, x, rfl, hx, Or.inr ⟨rfl, h⟩⟩
  | cons y L ih =>
    by_cases e : v = y.1
    · refine ⟨(y.2 : Int) - (pc : Int), y.2, ?_, by omega, Or.inl (h.1 e)⟩
      rw [List.map_cons, Op.lookupswitch.offset_cons, if_pos (by rw [e])]
    · obtain ⟨off, tgt, a1, a2, a3⟩ := ih (h.2 e)
      refine ⟨off, tgt, ?_, a2, a3⟩
      rw [List.map_cons, Op.lookupswitch.offset_cons, if_neg (fun he => e (Int32.toInt_inj.mp he.symm)), a1]
theorem gw_look {dflt : Int} {ps : Array (Int × Int)} {len x : Nat} {L : List (Int32 × Nat)} {v : Int32} {r : List Value} (C : cx p R s m args meth c A D cA cc own nL ret ini d N0 base u0 z0 um zm) (hd : decode cc pc = .ok (.lookupswitch dflt ps, len)) (hok : lookOK pc dflt ps x L = true)
    (k : swx v L (fun t => gw p l e R s m args below meth c Qx A D cA q0 tF qF al N0 u0 z0 um zm t lv r a I J Q) (gw p l e R s m args below meth c Qx A D cA q0 tF qF al N0 u0 z0 um zm x lv r a I J Q)) : gw p l e R s m args below meth c Qx A D cA q0 tF qF al N0 u0 z0 um zm pc lv (.int v :: r) a I J Q := by
  obtain ⟨hx, hb, -⟩ := C
  unfold lookOK at hok
  rw [Bool.and_eq_true, Bool.and_eq_true, decide_eq_true_eq, decide_eq_true_eq] at hok
  obtain ⟨⟨o1, o2⟩, o3⟩ := hok
  obtain ⟨off, tgt, a1, a2, a3⟩ := look_off o1 k
  intro q H locs ls h1 h2 hP hD hS hl
  refine lv_lookup hx hb hd ?_ (by rw [o2]; exact a1) a2 ?_
  · exact o3
  · rcases a3 with a3 | ⟨rfl, a3⟩
    · exact a3 q H locs ls h1 h2 hP hD hS hl
    · exact a3 q H locs ls h1 h2 hP hD hS hl
end RS
