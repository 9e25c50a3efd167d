/-! soundness of the instructions on the heap -/
def tyA (ci : Nat) : Nat → FieldType := match ci with
  | 0 => tyX0
  | 1 => tyX1
  | 2 => tyX2
  | 3 => tyX3
  | 4 => tyX4
  | 5 => tyX5
  | 6 => tyX6
  | 7 => tyX7
  | 8 => tyX8
  | 9 => tyX9
  | _ => tyX10
def kty (x : Nat) (ty : FieldType) : Bool := match x with
  | 0 => decide (ty = .int)
  | 1 => decide (ty = .long)
  | 3 => decide (ty = .boolean)
  | _ => match ty with
    | .object _ => true
    | .array _ => true
    | _ => false
def cls_P (ci : Nat) (r : vw_C) : Prop := (∀ w ∈ u_ws r.1 r.2.1 r.2.2, w ∈ lw_g) ∧ (∀ k, k < r.2.2 → parseFieldDescriptor (r.2.1 k).2.2.1 = some (tyA ci k)) ∧ (∀ a, a < r.2.2 → ∀ b, b < r.2.2 → a ≠ b → (r.2.1 a).2.1 ≠ (r.2.1 b).2.1) ∧ (kd ci).length = r.2.2 ∧ (∀ j, j < r.2.2 → kty ((kd ci).getD j 9) (tyA ci j) = true) ∧ Cond.instantiable r.1 r.2.2 ∈ lw_g ∧ Cond.initialized r.1 ∈ lw_g
set_option maxRecDepth 100000 in
theorem cls_0 : cls_P 0 (RX0, TX0, 1) := ⟨by decide +kernel, tyX0_ok, nmX0, by decide +kernel, by decide +kernel, by decide +kernel, by decide +kernel⟩
set_option maxRecDepth 100000 in
theorem cls_1 : cls_P 1 (RX1, TX1, 1) := ⟨by decide +kernel, tyX1_ok, nmX1, by decide +kernel, by decide +kernel, by decide +kernel, by decide +kernel⟩
set_option maxRecDepth 100000 in
theorem cls_2 : cls_P 2 (RX2, TX2, 3) := ⟨by decide +kernel, tyX2_ok, nmX2, by decide +kernel, by decide +kernel, by decide +kernel, by decide +kernel⟩
set_option maxRecDepth 100000 in
theorem cls_3 : cls_P 3 (RX3, TX3, 1) := ⟨by decide +kernel, tyX3_ok, nmX3, by decide +kernel, by decide +kernel, by decide +kernel, by decide +kernel⟩
set_option maxRecDepth 100000 in
theorem cls_4 : cls_P 4 (RX4, TX4, 8) := ⟨by decide +kernel, tyX4_ok, nmX4, by decide +kernel, by decide +kernel, by decide +kernel, by decide +kernel⟩
set_option maxRecDepth 100000 in
theorem cls_5 : cls_P 5 (RX5, TX5, 6) := ⟨by decide +kernel, tyX5_ok, nmX5, by decide +kernel, by decide +kernel, by decide +kernel, by decide +kernel⟩
set_option maxRecDepth 100000 in
theorem cls_6 : cls_P 6 (RX6, TX6, 6) := ⟨by decide +kernel, tyX6_ok, nmX6, by decide +kernel, by decide +kernel, by decide +kernel, by decide +kernel⟩
set_option maxRecDepth 100000 in
theorem cls_7 : cls_P 7 (RX7, TX7, 3) := ⟨by decide +kernel, tyX7_ok, nmX7, by decide +kernel, by decide +kernel, by decide +kernel, by decide +kernel⟩
set_option maxRecDepth 100000 in
theorem cls_8 : cls_P 8 (RX8, TX8, 3) := ⟨by decide +kernel, tyX8_ok, nmX8, by decide +kernel, by decide +kernel, by decide +kernel, by decide +kernel⟩
set_option maxRecDepth 100000 in
theorem cls_9 : cls_P 9 (RX9, TX9, 16) := ⟨by decide +kernel, tyX9_ok, nmX9, by decide +kernel, by decide +kernel, by decide +kernel, by decide +kernel⟩
set_option maxRecDepth 100000 in
theorem cls_10 : cls_P 10 (RX10, TX10, 38) := ⟨by decide +kernel, tyX10_ok, nmX10, by decide +kernel, by decide +kernel, by decide +kernel, by decide +kernel⟩
theorem cls_ok (ci : Nat) (h : ci < 11) : ∃ r : vw_C, vwCl[ci]? = some r ∧ cls_P ci r := by
  match ci, h with
  | 0, _ => exact ⟨_, rfl, cls_0⟩
  | 1, _ => exact ⟨_, rfl, cls_1⟩
  | 2, _ => exact ⟨_, rfl, cls_2⟩
  | 3, _ => exact ⟨_, rfl, cls_3⟩
  | 4, _ => exact ⟨_, rfl, cls_4⟩
  | 5, _ => exact ⟨_, rfl, cls_5⟩
  | 6, _ => exact ⟨_, rfl, cls_6⟩
  | 7, _ => exact ⟨_, rfl, cls_7⟩
  | 8, _ => exact ⟨_, rfl, cls_8⟩
  | 9, _ => exact ⟨_, rfl, cls_9⟩
  | 10, _ => exact ⟨_, rfl, cls_10⟩
  | n + 11, h => omega
/-- the word of a field's link -/
def okF (own : String) (idx x y : Nat) (L : List (Int32 × Nat)) : Bool := match vwCl[x]? with
  | some r => memH (hn L 0) (Cond.fieldLink own idx (r.2.1 y).1 (r.2.1 y).2.1 (r.2.1 y).2.2.1)
  | none => false
/-- a final field is put by its own class's constructor -/
def okP (own : String) (x y : Nat) : Bool := match vwCl[x]? with
  | some r => !(r.2.1 y).2.2.2 || decide ((r.2.1 y).1 = own)
  | none => false
section HO
variable {p : Program} {l : Launch} {e : Env} {R : Room} {s : State} {m : MethodId} {args : Array Value} {below : List Frame} {meth : Method} {c : Code} {Qx : State → Prop} {A : Nat → Prop} {D : va_G} {cA : Nat → ClassId} {q0 : Nat → Nat} {tF : hTF} {qF : hQF} {al : Bool} {N0 u0 z0 um zm base nL d : Nat} {cc : ByteArray} {own : String} {ret : Option FieldType} {ini : Bool} {pc : Nat} {lv lv' : lL} {st st' : List Value} {a : hA} {I : hI} {J : hJ} {Q : hQ}
theorem cin_lt {k : Nat} (hb : base ≤ N0) (hN : N0 ≤ a.1) (h : cin base a k = true) : k < a.1 := by
  unfold cin at h
  rw [Bool.or_eq_true, Nat.blt_eq, Nat.blt_eq] at h
  omega
theorem cv_rv (q : Nat → Nat) (o : Option Nat) : cv q (rv o) = va_rf (o.map q) := by cases o <;> rfl
theorem gw_getfield {idx x y o κ : Nat} {v : Value} {r : List Value} (C : cx p R s m args meth c A D cA cc own nL ret ini d N0 base u0 z0 um zm) (hd : decode cc pc = .ok (.getfield idx, 3)) {L : List (Int32 × Nat)} (ho : okF own idx x y L = true) (hin : cin base a o = true) (ht : (tE tF a.2.2.2 o).1 = x) (h11 : x < 11) (hy : (kd x)[y]? = some κ) (hv : ∀ q, hV q qF I J Q o y κ = cv q v)
    (k : gw p l e R s m args below meth c Qx A D cA q0 tF qF al N0 u0 z0 um zm (pc + 3) lv (v :: r) a I J Q) : gw p l e R s m args below meth c Qx A D cA q0 tF qF al N0 u0 z0 um zm pc lv (.ref o :: r) a I J Q := by
  obtain ⟨hx, hb, hml, -, -, hown, hts, hK, -, -, -, -, -, -, hbs⟩ := C
  intro q H locs ls h1 h2 hP hD hS hl
  have hlt := cin_lt hbs h2.1 hin
  obtain ⟨rc, e1, e2, e3, e4, e5, -⟩ := cls_ok x h11
  have hyl : y < rc.2.2 := by rw [← e5]; exact (List.getElem?_eq_some_iff.mp hy).1
  have hlk : Cond.fieldLink own idx (rc.2.1 y).1 (rc.2.1 y).2.1 (rc.2.1 y).2.2.1 ∈ lw_g := by
    unfold okF at ho
    rw [e1] at ho
    exact memH_ok ho
  have hcell := hW_get (cA := cA) (q := q) (tF := tF) (qF := qF) (I := I) (J := J) (Q := Q) hlt
  rw [hE_obj ht h11] at hcell
  exact va_get hx hb hts e2 hown hK.1 hP o hcell e1 y hyl (hts _ hlk) (fun _ h9 => h9) (v := cv q v) (by rw [List.getElem?_mapIdx, hy]; simp [hv]) hd (k q H locs ls h1 h2 hP hD hS hl)
theorem gw_put {idx x y o κ : Nat} {v : Value} {r : List Value} {I' : hI} {J' : hJ} {Q' : hQ} (C : cx p R s m args meth c A D cA cc own nL ret ini d N0 base u0 z0 um zm) (hd : decode cc pc = .ok (.putfield idx, 3)) {L : List (Int32 × Nat)} (ho : okF own idx x y L = true) (hop : okP own x y = true) (hin : cin base a o = true) (ht : (tE tF a.2.2.2 o).1 = x) (h11 : x < 11) (hy : (kd x)[y]? = some κ) (hfin : (!fin9 x y || ini) = true)
    (hn : ∀ q, narrow (tyA x y) (cv q v) = cv q v) (hf : ∀ q, fits (tyA x y) (cv q v) = true) (hv : ∀ q, hV q qF I' J' Q' o y κ = cv q v) (hj : ∀ q j z, j ≠ y → hV q qF I' J' Q' o j z = hV q qF I J Q o j z) (hoth : ∀ k', k' ≠ o → I' k' = I k' ∧ J' k' = J k' ∧ qE qF Q' k' = qE qF Q k') (hwf : N0 ≤ a.1 → wfQ qF a Q → wfQ qF a Q')
    (k : gw p l e R s m args below meth c Qx A D cA q0 tF qF al N0 u0 z0 um zm (pc + 3) lv r a I' J' Q') : gw p l e R s m args below meth c Qx A D cA q0 tF qF al N0 u0 z0 um zm pc lv (v :: .ref o :: r) a I J Q := by
  obtain ⟨hx, hb, hml, -, -, hown, hts, hK, -, hini, -, -, -, -, hbs⟩ := C
  intro q H locs ls h1 h2 hP hD hS hl
  have hlt := cin_lt hbs h2.1 hin
  obtain ⟨rc, e1, e2, e3, e4, e5, -⟩ := cls_ok x h11
  have hyl : y < rc.2.2 := by rw [← e5]; exact (List.getElem?_eq_some_iff.mp hy).1
  have hlk : Cond.fieldLink own idx (rc.2.1 y).1 (rc.2.1 y).2.1 (rc.2.1 y).2.2.1 ∈ lw_g := by
    unfold okF at ho
    rw [e1] at ho
    exact memH_ok ho
  have hcell := hW_get (cA := cA) (q := q) (tF := tF) (qF := qF) (I := I) (J := J) (Q := Q) hlt
  rw [hE_obj ht h11] at hcell
  have hset : (hW cA q tF qF a I J Q).set o (q o, .inr (x, ((kd x).mapIdx (fun j z => hV q qF I J Q o j z)).set y (cv q v))) = hW cA q tF qF a I' J' Q' := by
    refine hW_set hlt ?_ (fun k' hk' => hE_cong rfl (hoth k' hk').1 (hoth k' hk').2.1 (hoth k' hk').2.2)
    rw [hE_obj ht h11, mapIdx_set _ _ (fun j z => hV q qF I' J' Q' o j z) y (cv q v) (fun z hz => ?_) (fun j z hj' => hj q j z hj')]
    rw [hy] at hz
    cases hz
    exact hv q
  have kz : ∀ (H1 : Heap) (locs1 : List Loc), va_P D vwCl ((hW cA q tF qF a I J Q).set o (q o, .inr (x, ((kd x).mapIdx (fun j z => hV q qF I J Q o j z)).set y (cv q v)))) H1 → va_D A ((hW cA q tF qF a I J Q).set o (q o, .inr (x, ((kd x).mapIdx (fun j z => hV q qF I J Q o j z)).set y (cv q v)))) → va_S A s.heap H1 locs1 → W p l e R s m args below meth c H1 locs1 (a.2.1 - u0) (a.2.2.1 - z0) Qx (F0 m (pc + 3) ls (r.map (cv q))) := by
    intro H1 locs1 hP1 hD1 hS1
    rw [hset] at hP1 hD1
    exact k q H1 locs1 ls h1 ⟨h2.1, h2.2.1, h2.2.2.1, h2.2.2.2.1, h2.2.2.2.2.1, hwf h2.1 h2.2.2.2.2.2⟩ hP1 hD1 hS1 hl
  have hyl2 : y < ((kd x).mapIdx (fun j z => hV q qF I J Q o j z)).length := by rw [List.length_mapIdx, e5]; exact hyl
  cases hfb : (rc.2.1 y).2.2.2 with
  | false => exact va_put (v := cv q v) (ty := tyA x y) hx hb hts e2 (tyA x) e3 e4 hown hK.1 hP hD hS o hcell e1 y hyl (hts _ hlk) (fun _ h9 => h9) hfb (e3 y hyl) (hn q) (hf q) hyl2 hd kz
  | true =>
    have hi : ini = true := by
      have : fin9 x y = true := by unfold fin9; rw [e1]; exact hfb
      rw [this] at hfin
      simpa using hfin
    have hdecl : (rc.2.1 y).1 = own := by
      unfold okP at hop
      rw [e1] at hop
      simp only [hfb, Bool.not_true, Bool.false_or, decide_eq_true_eq] at hop
      exact hop
    exact va_putF (v := cv q v) (ty := tyA x y) hx hb hts e2 (tyA x) e3 e4 hown hK.1 hP hD hS o hcell e1 y hyl (hts _ hlk) (fun _ h9 => h9) hfb (hini hi) hdecl (e3 y hyl) (hn q) (hf q) hyl2 hd kz
end HO
