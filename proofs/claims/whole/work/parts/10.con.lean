/-! CONTRACTS over abstract heaps; calls and returns -/
/-- a callee's data: name, code, locals, what it returns, how deep its calls go -/
abbrev cdT : Type := MethodName × ByteArray × Nat × Option FieldType × Nat
def rmd (d mc ms : Nat) : Room := { frames := d, cells := mc, slots := ms, locals := 64 * d }
def lwm (dd : cdT) : List Cond := Cond.code dd.1 dd.2.1 dd.2.2.1 dd.2.2.2.1 :: lw_g
def cPre (D : va_G) (cA : Nat → ClassId) (q : Nat → Nat) (tF : hTF) (qF : hQF) (a : hA) (I : hI) (J : hJ) (Q : hQ) (sz : Nat) (U : State) : Prop := U.heap.size = sz ∧ va_P D vwCl (hW cA q tF qF a I J Q) U.heap ∧ kk D cA U ∧ va_D (fun _ => True) (hW cA q tF qF a I J Q)
def cEnd (D : va_G) (cA : Nat → ClassId) (q : Nat → Nat) (tF : hTF) (qF : hQF) (al : Bool) (a : hA) (I : hI) (J : hJ) (Q : hQ) (A : Nat → Prop) (mc ms : Nat) (K : hR) (oc : Outcome) (H : Heap) : Prop :=
  ∃ (v : Option Value) (a' : hA) (I' : hI) (J' : hJ) (Q' : hQ) (q' : Nat → Nat), oc = .returned (v.map (cv q')) ∧ K v (a'.1, a.2.1 + mc, a.2.2.1 + ms, a'.2.2.2) I' J' Q' ∧ ((∀ k, k < a.1 → q' k = q k) ∧ (al = false → q' = q)) ∧ a.1 ≤ a'.1 ∧ wfQ qF a' Q' ∧ va_P D vwCl (hW cA q' tF qF a' I' J' Q') H ∧ va_D A (hW cA q' tF qF a' I' J' Q')
def cPost (D : va_G) (cA : Nat → ClassId) (q : Nat → Nat) (tF : hTF) (qF : hQF) (al : Bool) (a : hA) (I : hI) (J : hJ) (Q : hQ) (A : Nat → Prop) (mc ms : Nat) (K : hR) : Array Value → State → Outcome → State → Prop := fun _ st oc t =>
  cEnd D cA q tF qF al a I J Q A mc ms K oc t.heap ∧ va_F A st t
def Con (l : Launch) (tF : hTF) (qF : hQF) (base : Nat) (dd : cdT) (e : ev) : Prop :=
  Cond.code dd.1 dd.2.1 dd.2.2.1 dd.2.2.2.1 ∈ lw_g ∧ ∀ (D : va_G) (cA : Nat → ClassId) (q : Nat → Nat) (av : List Value) (a : hA) (I : hI) (J : hJ) (Q : hQ) (K : hR) (sz : Nat), base ≤ a.1 → wfQ qF a Q → av.length = e.1 → e.2.2.2.2.2 av a I J Q K →
    Met l dd.1 (lwm dd) (rmd dd.2.2.2.2 e.2.2.2.1 e.2.2.2.2.1) (va_Pc (av.map (cv q)) (cPre D cA q tF qF a I J Q sz)) (cPost D cA q tF qF e.2.2.1 a I J Q (va_A (hW cA q tF qF a I J Q) sz) e.2.2.2.1 e.2.2.2.2.1 K) e.2.2.2.1 e.2.2.2.2.1 (va_A (hW cA q tF qF a I J Q) sz)
theorem kk_moved {D : va_G} {cA : Nat → ClassId} {s U : State} (hW : s.WarmedH U.vm) (h : kk D cA s) : kk D cA U := by
  obtain ⟨h1, h2, h3, h4, h5⟩ := h
  refine ⟨va_K.moved hW.alike h1, fun w hw => ?_, va_AO.moved hW.alike h3, va_AO.moved hW.alike h4, va_AO.moved hW.alike h5⟩
  have hn := (List.mem_filter.mp hw).2
  have hz := h2 w hw
  cases w with
  | methodLinkNest a i x h => exact va_Nw.warmM hW hz
  | _ => cases hn
theorem kk_calling {D : va_G} {cA : Nat → ClassId} {U : State} {g : JFrame} {mk : MethodId} {a : Array Value} (h : kk D cA U) : kk D cA (U.calling g mk a) := by
  obtain ⟨h1, h2, h3, h4, h5⟩ := h
  refine ⟨va_K.moved (u := U) (U := U.calling g mk a) (Vm.Alike.refl U.vm) h1, fun w hw => ?_, va_AO.moved (u := U) (U := U.calling g mk a) (Vm.Alike.refl U.vm) h3, va_AO.moved (u := U) (U := U.calling g mk a) (Vm.Alike.refl U.vm) h4, va_AO.moved (u := U) (U := U.calling g mk a) (Vm.Alike.refl U.vm) h5⟩
  have hn := (List.mem_filter.mp hw).2
  have hz := h2 w hw
  cases w with
  | methodLinkNest a i x h => exact va_Nw.same rfl rfl hz
  | _ => cases hn
theorem pre_blind {D : va_G} {cA : Nat → ClassId} {q : Nat → Nat} {tF : hTF} {qF : hQF} {a : hA} {I : hI} {J : hJ} {Q : hQ} {sz : Nat} {av : List Value} : FrameBlind (va_Pc av (cPre D cA q tF qF a I J Q sz)) := by
  intro b U g mk h
  obtain ⟨h0, h1, h2, h3, h4⟩ := h
  exact ⟨h0, h1, h2, kk_calling h3, h4⟩
theorem lwg_good : ∀ w ∈ lw_g, goodWord w = true := fun w hw => (List.mem_filter.mp hw).2
theorem good_lwm {dd : cdT} (h : Cond.code dd.1 dd.2.1 dd.2.2.1 dd.2.2.2.1 ∈ lw_g) : GoodIn lw_g (lwm dd) := by
  intro w hw
  rcases List.mem_cons.mp hw with rfl | hw
  · exact ⟨h, good_of_word (lwg_good _ h)⟩
  · exact ⟨hw, good_of_word (lwg_good _ hw)⟩
theorem cat8_sum (q : Nat → Nat) (st : List Value) : ((st.map (cv q)).map fun v => v.category).sum ≤ cat8 st := by
  induction st with
  | nil => simp [cat8]
  | cons v r ih =>
    simp only [List.map_cons, List.sum_cons, cat8]
    have : (cv q v).category ≤ (if is1 v = true then 1 else 2) := by
      rw [cv_cat]
      cases v <;> simp [is1, Value.category]
    omega
section CALL
variable {p : Program} {l : Launch} {e : Env} {R : Room} {s : State} {m : MethodId} {args : Array Value} {below : List Frame} {meth : Method} {c : Code} {Qx : State → Prop} {A : Nat → Prop} {D : va_G} {cA : Nat → ClassId} {q0 : Nat → Nat} {tF : hTF} {qF : hQF} {al : Bool} {N0 u0 z0 um zm base nL d : Nat} {cc : ByteArray} {own : String} {ret : Option FieldType} {ini : Bool} {pc : Nat} {lv lv' : lL} {st st' : List Value} {a : hA} {I : hI} {J : hJ} {Q : hQ}
/-- behind a call -/
theorem call_go {q : Nat → Nat} {H : Heap} {locs : List Loc} {cells slots mc ms : Nat} {g : JFrame} {rest : List Value} {A1 : Nat → Prop} {al1 : Bool} {K : hR} {arr : Array Value} (hr : va_Run p l e R s m args below meth c H locs cells slots mc ms g rest (cPost D cA q tF qF al1 a I J Q A1 mc ms K arr) A1) (hS : va_S A s.heap H locs) (hAq : ∀ q, A1 q → A q)
    (k : ∀ (v : Option Value) (a' : hA) (I' : hI) (J' : hJ) (Q' : hQ) (q' : Nat → Nat) (H1 : Heap) (locs1 : List Loc), K v (a'.1, a.2.1 + mc, a.2.2.1 + ms, a'.2.2.2) I' J' Q' → ((∀ k, k < a.1 → q' k = q k) ∧ (al1 = false → q' = q)) → a.1 ≤ a'.1 → wfQ qF a' Q' → va_P D vwCl (hW cA q' tF qF a' I' J' Q') H1 → va_D A1 (hW cA q' tF qF a' I' J' Q') → va_S A s.heap H1 locs1 → W p l e R s m args below meth c H1 locs1 (cells + mc) (slots + ms) Qx { g with pc := g.pc + 3, stack := (v.map (cv q')).toList ++ rest }) : W p l e R s m args below meth c H locs cells slots Qx g := by
  intro T hT X
  obtain ⟨v, st₀, t, T', L, h0, X', hL, e1, e2, ⟨⟨v2, a', I', J', Q', q', hv, hK, b1, b2, b3, b4, b5⟩, hz, hk⟩, st⟩ := hr T hT X
  cases hv
  rw [h0] at hz hk
  obtain ⟨t2, x1, y1⟩ := k v2 a' I' J' Q' q' T'.heap (locs ++ L) hK b1 b2 b3 (by rw [e1]; exact b4) b5
    ⟨Nat.le_trans hS.1 (by rw [e1]; exact hz), fun q h1 h2 => by rw [e1, hk q (Nat.lt_of_lt_of_le h1 hS.1) (fun z => h2 (hAq q z))]; exact hS.2.1 q h1 h2, fun q hq => by
      rcases List.mem_append.mp hq with h | h
      · exact hS.2.2 q h
      · exact hAq _ (hL q h)⟩ T' rfl X'
  exact ⟨t2, st t2 x1, y1⟩
/-- what a call of whatever kind asks: the run, made of the callee's contract, at every address map -/
theorem gw_call {dd : cdT} {ee : ev} (C : cx p R s m args meth c A D cA cc own nL ret ini d N0 base u0 z0 um zm)
    (hal : ee.2.2.1 = true → al = true) (hlen : ee.1 ≤ st.length) (hu : a.2.1 ≤ um → a.2.1 + ee.2.2.2.1 ≤ um) (hz : a.2.2.1 ≤ zm → a.2.2.1 + ee.2.2.2.2.1 ≤ zm) (hrok : ee.2.2.1 = true → rok a.1 lv (st.drop ee.1))
    {K : hR} (hM : ∀ q sz, base ≤ a.1 → wfQ qF a Q → Met l dd.1 (lwm dd) (rmd dd.2.2.2.2 ee.2.2.2.1 ee.2.2.2.2.1) (va_Pc (((st.take ee.1).reverse).map (cv q)) (cPre D cA q tF qF a I J Q sz)) (cPost D cA q tF qF ee.2.2.1 a I J Q (va_A (hW cA q tF qF a I J Q) sz) ee.2.2.2.1 ee.2.2.2.2.1 K) ee.2.2.2.1 ee.2.2.2.2.1 (va_A (hW cA q tF qF a I J Q) sz))
    (hrun : ∀ (q : Nat → Nat) (H : Heap) (locs : List Loc) (ls : Array Slot), a.2.1 - u0 + ee.2.2.2.1 ≤ R.cells ∧ a.2.2.1 - z0 + ee.2.2.2.2.1 ≤ R.slots → N0 ≤ a.1 → ls.size = c.maxLocals → va_P D vwCl (hW cA q tF qF a I J Q) H → (∀ U : State, U.heap = H → s.WarmedH U.vm → va_Pc (((st.take ee.1).reverse).map (cv q)) (cPre D cA q tF qF a I J Q H.size) (((st.take ee.1).reverse).map (cv q)).toArray U) → Met l dd.1 (lwm dd) (rmd dd.2.2.2.2 ee.2.2.2.1 ee.2.2.2.2.1) (va_Pc (((st.take ee.1).reverse).map (cv q)) (cPre D cA q tF qF a I J Q H.size)) (cPost D cA q tF qF ee.2.2.1 a I J Q (va_A (hW cA q tF qF a I J Q) H.size) ee.2.2.2.1 ee.2.2.2.2.1 K) ee.2.2.2.1 ee.2.2.2.2.1 (va_A (hW cA q tF qF a I J Q) H.size) →
      va_Run p l e R s m args below meth c H locs (a.2.1 - u0) (a.2.2.1 - z0) ee.2.2.2.1 ee.2.2.2.2.1 (F0 m pc ls (st.map (cv q))) ((st.drop ee.1).map (cv q)) (cPost D cA q tF qF ee.2.2.1 a I J Q (va_A (hW cA q tF qF a I J Q) H.size) ee.2.2.2.1 ee.2.2.2.2.1 K (((st.take ee.1).reverse).map (cv q)).toArray) (va_A (hW cA q tF qF a I J Q) H.size))
    (k : ∀ v a' I' J' Q', K v a' I' J' Q' → gw p l e R s m args below meth c Qx A D cA q0 tF qF al N0 u0 z0 um zm (pc + 3) lv (v.toList ++ st.drop ee.1) a' I' J' Q') : gw p l e R s m args below meth c Qx A D cA q0 tF qF al N0 u0 z0 um zm pc lv st a I J Q := by
  obtain ⟨hx, hb, hml, -, -, hown, hts, hK, hA, -, hum, hzm, -, -, hbs⟩ := C
  intro q H locs ls h1 h2 hP hD hS hl
  obtain ⟨g1, g2, g3, g4, g5, g6⟩ := h2
  have hu' := hu g3
  have hz' := hz g5
  have hAA : ∀ x, va_A (hW cA q tF qF a I J Q) H.size x → A x := by
    intro x hxx
    rcases hxx with ⟨k0, e0, h0⟩ | h0
    · exact hD.2 k0 _ h0
    · exact hA _ (Nat.le_trans hS.1 h0)
  have hpc : ∀ U : State, U.heap = H → s.WarmedH U.vm → va_Pc (((st.take ee.1).reverse).map (cv q)) (cPre D cA q tF qF a I J Q H.size) (((st.take ee.1).reverse).map (cv q)).toArray U := fun U hU hWm => ⟨rfl, by rw [hU], by rw [hU]; exact hP, kk_moved hWm hK, hD.weaken (fun _ _ _ _ => trivial)⟩
  obtain ⟨hll, l0, h8, h9⟩ := id hl
  refine call_go (hrun q H locs ls (by omega) g1 h8.1 hP hpc (hM q H.size (Nat.le_trans hbs g1) g6)) hS hAA (fun v a' I' J' Q' q' H1 locs1 hKv b1 b2 b3 b4 b5 b6 => ?_)
  have kz := k v (a'.1, a.2.1 + ee.2.2.2.1, a.2.2.1 + ee.2.2.2.2.1, a'.2.2.2) I' J' Q' hKv q' H1 locs1 ls
    ⟨fun k' hk' => (b1.1 k' (by omega)).trans (h1.1 k' hk'), fun h => by
      cases hb1 : ee.2.2.1 with
      | false => rw [b1.2 hb1]; exact h1.2 h
      | true => exact absurd (h.symm.trans (hal hb1)) (by decide)⟩
    ⟨Nat.le_trans g1 b2, Nat.le_trans g2 (Nat.le_add_right _ _), hu', Nat.le_trans g4 (Nat.le_add_right _ _), hz', b3⟩ b4 (b5.weaken (fun _ x _ hx => hAA _ hx)) b6
  have hmap : hLs ls c.maxLocals q' lv ∧ (st.drop ee.1).map (cv q') = (st.drop ee.1).map (cv q) := by
    cases hb1 : ee.2.2.1 with
    | false => rw [b1.2 hb1]; exact ⟨hl, rfl⟩
    | true =>
      have hro := hrok hb1
      have cvq : ∀ w, rlt a.1 w → cv q' w = cv q w := by
        intro w hw
        cases w with
        | ref k0 => exact congrArg Value.ref (b1.1 k0 hw)
        | _ => rfl
      refine ⟨⟨hll, l0, h8, fun i w hw => by rw [cvq w (hro.1 i w hw)]; exact h9 i w hw⟩, List.map_congr_left fun w hw => cvq w (hro.2 w hw)⟩
  have kz := kz hmap.1
  rw [List.map_append, hmap.2] at kz
  have eo : (v.map (cv q')).toList = v.toList.map (cv q') := by cases v <;> rfl
  have eu : a.2.1 + ee.2.2.2.1 - u0 = a.2.1 - u0 + ee.2.2.2.1 := by omega
  have ez : a.2.2.1 + ee.2.2.2.2.1 - z0 = a.2.2.1 - z0 + ee.2.2.2.2.1 := by omega
  rw [eo]
  have kz2 : W p l e R s m args below meth c H1 locs1 (a.2.1 + ee.2.2.2.1 - u0) (a.2.2.1 + ee.2.2.2.2.1 - z0) Qx (F0 m (pc + 3) ls (v.toList.map (cv q') ++ (st.drop ee.1).map (cv q))) := kz
  rw [eu, ez] at kz2
  exact kz2
end CALL
