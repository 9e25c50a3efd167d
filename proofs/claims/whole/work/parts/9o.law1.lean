/-! THE LAW: the machine in the law's own frame (its script is no cell of the abstract heap) -/
def R_law : String := "StripDiesLaw"
def lw_Q (_ : Array Value) (s : State) (o : Outcome) (t : State) : Prop := o = .returned (some (.int 1)) ∧ Framed s o t [] 600000 7302250
def lw_Z (below : List Frame) (a : Array Value) (s : State) : State → Prop := fun t => ∃ o, t.status = .running ∧ Ended t below o ∧ lw_Q a s o t
/-- what holds all through the law -/
def lx (p : Program) (s : State) (m : MethodId) (c : Code) (A : Nat → Prop) (D : va_G) (cA : Nat → ClassId) (b : Nat) : Prop :=
  p.tables.exec = Jvm.exec ∧ c.code = code ∧ c.maxLocals = 4 ∧ s.vm.findClass R_law = some m.cls ∧ (∀ w ∈ lw_g, w.before #[Value.ref b] s = true) ∧ kk D cA s ∧ ∀ q, s.heap.size ≤ q → A q
def gv (p : Program) (l : Launch) (e : Env) (s : State) (m : MethodId) (below : List Frame) (meth : Method) (c : Code) (Qx : State → Prop) (A : Nat → Prop) (D : va_G) (cA : Nat → ClassId) (tF : hTF) (qF : hQF) (base b : Nat) (pc : Nat) (L : (Nat → Nat) → List (Nat × Value)) (st : List Value) (a : hA) (I : hI) (J : hJ) (Q : hQ) : Prop :=
  ∀ (q : Nat → Nat) (H : Heap) (locs : List Loc) (ls : Array Slot), (base ≤ a.1 ∧ wfQ qF a Q) → va_P D vwCl (hW cA q tF qF a I J Q) H → va_D A (hW cA q tF qF a I J Q) → va_S A s.heap H locs → lv_has ls 4 (L q) → W p l e room_1 s m #[Value.ref b] below meth c H locs a.2.1 a.2.2.1 Qx (F0 m pc ls (st.map (cv q)))
section LAW
variable {p : Program} {l : Launch} {e : Env} {s : State} {m : MethodId} {below : List Frame} {meth : Method} {c : Code} {Qx : State → Prop} {A : Nat → Prop} {D : va_G} {cA : Nat → ClassId} {tF : hTF} {qF : hQF} {base b : Nat} {pc : Nat} {L : (Nat → Nat) → List (Nat × Value)} {st : List Value} {a : hA} {I : hI} {J : hJ} {Q : hQ}
theorem gv_call {dd : cdT} {ee : ev} (C : lx p s m c A D cA b) (hu : a.2.1 + ee.2.2.2.1 ≤ 600000) (hz : a.2.2.1 + ee.2.2.2.2.1 ≤ 7302250) (hrok : ee.2.2.1 = true → ∀ v ∈ st.drop ee.1, rlt a.1 v) (hL : ∀ q q' : Nat → Nat, base ≤ a.1 → (∀ k, k < a.1 → q' k = q k) → L q' = L q)
    {K : hR} (hM : ∀ q sz, base ≤ a.1 → wfQ qF a Q → Met l dd.1 (lwm dd) (rmd dd.2.2.2.2 ee.2.2.2.1 ee.2.2.2.2.1) (va_Pc (((st.take ee.1).reverse).map (cv q)) (cPre D cA q tF qF a I J Q sz)) (cPost D cA q tF qF ee.2.2.1 a I J Q (va_A (hW cA q tF qF a I J Q) sz) ee.2.2.2.1 ee.2.2.2.2.1 K) ee.2.2.2.1 ee.2.2.2.2.1 (va_A (hW cA q tF qF a I J Q) sz))
    (hrun : ∀ (q : Nat → Nat) (H : Heap) (locs : List Loc) (ls : Array Slot), a.2.1 + ee.2.2.2.1 ≤ room_1.cells ∧ a.2.2.1 + ee.2.2.2.2.1 ≤ room_1.slots → base ≤ a.1 → ls.size = 4 → va_P D vwCl (hW cA q tF qF a I J Q) H → (∀ U : State, U.heap = H → s.WarmedH U.vm → va_Pc (((st.take ee.1).reverse).map (cv q)) (cPre D cA q tF qF a I J Q H.size) (((st.take ee.1).reverse).map (cv q)).toArray U) → Met l dd.1 (lwm dd) (rmd dd.2.2.2.2 ee.2.2.2.1 ee.2.2.2.2.1) (va_Pc (((st.take ee.1).reverse).map (cv q)) (cPre D cA q tF qF a I J Q H.size)) (cPost D cA q tF qF ee.2.2.1 a I J Q (va_A (hW cA q tF qF a I J Q) H.size) ee.2.2.2.1 ee.2.2.2.2.1 K) ee.2.2.2.1 ee.2.2.2.2.1 (va_A (hW cA q tF qF a I J Q) H.size) →
      va_Run p l e room_1 s m #[Value.ref b] below meth c H locs a.2.1 a.2.2.1 ee.2.2.2.1 ee.2.2.2.2.1 (F0 m pc ls (st.map (cv q))) ((st.drop ee.1).map (cv q)) (cPost D cA q tF qF ee.2.2.1 a I J Q (va_A (hW cA q tF qF a I J Q) H.size) ee.2.2.2.1 ee.2.2.2.2.1 K (((st.take ee.1).reverse).map (cv q)).toArray) (va_A (hW cA q tF qF a I J Q) H.size))
    (k : ∀ v a' I' J' Q', K v a' I' J' Q' → (a.1 ≤ a'.1 ∧ a'.2.1 = a.2.1 + ee.2.2.2.1 ∧ a'.2.2.1 = a.2.2.1 + ee.2.2.2.2.1) → gv p l e s m below meth c Qx A D cA tF qF base b (pc + 3) L (v.toList ++ st.drop ee.1) a' I' J' Q') : gv p l e s m below meth c Qx A D cA tF qF base b pc L st a I J Q := by
  obtain ⟨hx, hb, hml, hown, hts, hK, hA⟩ := C
  intro q H locs ls h2 hP hD hS hl
  obtain ⟨g1, g6⟩ := h2
  have hAA : ∀ x, va_A (hW cA q tF qF a I J Q) H.size x → A x := by
    intro x hxx
    rcases hxx with ⟨k0, e0, h0⟩ | h0
    · exact hD.2 k0 _ h0
    · exact hA _ (Nat.le_trans hS.1 h0)
  have hpc : ∀ U : State, U.heap = H → s.WarmedH U.vm → va_Pc (((st.take ee.1).reverse).map (cv q)) (cPre D cA q tF qF a I J Q H.size) (((st.take ee.1).reverse).map (cv q)).toArray U := fun U hU hWm => ⟨rfl, by rw [hU], by rw [hU]; exact hP, kk_moved hWm hK, hD.weaken (fun _ _ _ _ => trivial)⟩
  refine call_go (hrun q H locs ls ⟨hu, hz⟩ g1 hl.1 hP hpc (hM q H.size g1 g6)) hS hAA (fun v a' I' J' Q' q' H1 locs1 hKv b1 b2 b3 b4 b5 b6 => ?_)
  have kz := k v (a'.1, a.2.1 + ee.2.2.2.1, a.2.2.1 + ee.2.2.2.2.1, a'.2.2.2) I' J' Q' hKv ⟨b2, rfl, rfl⟩ q' H1 locs1 ls ⟨Nat.le_trans g1 b2, b3⟩ b4 (b5.weaken (fun _ x _ hx => hAA _ hx)) b6 (by rw [hL q q' g1 b1.1]; exact hl)
  have hmap : (st.drop ee.1).map (cv q') = (st.drop ee.1).map (cv q) := by
    cases hb1 : ee.2.2.1 with
    | false => rw [b1.2 hb1]
    | true =>
      have hro := hrok hb1
      refine List.map_congr_left fun w hw => ?_
      have := hro w hw
      cases w with
      | ref k0 => exact congrArg Value.ref (b1.1 k0 this)
      | _ => rfl
  rw [List.map_append, hmap] at kz
  have eo : (v.map (cv q')).toList = v.toList.map (cv q') := by cases v <;> rfl
  rw [eo]
  exact kz
theorem gv_virtual {idx : Nat} {dd : cdT} {ee : ev} {o : Nat} {av : List Value} (C : lx p s m c A D cA b) (hcon : Con l tF qF base dd ee) (hd : decode code pc = .ok (.invokevirtual idx, 3)) {Lw : List (Int32 × Nat)} (hok : okM R_law idx 100 dd ee.1 2 ee.2.1 Lw = true)
    (hlen : ee.1 ≤ st.length) (hu : a.2.1 + ee.2.2.2.1 ≤ 600000) (hz : a.2.2.1 + ee.2.2.2.2.1 ≤ 7302250) (hrok : ee.2.2.1 = true → ∀ v ∈ st.drop ee.1, rlt a.1 v) (hL : ∀ q q' : Nat → Nat, base ≤ a.1 → (∀ k, k < a.1 → q' k = q k) → L q' = L q) (hc8 : cat8 (st.drop ee.1) ≤ 8) (hav : (st.take ee.1).reverse = .ref o :: av) (hin : o < a.1) (ht : (tE tF a.2.2.2 o).1 = ee.2.1)
    (k : ee.2.2.2.2.2 (.ref o :: av) a I J Q (fun v a' I' J' Q' => (a.1 ≤ a'.1 ∧ a'.2.1 = a.2.1 + ee.2.2.2.1 ∧ a'.2.2.1 = a.2.2.1 + ee.2.2.2.2.1) → gv p l e s m below meth c Qx A D cA tF qF base b (pc + 3) L (v.toList ++ st.drop ee.1) a' I' J' Q')) : gv p l e s m below meth c Qx A D cA tF qF base b pc L st a I J Q := by
  have hlen2 : (Value.ref o :: av).length = ee.1 := by rw [← hav, List.length_reverse, List.length_take]; omega
  unfold okM at hok
  simp only [Bool.and_eq_true, decide_eq_true_eq, if_neg (show ¬ (2 : Nat) = 0 by decide), if_neg (show ¬ (2 : Nat) = 1 by decide)] at hok
  obtain ⟨⟨⟨⟨⟨⟨m1, m2⟩, m3⟩, m4⟩, m5⟩, m6⟩, ⟨⟨⟨m7, m8⟩, m9⟩, m10⟩, m11⟩ := hok
  have m6 := memH_ok m6
  have m7 := memH_ok m7
  have m8 := memH_ok m8
  have m10 := memH_ok m10
  refine gv_call (dd := dd) (ee := ee) C hu hz hrok hL (K := fun v a' I' J' Q' => (a.1 ≤ a'.1 ∧ a'.2.1 = a.2.1 + ee.2.2.2.1 ∧ a'.2.2.1 = a.2.2.1 + ee.2.2.2.2.1) → gv p l e s m below meth c Qx A D cA tF qF base b (pc + 3) L (v.toList ++ st.drop ee.1) a' I' J' Q') (fun q sz hb hw => hcon.2 D cA q _ a I J Q _ sz hb hw (by rw [hav]; exact hlen2) (by rw [hav]; exact k)) ?_ (fun v a' I' J' Q' h hh => h hh)
  obtain ⟨hx, hb, hml, hown, hts, hK, hA⟩ := C
  intro q H locs ls hcs hN hls hP hpre hM
  obtain ⟨rc, e1, e2⟩ : ∃ rc, vwCl[ee.2.1]? = some rc ∧ rc.1 = dd.1.cls := by
    cases h : vwCl[ee.2.1]? with
    | none => rw [h] at m11; cases m11
    | some rc => rw [h] at m11; exact ⟨rc, rfl, Option.some.inj m11⟩
  have h11 : ee.2.1 < 11 := (List.getElem?_eq_some_iff.mp e1).1
  have hcell := hW_get (cA := cA) (q := q) (tF := tF) (qF := qF) (I := I) (J := J) (Q := Q) hin
  rw [hE_obj ht h11] at hcell
  obtain ⟨cell, w1, w2, w3⟩ := va_recv hK.1 hP e1 hcell
  rw [hav] at hM hpre ⊢
  have hcw : CallW room_1 s #[Value.ref b] R_law dd.1.cls idx dd.1 dd.2.1 dd.2.2.1 dd.2.2.2.1 (lwm dd) (rmd dd.2.2.2.2 ee.2.2.2.1 ee.2.2.2.2.1) ee.2.2.2.1 ee.2.2.2.2.1 (ee.1 - 1) :=
    ⟨callB_of (ee.1 - 1) hts (good_lwm hcon.1) rfl rfl rfl (hts _ m6) (hts _ m10) ⟨m1, m2, m3⟩ ⟨by show dd.2.2.2.2 + 1 ≤ 2048; omega, by show 8 + (dd.2.2.1 + 11) + 64 * dd.2.2.2.2 ≤ 84000; omega⟩, hts _ m7, hts _ m8⟩
  exact va_runV (As := av.map (cv q)) (b := q o) ⟨hx, hb, hml, hown, hts⟩ hM hcw ⟨pre_blind, ⟨cell, w1, w2, by rw [← e2]; exact w3⟩, hpre⟩ rfl (by rw [List.length_map]; simp at hlen2; omega) hls (take_map hav) (by
    show 2 * 0 + _ ≤ 8
    have := cat8_sum q (st.drop ee.1)
    omega) hd hcs
theorem gv_special {idx : Nat} {dd : cdT} {ee : ev} {o : Nat} {av : List Value} (C : lx p s m c A D cA b) (hcon : Con l tF qF base dd ee) (hd : decode code pc = .ok (.invokespecial idx, 3)) {Lw : List (Int32 × Nat)} (hok : okM R_law idx 100 dd ee.1 0 ee.2.1 Lw = true)
    (hlen : ee.1 ≤ st.length) (hu : a.2.1 + ee.2.2.2.1 ≤ 600000) (hz : a.2.2.1 + ee.2.2.2.2.1 ≤ 7302250) (hrok : ee.2.2.1 = true → ∀ v ∈ st.drop ee.1, rlt a.1 v) (hL : ∀ q q' : Nat → Nat, base ≤ a.1 → (∀ k, k < a.1 → q' k = q k) → L q' = L q) (hc8 : cat8 (st.drop ee.1) ≤ 8) (hav : (st.take ee.1).reverse = .ref o :: av)
    (k : ee.2.2.2.2.2 (.ref o :: av) a I J Q (fun v a' I' J' Q' => (a.1 ≤ a'.1 ∧ a'.2.1 = a.2.1 + ee.2.2.2.1 ∧ a'.2.2.1 = a.2.2.1 + ee.2.2.2.2.1) → gv p l e s m below meth c Qx A D cA tF qF base b (pc + 3) L (v.toList ++ st.drop ee.1) a' I' J' Q')) : gv p l e s m below meth c Qx A D cA tF qF base b pc L st a I J Q := by
  have hlen2 : (Value.ref o :: av).length = ee.1 := by rw [← hav, List.length_reverse, List.length_take]; omega
  unfold okM at hok
  simp only [Bool.and_eq_true, Bool.or_eq_true, decide_eq_true_eq, if_true, if_neg (show ¬ (0 : Nat) = 1 by decide)] at hok
  obtain ⟨⟨⟨⟨⟨⟨m1, m2⟩, m3⟩, m4⟩, m5⟩, m6⟩, ⟨⟨⟨m7, m8⟩, m9⟩, m10⟩, m11⟩ := hok
  have m6 := memH_ok m6
  have m8 := memH_ok m8
  have m11 := m11.imp memH_ok memN_ok
  refine gv_call (dd := dd) (ee := ee) C hu hz hrok hL (K := fun v a' I' J' Q' => (a.1 ≤ a'.1 ∧ a'.2.1 = a.2.1 + ee.2.2.2.1 ∧ a'.2.2.1 = a.2.2.1 + ee.2.2.2.2.1) → gv p l e s m below meth c Qx A D cA tF qF base b (pc + 3) L (v.toList ++ st.drop ee.1) a' I' J' Q') (fun q sz hb hw => hcon.2 D cA q _ a I J Q _ sz hb hw (by rw [hav]; exact hlen2) (by rw [hav]; exact k)) ?_ (fun v a' I' J' Q' h hh => h hh)
  obtain ⟨hx, hb, hml, hown, hts, hK, hA⟩ := C
  intro q H locs ls hcs hN hls hP hpre hM
  rw [hav] at hM hpre ⊢
  have hroom : (rmd dd.2.2.2.2 ee.2.2.2.1 ee.2.2.2.2.1).frames + 1 ≤ room_1.frames ∧ 8 + (dd.2.2.1 + 11) + (rmd dd.2.2.2.2 ee.2.2.2.1 ee.2.2.2.2.1).locals ≤ room_1.locals := ⟨by show dd.2.2.2.2 + 1 ≤ 2048; omega, by show 8 + (dd.2.2.1 + 11) + 64 * dd.2.2.2.2 ≤ 84000; omega⟩
  have h8 : 2 * (F0 m pc ls (st.map (cv q))).monitorRoom + (((st.drop ee.1).map (cv q)).map fun v => v.category).sum ≤ 8 := by
    show 2 * 0 + _ ≤ 8
    have := cat8_sum q (st.drop ee.1)
    omega
  have hlw : lwm dd = Cond.code dd.1 dd.2.1 dd.2.2.1 none :: lw_g := by unfold lwm; rw [m9]
  rcases m11 with m11 | m11
  · exact va_runI (As := av.map (cv q)) (b := q o) ⟨hx, hb, hml, hown, hts⟩ hM ⟨callB_of (ee.1 - 1) hts (good_lwm hcon.1) hlw rfl rfl (hts _ m6) (hts _ m11) ⟨m1, m2, m3⟩ hroom, m7, hts _ m8⟩ ⟨pre_blind, hpre⟩ rfl (by rw [List.length_map]; simp at hlen2; omega) hls (take_map hav) h8 hd hcs
  · exact va_runIN (As := av.map (cv q)) (b := q o) ⟨hx, hb, hml, hown, hts⟩ hM ⟨va_cnB (ee.1 - 1) hts (good_lwm hcon.1) hlw rfl rfl (hK.2.1 _ m11) (hts _ m6) ⟨m1, m2, m3⟩ hroom, m7, hts _ m8⟩ ⟨pre_blind, hpre⟩ rfl (by rw [List.length_map]; simp at hlen2; omega) hls (take_map hav) h8 hd hcs
theorem gv_new {idx x : Nat} (C : lx p s m c A D cA b) (hd : decode code pc = .ok (.new idx, 3)) (hlk : ∀ r, vwCl[x]? = some r → Cond.classLink R_law idx r.1 ∈ lw_g) (h11 : x < 11) (ht : tF a.1 = none ∧ ∀ j, qF a.1 j = none) (hr : ∀ v ∈ st, rlt a.1 v) (hL : ∀ q q' : Nat → Nat, base ≤ a.1 → (∀ k, k < a.1 → q' k = q k) → L q' = L q) (hu : a.2.1 + 1 ≤ 600000 ∧ a.2.2.1 + (kd x).length ≤ 7302250)
    (k : gv p l e s m below meth c Qx A D cA tF qF base b (pc + 3) L (.ref a.1 :: st) (hnew a (kd x).length (x, 0)) (va_up I a.1 (fun _ => 0)) (va_up J a.1 (fun _ => 0)) (va_up Q a.1 (fun _ => none))) : gv p l e s m below meth c Qx A D cA tF qF base b pc L st a I J Q := by
  obtain ⟨hx, hb, hml, hown, hts, hK, hA⟩ := C
  intro q H locs ls h2 hP hD hS hl
  obtain ⟨rc, e1, e2, e3, e4, e5, e6, e7, e8⟩ := cls_ok x h11
  have hfs : ∀ j, j < rc.2.2 → defaultValue (tyA x j) = vp_V ((kd x).mapIdx (fun j z => hV q (fun _ _ => none) (fun _ _ => 0) (fun _ _ => 0) (fun _ _ => none) 0 j z)) j := by
    intro j hj
    have hj' : j < (kd x).length := by rw [e5]; exact hj
    unfold vp_V
    have hg : (kd x)[j]? = some ((kd x).getD j 9) := by rw [List.getD_eq_getElem?_getD, List.getElem?_eq_getElem hj']; rfl
    rw [dflt_kind (kd_len x h11 j hj') (e6 j hj), List.getD_eq_getElem?_getD (l := List.mapIdx _ _), List.getElem?_mapIdx, hg]
    rfl
  obtain ⟨g1, g6⟩ := h2
  refine va_new hx hb hts e2 (tyA x) e3 hown (hts _ (hlk rc e1)) (hts _ e7) (hts _ e8) hK.1 hP hD hS hA e1 hfs (by show a.2.1 + 1 ≤ 600000; omega) (by rw [← e5]; show a.2.2.1 + _ ≤ 7302250; omega) hd (fun q' H1 hP1 hD1 hS1 => ?_)
  have hcellE : hE cA q (fun _ => none) (fun _ _ => none) (fun _ => (x, 0)) (fun _ _ => 0) (fun _ _ => 0) (fun _ _ => none) 0 = .inr (x, (kd x).mapIdx (fun j z => hV q (fun _ _ => none) (fun _ _ => 0) (fun _ _ => 0) (fun _ _ => none) 0 j z)) := hE_obj rfl h11
  rw [← hcellE, ← hW_push (n := (kd x).length) g6 ht.1 ht.2] at hP1 hD1
  have kz := k (va_up q a.1 q') H1 locs ls ⟨Nat.le_succ_of_le g1, wf_new g6 ht.2⟩ hP1 hD1 hS1 (by rw [hL q _ g1 (fun k' hk' => va_up_ne _ _ (by omega))]; exact hl)
  rw [List.map_cons, map_new hr] at kz
  have ec : cv (va_up q a.1 q') (.ref a.1) = .ref q' := by show Value.ref (va_up q a.1 q' a.1) = _; rw [va_up_self]
  rw [ec] at kz
  have ez : (hnew a (kd x).length (x, 0)).2.2.1 = a.2.2.1 + rc.2.2 := by show a.2.2.1 + (kd x).length = _; rw [e5]
  rw [ez] at kz
  exact kz
end LAW
