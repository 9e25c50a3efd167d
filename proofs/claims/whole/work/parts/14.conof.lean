/-! a contract out of a pure row over the method's stretches -/
theorem pn_long : plainName "java/lang/Long" = true := by decide +kernel
theorem pn_int : plainName "java/lang/Integer" = true := by decide +kernel
def lvA : List Value → lL
  | [] => []
  | v :: r => match is1 v with
    | true => some v :: lvA r
    | false => some v :: none :: lvA r
/-- the locals with which a method begins -/
def lvIn (nL : Nat) (av : List Value) : lL := lvA av ++ List.replicate (nL - (lvA av).length) none
def isV (v : Value) : Prop := is1 v = true ↔ v.category = 1
theorem is1_iff (v : Value) (h : is1 v = true ∨ (∃ x, v = .long x)) : (is1 v = true → ¬ v.category = 2) ∧ (is1 v = false → v.category = 2) := by
  rcases h with h | ⟨x, rfl⟩
  · exact ⟨fun _ => by rw [is1_cat h]; decide, fun h2 => by rw [h] at h2; cases h2⟩
  · exact ⟨fun h => (by cases h), fun _ => rfl⟩
/-- values of the kinds that there are here -/
def okv (av : List Value) : Prop := ∀ v ∈ av, is1 v = true ∨ ∃ x, v = .long x
theorem lvA_len {q : Nat → Nat} : ∀ {av : List Value}, okv av → (lg_sl (av.map (cv q))).length = (lvA av).length
  | [], _ => rfl
  | v :: r, h => by
    have ih := lvA_len (q := q) (av := r) (fun w hw => h w (List.mem_cons_of_mem _ hw))
    have hv := is1_iff v (h v List.mem_cons_self)
    unfold lg_sl at ih ⊢
    rw [List.map_cons, List.flatMap_cons, List.length_append, ih]
    cases hb : is1 v with
    | true => rw [if_neg (by rw [cv_cat]; exact hv.1 hb)]; simp only [lvA, hb, List.length_cons, List.length_nil]; omega
    | false => rw [if_pos (by rw [cv_cat]; exact hv.2 hb)]; simp only [lvA, hb, List.length_cons, List.length_nil]; omega
theorem lvA_mem {q : Nat → Nat} : ∀ {av : List Value} (n i : Nat) (v : Value), okv av → (lvA av)[i]? = some (some v) → (n + i, cv q v) ∈ lv_args n (av.map (cv q))
  | [], n, i, v, _, h => by simp [lvA] at h
  | w :: r, n, i, v, hok, h => by
    have hok' : okv r := fun w hw => hok w (List.mem_cons_of_mem _ hw)
    have hv := is1_iff w (hok w List.mem_cons_self)
    rw [lvA] at h
    rw [List.map_cons, lv_args]
    cases hb : is1 w with
    | true =>
      simp only [hb] at h
      rw [if_neg (by rw [cv_cat]; exact hv.1 hb)]
      cases i with
      | zero => cases h; exact List.mem_cons_self
      | succ i =>
        refine List.mem_cons_of_mem _ ?_
        have := lvA_mem (q := q) (n + 1) i v hok' h
        rwa [show n + 1 + i = n + (i + 1) by omega] at this
    | false =>
      simp only [hb] at h
      rw [if_pos (by rw [cv_cat]; exact hv.2 hb)]
      match i with
      | 0 => cases h; exact List.mem_cons_self
      | 1 => cases h
      | i + 2 =>
        refine List.mem_cons_of_mem _ ?_
        have := lvA_mem (q := q) (n + 2) i v hok' h
        rwa [show n + 2 + i = n + (i + 2) by omega] at this
theorem con_of {l : Launch} {tF : hTF} {qF : hQF} {base : Nat} {dd : cdT} {ee : ev} (own : String) (ed : List edT) (env : List ev) (ini rz : Bool) (code : List en) (hcw : Cond.code dd.1 dd.2.1 dd.2.2.1 dd.2.2.2.1 ∈ lw_g) (hy : plainName dd.1.cls = true) (hown : dd.1.cls = own) (hcode : okL own dd.2.1 ed dd.2.2.2.2 dd.2.2.2.1 rz code = true) (hini : ini = true → dd.1.name = "<init>")
    (henv : ∀ (x : Nat) (ee : ev), env[x]? = some ee → ∃ dd, ed[x]? = some (dd, ee.1, ee.2.1) ∧ Con l tF qF base dd ee)
    (mono : ∀ (x : Nat) (ee : ev), env[x]? = some ee → ∀ av a I J Q (K1 K2 : hR), (∀ v a' I' J' Q', K1 v a' I' J' Q' → K2 v a' I' J' Q') → ee.2.2.2.2.2 av a I J Q K1 → ee.2.2.2.2.2 av a I J Q K2)
    (body : ∀ (G : hG) (K : hR) (av : List Value) (a : hA) (I : hI) (J : hJ) (Q : hQ), (∀ (stops : List Nat) (n pc : Nat) (lv : lL) (st : List Value) (a' : hA) (I' : hI) (J' : hJ) (Q' : hQ), wpc tF qF ee.2.2.1 base (a.2.1 + ee.2.2.2.1) (a.2.2.1 + ee.2.2.2.2.1) env ini rz code stops G (rtK K a.2.1 a.2.2.1 ee.2.2.2.1 ee.2.2.2.2.1) n (sk code pc) lv st a' I' J' Q' → G pc lv st a' I' J' Q') → base ≤ a.1 → av.length = ee.1 → ee.2.2.2.2.2 av a I J Q K → (okv av ∧ (lvA av).length ≤ dd.2.2.1) ∧ G 0 (lvIn dd.2.2.1 av) [] a I J Q) : Con l tF qF base dd ee := by
  refine ⟨hcw, fun D cA q av a I J Q K sz hbase hwf hlen hS => ?_⟩
  refine Met.ofW (cc := dd.2.1) (maxL := dd.2.2.1) (ret := dd.2.2.2.1) (ws' := lw_g) hy rfl ?_
  intro p e s m args below meth c s₁ B hml hv
  obtain ⟨rfl, hsz, hP, hKK, hD0⟩ := hv
  have hts0 := atoms_spec (ws := lwm dd) B.pre
  have hts : ∀ w ∈ lw_g, w.before (av.map (cv q)).toArray s = true := fun w hw => hts0 w (List.mem_cons_of_mem _ hw)
  have hown' : s.vm.findClass own = some m.cls := by rw [← hown]; exact findClass_of_methodNamed B.named
  have hname : meth.name = dd.1.name := (name_of_methodNamed B.named B.method).1
  subst hsz
  have hD := hD0.self (sz := s.heap.size)
  have C : cx p (headSpec (lwm dd) (rmd dd.2.2.2.2 ee.2.2.2.1 ee.2.2.2.2.1)).room s m (av.map (cv q)).toArray meth c (va_A (hW cA q tF qF a I J Q) s.heap.size) D cA dd.2.1 own dd.2.2.1 dd.2.2.2.1 ini dd.2.2.2.2 a.1 base a.2.1 a.2.2.1 (a.2.1 + ee.2.2.2.1) (a.2.2.1 + ee.2.2.2.2.1) :=
    ⟨B.exec, B.bytes, hml, B.returns, B.notSynchronized, hown', hts, hKK, fun x hx => Or.inr hx, fun h => by rw [hname]; exact hini h, rfl, rfl, rfl, rfl, hbase⟩
  obtain ⟨⟨hokv, hlvA⟩, hG⟩ := body (gw p l e (headSpec (lwm dd) (rmd dd.2.2.2.2 ee.2.2.2.1 ee.2.2.2.2.1)).room s m (av.map (cv q)).toArray below meth c (mq below s (av.map (cv q)).toArray (va_A (hW cA q tF qF a I J Q) s.heap.size) D cA q tF qF ee.2.2.1 a.1 a.2.1 a.2.2.1 ee.2.2.2.1 ee.2.2.2.2.1 a.2.2.2 I J Q K) (va_A (hW cA q tF qF a I J Q) s.heap.size) D cA q tF qF ee.2.2.1 a.1 a.2.1 a.2.2.1 (a.2.1 + ee.2.2.2.1) (a.2.2.1 + ee.2.2.2.2.1)) K av a I J Q (fun stops n pc lv st a' I' J' Q' h => by
      by_cases hne : sk code pc = []
      · rw [hne] at h
        cases n with
        | zero => exact h.elim
        | succ n => exact h.elim
      · have := wpc_sound C rfl rfl hcode henv mono n (sk code pc) lv st a' I' J' Q' (sk_suf code pc) h
        rw [sk_pc code pc hne] at this
        exact this) hbase hlen hS
  have hent := lv_entry (av.map (cv q)) (n := dd.2.2.1) (by rw [lvA_len hokv]; exact hlvA)
  rw [lg_entry_eq]
  have hls : hLs ((lg_sl (av.map (cv q)) ++ List.replicate (dd.2.2.1 - (lg_sl (av.map (cv q))).length) Slot.unset).toArray) c.maxLocals q (lvIn dd.2.2.1 av) := by
    rw [hml]
    refine ⟨by unfold lvIn; rw [List.length_append, List.length_replicate]; omega, _, hent, fun i v hi => ?_⟩
    unfold lvIn at hi
    by_cases hl : i < (lvA av).length
    · rw [List.getElem?_append_left hl] at hi
      have := lvA_mem (q := q) 0 i v hokv hi
      rwa [Nat.zero_add] at this
    · rw [List.getElem?_append_right (by omega), List.getElem?_replicate] at hi
      split at hi <;> cases hi
  have := hG q s.heap [] _ ⟨fun _ _ => rfl, fun _ => rfl⟩ ⟨Nat.le_refl _, Nat.le_refl _, Nat.le_add_right _ _, Nat.le_refl _, Nat.le_add_right _ _, hwf⟩ hP hD va_S.rf hls
  rw [Nat.sub_self, Nat.sub_self] at this
  exact this
