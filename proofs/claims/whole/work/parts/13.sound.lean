/-! a stretch's proposition is enough: wpx_sound, wpc_sound, and a contract out of it -/
abbrev edT : Type := cdT × Nat × Nat
def isO (r : Option FieldType) : Bool := match r with
  | some (.object _) => true
  | some (.array _) => true
  | _ => false
/-- an instruction's row is what the code has, and its words are there -/
def okE (own : String) (cc : ByteArray) (ed : List edT) (d : Nat) (ret : Option FieldType) (rz : Bool) (w : en) : Bool := match w with
  | (pc, i, len, x, y, c, dj, L) => decide (decode cc pc = .ok (i, len)) && okC own i c dj L && (match i with
    | .goto off => decide ((pc : Int) + off = (x : Int)) && Nat.beq len 3
    | .ifCond _ off => decide ((pc : Int) + off = (x : Int)) && Nat.beq len 3
    | .if_icmp _ off => decide ((pc : Int) + off = (x : Int)) && Nat.beq len 3
    | .ifnull off => decide ((pc : Int) + off = (x : Int)) && Nat.beq len 3
    | .ifnonnull off => decide ((pc : Int) + off = (x : Int)) && Nat.beq len 3
    | .tableswitch dflt lo hi offs => tabOK pc dflt lo hi offs x L
    | .lookupswitch dflt ps => lookOK pc dflt ps x L
    | .getfield idx => okF own idx x y L && Nat.blt x 11 && Nat.beq len 3
    | .putfield idx => okF own idx x y L && okP own x y && Nat.blt x 11 && Nat.beq len 3
    | .new idx => (match vwCl[x]? with
      | some r => memH (hn L 0) (Cond.classLink own idx r.1)
      | none => false) && Nat.beq len 3
    | .newarray t => ((decide (t = .int) && Nat.beq x 11 && memH (hn L 0) (Cond.arrayClass .int)) || (decide (t = .long) && Nat.beq x 12 && memH (hn L 0) (Cond.arrayClass .long))) && Nat.ble y 10000 && Nat.beq len 2
    | .anewarray idx => ((Nat.beq x 13 && memH (hn L 0) (Cond.classLink own idx RX6)) || (Nat.beq x 14 && memH (hn L 0) (Cond.classLink own idx RX7)) || (Nat.beq x 15 && memH (hn L 0) (Cond.classLink own idx RX8))) && Nat.ble y 10000 && Nat.beq len 3
    | .invokespecial idx => Nat.beq len 3 && (match Nat.beq x 99999 with
      | true => memH (hn L 0) (Cond.methodLink own idx objectInit) && memH (hn L 1) (Cond.instanceMethod objectInit) && memH (hn L 2) (Cond.code objectInit ⟨#[0xb1]⟩ 1 none) && Nat.ble 1 d
      | false => match ed[x]? with
        | some z => okM own idx d z.1 z.2.1 0 z.2.2 L
        | none => false)
    | .invokestatic idx => Nat.beq len 3 && (match Nat.beq x 99998 with
      | true => memH (hn L 0) (Cond.methodLink own idx Lib.Math.max.name) && memH (hn L 1) (Cond.static Lib.Math.max.name) && memH (hn L 2) (Cond.initialized "java/lang/Math") && memH (hn L 3) (Cond.code Lib.Math.max.name Lib.Math.max.code 2 (some .int)) && Nat.ble 1 d
      | false => match Nat.beq x 99997 with
        | true => memH (hn L 0) (Cond.methodLink own idx Lib.Math.min.name) && memH (hn L 1) (Cond.static Lib.Math.min.name) && memH (hn L 2) (Cond.initialized "java/lang/Math") && memH (hn L 3) (Cond.code Lib.Math.min.name Lib.Math.min.code 2 (some .int)) && Nat.ble 1 d
        | false => match ed[x]? with
          | some z => okM own idx d z.1 z.2.1 1 z.2.2 L
          | none => false)
    | .invokevirtual idx => Nat.beq len 3 && (match ed[x]? with
      | some z => okM own idx d z.1 z.2.1 2 z.2.2 L
      | none => false)
    | .ireturn => Nat.beq len 1 && ((decide (ret = some .int) && !rz) || (decide (ret = some .boolean) && rz))
    | .lreturn => Nat.beq len 1 && decide (ret = some .long)
    | .areturn => Nat.beq len 1 && isO ret
    | .return_ => Nat.beq len 1 && decide (ret = none)
    | i => Nat.beq len (ilen i))
def okL (own : String) (cc : ByteArray) (ed : List edT) (d : Nat) (ret : Option FieldType) (rz : Bool) : List en → Bool
  | [] => true
  | w :: r => okE own cc ed d ret rz w && (match r with
    | [] => true
    | w' :: _ => Nat.beq w'.1 (w.1 + w.2.2.1)) && okL own cc ed d ret rz r
theorem okL_suf {own : String} {cc : ByteArray} {ed : List edT} {d : Nat} {ret : Option FieldType} {rz : Bool} : ∀ {code cs : List en}, cs <:+ code → okL own cc ed d ret rz code = true → okL own cc ed d ret rz cs = true
  | [], cs, h, hk => by
    rw [List.suffix_nil.mp h]
    rfl
  | w :: r, cs, h, hk => by
    rcases List.suffix_cons_iff.mp h with h | h
    · rw [h]; exact hk
    · unfold okL at hk
      rw [Bool.and_eq_true] at hk
      exact okL_suf h hk.2
theorem sk_suf : ∀ (code : List en) (pc : Nat), sk code pc <:+ code
  | [], _ => List.suffix_refl _
  | w :: r, pc => by
    unfold sk
    split
    · exact List.suffix_refl _
    · exact (sk_suf r pc).trans (List.suffix_cons w r)
theorem sk_pc : ∀ (code : List en) (pc : Nat), sk code pc ≠ [] → pcOf (sk code pc) = pc
  | [], _, h => absurd rfl h
  | w :: r, pc, h => by
    unfold sk at h ⊢
    split
    · rename_i hb
      exact Nat.eq_of_beq_eq_true hb
    · rename_i hb
      simp only [hb] at h
      exact sk_pc r pc h
theorem pc_next {own : String} {cc : ByteArray} {ed : List edT} {d : Nat} {ret : Option FieldType} {rz : Bool} {w : en} {cs : List en} (h : okL own cc ed d ret rz (w :: cs) = true) (hn : cs ≠ []) : pcOf cs = w.1 + w.2.2.1 := by
  unfold okL at h
  cases cs with
  | nil => exact absurd rfl hn
  | cons w' r =>
    simp only [Bool.and_eq_true] at h
    exact Nat.eq_of_beq_eq_true h.1.2
section SD
variable {p : Program} {l : Launch} {e : Env} {R : Room} {s : State} {m : MethodId} {args : Array Value} {below : List Frame} {meth : Method} {c : Code} {A : Nat → Prop} {D : va_G} {cA : Nat → ClassId} {q0 : Nat → Nat} {tF : hTF} {qF : hQF} {al : Bool} {N0 u0 z0 um zm base nL d : Nat} {cc : ByteArray} {own : String} {ret : Option FieldType} {ini rz : Bool} {lv : lL} {st : List Value} {a : hA} {I : hI} {J : hJ} {Q : hQ}
theorem ifc_mono {cd : ClassFile.Cond} {x y : Int32} {P1 P2 Q1 Q2 : Prop} (h : ifc cd x y P1 P2) (h1 : P1 → Q1) (h2 : P2 → Q2) : ifc cd x y Q1 Q2 := by
  cases cd <;> exact ⟨fun c => h1 (h.1 c), fun c => h2 (h.2 c)⟩
theorem swx_mono {x : Int32} {L : List (Int32 × Nat)} {T T' : Nat → Prop} {P P' : Prop} (h : swx x L T P) (h1 : ∀ t, T t → T' t) (h2 : P → P') : swx x L T' P' := by
  induction L with
  | nil => exact h2 h
  | cons y L ih => exact ⟨fun c => h1 _ (h.1 c), fun c => ih (h.2 c)⟩
theorem bor_le {a b x : Nat} (h : (Nat.beq b 0 || Nat.ble (a + b) x) = true) (h1 : a ≤ x) : a + b ≤ x := by
  rw [Bool.or_eq_true] at h
  rcases h with h | h
  · have : b = 0 := Nat.eq_of_beq_eq_true h
    omega
  · exact Nat.le_of_ble_eq_true h
set_option maxHeartbeats 4000000 in
theorem wpx_sound {mc ms : Nat} {t0 : Nat → Nat × Nat} {I0 : hI} {J0 : hJ} {Q0 : hQ} {K : hR} {env : List ev} {ed : List edT} {code cs : List en} {k : List en → lL → List Value → hA → hI → hJ → hQ → Prop}
    (C : cx p R s m args meth c A D cA cc own nL ret ini d N0 base u0 z0 um zm) (hc : R.cells = mc) (hs : R.slots = ms) (hcode : okL own cc ed d ret rz code = true) (hsuf : cs <:+ code)
    (henv : ∀ (x : Nat) (ee : ev), env[x]? = some ee → ∃ dd, ed[x]? = some (dd, ee.1, ee.2.1) ∧ Con l tF qF base dd ee)
    (mono : ∀ (x : Nat) (ee : ev), env[x]? = some ee → ∀ av a I J Q (K1 K2 : hR), (∀ v a' I' J' Q', K1 v a' I' J' Q' → K2 v a' I' J' Q') → ee.2.2.2.2.2 av a I J Q K1 → ee.2.2.2.2.2 av a I J Q K2)
    (hk : ∀ cs' lv' st' a' I' J' Q', cs' <:+ code → k cs' lv' st' a' I' J' Q' → cs' ≠ [] ∧ gw p l e R s m args below meth c (mq below s args A D cA q0 tF qF al N0 u0 z0 mc ms t0 I0 J0 Q0 K) A D cA q0 tF qF al N0 u0 z0 um zm (pcOf cs') lv' st' a' I' J' Q')
    (h : wpx tF qF al base um zm env ini rz code (rtK K u0 z0 mc ms) k cs lv st a I J Q) : gw p l e R s m args below meth c (mq below s args A D cA q0 tF qF al N0 u0 z0 mc ms t0 I0 J0 Q0 K) A D cA q0 tF qF al N0 u0 z0 um zm (pcOf cs) lv st a I J Q := by
  have hok := okL_suf hsuf hcode
  cases cs with
  | nil => exact h.elim
  | cons w cs =>
    have hsuf' : cs <:+ code := (List.suffix_cons w cs).trans hsuf
    have hpn : cs ≠ [] → pcOf cs = w.1 + w.2.2.1 := pc_next hok
    unfold okL at hok
    rw [Bool.and_eq_true, Bool.and_eq_true] at hok
    have hE := hok.1.1
    obtain ⟨pc, i, len, x, y, ci, dj, L⟩ := w
    show gw p l e R s m args below meth c (mq below s args A D cA q0 tF qF al N0 u0 z0 mc ms t0 I0 J0 Q0 K) A D cA q0 tF qF al N0 u0 z0 um zm pc lv st a I J Q
    have next : ∀ n lv' st' a' I' J' Q', len = n → k cs lv' st' a' I' J' Q' → gw p l e R s m args below meth c (mq below s args A D cA q0 tF qF al N0 u0 z0 mc ms t0 I0 J0 Q0 K) A D cA q0 tF qF al N0 u0 z0 um zm (pc + n) lv' st' a' I' J' Q' := by
      intro n lv' st' a' I' J' Q' hn hkk
      obtain ⟨h1, h2⟩ := hk cs lv' st' a' I' J' Q' hsuf' hkk
      rw [hpn h1] at h2
      rw [← hn]
      exact h2
    have jump : ∀ t lv' st' a' I' J' Q', k (sk code t) lv' st' a' I' J' Q' → gw p l e R s m args below meth c (mq below s args A D cA q0 tF qF al N0 u0 z0 mc ms t0 I0 J0 Q0 K) A D cA q0 tF qF al N0 u0 z0 um zm t lv' st' a' I' J' Q' := by
      intro t lv' st' a' I' J' Q' hkk
      obtain ⟨h1, h2⟩ := hk _ lv' st' a' I' J' Q' (sk_suf code t) hkk
      rw [sk_pc code t h1] at h2
      exact h2
    unfold okE at hE
    simp only [Bool.and_eq_true, decide_eq_true_eq] at hE
    obtain ⟨⟨hd, hoC⟩, hE⟩ := hE
    unfold wpx at h
    simp only at h
    split at h
    · rename_i lv1 st1 hz
      have hl : len = ilen i := by
        unfold sm at hz
        split at hz <;> first | exact Nat.eq_of_beq_eq_true hE | (cases hz; done)
      rw [hl] at hd
      exact sm_sound C hd hoC hz (next _ _ _ _ _ _ _ hl h)
    · rename_i hz
      clear hz hoC
      split at h
      · -- goto
        simp only [Bool.and_eq_true, decide_eq_true_eq] at hE
        obtain rfl := Nat.eq_of_beq_eq_true hE.2
        exact gw_goto C hd hE.1 (jump _ _ _ _ _ _ _ h)
      · -- ifCond
        simp only [Bool.and_eq_true, decide_eq_true_eq] at hE
        obtain rfl := Nat.eq_of_beq_eq_true hE.2
        split at h
        · exact gw_if C hd hE.1 (ifc_mono h (jump _ _ _ _ _ _ _) (next 3 _ _ _ _ _ _ rfl))
        · exact h.elim
      · -- if_icmp
        simp only [Bool.and_eq_true, decide_eq_true_eq] at hE
        obtain rfl := Nat.eq_of_beq_eq_true hE.2
        split at h
        · exact gw_icmp C hd hE.1 (ifc_mono h (jump _ _ _ _ _ _ _) (next 3 _ _ _ _ _ _ rfl))
        · exact h.elim
      · -- ifnull
        simp only [Bool.and_eq_true, decide_eq_true_eq] at hE
        obtain rfl := Nat.eq_of_beq_eq_true hE.2
        split at h
        · exact gw_ifnullR C hd (next 3 _ _ _ _ _ _ rfl h)
        · exact gw_ifnullN C hd hE.1 (jump _ _ _ _ _ _ _ h)
        · exact h.elim
      · -- ifnonnull
        simp only [Bool.and_eq_true, decide_eq_true_eq] at hE
        obtain rfl := Nat.eq_of_beq_eq_true hE.2
        split at h
        · exact gw_ifnonnullR C hd hE.1 (jump _ _ _ _ _ _ _ h)
        · exact gw_ifnonnullN C hd (next 3 _ _ _ _ _ _ rfl h)
        · exact h.elim
      · -- tableswitch
        split at h
        · exact gw_table C hd hE (swx_mono h (fun t => jump t _ _ _ _ _ _) (jump _ _ _ _ _ _ _))
        · exact h.elim
      · -- lookupswitch
        split at h
        · exact gw_look C hd hE (swx_mono h (fun t => jump t _ _ _ _ _ _) (jump _ _ _ _ _ _ _))
        · exact h.elim
      · -- idiv
        obtain rfl : len = 1 := Nat.eq_of_beq_eq_true hE
        split at h
        · exact gw_div C hd h.1 (next 1 _ _ _ _ _ _ rfl h.2)
        · exact h.elim
      · -- irem
        obtain rfl : len = 1 := Nat.eq_of_beq_eq_true hE
        split at h
        · exact gw_rem C hd h.1 (next 1 _ _ _ _ _ _ rfl h.2)
        · exact h.elim
      · -- getfield
        simp only [Bool.and_eq_true] at hE
        obtain rfl := Nat.eq_of_beq_eq_true hE.2
        have h11 : x < 11 := by simpa [Nat.blt_eq] using hE.1.2
        split at h
        · rw [ck_iff, Bool.and_eq_true] at h
          obtain ⟨⟨g1, g2⟩, h⟩ := h
          have g2 := Nat.eq_of_beq_eq_true g2
          split at h
          · rename_i hy
            exact gw_getfield C hd hE.1.1 g1 g2 h11 hy (fun q => rfl) (next 3 _ _ _ _ _ _ rfl h)
          · rename_i hy
            exact gw_getfield C hd hE.1.1 g1 g2 h11 hy (fun q => by unfold hV; rw [if_neg (by decide), if_pos rfl, cv_rv]) (next 3 _ _ _ _ _ _ rfl h)
          · rename_i z hy1 hy2 hy
            exact gw_getfield C hd hE.1.1 g1 g2 h11 hy (fun q => by unfold hV; rw [if_neg (by simpa using hy1), if_neg (by simpa using hy2)]; rfl) (next 3 _ _ _ _ _ _ rfl h)
          · exact h.elim
        · exact h.elim
      · -- putfield
        simp only [Bool.and_eq_true] at hE
        obtain ⟨⟨⟨o1, o2⟩, o3⟩, o4⟩ := hE
        obtain rfl := Nat.eq_of_beq_eq_true o4
        have h11 : x < 11 := by simpa [Nat.blt_eq] using o3
        obtain ⟨rc, e1, e2, e3, e4, e5, e6, -⟩ := cls_ok x h11
        have hkty : ∀ κ, (kd x)[y]? = some κ → kty κ (tyA x y) = true := by
          intro κ hκ
          have hy : y < rc.2.2 := by rw [← e5]; exact (List.getElem?_eq_some_iff.mp hκ).1
          have := e6 y hy
          rw [List.getD_eq_getElem?_getD, hκ] at this
          exact this
        split at h
        · rename_i v o r
          rw [ck_iff, Bool.and_eq_true, Bool.and_eq_true] at h
          obtain ⟨⟨⟨g1, g2⟩, g3⟩, h⟩ := h
          have g2 := Nat.eq_of_beq_eq_true g2
          split at h
          · rename_i hy
            have ht : tyA x y = .int := by simpa [kty] using hkty _ hy
            refine gw_put (I' := up2 I o y v) (J' := J) (Q' := Q) C hd o1 o2 g1 g2 h11 hy g3 (fun q => by rw [ht]; rfl) (fun q => by rw [ht]; rfl) (fun q => ?_) (fun q j z hj => ?_) (fun k' hk' => ⟨up2_ne hk', rfl, rfl⟩) (fun _ h => h) (next 3 _ _ _ _ _ _ rfl h)
            · unfold hV; rw [if_neg (by decide), if_neg (by decide), up2_at]; rfl
            · unfold hV; rw [up2_nej hj]
          · rename_i hy
            have ht : tyA x y = .boolean := by simpa [kty] using hkty _ hy
            refine gw_put (I' := up2 I o y v) (J' := J) (Q' := Q) C hd o1 o2 g1 g2 h11 hy g3 (fun q => by rw [ht]; rcases h.1 with e | e <;> rw [e] <;> rfl) (fun q => by rw [ht]; rcases h.1 with e | e <;> rw [e] <;> rfl) (fun q => ?_) (fun q j z hj => ?_) (fun k' hk' => ⟨up2_ne hk', rfl, rfl⟩) (fun _ h => h) (next 3 _ _ _ _ _ _ rfl h.2)
            · unfold hV; rw [if_neg (by decide), if_neg (by decide), up2_at]; rfl
            · unfold hV; rw [up2_nej hj]
          · exact h.elim
        · rename_i v o r
          rw [ck_iff, Bool.and_eq_true, Bool.and_eq_true] at h
          obtain ⟨⟨⟨g1, g2⟩, g3⟩, h⟩ := h
          have g2 := Nat.eq_of_beq_eq_true g2
          split at h
          · rename_i hy
            have ht : tyA x y = .long := by simpa [kty] using hkty _ hy
            refine gw_put (I' := I) (J' := up2 J o y v) (Q' := Q) C hd o1 o2 g1 g2 h11 hy g3 (fun q => by rw [ht]; rfl) (fun q => by rw [ht]; rfl) (fun q => ?_) (fun q j z hj => ?_) (fun k' hk' => ⟨rfl, up2_ne hk', rfl⟩) (fun _ h => h) (next 3 _ _ _ _ _ _ rfl h)
            · unfold hV; rw [if_pos rfl, up2_at]; rfl
            · unfold hV; rw [up2_nej hj]
          · exact h.elim
        · rename_i v o r
          rw [ck_iff, Bool.and_eq_true, Bool.and_eq_true, Bool.and_eq_true, Bool.and_eq_true] at h
          obtain ⟨⟨⟨⟨⟨g1, g2⟩, g3⟩, g4⟩, g5⟩, h⟩ := h
          have g2 := Nat.eq_of_beq_eq_true g2
          have g4 : qF o y = none := by simpa using g4
          split at h
          · rename_i hy
            have ht := hkty _ hy
            have hbs := C.2.2.2.2.2.2.2.2.2.2.2.2.2.2
            refine gw_put (I' := I) (J' := J) (Q' := up2 Q o y (some v)) C hd o1 o2 g1 g2 h11 hy g3 (fun q => ?_) (fun q => ?_) (fun q => ?_) (fun q j z hj => ?_) (fun k' hk' => ⟨rfl, rfl, qE_ne hk'⟩) (fun hN hw => wf_up g4 (cin_lt hbs hN g5) hw) (next 3 _ _ _ _ _ _ rfl h)
            · cases hta : tyA x y <;> rw [hta] at ht <;> first | rfl | (simp [kty] at ht; done)
            · cases hta : tyA x y <;> rw [hta] at ht <;> first | rfl | (simp [kty] at ht; done)
            · unfold hV qE; rw [if_neg (by decide), if_pos rfl, g4, up2_at]; rfl
            · unfold hV qE; rw [up2_nej hj]
          · exact h.elim
        · exact h.elim
      · -- iaload
        obtain rfl : len = 1 := Nat.eq_of_beq_eq_true hE
        split at h
        · rw [ck_iff, Bool.and_eq_true] at h
          obtain ⟨⟨g1, g2⟩, h1, h⟩ := h
          exact gw_iaload C hd g1 (Nat.eq_of_beq_eq_true g2) h1 (next 1 _ _ _ _ _ _ rfl h)
        · exact h.elim
      · -- laload
        obtain rfl : len = 1 := Nat.eq_of_beq_eq_true hE
        split at h
        · rw [ck_iff, Bool.and_eq_true] at h
          obtain ⟨⟨g1, g2⟩, h1, h⟩ := h
          exact gw_laload C hd g1 (Nat.eq_of_beq_eq_true g2) h1 (next 1 _ _ _ _ _ _ rfl h)
        · exact h.elim
      · -- aaload
        obtain rfl : len = 1 := Nat.eq_of_beq_eq_true hE
        split at h
        · rw [ck_iff, Bool.and_eq_true, Bool.and_eq_true] at h
          obtain ⟨⟨⟨g1, g2⟩, g3⟩, h1, h⟩ := h
          exact gw_aaload C hd g1 (by simpa [Nat.blt_eq] using g2) (by simpa [Nat.blt_eq] using g3) h1 (next 1 _ _ _ _ _ _ rfl h)
        · exact h.elim
      · -- iastore
        obtain rfl : len = 1 := Nat.eq_of_beq_eq_true hE
        split at h
        · rw [ck_iff, Bool.and_eq_true] at h
          obtain ⟨⟨g1, g2⟩, h1, h⟩ := h
          exact gw_iastore C hd g1 (Nat.eq_of_beq_eq_true g2) h1 (next 1 _ _ _ _ _ _ rfl h)
        · exact h.elim
      · -- lastore
        obtain rfl : len = 1 := Nat.eq_of_beq_eq_true hE
        split at h
        · rw [ck_iff, Bool.and_eq_true] at h
          obtain ⟨⟨g1, g2⟩, h1, h⟩ := h
          exact gw_lastore C hd g1 (Nat.eq_of_beq_eq_true g2) h1 (next 1 _ _ _ _ _ _ rfl h)
        · exact h.elim
      · -- aastore
        obtain rfl : len = 1 := Nat.eq_of_beq_eq_true hE
        split at h
        · rw [ck_iff, Bool.and_eq_true, Bool.and_eq_true, Bool.and_eq_true, Bool.and_eq_true] at h
          obtain ⟨⟨⟨⟨⟨g1, g2⟩, g3⟩, g4⟩, g5⟩, h1, h2, h⟩ := h
          exact gw_aastore C hd g1 g2 (Nat.eq_of_beq_eq_true g3) (by simpa [Nat.blt_eq] using g4) (by simpa [Nat.blt_eq] using g5) h1 h2 (next 1 _ _ _ _ _ _ rfl h)
        · exact h.elim
      · -- arraylength
        obtain rfl : len = 1 := Nat.eq_of_beq_eq_true hE
        split at h
        · rw [ck_iff, Bool.and_eq_true, Bool.and_eq_true] at h
          obtain ⟨⟨⟨g1, g2⟩, g3⟩, h⟩ := h
          exact gw_alen C hd g1 (by simpa [Nat.blt_eq] using g2) (by simpa [Nat.blt_eq] using g3) (next 1 _ _ _ _ _ _ rfl h)
        · exact h.elim
      · -- new
        rw [Bool.and_eq_true] at hE
        obtain rfl := Nat.eq_of_beq_eq_true hE.2
        rw [ck_iff, Bool.and_eq_true] at h
        obtain ⟨⟨g1, g2⟩, h1, h2, h3, h⟩ := h
        refine gw_new C g1 hd (fun r hr => ?_) (by simpa [Nat.blt_eq] using g2) h1 h2 h3 (next 3 _ _ _ _ _ _ rfl h)
        have := hE.1
        rw [hr] at this
        exact memH_ok this
      · -- newarray
        simp only [Bool.and_eq_true, Bool.or_eq_true, decide_eq_true_eq] at hE
        obtain ⟨⟨o1, o2⟩, o3⟩ := hE
        obtain rfl := Nat.eq_of_beq_eq_true o3
        have o2 := Nat.le_of_ble_eq_true o2
        split at h
        · rw [ck_iff, Bool.and_eq_true, Bool.and_eq_true, decide_eq_true_eq, decide_eq_true_eq] at h
          obtain ⟨⟨⟨g1, g2⟩, g3⟩, h1, h2, h3, h⟩ := h
          rcases o1 with ⟨⟨rfl, o5⟩, o6⟩ | ⟨⟨rfl, o5⟩, o6⟩
          · obtain rfl := Nat.eq_of_beq_eq_true o5
            exact gw_newi C g1 hd (memH_ok o6) o2 g2 g3 h1 h2 h3 (next 2 _ _ _ _ _ _ rfl h)
          · obtain rfl := Nat.eq_of_beq_eq_true o5
            exact gw_newl C g1 hd (memH_ok o6) o2 g2 g3 h1 h2 h3 (next 2 _ _ _ _ _ _ rfl h)
        · exact h.elim
      · -- anewarray
        simp only [Bool.and_eq_true, Bool.or_eq_true, decide_eq_true_eq] at hE
        obtain ⟨⟨o1, o2⟩, o3⟩ := hE
        obtain rfl := Nat.eq_of_beq_eq_true o3
        have o2 := Nat.le_of_ble_eq_true o2
        split at h
        · rw [ck_iff, Bool.and_eq_true, Bool.and_eq_true, decide_eq_true_eq, decide_eq_true_eq] at h
          obtain ⟨⟨⟨g1, g2⟩, g3⟩, h1, h2, h3, h⟩ := h
          rcases o1 with (⟨o5, o6⟩ | ⟨o5, o6⟩) | ⟨o5, o6⟩
          · exact gw_newq C g1 hd (memH_ok o6) (Or.inl ⟨Nat.eq_of_beq_eq_true o5, rfl⟩) o2 g2 g3 h1 h2 h3 (next 3 _ _ _ _ _ _ rfl h)
          · exact gw_newq C g1 hd (memH_ok o6) (Or.inr (Or.inl ⟨Nat.eq_of_beq_eq_true o5, rfl⟩)) o2 g2 g3 h1 h2 h3 (next 3 _ _ _ _ _ _ rfl h)
          · exact gw_newq C g1 hd (memH_ok o6) (Or.inr (Or.inr ⟨Nat.eq_of_beq_eq_true o5, rfl⟩)) o2 g2 g3 h1 h2 h3 (next 3 _ _ _ _ _ _ rfl h)
        · exact h.elim
      · -- invokespecial
        rw [Bool.and_eq_true] at hE
        obtain rfl := Nat.eq_of_beq_eq_true hE.1
        have hE := hE.2
        split at h
        · rename_i hb
          rw [hb] at hE
          simp only [Bool.and_eq_true, decide_eq_true_eq] at hE
          split at h
          · rw [ck_iff] at h
            exact gw_object C (Nat.le_of_ble_eq_true hE.2) hd (memH_ok hE.1.1.1) (memH_ok hE.1.1.2) (memH_ok hE.1.2) (Nat.le_of_ble_eq_true h.1) (next 3 _ _ _ _ _ _ rfl h.2)
          · exact h.elim
        · rename_i hb
          rw [hb] at hE
          split at h
          · rename_i ee he
            obtain ⟨dd, hdd, hcon⟩ := henv _ ee he
            simp only [hdd] at hE
            split at h
            · rename_i o av hav
              rw [ck_iff] at h
              simp only [Bool.and_eq_true] at h
              obtain ⟨⟨⟨⟨⟨g1, g2⟩, g3⟩, g4⟩, g5⟩, h⟩ := h
              obtain ⟨h1, h⟩ := ca_ok h
              exact gw_special C hcon hd hE (fun h9 => by simpa [h9] using g1) (Nat.le_of_ble_eq_true g2) (bor_le g4) (bor_le g5) h1 (Nat.le_of_ble_eq_true g3) hav (mono _ ee he _ _ _ _ _ _ _ (fun v a' I' J' Q' h => next 3 _ _ _ _ _ _ rfl h) h)
            · exact h.elim
          · exact h.elim
      · -- invokestatic
        rw [Bool.and_eq_true] at hE
        obtain rfl := Nat.eq_of_beq_eq_true hE.1
        have hE := hE.2
        split at h
        · rename_i hb
          rw [hb] at hE
          simp only [Bool.and_eq_true, decide_eq_true_eq] at hE
          obtain ⟨⟨⟨⟨o1, o2⟩, o3⟩, o4⟩, o5⟩ := hE
          split at h
          · rw [ck_iff] at h
            exact gw_max C (Nat.le_of_ble_eq_true o5) hd (memH_ok o1) (memH_ok o2) (memH_ok o3) (memH_ok o4) (Nat.le_of_ble_eq_true h.1) (next 3 _ _ _ _ _ _ rfl h.2)
          · exact h.elim
        · rename_i hb
          rw [hb] at hE
          split at h
          · rename_i hb2
            simp only [hb2, Bool.and_eq_true, decide_eq_true_eq] at hE
            obtain ⟨⟨⟨⟨o1, o2⟩, o3⟩, o4⟩, o5⟩ := hE
            split at h
            · rw [ck_iff] at h
              exact gw_min C (Nat.le_of_ble_eq_true o5) hd (memH_ok o1) (memH_ok o2) (memH_ok o3) (memH_ok o4) (Nat.le_of_ble_eq_true h.1) (next 3 _ _ _ _ _ _ rfl h.2)
            · exact h.elim
          · rename_i hb2
            simp only [hb2] at hE
            split at h
            · rename_i ee he
              obtain ⟨dd, hdd, hcon⟩ := henv _ ee he
              simp only [hdd] at hE
              rw [ck_iff] at h
              simp only [Bool.and_eq_true] at h
              obtain ⟨⟨⟨⟨⟨g1, g2⟩, g3⟩, g4⟩, g5⟩, h⟩ := h
              obtain ⟨h1, h⟩ := ca_ok h
              exact gw_static C hcon hd hE (fun h9 => by simpa [h9] using g1) (Nat.le_of_ble_eq_true g2) (bor_le g4) (bor_le g5) h1 (Nat.le_of_ble_eq_true g3) (mono _ ee he _ _ _ _ _ _ _ (fun v a' I' J' Q' h => next 3 _ _ _ _ _ _ rfl h) h)
            · exact h.elim
      · -- invokevirtual
        rw [Bool.and_eq_true] at hE
        obtain rfl := Nat.eq_of_beq_eq_true hE.1
        have hE := hE.2
        split at h
        · rename_i ee he
          obtain ⟨dd, hdd, hcon⟩ := henv _ ee he
          simp only [hdd] at hE
          split at h
          · rename_i o av hav
            rw [ck_iff] at h
            simp only [Bool.and_eq_true] at h
            obtain ⟨⟨⟨⟨⟨⟨⟨g1, g2⟩, g3⟩, g4⟩, g5⟩, g6⟩, g7⟩, h⟩ := h
            obtain ⟨h1, h⟩ := ca_ok h
            exact gw_virtual C hcon hd hE (fun h9 => by simpa [h9] using g1) (Nat.le_of_ble_eq_true g2) (bor_le g4) (bor_le g5) h1 (Nat.le_of_ble_eq_true g3) hav g6 (Nat.eq_of_beq_eq_true g7) (mono _ ee he _ _ _ _ _ _ _ (fun v a' I' J' Q' h => next 3 _ _ _ _ _ _ rfl h) h)
          · exact h.elim
        · exact h.elim
      · -- ireturn
        simp only [Bool.and_eq_true, Bool.or_eq_true, decide_eq_true_eq] at hE
        obtain rfl := Nat.eq_of_beq_eq_true hE.1
        split at h
        · split at h
          · rcases hE.2 with ⟨hr, h0⟩ | ⟨hr, h0⟩
            · cases h0
            · exact gw_ireturn C hc hs hd hr (by rcases h.1 with e | e <;> rw [e] <;> rfl) h.2
          · rcases hE.2 with ⟨hr, h0⟩ | ⟨hr, h0⟩
            · exact gw_ireturn C hc hs hd hr rfl h
            · cases h0
        · exact h.elim
      · -- lreturn
        simp only [Bool.and_eq_true, decide_eq_true_eq] at hE
        obtain rfl := Nat.eq_of_beq_eq_true hE.1
        split at h
        · exact gw_lreturn C hc hs hd hE.2 h
        · exact h.elim
      · -- areturn
        simp only [Bool.and_eq_true] at hE
        obtain rfl := Nat.eq_of_beq_eq_true hE.1
        have hty : ∃ ty, ret = some ty ∧ ((∃ n, ty = .object n) ∨ ∃ t, ty = .array t) := by
          have := hE.2
          unfold isO at this
          split at this
          · exact ⟨_, rfl, Or.inl ⟨_, rfl⟩⟩
          · exact ⟨_, rfl, Or.inr ⟨_, rfl⟩⟩
          · cases this
        obtain ⟨ty, hr, hty⟩ := hty
        split at h
        · exact gw_areturn C hc hs hd hr hty (Or.inr ⟨_, rfl⟩) h
        · exact gw_areturn C hc hs hd hr hty (Or.inl rfl) h
        · exact h.elim
      · -- return
        simp only [Bool.and_eq_true, decide_eq_true_eq] at hE
        obtain rfl := Nat.eq_of_beq_eq_true hE.1
        split at h
        · exact gw_return C hc hs hd hE.2 h
        · exact h.elim
      · exact h.elim
theorem wpc_sound {mc ms : Nat} {t0 : Nat → Nat × Nat} {I0 : hI} {J0 : hJ} {Q0 : hQ} {K : hR} {env : List ev} {ed : List edT} {code : List en} {stops : List Nat}
    (C : cx p R s m args meth c A D cA cc own nL ret ini d N0 base u0 z0 um zm) (hc : R.cells = mc) (hs : R.slots = ms) (hcode : okL own cc ed d ret rz code = true)
    (henv : ∀ (x : Nat) (ee : ev), env[x]? = some ee → ∃ dd, ed[x]? = some (dd, ee.1, ee.2.1) ∧ Con l tF qF base dd ee)
    (mono : ∀ (x : Nat) (ee : ev), env[x]? = some ee → ∀ av a I J Q (K1 K2 : hR), (∀ v a' I' J' Q', K1 v a' I' J' Q' → K2 v a' I' J' Q') → ee.2.2.2.2.2 av a I J Q K1 → ee.2.2.2.2.2 av a I J Q K2) :
    ∀ (n : Nat) (cs : List en) (lv : lL) (st : List Value) (a : hA) (I : hI) (J : hJ) (Q : hQ), cs <:+ code →
      wpc tF qF al base um zm env ini rz code stops (gw p l e R s m args below meth c (mq below s args A D cA q0 tF qF al N0 u0 z0 mc ms t0 I0 J0 Q0 K) A D cA q0 tF qF al N0 u0 z0 um zm) (rtK K u0 z0 mc ms) n cs lv st a I J Q →
      gw p l e R s m args below meth c (mq below s args A D cA q0 tF qF al N0 u0 z0 mc ms t0 I0 J0 Q0 K) A D cA q0 tF qF al N0 u0 z0 um zm (pcOf cs) lv st a I J Q
  | 0, _, _, _, _, _, _, _, _, h => h.elim
  | n + 1, cs, lv, st, a, I, J, Q, hsuf, h => by
    refine wpx_sound C hc hs hcode hsuf henv mono (fun cs' lv' st' a' I' J' Q' hs' hk => ?_) h
    have hne : cs' ≠ [] := by
      intro e
      subst e
      split at hk
      · exact hk
      · cases n with
        | zero => exact hk
        | succ n => exact hk
    split at hk
    · split at hk
      · exact hk.elim
      · exact ⟨hne, hk⟩
    · exact ⟨hne, wpc_sound C hc hs hcode henv mono n cs' lv' st' a' I' J' Q' hs' hk⟩
end SD
