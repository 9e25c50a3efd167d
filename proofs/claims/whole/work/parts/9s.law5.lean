/-! THE LAW: its start -/
theorem u_all {s : State} {b : Nat} (hg : ∀ w ∈ lw_g, w.before #[Value.ref b] s = true) : ∀ ci : Nat, ∃ (cC : ClassId) (iS : Nat → Nat), ∀ q : vw_C, vwCl[ci]? = some q → u_Kn s q.1 q.2.1 q.2.2 cC iS := by
  have one : ∀ ci, ci < 11 → ∃ (cC : ClassId) (iS : Nat → Nat), ∀ q : vw_C, vwCl[ci]? = some q → u_Kn s q.1 q.2.1 q.2.2 cC iS := fun ci h => by
    obtain ⟨r, hr, hP⟩ := cls_ok ci h
    obtain ⟨cC, iS, hk⟩ := u_known (C := r.1) (T := r.2.1) (N := r.2.2) (n := r.2.2) hg hP.1 (hg _ hP.2.2.2.2.2.1)
    exact ⟨cC, iS, fun q hq => by rw [hr] at hq; cases hq; exact hk⟩
  intro ci
  by_cases h : ci < 11
  · exact one ci h
  · obtain ⟨cC, iS, -⟩ := one 0 (by decide)
    refine ⟨cC, iS, fun q hq => ?_⟩
    have := (List.getElem?_eq_some_iff.mp hq).1
    exact absurd this h
set_option maxRecDepth 100000 in
theorem kk_start {s : State} {b : Nat} (hts : ∀ w ∈ lw_tbl, w.before #[Value.ref b] s = true) : ∃ (D : va_G) (cA : Nat → ClassId), kk D cA s := by
  have hg : ∀ w ∈ lw_g, w.before #[Value.ref b] s = true := fun w hw => hts w (List.mem_filter.mp hw).1
  have hU := u_all hg
  have hi : (Cond.arrayClass .int).before #[Value.ref b] s = true := hts _ (List.mem_of_getElem? (i := 97) rfl)
  have hj : (Cond.arrayClass .long).before #[Value.ref b] s = true := hts _ (List.mem_of_getElem? (i := 125) rfl)
  have h6 : (Cond.arrayOver (.object RX6)).before #[Value.ref b] s = true := hts _ (List.mem_of_getElem? (i := 83) rfl)
  have h7 : (Cond.arrayOver (.object RX7)).before #[Value.ref b] s = true := hts _ (List.mem_of_getElem? (i := 81) rfl)
  have h8 : (Cond.arrayOver (.object RX8)).before #[Value.ref b] s = true := hts _ (List.mem_of_getElem? (i := 85) rfl)
  obtain ⟨c1, k1, m1, i1, i2, i3⟩ := Cond.arrayClass_spec hi
  obtain ⟨c2, k2, m2, j1, j2, j3⟩ := Cond.arrayClass_spec hj
  obtain ⟨m3, c3, k3, a1, a2, a3, a4, a5⟩ := Cond.arrayOver_spec h6
  obtain ⟨m4, c4, k4, b1, b2, b3, b4, b5⟩ := Cond.arrayOver_spec h7
  obtain ⟨m5, c5, k5, d1, d2, d3, d4, d5⟩ := Cond.arrayOver_spec h8
  refine ⟨(fun ci => Classical.choose (hU ci), fun ci => Classical.choose (Classical.choose_spec (hU ci))), fun k => if k = 11 then c1 else if k = 12 then c2 else if k = 13 then c3 else if k = 14 then c4 else c5, ⟨fun ci q hq => Classical.choose_spec (Classical.choose_spec (hU ci)) q hq, fun k q hq => ?_⟩, fun w hw => ?_, h6, h7, h8⟩
  · match k, hq with
    | 0, hq => cases hq; exact ⟨fun n z => ⟨fun k h => (by cases h), k1, i2, m1, i3⟩, i1⟩
    | 1, hq => cases hq; exact ⟨fun n z => ⟨fun k h => (by cases h), k2, j2, m2, j3⟩, j1⟩
    | 2, hq => cases hq; exact ⟨fun n z => ⟨fun k h => (by cases h), k3, a3, m3, a4⟩, k3, m3, a3, a4, a1, a5⟩
    | 3, hq => cases hq; exact ⟨fun n z => ⟨fun k h => (by cases h), k4, b3, m4, b4⟩, k4, m4, b3, b4, b1, b5⟩
    | 4, hq => cases hq; exact ⟨fun n z => ⟨fun k h => (by cases h), k5, d3, m5, d4⟩, k5, m5, d3, d4, d1, d5⟩
    | k + 5, hq => exact absurd (List.getElem?_eq_some_iff.mp hq).1 (by show ¬ k + 5 < 5; omega)
  · have hn := (List.mem_filter.mp hw).2
    have hb := hts w (List.mem_filter.mp hw).1
    cases w with
    | methodLinkNest _ _ _ _ => exact va_Nw.of rfl hb
    | _ => cases hn
/-- the relation at the start -/
theorem rel_start {a : hA} {I : hI} {J : hJ} {Q : hQ} (ha : a.1 = 60) (i0 : ∀ j, I 0 j = 0) (i31 : ∀ j, I 31 j = 0) (i5 : ∀ p, I 5 p = 0) (i7 : ∀ p, I 7 p = 0) (i13 : ∀ p, I 13 p = 0) (ish : ∀ b, b < 4 → I (shK b) 1 = -1) (j10 : ∀ p, 1 ≤ p → p < 64 → J 10 p = lN (mulN p)) (q13 : Q 13 4 = some 16 ∧ Q 13 5 = some 17) (i37 : ∀ p, p < 3 → I 37 p = 0) (i49 : ∀ p, I 49 p = 0) (i38 : ∀ b, b < 4 → I 38 b = -9) : relE a I J Q := by
  refine ⟨by omega, ⟨by rw [i0, i31], by rw [i0, i31]⟩, 0, 0, 0, 0, 0, fun _ => 0, fun _ => 0, fun _ => 0, fun _ => 0, fun _ => 0, fun _ => 0, fun _ => 0, fun _ => 0, fun _ => 0, fun _ => 0, fun _ => 0, ⟨i0 9, i31 2, by decide, fun s hs => by omega⟩, ⟨⟨i0 10, by decide, fun p hp => by omega⟩, i31 19, fun p hp => by omega⟩, ⟨fun p hp => ⟨i5 p, (show 0 < 1024 by decide)⟩, fun p hp => i49 p, ⟨fun p hp => (show 0 < 2 ^ 0 by decide), fun p _ _ => rfl, fun _ => 0, fun p q hp h => by rw [Nat.zero_testBit] at h; cases h⟩, i31 25⟩, ⟨⟨i0 11, i37 0 (by decide), by decide⟩, ⟨i0 12, i37 1 (by decide), by decide⟩, i0 13, i37 2 (by decide), by decide⟩, ⟨fun s t hs ht => by omega, fun s t _ _ _ => i7 _⟩, fun b hb => Or.inl ⟨ish b hb, i38 b hb⟩, ⟨⟨false, q13.1, q13.2⟩, Or.inl (i13 0)⟩, fun p h1 h2 => j10 p h1 (by omega)⟩
section START
variable {p : Program} {l : Launch} {e : Env} {s : State} {m : MethodId} {below : List Frame} {meth : Method} {c : Code} {Qx : State → Prop} {A : Nat → Prop} {D : va_G} {cA : Nat → ClassId} {b : Nat} {pc : Nat} {st : List Value} {a : hA} {I : hI} {J : hJ} {Q : hQ}
theorem hW_sw {q : Nat → Nat} (h1 : a.1 = 60) (ht : ∀ k, k < 60 → some (a.2.2.2 k) = tX k) (hq : ∀ k j x, k < 60 → qX k j = some x → Q k j = some x) : hW cA q tN qN a I J Q = hW cA q tX qX a I J Q := by
  unfold hW
  refine List.map_congr_left (fun k hk => ?_)
  have hk : k < 60 := by rw [h1] at hk; exact List.mem_range.mp hk
  have e1 : tE tX a.2.2.2 k = tE tN a.2.2.2 k := by
    unfold tE
    rw [← ht k hk]
    rfl
  have e2 : qE qX Q k = qE qN Q k := by
    funext j
    unfold qE
    cases h : qX k j with
    | none => rfl
    | some x => exact (hq k j x hk h).symm
  unfold hE hV
  rw [e1, e2]
theorem gv_sw {L : (Nat → Nat) → List (Nat × Value)} (h1 : a.1 = 60) (ht : ∀ k, k < 60 → some (a.2.2.2 k) = tX k) (hq : ∀ k j x, k < 60 → qX k j = some x → Q k j = some x) (hL : ∀ (q : Nat → Nat) ls, lv_has ls 4 (L q) → lv_has ls 4 (LvQ b 0 q)) (k : gv p l e s m below meth c Qx A D cA tX qX 60 b pc (LvQ b 0) st a I J Q) : gv p l e s m below meth c Qx A D cA tN qN 0 b pc L st a I J Q := by
  intro q H locs ls h2 hP hD hS hl
  rw [hW_sw h1 ht hq] at hP hD
  refine k q H locs ls ⟨by omega, fun k j x hk hx => h2.2 k j x hk ?_⟩ hP hD hS (hL q ls hl)
  have hk : k < 60 := by omega
  unfold qE at hx
  cases h : qX k j with
  | none => rw [h] at hx; exact hx
  | some y =>
    rw [h] at hx
    cases hx
    exact hq k j _ hk h
theorem gv_dup {L : (Nat → Nat) → List (Nat × Value)} {tF : hTF} {qF : hQF} {base o : Nat} (C : lx p s m c A D cA b) (hd : decode code pc = .ok (.dup, 1)) (k : gv p l e s m below meth c Qx A D cA tF qF base b (pc + 1) L (.ref o :: .ref o :: st) a I J Q) : gv p l e s m below meth c Qx A D cA tF qF base b pc L (.ref o :: st) a I J Q := by
  intro q H locs ls h2 hP hD hS hl
  exact lv_dup C.1 C.2.1 hd rfl (k q H locs ls h2 hP hD hS hl)
end START
theorem dd0 : decode code 0 = .ok (.new 7, 3) := by decide +kernel
theorem dd3 : decode code 3 = .ok (.dup, 1) := by decide +kernel
theorem dd4 : decode code 4 = .ok (.invokespecial 9, 3) := by decide +kernel
theorem dd7 : decode code 7 = .ok (.astore_n 1, 1) := by decide +kernel
theorem dd8 : decode code 8 = .ok (.new 10, 3) := by decide +kernel
theorem dd11 : decode code 11 = .ok (.dup, 1) := by decide +kernel
theorem dd12 : decode code 12 = .ok (.invokespecial 12, 3) := by decide +kernel
theorem dd15 : decode code 15 = .ok (.astore_n 2, 1) := by decide +kernel
theorem dd16 : decode code 16 = .ok (.iconst 0, 1) := by decide +kernel
theorem dd17 : decode code 17 = .ok (.istore_n 3, 1) := by decide +kernel
set_option maxRecDepth 100000 in
theorem mc9 : okM R_law 9 100 cdX9_init 1 0 99 [(0, 74), (0, 58), (0, 75)] = true := by decide +kernel
set_option maxRecDepth 100000 in
theorem mc12 : okM R_law 12 100 cdX10_init 1 0 99 [(0, 772), (0, 66), (0, 773)] = true := by decide +kernel
set_option maxRecDepth 100000 in
theorem lk7 : Cond.classLink R_law 7 RX9 ∈ lw_g := memH_ok (n := 72) (by decide +kernel)
set_option maxRecDepth 100000 in
theorem lk10 : Cond.classLink R_law 10 RX10 ∈ lw_g := memH_ok (n := 770) (by decide +kernel)
/-- what holds at the law's entry: the machine, the code, the tables' words, the script, what the Statement gives of the start -/
def lw_At (p : Program) (s : State) (m : MethodId) (meth : Method) (c : Code) (b L : Nat) (xs : Nat → Int32) : Prop :=
  p.tables.exec = Jvm.exec ∧ c.code = code ∧ meth.sig.returnType = ret ∧ c.maxLocals = 4 ∧ s.vm.findClass R_law = some m.cls ∧ (∀ w ∈ lw_tbl, w.before #[Value.ref b] s = true) ∧ va_X b L xs s s.heap ∧ b < s.heap.size ∧ meth.locks = false ∧ (Jvm.Cond.and given_1 narrow_1).before #[Value.ref b] s = true
set_option maxRecDepth 20000 in
theorem whole_start {p : Program} {e : Env} {s : State} {m : MethodId} {below : List Frame} {meth : Method} {c : Code} (l : Launch) {b L : Nat} {xs : Nat → Int32} (hL : L ≤ 3584) (C0 : lw_At p s m meth c b L xs) : W p l e room_1 s m #[Value.ref b] below meth c s.heap [] 0 0 (lw_Z below #[Value.ref b] s) (entryFrame m ([Value.ref b] : List Value).toArray 4) := by
  obtain ⟨hx, hb, hr, hml, hown, hts, hX, hbl, hlocks, hgv⟩ := id C0
  obtain ⟨D, cA, hkk⟩ := kk_start hts
  have hg : ∀ w ∈ lw_g, w.before #[Value.ref b] s = true := fun w hw => hts w (List.mem_filter.mp hw).1
  have C : lx p s m c (fun q => s.heap.size ≤ q) D cA b := ⟨hx, hb, hml, hown, hg, hkk, fun _ h => h⟩
  have hent : lv_has ((lg_sl [Value.ref b] ++ List.replicate (4 - (lg_sl [Value.ref b]).length) Slot.unset).toArray) 4 [(0, .ref b)] := lv_entry [Value.ref b] (n := 4) (show 1 ≤ 4 by decide)
  rw [lg_entry_eq]
  have main : gv p l e s m below meth c (lw_Z below #[Value.ref b] s) (fun q => s.heap.size ≤ q) D cA tN qN 0 b 0 (fun _ => [(0, .ref b)]) [] (0, 0, 0, fun _ => (0, 0)) (fun _ _ => 0) (fun _ _ => 0) (fun _ _ => none) := by
    refine gv_new (x := 9) C dd0 (fun r hr => by cases hr; exact lk7) (by decide) ⟨rfl, fun _ => rfl⟩ (fun v hv => by cases hv) (fun _ _ _ _ => rfl) ⟨by decide, by decide⟩ ?_
    refine gv_dup C dd3 ?_
    refine gv_special (ee := e_sdI) (o := 0) (av := []) C c_sdI.1 dd4 mc9 (by decide) (by decide) (by decide) (fun _ => rs1 (by decide)) (fun _ _ _ _ => rfl) (by decide) rfl ?_
    refine Exists.intro () (And.intro rfl (And.intro ⟨rfl, rfl⟩ ?_))
    rintro v a1 I1 J1 Q1 ⟨rfl, ⟨n1, n2⟩, s1, s2, s3, s4, s5, s6, s7, s8, s9, s10⟩ -
    show gv p l e s m below meth c (lw_Z below #[Value.ref b] s) (fun q => s.heap.size ≤ q) D cA tN qN 0 b 7 (fun _ => [(0, .ref b)]) [.ref 0] a1 I1 J1 Q1
    have n1 : a1.2.1 = 31 := n1
    have n2 : a1.2.2.1 = 5678 := n2
    have g8 : gv p l e s m below meth c (lw_Z below #[Value.ref b] s) (fun q => s.heap.size ≤ q) D cA tN qN 0 b 8 (fun q => [(1, .ref (q 0)), (0, .ref b)]) [] a1 I1 J1 Q1 := by
      refine gv_new (x := 10) C dd8 (fun r hr => by cases hr; exact lk10) (by decide) ⟨rfl, fun _ => rfl⟩ (fun v hv => by cases hv) (fun q q' _ h => by rw [h 0 (by omega)]) ⟨by omega, by rw [n2]; decide⟩ ?_
      refine gv_dup C dd11 ?_
      rw [s1]
      refine gv_special (ee := e_moI) (o := 31) (av := []) C c_moI.1 dd12 mc12 (by decide) (by show a1.2.1 + 1 + 28 ≤ 600000; omega) (by show a1.2.2.1 + 38 + 5625 ≤ 7302250; omega) (fun _ => rs1 (by show 31 < a1.1 + 1; omega)) (fun q q' _ h => by rw [h 0 (by show 0 < a1.1 + 1; omega)]) (by decide) rfl ?_
      refine Exists.intro () (And.intro rfl (And.intro ⟨by show a1.1 + 1 = 32; omega, by show va_up a1.2.2.2 a1.1 (10, 0) 31 = (10, 0); rw [s1]; exact vup_at⟩ ?_))
      rintro v a2 I2 J2 Q2 ⟨rfl, ⟨r1, r2⟩, t1, t2, t3, t4, t5, t6, t7, t8⟩ -
      show gv p l e s m below meth c (lw_Z below #[Value.ref b] s) (fun q => s.heap.size ≤ q) D cA tN qN 0 b 15 (fun q => [(1, .ref (q 0)), (0, .ref b)]) [.ref 31] a2 I2 J2 Q2
      have r1 : a2.2.1 = a1.2.1 + 1 + 28 := r1
      have r2 : a2.2.2.1 = a1.2.2.1 + 38 + 5625 := r2
      have hI : ∀ k, k < 31 → I2 k = I1 k := fun k hk => by rw [(t2 k (by omega)).1, vup_ne (by omega)]
      have hI31 : ∀ j, I2 31 j = 0 := fun j => by rw [(t2 31 (by decide)).1, vup_at]
      have hJ : ∀ k, k < 31 → J2 k = J1 k := fun k hk => by rw [(t2 k (by omega)).2.1, vup_ne (by omega)]
      have hQ : ∀ k, k < 31 → Q2 k = Q1 k := fun k hk => by rw [t3 k hk, vup_ne (by omega)]
      have hT : ∀ k, k < 60 → some (a2.2.2.2 k) = tX k := fun k hk => by
        rcases Nat.lt_or_ge k 31 with c1 | c1
        · rw [(t2 k (by omega)).2.2]
          show some (va_up a1.2.2.2 a1.1 (10, 0) k) = tX k
          rw [vup_ne (by omega)]
          exact s10 k c1
        · by_cases c2 : k = 31
          · subst c2
            rw [(t2 31 (by decide)).2.2]
            show some (va_up a1.2.2.2 a1.1 (10, 0) 31) = tX 31
            rw [s1, vup_at]
            rfl
          · exact t8 k (by omega) hk
      have hQx : ∀ k j x, k < 60 → qX k j = some x → Q2 k j = some x := fun k j x hk hx => by
        rcases Nat.lt_or_ge k 31 with c1 | c1
        · rw [hQ k c1]
          exact s9 k j x c1 hx
        · by_cases c2 : k = 31
          · subst c2
            exact t7 j x hx
          · exfalso
            unfold qX at hx
            split at hx <;> first | omega | cases hx
      have hrel : relE a2 I2 J2 Q2 := rel_start t1 (fun j => by rw [hI 0 (by decide), s2]; show va_up (fun _ _ => (0 : Int32)) 0 (fun _ => 0) 0 j = 0; rw [vup_at]) hI31 (fun p => by rw [hI 5 (by decide)]; exact s3 p) (fun p => by rw [hI 7 (by decide)]; exact s4 p) (fun p => by rw [hI 13 (by decide)]; exact s5 p) (fun b hb => by rw [hI (shK b) (by unfold shK; omega)]; exact s6 b hb) (fun p h1 h2 => by rw [hJ 10 (by decide)]; exact s7 p h1 h2) ⟨by rw [hQ 13 (by decide)]; exact s8.1, by rw [hQ 13 (by decide)]; exact s8.2⟩ t4 t5 t6
      have loop := law_loop (l := l) (e := e) (below := below) C hX hbl hr hlocks hL 513 0 a2 I2 J2 Q2 rfl hrel (by omega) (by omega)
      have sw := gv_sw (L := fun q => [(3, .int 0), (2, .ref (q 31)), (1, .ref (q 0)), (0, .ref b)]) t1 hT hQx (fun q ls h => ⟨h.1, h.2.1, fun x hx => h.2.2 x (by
        have hx : x ∈ [(0, Value.ref b), (1, .ref (q 0)), (2, .ref (q 31)), (3, .int 0)] := hx
        simp only [List.mem_cons, List.not_mem_nil, or_false] at hx ⊢
        rcases hx with h | h | h | h
        · exact Or.inr (Or.inr (Or.inr h))
        · exact Or.inr (Or.inr (Or.inl h))
        · exact Or.inr (Or.inl h)
        · exact Or.inl h)⟩) loop
      intro q H locs ls h2 hP hD hS hl
      refine lv_astore_n (lv' := [(2, .ref (q 31)), (1, .ref (q 0)), (0, .ref b)]) C.1 C.2.1 dd15 rfl hl (by decide) rfl (fun ls hl => ?_)
      refine lv_iconst (v := 0) C.1 C.2.1 dd16 (by decide) ?_
      refine lv_istore_n (lv' := [(3, .int 0), (2, .ref (q 31)), (1, .ref (q 0)), (0, .ref b)]) C.1 C.2.1 dd17 rfl hl (by decide) rfl (fun ls hl => ?_)
      exact sw q H locs ls h2 hP hD hS hl
    intro q H locs ls h2 hP hD hS hl
    refine lv_astore_n (lv' := [(1, .ref (q 0)), (0, .ref b)]) C.1 C.2.1 dd7 rfl hl (by decide) rfl (fun ls hl => ?_)
    exact g8 q H locs ls h2 hP hD hS hl
  have h0 : ∀ (k : Nat) (x : Nat × va_E), (hW cA (fun _ => 0) tN qN (0, 0, 0, fun _ => (0, 0)) (fun _ _ => 0) (fun _ _ => 0) (fun _ _ => none))[k]? = some x → False := fun k x h => Nat.not_lt_zero _ (hW_lt h)
  exact main (fun _ => 0) s.heap [] _ ⟨Nat.le_refl _, fun k j x hk => absurd hk (Nat.not_lt_zero _)⟩ (fun k q h => (h0 k q h).elim) ⟨fun i j p q h _ _ => (h0 i p h).elim, fun k q h => (h0 k q h).elim⟩ va_S.rf hent
