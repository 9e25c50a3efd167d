/-! THE LAW: one step -/
def ld1 (pc k : Nat) : Bool := decide (decode code pc = .ok (.aload_n 0, 1)) && decide (decode code (pc + 1) = .ok (.iload_n 3, 1)) && decide (decode code (pc + 2) = .ok (.iconst k, 1)) && decide (decode code (pc + 3) = .ok (.iadd, 1)) && decide (decode code (pc + 4) = .ok (.iaload, 1))
def ld6 (pc : Nat) : Bool := decide (decode code pc = .ok (.aload_n 0, 1)) && decide (decode code (pc + 1) = .ok (.iload_n 3, 1)) && decide (decode code (pc + 2) = .ok (.bipush 6, 2)) && decide (decode code (pc + 4) = .ok (.iadd, 1)) && decide (decode code (pc + 5) = .ok (.iaload, 1))
def ldn : Nat → Nat → Bool
  | 0, _ => true
  | n + 1, pc => ldn n pc && (if n + 1 = 6 then ld6 (pc + 5 * n) else ld1 (pc + 5 * n) (n + 1))
def ldE (pc n : Nat) : Nat := pc + 5 * n + (if n = 6 then 1 else 0)
def avN (xs : Nat → Int32) (i n : Nat) : List Value := (List.range n).map (fun k => .int (xs (i + (k + 1))))
theorem avN_S (xs : Nat → Int32) (i n : Nat) : (avN xs i (n + 1)).reverse = .int (xs (i + (n + 1))) :: (avN xs i n).reverse := by
  unfold avN
  rw [List.range_succ, List.map_append, List.reverse_append]
  rfl
theorem avN_len (xs : Nat → Int32) (i n : Nat) : (avN xs i n).length = n := by simp [avN]
abbrev LvQ (b i : Nat) : (Nat → Nat) → List (Nat × Value) := fun q => [(0, .ref b), (1, .ref (q 0)), (2, .ref (q 31)), (3, .int (nI i))]
section STEP
variable {p : Program} {l : Launch} {e : Env} {s : State} {m : MethodId} {below : List Frame} {meth : Method} {c : Code} {Qx : State → Prop} {A : Nat → Prop} {D : va_G} {cA : Nat → ClassId} {b : Nat} {pc : Nat} {st : List Value} {a : hA} {I : hI} {J : hJ} {Q : hQ} {i Ln : Nat} {xs : Nat → Int32}
theorem gv_al {L : (Nat → Nat) → List (Nat × Value)} {tF : hTF} {qF : hQF} {base : Nat} {kn : Fin 4} {j o : Nat} (C : lx p s m c A D cA b) (hd : decode code pc = .ok (.aload_n kn, 1)) (hi : (kn : Nat) = j) (hm : ∀ q : Nat → Nat, (j, Value.ref (q o)) ∈ L q) (k : gv p l e s m below meth c Qx A D cA tF qF base b (pc + 1) L (.ref o :: st) a I J Q) : gv p l e s m below meth c Qx A D cA tF qF base b pc L st a I J Q := by
  intro q H locs ls h2 hP hD hS hl
  exact lv_aload_n C.1 C.2.1 hd hi (hl.2.2 _ (hm q)) (k q H locs ls h2 hP hD hS hl)
theorem gv_ld {k : Nat} (C : lx p s m c A D cA b) (hX : va_X b Ln xs s s.heap) (hbl : b < s.heap.size) (hbA : ¬ A b) (hk : k ≤ 6) (hi : i + 6 < Ln) (hL : Ln ≤ 3584) (n2 : Nat) (hd : (n2 = 5 ∧ ld1 pc k = true) ∨ (n2 = 6 ∧ k = 6 ∧ ld6 pc = true)) (kz : gv p l e s m below meth c Qx A D cA tX qX 60 b (pc + n2) (LvQ b i) (.int (xs (i + k)) :: st) a I J Q) : gv p l e s m below meth c Qx A D cA tX qX 60 b pc (LvQ b i) st a I J Q := by
  intro q H locs ls h2 hP hD hS hl
  have kz := kz q H locs ls h2 hP hD hS hl
  have l0 : ls[0]? = some (.val (.ref b)) := hl.2.2 (0, .ref b) List.mem_cons_self
  have l3 : ls[3]? = some (.val (.int (nI i))) := hl.2.2 (3, .int (nI i)) (by simp [LvQ])
  have ev : nI i + nI k = nI (i + k) := nI_add i k
  have hin : vp_in (nI i + nI k) Ln := by rw [ev]; exact vp_in_nI (by omega) (by omega)
  have ec : (nI i + nI k).toNatClampNeg = i + k := by rw [ev]; exact nI_clamp (by omega)
  have hk' : ∀ k : Nat, k ≤ 6 → Int32.ofInt (k : Int) = nI k := by decide
  rcases hd with ⟨rfl, hd⟩ | ⟨rfl, rfl, hd⟩
  · unfold ld1 at hd
    simp only [Bool.and_eq_true, decide_eq_true_eq] at hd
    obtain ⟨⟨⟨⟨d0, d1⟩, d2⟩, d3⟩, d4⟩ := hd
    refine lv_aload_n C.1 C.2.1 d0 rfl l0 (lv_iload_n C.1 C.2.1 d1 rfl l3 (lv_iconst C.1 C.2.1 d2 (hk' k hk) (lv_iadd C.1 C.2.1 d3 (va_sld C.1 C.2.1 hX hbl hbA hS hin d4 ?_))))
    rw [ec]
    exact kz
  · unfold ld6 at hd
    simp only [Bool.and_eq_true, decide_eq_true_eq] at hd
    obtain ⟨⟨⟨⟨d0, d1⟩, d2⟩, d3⟩, d4⟩ := hd
    refine lv_aload_n C.1 C.2.1 d0 rfl l0 (lv_iload_n C.1 C.2.1 d1 rfl l3 (lv_bipush (v := nI 6) C.1 C.2.1 d2 (by decide) (lv_iadd C.1 C.2.1 d3 (va_sld C.1 C.2.1 hX hbl hbA hS hin d4 ?_))))
    rw [ec]
    exact kz
theorem gv_lds (C : lx p s m c A D cA b) (hX : va_X b Ln xs s s.heap) (hbl : b < s.heap.size) (hbA : ¬ A b) (hi : i + 6 < Ln) (hL : Ln ≤ 3584) : ∀ n, n ≤ 6 → ldn n pc = true → gv p l e s m below meth c Qx A D cA tX qX 60 b (ldE pc n) (LvQ b i) ((avN xs i n).reverse ++ st) a I J Q → gv p l e s m below meth c Qx A D cA tX qX 60 b pc (LvQ b i) st a I J Q
  | 0, _, _, h => h
  | n + 1, hn, hd, h => by
    unfold ldn at hd
    rw [Bool.and_eq_true] at hd
    refine gv_lds C hX hbl hbA hi hL n (by omega) hd.1 ?_
    rw [avN_S] at h
    have e1 : ldE pc n = pc + 5 * n := by unfold ldE; rw [if_neg (by omega)]; rfl
    rw [e1]
    by_cases c6 : n + 1 = 6
    · have hd2 := hd.2
      rw [if_pos c6] at hd2
      have e2 : ldE pc (n + 1) = pc + 5 * n + 6 := by unfold ldE; rw [if_pos c6]; omega
      rw [e2] at h
      exact gv_ld C hX hbl hbA hn hi hL 6 (Or.inr ⟨rfl, c6, hd2⟩) h
    · have hd2 := hd.2
      rw [if_neg c6] at hd2
      have e2 : ldE pc (n + 1) = pc + 5 * n + 5 := by unfold ldE; rw [if_neg c6]; omega
      rw [e2] at h
      exact gv_ld C hX hbl hbA hn hi hL 5 (Or.inl ⟨rfl, hd2⟩) h
/-- the code of one call, on both sides, and the comparison -/
def caB (lg : Bool) (pc n i1 i2 : Nat) : Bool := decide (decode code pc = .ok (.aload_n 1, 1)) && ldn n (pc + 1) && decide (decode code (ldE (pc + 1) n) = .ok (.invokevirtual i1, 3)) && decide (decode code (ldE (pc + 1) n + 3) = .ok (.aload_n 2, 1)) && ldn n (ldE (pc + 1) n + 3 + 1) && decide (decode code (ldE (ldE (pc + 1) n + 3 + 1) n) = .ok (.invokevirtual i2, 3)) && (match lg with
  | false => decide (decode code (ldE (ldE (pc + 1) n + 3 + 1) n + 3) = .ok (.if_icmp .eq (1175 - ((ldE (ldE (pc + 1) n + 3 + 1) n + 3 : Nat) : Int)), 3))
  | true => decide (decode code (ldE (ldE (pc + 1) n + 3 + 1) n + 3) = .ok (.lcmp, 1)) && decide (decode code (ldE (ldE (pc + 1) n + 3 + 1) n + 3 + 1) = .ok (.ifCond .eq (1175 - ((ldE (ldE (pc + 1) n + 3 + 1) n + 3 + 1 : Nat) : Int)), 3)))
def opX (lg : Bool) (ec er : ev) (ac ar : List Value) : Prop := match lg with
  | false => opI ec er ac ar
  | true => opL ec er ac ar
theorem tk_av (n o : Nat) (r : List Value) : ((avN xs i n).reverse ++ .ref o :: r).take (n + 1) = (avN xs i n).reverse ++ [.ref o] ∧ ((avN xs i n).reverse ++ .ref o :: r).drop (n + 1) = r := by
  have hl : (avN xs i n).reverse.length = n := by rw [List.length_reverse, avN_len]
  constructor
  · rw [List.take_append, hl, List.take_of_length_le (by omega)]
    simp
  · rw [List.drop_append, hl, List.drop_of_length_le (by omega)]
    simp
theorem cat8_v (v : Option Value) : cat8 v.toList ≤ 8 := by
  cases v with
  | none => decide
  | some v =>
    show (if is1 v then 1 else 2) + 0 ≤ 8
    split <;> omega
theorem gv_case {lg : Bool} {ec er : ev} {dc dr : cdT} {L1 L2 : List (Int32 × Nat)} {n i1 i2 : Nat} (C : lx p s m c A D cA b) (hX : va_X b Ln xs s s.heap) (hbl : b < s.heap.size) (hbA : ¬ A b) (hi : i + 6 < Ln) (hL : Ln ≤ 3584) (hn : n ≤ 6) (hop : opX lg ec er (.ref 0 :: avN xs i n) (.ref 31 :: avN xs i n)) (hc : CX l dc ec) (hr : CX l dr er) (ok1 : okM R_law i1 100 dc ec.1 2 ec.2.1 L1 = true) (ok2 : okM R_law i2 100 dr er.1 2 er.2.1 L2 = true) (e1 : ec.1 = n + 1 ∧ ec.2.1 = 9) (e2 : er.1 = n + 1 ∧ er.2.1 = 10 ∧ er.2.2.1 = false ∧ er.2.2.2.1 = 0 ∧ er.2.2.2.2.1 = 0) (hB : caB lg pc n i1 i2 = true) (hu : a.2.1 + ec.2.2.2.1 ≤ 600000) (hz : a.2.2.1 + ec.2.2.2.2.1 ≤ 7302250) (hrel : relE a I J Q)
    (k : ∀ a2 I2 J2 Q2, relE a2 I2 J2 Q2 → a2.2.1 = a.2.1 + ec.2.2.2.1 → a2.2.2.1 = a.2.2.1 + ec.2.2.2.2.1 → gv p l e s m below meth c Qx A D cA tX qX 60 b 1175 (LvQ b i) [] a2 I2 J2 Q2) : gv p l e s m below meth c Qx A D cA tX qX 60 b pc (LvQ b i) [] a I J Q := by
  have hLv : ∀ a' : hA, ∀ q q' : Nat → Nat, 60 ≤ a'.1 → (∀ k, k < a'.1 → q' k = q k) → LvQ b i q' = LvQ b i q := fun a' q q' h6 h => by
    show [(0, Value.ref b), (1, .ref (q' 0)), (2, .ref (q' 31)), (3, .int (nI i))] = [(0, .ref b), (1, .ref (q 0)), (2, .ref (q 31)), (3, .int (nI i))]
    rw [h 0 (by omega), h 31 (by omega)]
  unfold caB at hB
  simp only [Bool.and_eq_true, decide_eq_true_eq] at hB
  obtain ⟨⟨⟨⟨⟨⟨d0, d1⟩, d2⟩, d3⟩, d4⟩, d5⟩, d6⟩ := hB
  have ha := hrel.1
  obtain ⟨t1, t2⟩ := tk_av (xs := xs) (i := i) n 0 []
  refine gv_al (j := 1) (o := 0) C d0 rfl (fun q => by simp [LvQ]) ?_
  refine gv_lds C hX hbl hbA hi hL n hn d1 ?_
  refine gv_virtual (o := 0) (av := avN xs i n) C hc.1 d2 ok1 ?_ hu hz ?_ (hLv a) ?_ ?_ (by omega) (by rw [e1.2]; rfl) ?_
  · rw [e1.1, List.length_append, List.length_reverse, avN_len]; exact Nat.le_refl _
  · intro _ v hv
    rw [e1.1, t2] at hv
    cases hv
  · rw [e1.1, t2]; decide
  · rw [e1.1, t1, List.reverse_append, List.reverse_reverse]; rfl
  have key : ∀ v a1 I1 J1 Q1, (60 ≤ a1.1 ∧ er.2.2.2.2.2 (.ref 31 :: avN xs i n) a1 I1 J1 Q1 (fun w a2 I2 J2 Q2 => (match lg with
      | false => ∃ x, v = some (.int x) ∧ w = some (.int x)
      | true => ∃ x, v = some (.long x) ∧ w = some (.long x)) ∧ relE a2 I2 J2 Q2)) → (a.1 ≤ a1.1 ∧ a1.2.1 = a.2.1 + ec.2.2.2.1 ∧ a1.2.2.1 = a.2.2.1 + ec.2.2.2.2.1) → gv p l e s m below meth c Qx A D cA tX qX 60 b (ldE (pc + 1) n + 3) (LvQ b i) v.toList a1 I1 J1 Q1 := by
    rintro v a1 I1 J1 Q1 ⟨h60, her⟩ ⟨c1, c2, c3⟩
    obtain ⟨u1, u2⟩ := tk_av (xs := xs) (i := i) n 31 v.toList
    refine gv_al (j := 2) (o := 31) C d3 rfl (fun q => by simp [LvQ]) ?_
    refine gv_lds C hX hbl hbA hi hL n hn d4 ?_
    refine gv_virtual (o := 31) (av := avN xs i n) C hr.1 d5 ok2 ?_ (by rw [e2.2.2.2.1, c2]; exact hu) (by rw [e2.2.2.2.2, c3]; exact hz) ?_ (hLv a1) ?_ ?_ (by omega) (by rw [e2.2.1]; rfl) ?_
    · rw [e2.1, List.length_append, List.length_reverse, avN_len, List.length_cons]; omega
    · intro h
      rw [e2.2.2.1] at h
      cases h
    · rw [e2.1, u2]; exact cat8_v v
    · rw [e2.1, u1, List.reverse_append, List.reverse_reverse]; rfl
    refine hr.2 _ _ _ _ _ _ _ (fun w a2 I2 J2 Q2 h2 hcnt => ?_) her
    obtain ⟨hvw, hre⟩ := h2
    rw [e2.1, u2]
    rw [e2.2.2.2.1, e2.2.2.2.2] at hcnt
    have kz := k a2 I2 J2 Q2 hre (by rw [hcnt.2.1, c2]; rfl) (by rw [hcnt.2.2, c3]; rfl)
    cases lg with
    | false =>
      obtain ⟨x, rfl, rfl⟩ := hvw
      have d6 := of_decide_eq_true d6
      intro q H locs ls h2 hP hD hS hl
      exact lv_icmp_eq (x := x) (y := x) (tgt := 1175) C.1 C.2.1 d6 (by omega) (fun _ => kz q H locs ls h2 hP hD hS hl) (fun h => absurd rfl h)
    | true =>
      obtain ⟨x, rfl, rfl⟩ := hvw
      simp only [Bool.and_eq_true, decide_eq_true_eq] at d6
      intro q H locs ls h2 hP hD hS hl
      refine W.lcmp C.1 C.2.1 d6.1 ?_
      have e0 : lg_cmp x x = 0 := lgc0.mpr rfl
      exact lv_if_eq (tgt := 1175) C.1 C.2.1 d6.2 (by omega) (fun _ => kz q H locs ls h2 hP hD hS hl) (fun h => absurd e0 h)
  refine hc.2 _ _ _ _ _ _ _ (fun v a1 I1 J1 Q1 h hcnt => ?_) (show ec.2.2.2.2.2 (.ref 0 :: avN xs i n) a I J Q (fun v a1 I1 J1 Q1 => 60 ≤ a1.1 ∧ er.2.2.2.2.2 (.ref 31 :: avN xs i n) a1 I1 J1 Q1 (fun w a2 I2 J2 Q2 => (match lg with
      | false => ∃ x, v = some (.int x) ∧ w = some (.int x)
      | true => ∃ x, v = some (.long x) ∧ w = some (.long x)) ∧ relE a2 I2 J2 Q2)) from (by
    cases lg with
    | false => exact hop a I J Q hrel
    | true => exact hop a I J Q hrel))
  rw [e1.1, t2, List.append_nil]
  exact key v a1 I1 J1 Q1 h hcnt
end STEP
