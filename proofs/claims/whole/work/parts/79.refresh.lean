/-! the class's refreshPlan and what is told of a plan -/
def plnOK (I : hI) (J : hJ) (m : Nat) (B C X Y : Nat → Nat) (g : Nat) : Prop := ∃ F K f, fitP F m C X Y g ∧ plnP m B F K f ∧ K ≤ m ∧ I 13 1 = nI K ∧ I 13 7 = nI m ∧ J 13 6 = lN (rowV f m)
def lawB (B : Nat → Nat) (m : Nat) : Prop := (∀ p, p < 10 → B p < 2 ^ m) ∧ (∀ p, m ≤ p → p < 10 → B p = 0) ∧ ∃ rk, rkP B rk
def dnQ (Q : hQ) : Prop := ∃ b, Q 13 4 = some (dnK b) ∧ Q 13 5 = some (dnK !b)
theorem fitP_sym {F : Nat → Nat} {m : Nat} {C X Y : Nat → Nat} {g p q : Nat} (h : fitP F m C X Y g) (hp : p < m) (hq : q < m) (hb : (F p).testBit q = true) : (F q).testBit p = true := by
  have := ((h p hp).2 q).mp hb
  exact ((h q hq).2 p).mpr ⟨hp, Ne.symm this.2.1, wal_sym this.2.2⟩
abbrev x_rf : Type := Nat × Nat × (Nat → Nat) × ((Nat → Nat) × (Nat → Nat) × (Nat → Nat) × (Nat → Nat) × (Nat → Nat)) × (Nat → Nat) × (Nat → Nat) × (Nat → Nat) × (Nat → Nat) × (Nat → Nat)
abbrev e_rf : x_rf → List Value := fun _ => [.ref 0]
theorem v_rf (n : Nat) (h : 1 ≤ n) (x : x_rf) : okv (e_rf x) ∧ (lvA (e_rf x)).length ≤ n := ⟨okv_ref okv_nil, h⟩
/-- what the class's plan rests on -/
def cPl (a : hA) (I : hI) (J : hJ) (Q : hQ) (m g : Nat) (B : Nat → Nat) (y : ((Nat → Nat) × (Nat → Nat) × (Nat → Nat) × (Nat → Nat) × (Nat → Nat)) × (Nat → Nat) × (Nat → Nat) × (Nat → Nat) × (Nat → Nat) × (Nat → Nat)) : Prop := cpX a I J Q m y ∧ lawsOK I B ∧ lawB B m ∧ (I 0 13 = nI g ∧ g ≤ 4) ∧ dnQ Q ∧ (I 13 0 = 0 ∨ (I 13 0 = 1 ∧ plnOK I J m B y.2.1 y.1.2.2.2.1 y.1.2.2.2.2 g))
def rfQ (Q Q' : hQ) : Prop := (∀ k', k' ≠ 13 → Q' k' = Q k') ∧ (∀ j, j ≠ 4 → j ≠ 5 → Q' 13 j = Q 13 j) ∧ dnQ Q'
def e_refresh : ev := (1, 9, false, 0, 0, sn e_rf (fun x a I J Q => cPl a I J Q x.1 x.2.1 x.2.2.1 x.2.2.2) (fun x _ I J Q v I' J' Q' => v = none ∧ fr I I' [12, 13, 14, 15] ∧ frJ J J' [13, 16, 17] ∧ rfQ Q Q' ∧ I' 13 0 = 1 ∧ plnOK I' J' x.1 x.2.2.1 x.2.2.2.2.1 x.2.2.2.1.2.2.2.1 x.2.2.2.1.2.2.2.2 x.2.1))
set_option maxRecDepth 20000 in
theorem c_refresh {l : Launch} : CX l cdX9_refreshPlan e_refresh := by
  refine cm_sn RX9 edX9_refreshPlan [e_fitTo, e_make] false kX9_refreshPlan cwX9_refreshPlan okX9_refreshPlan ⟨⟨_, rfl, c_fitTo⟩, ⟨_, rfl, c_make⟩, trivial⟩ (by decide) rfl (v_rf _ (by decide)) ?_
  intro um zm G Rt ⟨m, g, B, ⟨kp, kf, S, X, Y⟩, C, T, Kd, Wd, Hd⟩ a I J Q cl hb hp hR
  obtain ⟨hc, hlaw, hlB, ⟨hg13, hg⟩, hdn, hfr⟩ := hp
  have hc : cpn a I J Q m kp kf S X Y C T Kd Wd Hd := hc
  have hlaw : lawsOK I B := hlaw
  have hlB : lawB B m := hlB
  have hg13 : I 0 13 = nI g := hg13
  have hg : g ≤ 4 := hg
  have hfr : I 13 0 = 0 ∨ (I 13 0 = 1 ∧ plnOK I J m B C X Y g) := hfr
  have hR : ∀ v I' J' Q', (v = none ∧ fr I I' [12, 13, 14, 15] ∧ frJ J J' [13, 16, 17] ∧ rfQ Q Q' ∧ I' 13 0 = 1 ∧ plnOK I' J' m B C X Y g) → Rt v a I' J' Q' := hR
  obtain ⟨h10, hm, hall⟩ := id hc
  have hkf : ∀ q, q < m → 60 ≤ kf q := fun q hq => ob7_big (hall q hq).2.2.2.2.2.2.2.2.2.1.1
  have h2m : 2 ^ m ≤ 2 ^ 10 := Nat.pow_le_pow_right (by decide) hm
  have loop : ∀ d p (F : Nat → Nat) I', d + p = m → fr I I' [12, 14] → (∀ q, q < p → I' 14 q = nI (F q)) → (∀ q, q < p → F q < 2 ^ m ∧ ∀ r, (F q).testBit r = true ↔ (r < m ∧ r ≠ q ∧ wal C X Y g q r)) → G 13 [some (.ref 0), some (.int (nI p))] [] a I' J Q := by
    intro d
    induction d with
    | zero =>
      intro p F I' hd hf h14 hF
      obtain rfl : p = m := by omega
      have hfit : fitP F p C X Y g := hF
      refine cl [13] 80 13 _ _ _ _ _ _ ?_
      refine And.intro (fun _ => ?_) (fun (h : ¬ I' 0 10 ≤ nI p) => absurd (by rw [hf 0 (by decide), h10]; exact nI_le (Nat.le_refl _) (by omega)) h)
      refine Exists.intro (p, F, B) (And.intro (show [Value.ref 13, .int (I' 0 10), .ref 5] = [Value.ref 13, .int (nI p), .ref 5] by rw [hf 0 (by decide), h10]) (And.intro ⟨hm, h14, fun q hq => by rw [hf 5 (by decide)]; exact hlaw q hq, hdn⟩ ?_))
      rintro v I2 J2 Q2 ⟨rfl, k, hk1, hk2, hk3, ⟨q1, q2, q3, q4⟩, qJ, ⟨r1, r2, r3⟩, qrow⟩
      have hk1 : k ≤ p := hk1
      have hk2 : ∀ j, j < k → dT (jT F (2 ^ p - 1) p) B p j (2 ^ p - 1) = none := hk2
      have hk3 : k = p ∨ dT (jT F (2 ^ p - 1) p) B p k (2 ^ p - 1) ≠ none := hk3
      have qrow : J2 13 6 = pI (dT (jT F (2 ^ p - 1) p) B p k (2 ^ p - 1)) := qrow
      obtain ⟨K, f, hKp, hpl⟩ := pln_ex (F := F) hm hlB.2.2
      obtain ⟨e1, e2, e3, e4⟩ := plan_eq hm (fun q hq => hlB.1 q (by omega)) (fun q hq => by
        cases hx : (F q).testBit q with
        | false => rfl
        | true => exact absurd rfl (((hfit q hq).2 q).mp hx).2.1) (fun x y hx hy hxy => fitP_sym hfit hx hy hxy) hpl.1 hpl.2.1 hpl.2.2
      have hkK : k = K := by
        rcases Nat.lt_trichotomy k K with c | c | c
        · rcases hk3 with h | h
          · omega
          · exact absurd (e3 k c) h
        · exact c
        · have := hk2 K c
          rw [e4] at this
          cases this
      subst hkK
      rw [e4] at qrow
      refine hR _ _ _ _ ⟨rfl, fun z hz => ?_, fun z hz => ?_, ⟨r1, r2, r3⟩, q4, F, k, f, hfit, hpl, hKp, q3, q2, qrow⟩
      · simp only [List.mem_cons, List.not_mem_nil, not_or] at hz
        rw [q1 z hz.2.1 hz.2.2.2.1]
        exact hf z (by simp only [List.mem_cons, List.not_mem_nil, not_or]; exact ⟨hz.1, hz.2.2.1, id⟩)
      · simp only [List.mem_cons, List.not_mem_nil, not_or] at hz
        exact qJ z hz.1 hz.2.1 hz.2.2.1
    | succ d ih =>
      intro p F I' hd hf h14 hF
      have hpm : p < m := by omega
      have ecp : (nI p).toNatClampNeg = p := nI_clamp (by omega)
      have hc' : cpn a I' J Q m kp kf S X Y C T Kd Wd Hd := cpn_of hc (by rw [hf 0 (by decide)]) (fun k hk => hf k (by simp; omega)) hkf
      refine cl [13] 80 13 _ _ _ _ _ _ ?_
      refine And.intro (fun (h : I' 0 10 ≤ nI p) => absurd h (by rw [hf 0 (by decide), h10]; exact nI_ge hpm (by omega))) (fun _ => ?_)
      refine Exists.intro (p, m, g, (kp, kf, S, X, Y), C, T, Kd, Wd, Hd) (And.intro rfl (And.intro ⟨hpm, hc', (show I' 0 13 = nI g by rw [hf 0 (by decide)]; exact hg13), hg⟩ ?_))
      rintro v I2 J2 Q2 ⟨rfl, rfl, hf2, Fp, rfl, hFp, hFb⟩
      have hFb : ∀ q, Fp.testBit q = true ↔ (q < m ∧ q ≠ p ∧ wal C X Y g p q) := hFb
      refine And.intro (show vp_in (nI p) 10 from vp_in_nI (by omega) (by decide)) ?_
      have := ih (p + 1) (fun z => if z = p then Fp else F z) (up2 I2 14 (nI p).toNatClampNeg (nI Fp)) (by omega) (fr_up (fr_tr hf hf2 (fun k hk => by simp at hk; rw [hk]; decide)) (by decide)) (fun q hq => by
        rw [ecp]
        show _ = nI (if q = p then Fp else F q)
        by_cases e : q = p
        · subst e; rw [up2_at, if_pos rfl]
        · rw [up2_nej e, if_neg e, hf2 14 (by decide)]; exact h14 q (by omega)) (fun q hq => by
        show (if q = p then Fp else F q) < 2 ^ m ∧ ∀ r, (if q = p then Fp else F q).testBit r = true ↔ _
        by_cases e : q = p
        · subst e; rw [if_pos rfl]; exact ⟨hFp, hFb⟩
        · rw [if_neg e]; exact hF q (by omega))
      rw [← nI_1 p] at this
      exact this
  refine cl [13] 80 0 _ _ _ _ _ _ ?_
  refine And.intro (fun (h : I 13 0 = 0) => ?_) (fun (h : ¬ I 13 0 = 0) => ?_)
  · exact loop m 0 (fun _ => 0) I (by omega) (fr_refl _ _) (fun q hq => by omega) (fun q hq => by omega)
  · rcases hfr with e | ⟨e1, e2⟩
    · exact absurd e h
    · exact hR _ _ _ _ ⟨rfl, fr_refl _ _, frJ_refl _ _, ⟨fun _ _ => rfl, fun _ _ _ => rfl, hdn⟩, e1, e2⟩
/-! stationOf, hasStation, strength, share -/
abbrev x_sto : Type := Nat × Nat × Nat × (Nat → Nat)
abbrev e_sto : x_sto → List Value := fun x => [.ref 13, .int (nI x.1)]
theorem v_sto (n : Nat) (h : 2 ≤ n) (x : x_sto) : okv (e_sto x) ∧ (lvA (e_sto x)).length ≤ n := ⟨okv_ref (okv_int okv_nil), h⟩
def e_stOf : ev := (2, 4, false, 0, 0, sf e_sto (fun x _ I J _ => x.1 < x.2.1 ∧ x.2.1 ≤ 10 ∧ (∀ p, p < x.2.1 → x.2.2.2 p < 16) ∧ I 13 7 = nI x.2.1 ∧ J 13 6 = lN (rowV x.2.2.2 x.2.1)) (fun x _ _ _ _ => some (.int (nI (x.2.2.2 x.1)))))
set_option maxRecDepth 20000 in
theorem c_stOf {l : Launch} : CX l cdX4_stationOf e_stOf := by
  refine cm_sf RX4 edX4_stationOf [] false kX4_stationOf cwX4_stationOf okX4_stationOf trivial (by decide) rfl (v_sto _ (by decide)) ?_
  intro um zm G Rt ⟨p, m, z, f⟩ a I J Q cl hb hp hR
  obtain ⟨hpm, hm, hf, h7, h6⟩ := hp
  have hpm : p < m := hpm
  have hm : m ≤ 10 := hm
  have hf : ∀ p, p < m → f p < 16 := hf
  have h7 : I 13 7 = nI m := h7
  have h6 : J 13 6 = lN (rowV f m) := h6
  have hR : ∀ v, v = some (Value.int (nI (f p))) → Rt v a I J Q := hR
  have hlt := rowV_lt f m hf
  have h16 : (16 : Nat) ^ m ≤ 16 ^ 10 := Nat.pow_le_pow_right (by decide) hm
  have h1610 : (16 : Nat) ^ 10 = 2 ^ 40 := by decide
  refine cl [] 60 0 _ _ _ _ _ _ ?_
  have := hR (some (.int (((J 13 6).toUInt64 >>> ((4 * (I 13 7 - 1 - nI p)).toInt64.toUInt64 &&& Int64.toUInt64 63)).toInt64.toInt32 &&& 15))) (by
    have e4 : 4 * (I 13 7 - 1 - nI p) = nI (4 * (m - 1 - p)) := by
      rw [h7, show (1 : Int32) = nI 1 from rfl, pk_sub (by omega), pk_sub (by omega), show (4 : Int32) = nI 4 from rfl, pk_mul]
    rw [e4, h6, wb_shr (by omega) (by omega), lN_i, show (15 : Int32) = nI (2 ^ 4 - 1) from rfl, fa_mask, Nat.pow_mul]
    have := rowV_dig f m p hf hpm
    rw [show ((2 : Nat) ^ 4) = 16 from rfl, this])
  exact this
abbrev i_hasSt : ev := (2, 4, false, 0, 0, inl false 0 0 [e_within] false true kX4_hasStation 2)
theorem c_hasSt {l : Launch} : CX l cdX4_hasStation i_hasSt := cm_inl RX4 edX4_hasStation [e_within] false true kX4_hasStation cwX4_hasStation okX4_hasStation ⟨⟨_, rfl, c_within⟩, trivial⟩ (by decide) rfl (fun h => Bool.noConfusion h)
abbrev x_pn : Type := Nat × Nat × Nat × Nat × Nat × Nat × Nat × Nat × Nat × Nat
abbrev e_pn : x_pn → List Value := fun x => [.ref x.1]
theorem v_pn (n : Nat) (h : 1 ≤ n) (x : x_pn) : okv (e_pn x) ∧ (lvA (e_pn x)).length ≤ n := ⟨okv_ref okv_nil, h⟩
def strN (c kind th : Nat) : Nat := if kind = 2 then edS c 8 * th / 2 else edS c 8 * th
def e_strength : ev := (1, 6, false, 0, 0, sf e_pn (fun x a I J Q => pnT a I J Q x) (fun x _ _ _ _ => some (.int (nI (strN x.2.2.2.2.2.2.2.1 x.2.1 x.2.2.2.2.2.1)))))
set_option maxRecDepth 20000 in
theorem c_strength {l : Launch} : CX l cdX6_strength e_strength := by
  refine cm_sf RX6 edX6_strength [e_edge] false kX6_strength cwX6_strength okX6_strength ⟨⟨_, rfl, c_edge⟩, trivial⟩ (by decide) rfl (v_pn _ (by decide)) ?_
  intro um zm G Rt ⟨k, kind, s, x, y, th, kf, c, w, h⟩ a I J Q cl hb hp hR
  have hp : pnc a I J Q k kind s x y th kf c w h := hp
  have hR : ∀ v, v = some (Value.int (nI (strN c kind th))) → Rt v a I J Q := hR
  obtain ⟨o, b, ⟨k0, k0'⟩, -, -, -, ⟨k4, k4', k4''⟩, F, S⟩ := hp
  have hq : qE qX Q k 5 = some kf := by rw [qE_big b]; exact F
  have hle : edS c 8 * th ≤ 5120 := by
    have h1 := edS_le c 8
    have h2 : edS c 8 * th ≤ 256 * 20 := Nat.mul_le_mul (by omega) k4''
    omega
  have em : nI (edS c 8) * I k 4 = nI (edS c 8 * th) := by rw [k4, pk_mul]
  refine cl [] 60 0 _ _ _ _ _ _ ?_
  refine cko (isOb_ck o) ?_
  rw [hq]
  refine vko S.1.1 rfl ?_
  refine Exists.intro (kf, c) (And.intro rfl (And.intro S.1 ?_))
  refine cko (isOb_ck o) (cko (isOb_ck o) ?_)
  refine And.intro (fun (hc : ¬ I k 0 = 2) => ?_) (fun (hc : I k 0 = 2) => And.intro (by decide) ?_)
  · have hk2 : kind ≠ 2 := fun e => hc (by rw [k0, e]; rfl)
    have := hR (some (.int (nI (edS c 8) * I k 4))) (by rw [em]; unfold strN; rw [if_neg hk2])
    exact this
  · have hk2 : kind = 2 := by rw [k0] at hc; exact (nI_eq (b := 2) (by omega) (by decide)).mp hc
    have := hR (some (.int (nI (edS c 8) * I k 4 / 2))) (by
      rw [em, show (2 : Int32) = nI 2 from rfl, pk_div (by omega) (by decide) (by decide)]
      unfold strN
      rw [if_pos hk2])
    exact this
abbrev x_sh6 : Type := x_pn × Nat
abbrev e_sh6 : x_sh6 → List Value := fun x => [.ref x.1.1, .int (nI x.2)]
theorem v_sh6 (n : Nat) (h : 2 ≤ n) (x : x_sh6) : okv (e_sh6 x) ∧ (lvA (e_sh6 x)).length ≤ n := ⟨okv_ref (okv_int okv_nil), h⟩
def shr6 (c kind th x y w h what : Nat) : Nat := if what = 0 then strN c kind th else if what = 1 then strN c kind th * (2 * x + w) else if what = 2 then strN c kind th * (2 * y + h) else 1
def e_share : ev := (2, 6, false, 0, 0, sf e_sh6 (fun x a I J Q => pnT a I J Q x.1 ∧ x.2 ≤ 3) (fun x _ _ _ _ => some (.long (lN (shr6 x.1.2.2.2.2.2.2.2.1 x.1.2.1 x.1.2.2.2.2.2.1 x.1.2.2.2.1 x.1.2.2.2.2.1 x.1.2.2.2.2.2.2.2.2.1 x.1.2.2.2.2.2.2.2.2.2 x.2)))))
set_option maxRecDepth 20000 in
theorem c_share {l : Launch} : CX l cdX6_share e_share := by
  refine cm_sf RX6 edX6_share [e_strength] false kX6_share cwX6_share okX6_share ⟨⟨_, rfl, c_strength⟩, trivial⟩ (by decide) rfl (v_sh6 _ (by decide)) ?_
  intro um zm G Rt ⟨⟨k, kind, s, x, y, th, kf, c, w, h⟩, what⟩ a I J Q cl hb hp hR
  have hp0 : pnc a I J Q k kind s x y th kf c w h := hp.1
  have hwt : what ≤ 3 := hp.2
  have hR : ∀ v, v = some (Value.long (lN (shr6 c kind th x y w h what))) → Rt v a I J Q := hR
  obtain ⟨o, b, ⟨k0, k0'⟩, -, ⟨k2, k2'⟩, ⟨k3, k3'⟩, ⟨k4, k4', k4''⟩, F, S⟩ := id hp0
  have hq : qE qX Q k 5 = some kf := by rw [qE_big b]; exact F
  have hsl : strN c kind th ≤ 5120 := by
    have h1 := edS_le c 8
    have h2 : edS c 8 * th ≤ 256 * 20 := Nat.mul_le_mul (by omega) k4''
    unfold strN
    split <;> omega
  have hw8 := S.2.2.2.2.2.1
  have hh8 := S.2.2.2.2.2.2.2
  refine cl [] 60 0 _ _ _ _ _ _ ?_
  refine And.intro (fun (e : nI what = 0) => ?_) (fun (e0 : ¬ nI what = 0) => And.intro (fun (e : nI what = 1) => ?_) (fun (e1 : ¬ nI what = 1) => And.intro (fun (e : nI what = 2) => ?_) (fun (e2 : ¬ nI what = 2) => ?_)))
  · have hw0 : what = 0 := (nI_eq (b := 0) (by omega) (by decide)).mp e
    refine vko o rfl ?_
    refine Exists.intro (k, kind, s, x, y, th, kf, c, w, h) (And.intro rfl (And.intro hp0 ?_))
    have := hR (some (.long (nI (strN c kind th)).toInt64)) (by rw [nI_l (by omega), hw0]; rfl)
    exact this
  · have hw1 : what = 1 := (nI_eq (b := 1) (by omega) (by decide)).mp e
    refine vko o rfl ?_
    refine Exists.intro (k, kind, s, x, y, th, kf, c, w, h) (And.intro rfl (And.intro hp0 ?_))
    refine cko (isOb_ck o) (cko (isOb_ck o) ?_)
    rw [hq]
    refine cko (isOb_ck S.1.1) ?_
    have := hR (some (.long ((nI (strN c kind th)).toInt64 * (2 * I k 2 + I kf 1).toInt64))) (by
      rw [k2, S.2.1, show (2 : Int32) = nI 2 from rfl, pk_mul, nI_add, nI_l (by omega), nI_l (by omega), lN_mul, hw1]
      rfl)
    exact this
  · have hw2 : what = 2 := (nI_eq (b := 2) (by omega) (by decide)).mp e
    refine vko o rfl ?_
    refine Exists.intro (k, kind, s, x, y, th, kf, c, w, h) (And.intro rfl (And.intro hp0 ?_))
    refine cko (isOb_ck o) (cko (isOb_ck o) ?_)
    rw [hq]
    refine cko (isOb_ck S.1.1) ?_
    have := hR (some (.long ((nI (strN c kind th)).toInt64 * (2 * I k 3 + I kf 2).toInt64))) (by
      rw [k3, S.2.2.1, show (2 : Int32) = nI 2 from rfl, pk_mul, nI_add, nI_l (by omega), nI_l (by omega), lN_mul, hw2]
      rfl)
    exact this
  · have hw3 : what = 3 := by
      have q0 : what ≠ 0 := fun e => e0 (by rw [e]; rfl)
      have q1 : what ≠ 1 := fun e => e1 (by rw [e]; rfl)
      have q2 : what ≠ 2 := fun e => e2 (by rw [e]; rfl)
      omega
    exact hR _ (by rw [hw3]; rfl)
