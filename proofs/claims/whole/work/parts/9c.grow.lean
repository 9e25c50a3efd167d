/-! cells are made: the relation stays; pair -/
theorem shw_lt {a : hA} {I : hI} {J : hJ} {k c w h : Nat} (ha : 60 ≤ a.1) (hs : shw a I J k c w h) : k < a.1 := isOb_lt ha hs.1.1
theorem pnc_g {a a' : hA} {I I' : hI} {J J' : hJ} {Q Q' : hQ} {k kind s x y th kf c w h : Nat} (ha : 60 ≤ a.1) (hp : pnc a I J Q k kind s x y th kf c w h) (h1 : a.1 ≤ a'.1) (h2 : ∀ k, k < a.1 → a'.2.2.2 k = a.2.2.2 k) (hI : ∀ k, k < a.1 → 60 ≤ k → I' k = I k) (hJ : ∀ k, k < a.1 → 60 ≤ k → J' k = J k) (hQ : ∀ k, k < a.1 → 60 ≤ k → Q' k = Q k) : pnc a' I' J' Q' k kind s x y th kf c w h := by
  obtain ⟨q1, q2, q3, q4, q5, q6, q7, q8, q9⟩ := hp
  have hk := isOb_lt ha q1
  have hkf := shw_lt ha q9
  have hkf60 := ob7_big q9.1.1
  have e := hI k hk q2
  exact ⟨isOb_of ha q1 h1 (h2 k hk), q2, by rw [e]; exact q3, by rw [e]; exact q4, by rw [e]; exact q5, by rw [e]; exact q6, by rw [e]; exact q7, by rw [hQ k hk q2]; exact q8, shw_g ha q9 h1 (h2 kf hkf) (hI kf hkf hkf60) (hJ kf hkf hkf60)⟩
theorem rel_grow {a a' : hA} {I I' : hI} {J J' : hJ} {Q Q' : hQ} {n m wb mg wl : Nat} {ks C W H kp S X Y T Kd B : Nat → Nat} (ha : 60 ≤ a.1) (h : rel a I J Q n m wb mg wl ks C W H kp S X Y T Kd B) (h1 : a.1 ≤ a'.1) (h2 : ∀ k, k < a.1 → a'.2.2.2 k = a.2.2.2 k) (hI : ∀ k, k < a.1 → k ≠ 9 → I' k = I k) (hJ : ∀ k, k < a.1 → J' k = J k) (hQ : ∀ k, k < a.1 → Q' k = Q k) : rel a' I' J' Q' n m wb mg wl ks C W H kp S X Y T Kd B := by
  obtain ⟨⟨a1, a2, a3, a4⟩, ⟨⟨p1, p2, p3⟩, p4, p5⟩, ⟨l1, l2, l3, l4⟩, ⟨⟨r1, r2, r3⟩, ⟨r4, r5, r6⟩, r7, r8, r9⟩, ⟨k1, k2⟩, s, ⟨n1, n2⟩, mu⟩ := h
  have e : ∀ k, k < 60 → k ≠ 9 → I' k = I k := fun k hk h9 => hI k (by omega) h9
  have f0 : I' 0 = I 0 := e 0 (by decide) (by decide)
  have f31 : I' 31 = I 31 := e 31 (by decide) (by decide)
  refine ⟨⟨by rw [f0]; exact a1, by rw [f31]; exact a2, a3, fun t ht => ?_⟩, ⟨⟨by rw [f0]; exact p1, p2, fun p hp => ?_⟩, by rw [f31]; exact p4, fun p hp => ?_⟩, ⟨fun p hp => ?_, fun p hp => ?_, l3, by rw [f31]; exact l4⟩, ⟨⟨by rw [f0]; exact r1, by rw [e 37 (by decide) (by decide)]; exact r2, r3⟩, ⟨by rw [f0]; exact r4, by rw [e 37 (by decide) (by decide)]; exact r5, r6⟩, by rw [f0]; exact r7, by rw [e 37 (by decide) (by decide)]; exact r8, r9⟩, ⟨fun s t h1 h2 => ?_, fun s t h1 h2 h3 => ?_⟩, fun b hb => ?_, ⟨?_, ?_⟩, fun p h1 h2 => ?_⟩
  · obtain ⟨q1, q2, q3, q4⟩ := a4 t ht
    have hk := shw_lt ha q2
    have := ob7_big q2.1.1
    exact ⟨by rw [hQ 1 (by omega)]; exact q1, shw_g ha q2 h1 (h2 _ hk) (hI _ hk (by omega)) (hJ _ hk), rsh_of3 q3 (e 32 (by decide) (by decide)) (e 33 (by decide) (by decide)) (e 34 (by decide) (by decide)), q4⟩
  · exact ⟨by rw [hQ 2 (by omega)]; exact (p3 p hp).1, pnc_g ha (p3 p hp).2 h1 h2 (fun k k1 k2 => hI k k1 (by omega)) (fun k k1 _ => hJ k k1) (fun k k1 _ => hQ k k1)⟩
  · rw [e 44 (by decide) (by decide), e 45 (by decide) (by decide), e 46 (by decide) (by decide), e 47 (by decide) (by decide), e 48 (by decide) (by decide)]
    exact p5 p hp
  · rw [e 5 (by decide) (by decide)]; exact l1 p hp
  · rw [e 49 (by decide) (by decide)]; exact l2 p hp
  · rw [e 7 (by decide) (by decide)]; exact k1 s t h1 h2
  · rw [e 7 (by decide) (by decide)]; exact k2 s t h1 h2 h3
  · have s0 : 23 ≤ shK b ∧ shK b + 1 < 31 := by unfold shK; omega
    exact rSb_i (s b hb) (e _ (by omega) (by omega)) (e _ (by omega) (by omega)) (e 38 (by decide) (by decide)) (e 39 (by decide) (by decide)) (e 40 (by decide) (by decide))
  · obtain ⟨b, b1, b2⟩ := n1
    exact ⟨b, by rw [hQ 13 (by omega)]; exact b1, by rw [hQ 13 (by omega)]; exact b2⟩
  · rw [e 13 (by decide) (by decide)]
    rcases n2 with n2 | ⟨n2, F, K, g, q1, q2, q3, q4, q5, q6⟩
    · exact Or.inl n2
    · exact Or.inr ⟨n2, F, K, g, q1, q2, q3, by rw [e 13 (by decide) (by decide)]; exact q4, by rw [e 13 (by decide) (by decide)]; exact q5, by rw [hJ 13 (by omega)]; exact q6⟩
  · rw [hJ 10 (by omega)]; exact mu p h1 h2
theorem relE_grow {a a' : hA} {I I' : hI} {J J' : hJ} {Q Q' : hQ} (h : relE a I J Q) (h1 : a.1 ≤ a'.1) (h2 : ∀ k, k < a.1 → a'.2.2.2 k = a.2.2.2 k) (hI : ∀ k, k < a.1 → k ≠ 9 → I' k = I k) (hJ : ∀ k, k < a.1 → J' k = J k) (hQ : ∀ k, k < a.1 → Q' k = Q k) : relE a' I' J' Q' := by
  obtain ⟨ha, hT, n, m, wb, mg, wl, ks, C, W, H, kp, S, X, Y, T, Kd, B, hr⟩ := h
  exact ⟨by omega, ⟨by rw [hI 0 (by omega) (by decide), hI 31 (by omega) (by decide)]; exact hT.1, by rw [hI 0 (by omega) (by decide), hI 31 (by omega) (by decide)]; exact hT.2⟩, n, m, wb, mg, wl, ks, C, W, H, kp, S, X, Y, T, Kd, B, rel_grow ha hr h1 h2 hI hJ hQ⟩
/-- only the counts of cells differ -/
theorem relE_a {a : hA} {I : hI} {J : hJ} {Q : hQ} (x y : Nat) (h : relE a I J Q) : relE (a.1, x, y, a.2.2.2) I J Q := relE_grow h (Nat.le_refl _) (fun _ _ => rfl) (fun _ _ _ => rfl) (fun _ _ => rfl) (fun _ _ => rfl)
def rng (t dx dy what : Int32) : Prop := wi t 0 7 = true ∧ wi dx 0 31 = true ∧ wi dy (-8) 8 = true ∧ wi what 0 3 = true
theorem wi_z8 {x : Int32} (h : wi x (-8) 8 = true) : ∃ d : Int, (-8 ≤ d ∧ d ≤ 8) ∧ x = zI d := by
  unfold wi at h
  rw [Bool.and_eq_true, decide_eq_true_iff, decide_eq_true_iff, fa_le, fa_le] at h
  have e1 : (-8 : Int32).toInt = -8 := by decide
  have e2 : (8 : Int32).toInt = 8 := by decide
  exact ⟨x.toInt, ⟨by omega, by omega⟩, (Int32.ofInt_toInt x).symm⟩
abbrev i_rpair : ev := (7, 10, false, 0, 0, inl false 0 0 [e_isShape, e_within, e_turnOf, e_layB, e_cellsOf, e_told] false false kX10_pair 7)
theorem c_rpair {l : Launch} : CX l cdX10_pair i_rpair := cm_inl RX10 edX10_pair [e_isShape, e_within, e_turnOf, e_layB, e_cellsOf, e_told] false false kX10_pair cwX10_pair okX10_pair ⟨⟨_, rfl, c_isShape⟩, ⟨_, rfl, c_rwithin⟩, ⟨_, rfl, c_turnOf⟩, ⟨_, rfl, c_layB⟩, ⟨_, rfl, c_cellsOf⟩, ⟨_, rfl, c_told⟩, trivial⟩ (by decide) rfl (fun h => Bool.noConfusion h)
def rulR (I : hI) (wb mg : Nat) : Prop := (I 37 0 = nI wb ∧ wb ≤ 3) ∧ I 37 1 = nI mg ∧ mg ≤ 3
set_option maxRecDepth 20000 in
theorem zz_rpair {x y t dx dy what : Int32} {n wb mg : Nat} {C W H : Nat → Nat} {a : hA} {I : hI} {J : hJ} {Q : hQ} {K : hR} (hn : I 31 2 = nI n) (hn12 : n ≤ 12) (hsh : ∀ s, s < n → rsh I s (C s) (W s) (H s) ∧ exS (C s) (W s) (H s)) (hru : rulR I wb mg) (h0 : (bw x (nI n) = false ∨ bw y (nI n) = false) → K (some (.int (-1))) a I J Q) (h2 : ∀ p q, p < n → q < n → x = nI p → y = nI q → ¬ rng t dx dy what → K (some (.int (-2))) a I J Q) (h3 : ∀ p q t' dx' what' (d : Int), p < n → q < n → x = nI p → y = nI q → t' < 8 → dx' ≤ 31 → (-8 ≤ d ∧ d ≤ 8) → what' ≤ 3 → t = nI t' → dx = nI dx' → dy = zI d → what = nI what' → ∀ I' J', fr I I' [35, 36] → frJ J J' [41, 42, 43] → (clash (C p) (trn (C q) (W q) (H q) t') wb dx' d → K (some (.int (-3))) a I' J' Q) ∧ (¬ clash (C p) (trn (C q) (W q) (H q) t') wb dx' d → ∀ v', (∀ P, isPitch (clF (FU (C p) (trn (C q) (W q) (H q) t') dx' d) wb) 60 P → v' = tvN what' P ((7 + max (heightN (C p) : Int) (d + heightN (trn (C q) (W q) (H q) t'))).toNat - (8 + min 0 d).toNat + 1 + 2 * mg) (popN (C p) + popN (C q))) → K (some (.int v')) a I' J' Q)) : i_rpair.2.2.2.2.2 [.ref 31, .int x, .int y, .int t, .int dx, .int dy, .int what] a I J Q K := by
  refine Exists.intro x (And.intro rfl (And.intro trivial (bI_cases' (bw x (I 31 2)) (fun r1 => Exists.intro y (And.intro rfl (And.intro trivial (bI_cases (bw y (I 31 2)) (fun r2 => ?_) (fun r2 => h0 (Or.inr (by rw [hn] at r2; exact r2))))))) (fun r1 => h0 (Or.inl (by rw [hn] at r1; exact r1))))))
  rw [hn] at r1 r2
  obtain ⟨p, hp, rfl⟩ := bw_nat hn12 r1
  obtain ⟨q, hq, rfl⟩ := bw_nat hn12 r2
  have h2 := h2 p q hp hq rfl rfl
  refine Exists.intro (t, 0, 7) (And.intro rfl (And.intro trivial (bI_cases' (wi t 0 7) (fun w1 => ?_) (fun w1 => h2 (fun hr => by rw [hr.1] at w1; cases w1)))))
  refine Exists.intro (dx, 0, 31) (And.intro rfl (And.intro trivial (bI_cases' (wi dx 0 31) (fun w2 => ?_) (fun w2 => h2 (fun hr => by rw [hr.2.1] at w2; cases w2)))))
  refine Exists.intro (dy, -8, 8) (And.intro rfl (And.intro trivial (bI_cases' (wi dy (-8) 8) (fun w3 => ?_) (fun w3 => h2 (fun hr => by rw [hr.2.2.1] at w3; cases w3)))))
  refine Exists.intro (what, 0, 3) (And.intro rfl (And.intro trivial (bI_cases (wi what 0 3) (fun w4 => ?_) (fun w4 => h2 (fun hr => by rw [hr.2.2.2] at w4; cases w4)))))
  obtain ⟨t', ht, rfl⟩ := wi_nat (n := 7) (by decide) w1
  obtain ⟨dx', hdx, rfl⟩ := wi_nat (n := 31) (by decide) w2
  obtain ⟨d, hd, rfl⟩ := wi_z8 w3
  obtain ⟨what', hwt, rfl⟩ := wi_nat (n := 3) (by decide) w4
  have h3 := h3 p q t' dx' what' d hp hq rfl rfl (by omega) hdx hd hwt rfl rfl rfl rfl
  obtain ⟨sp, ep⟩ := hsh p hp
  obtain ⟨sq, eq⟩ := hsh q hq
  have htk := trn_ok eq t'
  refine Exists.intro (q, t', C q, W q, H q) (And.intro rfl (And.intro ⟨sq, (show t' < 8 by omega)⟩ ?_))
  rintro v I1 J1 Q1 ⟨rfl, rfl, rfl, f1, hrw⟩
  have f1 : fr I I1 [35, 36] := f1
  have hrw : rwA I1 35 0 (trn (C q) (W q) (H q) t') := hrw
  have hrp : rwA I1 32 (8 * p) (C p) := fun y hy => by rw [f1 32 (by decide)]; exact sp.2.2.1 y hy
  have hrq : rwA I1 32 (8 * q) (C q) := fun y hy => by rw [f1 32 (by decide)]; exact sq.2.2.1 y hy
  have e37 : I1 37 = I 37 := f1 37 (by decide)
  refine Exists.intro ((p, C p, trn (C q) (W q) (H q) t'), dx', d, wb) (And.intro rfl (And.intro ⟨⟨(show p < 12 by omega), hrp, sp.2.1⟩, ⟨hrw, htk.1⟩, hdx, hd, by rw [e37]; exact hru.1.1, hru.1.2⟩ ?_))
  rintro v I2 J2 Q2 ⟨rfl, rfl, fj, b, rfl, hb1, hb2⟩
  have fj : frJ J1 J2 [41, 42, 43] := fj
  have hb1 : b = true ↔ ¬ clash (C p) (trn (C q) (W q) (H q) t') wb dx' d := hb1
  have hb2 : b = true → ljA J2 41 (FU (C p) (trn (C q) (W q) (H q) t') dx' d) := hb2
  refine bI_cases' b (fun hbt => ?_) (fun hbf => ?_)
  · refine Exists.intro (p, C p) (And.intro rfl (And.intro ⟨(show p < 12 by omega), hrp⟩ ?_))
    refine Exists.intro (q, C q) (And.intro rfl (And.intro ⟨(show q < 12 by omega), hrq⟩ ?_))
    have hends := ends_two (dx := dx') sp.2.1 htk.1 (exS_cor ep) htk.2 hd
    refine Exists.intro (FU (C p) (trn (C q) (W q) (H q) t') dx' d, ((8 + min 0 d).toNat, (7 + max (heightN (C p) : Int) (d + heightN (trn (C q) (W q) (H q) t'))).toNat), (wb, mg), popN (C p) + popN (C q), what') (And.intro (show [Value.ref 31, .int (nI (popN (C p)) + nI (popN (C q))), .int (nI what')] = [.ref 31, .int (nI (popN (C p) + popN (C q))), .int (nI what')] by rw [nI_add]) (And.intro ⟨hb2 hbt, hends, ⟨by rw [e37]; exact hru.1.1, hru.1.2⟩, ⟨by rw [e37]; exact hru.2.1, hru.2.2⟩, hwt⟩ ?_))
    rintro v I3 J3 Q3 ⟨rfl, rfl, fj2, v', rfl, hv⟩
    have fj2 : frJ J2 J3 [43] := fj2
    exact (h3 I3 J3 f1 (frJ_tr fj fj2 (by simp))).2 (hb1.mp hbt) v' hv
  · refine (h3 I2 J2 f1 fj).1 ?_
    apply Classical.byContradiction
    intro hc
    rw [hb1.mpr hc] at hbf
    cases hbf
