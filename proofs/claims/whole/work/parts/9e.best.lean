/-! best -/
abbrev x_po : Type := Nat × Nat
abbrev e_po : x_po → List Value := fun x => [.int (nI x.1), .int (nI x.2)]
theorem v_po (n : Nat) (h : 2 ≤ n) (x : x_po) : okv (e_po x) ∧ (lvA (e_po x)).length ≤ n := ⟨okv_int (okv_int okv_nil), h⟩
def poV (M what : Nat) : Int32 := if what = 0 then nI (M / 272 % 8) else if what = 1 then nI (M / 17 % 16) else if what = 2 then zI (((M % 17 : Nat) : Int) - 8) else nI (M / 2176)
def i_partOf : ev := (2, 99, false, 0, 0, sf e_po (fun x _ _ _ _ => x.1 < 2147483648 ∧ x.2 ≤ 3) (fun x _ _ _ _ => some (.int (poV x.1 x.2))))
set_option maxRecDepth 20000 in
theorem c_partOf {l : Launch} : CX l cdX2_partOf i_partOf := by
  refine cm_sf RX2 edX2_partOf [] false kX2_partOf cwX2_partOf okX2_partOf trivial (by decide) rfl (v_po _ (by decide)) ?_
  intro um zm G Rt ⟨M, what⟩ a I J Q cl hb hp hR
  obtain ⟨hM, hw⟩ := hp
  have hM : M < 2147483648 := hM
  have hw : what ≤ 3 := hw
  have hR : ∀ v, v = some (Value.int (poV M what)) → Rt v a I J Q := hR
  have d1 : nI M / 272 = nI (M / 272) := pk_div (d := 272) (by omega) (by decide) (by decide)
  have d2 : nI M / 17 = nI (M / 17) := pk_div (d := 17) (by omega) (by decide) (by decide)
  have d3 : nI M / 2176 = nI (M / 2176) := pk_div (d := 2176) (by omega) (by decide) (by decide)
  have m1 : nI (M / 272) - nI (M / 272) / 8 * 8 = nI (M / 272 % 8) := pk_rem (d := 8) (by omega) (by decide) (by decide)
  have m2 : nI (M / 17) - nI (M / 17) / 16 * 16 = nI (M / 17 % 16) := pk_rem (d := 16) (by omega) (by decide) (by decide)
  have m3 : nI M - nI M / 17 * 17 = nI (M % 17) := pk_rem (d := 17) (by omega) (by decide) (by decide)
  refine cl [] 50 0 _ _ _ _ _ _ ?_
  rcases (show what = 0 ∨ what = 1 ∨ what = 2 ∨ what = 3 by omega) with rfl | rfl | rfl | rfl
  · refine And.intro (fun _ => And.intro (show ¬ (272 : Int32) = 0 by decide) (And.intro (show ¬ (8 : Int32) = 0 by decide) (hR _ ?_))) (fun c => absurd rfl c)
    show some (Value.int (nI M / 272 - nI M / 272 / 8 * 8)) = _
    rw [d1, m1]; rfl
  · refine And.intro (fun c => absurd (show nI 1 = 0 from c) (by decide)) (fun _ => And.intro (fun _ => And.intro (show ¬ (17 : Int32) = 0 by decide) (And.intro (show ¬ (16 : Int32) = 0 by decide) (hR _ ?_))) (fun c => absurd rfl c))
    show some (Value.int (nI M / 17 - nI M / 17 / 16 * 16)) = _
    rw [d2, m2]; rfl
  · refine And.intro (fun c => absurd (show nI 2 = 0 from c) (by decide)) (fun _ => And.intro (fun c => absurd (show nI 2 = 1 from c) (by decide)) (fun _ => And.intro (fun _ => And.intro (show ¬ (17 : Int32) = 0 by decide) (hR _ ?_)) (fun c => absurd rfl c)))
    show some (Value.int (nI M - nI M / 17 * 17 - 8)) = _
    rw [m3, zI_nat, show (8 : Int32) = zI 8 from rfl, zI_sub]; rfl
  · refine And.intro (fun c => absurd (show nI 3 = 0 from c) (by decide)) (fun _ => And.intro (fun c => absurd (show nI 3 = 1 from c) (by decide)) (fun _ => And.intro (fun c => absurd (show nI 3 = 2 from c) (by decide)) (fun _ => And.intro (show ¬ (2176 : Int32) = 0 by decide) (hR _ ?_))))
    show some (Value.int (nI M / 2176)) = _
    rw [d3]; rfl
abbrev i_best : ev := (4, 9, true, 8, 24, inl true 8 24 [i_shAt, e_within, e_bestP, i_partOf] false false kX9_best 7)
theorem c_best {l : Launch} : CX l cdX9_best i_best := cm_inl RX9 edX9_best [i_shAt, e_within, e_bestP, i_partOf] false false kX9_best cwX9_best okX9_best ⟨⟨_, rfl, c_shAt⟩, ⟨_, rfl, c_within⟩, ⟨_, rfl, c_bestP⟩, ⟨_, rfl, c_partOf⟩, trivial⟩ (by decide) rfl (fun h => Bool.noConfusion h)
abbrev i_rbest : ev := (4, 10, false, 0, 0, inl false 0 0 [e_isShape, e_within, e_findB] false false kX10_best 4)
theorem c_rbest {l : Launch} : CX l cdX10_best i_rbest := cm_inl RX10 edX10_best [e_isShape, e_within, e_findB] false false kX10_best cwX10_best okX10_best ⟨⟨_, rfl, c_isShape⟩, ⟨_, rfl, c_rwithin⟩, ⟨_, rfl, c_findB⟩, trivial⟩ (by decide) rfl (fun h => Bool.noConfusion h)
theorem mko {A B C F G : Bool} {u z m n : Nat} {P : Prop} (h1 : (A && B && C) = true) (h2 : F = true) (h3 : G = true) (p : P) : ck (A && B && C && (Nat.beq m 0 || Nat.ble u u) && (Nat.beq n 0 || Nat.ble z z) && F && G) P := by
  have e1 : Nat.ble u u = true := Nat.ble_eq_true_of_le (Nat.le_refl _)
  have e2 : Nat.ble z z = true := Nat.ble_eq_true_of_le (Nat.le_refl _)
  rw [h1, h2, h3, e1, e2, Bool.or_true, Bool.or_true]
  exact p
set_option maxRecDepth 20000 in
theorem zz_rbest {x y what : Int32} {n wb mg : Nat} {C W H : Nat → Nat} {a : hA} {I : hI} {J : hJ} {Q : hQ} {K : hR} (hn : I 31 2 = nI n) (hn12 : n ≤ 12) (hsh : ∀ s, s < n → rsh I s (C s) (W s) (H s) ∧ exS (C s) (W s) (H s)) (hru : rulR I wb mg) (h0 : (bw x (nI n) = false ∨ bw y (nI n) = false) → K (some (.int (-1))) a I J Q) (h2 : ∀ p q, p < n → q < n → x = nI p → y = nI q → wi what 0 3 = false → K (some (.int (-2))) a I J Q) (h3 : ∀ p q what', p < n → q < n → x = nI p → y = nI q → what' ≤ 3 → what = nI what' → ∀ I' J', fr I I' [31, 35, 36] → (∀ j, j ∉ [15, 16, 17, 18] → I' 31 j = I 31 j) → frJ J J' [41, 42, 43] → ∀ M, isBest (spC (C p) (W p) (H p) (C q) (W q) (H q) wb mg) M → K (some (.int (poV M what'))) a I' J' Q) : i_rbest.2.2.2.2.2 [.ref 31, .int x, .int y, .int what] a I J Q K := by
  refine Exists.intro x (And.intro rfl (And.intro trivial (bI_cases' (bw x (I 31 2)) (fun r1 => Exists.intro y (And.intro rfl (And.intro trivial (bI_cases (bw y (I 31 2)) (fun r2 => ?_) (fun r2 => h0 (Or.inr (by rw [hn] at r2; exact r2))))))) (fun r1 => h0 (Or.inl (by rw [hn] at r1; exact r1))))))
  rw [hn] at r1 r2
  obtain ⟨p, hp, rfl⟩ := bw_nat hn12 r1
  obtain ⟨q, hq, rfl⟩ := bw_nat hn12 r2
  refine Exists.intro (what, 0, 3) (And.intro rfl (And.intro trivial (bI_cases (wi what 0 3) (fun w4 => ?_) (fun w4 => h2 p q hp hq rfl rfl w4))))
  obtain ⟨what', hwt, rfl⟩ := wi_nat (n := 3) (by decide) w4
  have h3 := h3 p q what' hp hq rfl rfl hwt rfl
  obtain ⟨sp, ep⟩ := hsh p hp
  obtain ⟨sq, eq⟩ := hsh q hq
  refine Exists.intro ((p, C p, W p, H p), (q, C q, W q, H q), wb, mg) (And.intro rfl (And.intro ⟨⟨sp, ep⟩, ⟨sq, eq⟩, hru.1, hru.2⟩ ?_))
  rintro v I1 J1 Q1 ⟨rfl, rfl, f1, f2, f3, t, dx, j, s, g1, g2, g3, g4, g5, g6, g7, g8, g9⟩
  have h3 := h3 I1 J1 f2 f3 f1 _ g9
  have e1 : (s * 2176 + t * 272 + dx * 17 + j) / 272 % 8 = t := by omega
  have e2 : (s * 2176 + t * 272 + dx * 17 + j) / 17 % 16 = dx := by omega
  have e3 : (s * 2176 + t * 272 + dx * 17 + j) % 17 = j := by omega
  have e4 : (s * 2176 + t * 272 + dx * 17 + j) / 2176 = s := by omega
  unfold poV at h3
  rw [e1, e2, e3, e4, ← g5, ← g6, ← g7, ← g8] at h3
  rcases (show what' = 0 ∨ what' = 1 ∨ what' = 2 ∨ what' = 3 by omega) with rfl | rfl | rfl | rfl
  · exact And.intro (fun c => absurd rfl c) (fun _ => h3)
  · exact And.intro (fun _ => And.intro (fun c => absurd rfl c) (fun _ => h3)) (fun c => absurd (show nI 1 = 0 from c) (by decide))
  · exact And.intro (fun _ => And.intro (fun _ => And.intro (fun c => absurd rfl c) (fun _ => h3)) (fun c => absurd (show nI 2 = 1 from c) (by decide))) (fun c => absurd (show nI 2 = 0 from c) (by decide))
  · exact And.intro (fun _ => And.intro (fun _ => And.intro (fun _ => h3) (fun c => absurd (show nI 3 = 2 from c) (by decide))) (fun c => absurd (show nI 3 = 1 from c) (by decide))) (fun c => absurd (show nI 3 = 0 from c) (by decide))
set_option maxRecDepth 20000 in
set_option maxHeartbeats 2000000 in
theorem o_best (x y what : Int32) : opI i_best i_rbest [.ref 0, .int x, .int y, .int what] [.ref 31, .int x, .int y, .int what] := by
  intro a I J Q h
  obtain ⟨ha, hT, n, m, wb, mg, wl, ks, C, W, H, kp, S, X, Y, T, Kd, B, hr⟩ := id h
  obtain ⟨hSA, -, -, ⟨⟨r1, r2, r3⟩, ⟨r4, r5, r6⟩, -⟩, ⟨k1, k2⟩, -, -, mu⟩ := id hr
  obtain ⟨a1, a2, a3, a4⟩ := id hSA
  have hru : rulR I wb mg := ⟨⟨r2, r3⟩, r5, r6⟩
  have hsh : ∀ s, s < n → rsh I s (C s) (W s) (H s) ∧ exS (C s) (W s) (H s) := fun s hs => ⟨(a4 s hs).2.2.1, (a4 s hs).2.2.2⟩
  have hrel := relE_a (a.2.1 + 8) (a.2.2.1 + 24) h
  have hd : ∀ {p q p' q' : Nat}, p < n → q < n → p' < n → q' < n → nI p = nI p' → nI q = nI q' → p' = p ∧ q' = q := fun h1 h2 h3 h4 e1 e2 => ⟨((nI_eq (by omega) (by omega)).mp e1).symm, ((nI_eq (by omega) (by omega)).mp e2).symm⟩
  have h0 : (bw x (nI n) = false ∨ bw y (nI n) = false) → (60 ≤ a.1 ∧ i_rbest.2.2.2.2.2 [.ref 31, .int x, .int y, .int what] (a.1, a.2.1 + 8, a.2.2.1 + 24, a.2.2.2) I J Q (fun w a2 I2 J2 Q2 => (∃ x, some (Value.int (-1)) = some (.int x) ∧ w = some (.int x)) ∧ relE a2 I2 J2 Q2)) := fun hn => by
    have hno : ∀ {P : Prop} (p q : Nat), p < n → q < n → x = nI p → y = nI q → P := fun p q hp hq hx hy => by
      rw [hx, hy, bw_of a3 hp, bw_of a3 hq] at hn
      rcases hn with hn | hn <;> cases hn
    exact And.intro ha (zz_rbest a2 a3 hsh hru (fun _ => ⟨⟨_, rfl, rfl⟩, hrel⟩) (fun p q hp hq hx hy _ => hno p q hp hq hx hy) (fun p q _ hp hq hx hy => hno p q hp hq hx hy))
  have hq1 : ∀ s, s < n → Q 1 s = some (ks s) := fun s hs => (a4 s hs).1
  refine zz_shAt a1 a3 hq1 (fun r => zz_shAt a1 a3 hq1 (fun _ => h0 (Or.inl r)) (fun _ _ _ => h0 (Or.inl r))) (fun p hp hx => zz_shAt a1 a3 hq1 (fun r => h0 (Or.inr r)) (fun q hq hy => ?_))
  subst hx
  subst hy
  have hno : ∀ {P : Prop}, (bw (nI p) (nI n) = false ∨ bw (nI q) (nI n) = false) → P := fun hn => by
    rw [bw_of a3 hp, bw_of a3 hq] at hn
    rcases hn with hn | hn <;> cases hn
  refine Exists.intro (what, 0, 3) (And.intro rfl (And.intro trivial (bI_cases (wi what 0 3) (fun w4 => ?_) (fun w4 => ?_))))
  · clear h0
    obtain ⟨what, hwt, rfl⟩ := wi_nat (n := 3) (by decide) w4
    obtain ⟨b1, b2, b3, b4⟩ := a4 p hp
    obtain ⟨c1, c2, c3, c4⟩ := a4 q hq
    have hkp : ks p < a.1 := shw_lt ha b2
    have hkq : ks q < a.1 := shw_lt ha c2
    have hbb := bpT_best (mg := mg) b4 c4 r3 r6
    have e1 : nI p * 12 + nI q = nI (12 * p + q) := by rw [show (12 : Int32) = nI 12 from rfl, pk_mul, nI_add, Nat.mul_comm]
    have ec : (nI p * 12 + nI q).toNatClampNeg = 12 * p + q := by rw [e1]; exact nI_clamp (by omega)
    have hin : vp_in (nI p * 12 + nI q) 144 := by rw [e1]; exact vp_in_nI (by omega) (by decide)
    -- what comes behind
    have fin : ∀ (a' : hA) (I' : hI) (J' : hJ) (Q' : hQ), 60 ≤ a'.1 → (∀ k, k < 60 → k ≠ 7 → k ≠ 9 → I' k = I k) → relE a' I' J' Q' → (60 ≤ a'.1 ∧ i_rbest.2.2.2.2.2 [.ref 31, .int (nI p), .int (nI q), .int (nI what)] a' I' J' Q' (fun w a2 I2 J2 Q2 => (∃ x, some (Value.int (poV (bpT (C p) (W p) (H p) (C q) (W q) (H q) wb mg 8) what)) = some (.int x) ∧ w = some (.int x)) ∧ relE a2 I2 J2 Q2)) := fun a' I' J' Q' ha' f hr' => by
      obtain ⟨e31, hsh3⟩ := rA_of (a' := a) (J' := J) (Q' := Q) hSA (fun k hk => f k (by omega) (by omega) (by omega))
      have hru3 : rulR I' wb mg := by
        unfold rulR
        rw [f 37 (by decide) (by decide) (by decide)]
        exact hru
      refine And.intro ha' (zz_rbest e31 a3 hsh3 hru3 (fun hn => hno hn) (fun p' q' hp' hq' hx hy k => by rw [w4] at k; cases k) (fun p' q' what' hp' hq' hx hy hwt' hw I4 J4 f1 f2 f3 M hM => ?_))
      obtain ⟨rfl, rfl⟩ := hd hp hq hp' hq' hx hy
      obtain rfl := (nI_eq (by omega) (by omega)).mp hw
      rw [isBest_one hM hbb.1]
      refine ⟨⟨_, rfl, rfl⟩, relE_fr hr' ⟨fun k _ k2 k3 => f1 k (by simp at k3 ⊢; omega), fun j _ _ => by rw [f1 0 (by decide)], fun j hj => f2 j (by simp; omega)⟩ (fun k hk => f3 k (by simp at hk ⊢; omega)) ⟨by rw [f1 0 (by decide), f2 1 (by decide)]; exact hr'.2.1.1, by rw [f1 0 (by decide), f2 0 (by decide)]; exact hr'.2.1.2⟩⟩
    refine And.intro hin (And.intro (fun (c : ¬ I 7 (nI p * 12 + nI q).toNatClampNeg = 0) => ?_) (fun (c : I 7 (nI p * 12 + nI q).toNatClampNeg = 0) => ?_))
    · refine And.intro hin ?_
      have e7 : I 7 (nI p * 12 + nI q).toNatClampNeg = nI (bpT (C p) (W p) (H p) (C q) (W q) (H q) wb mg 8) := by
        rw [ec] at c ⊢
        exact (k1 p q hp hq).resolve_left c
      refine Exists.intro (bpT (C p) (W p) (H p) (C q) (W q) (H q) wb mg 8, what) (And.intro (show [Value.int (I 7 (nI p * 12 + nI q).toNatClampNeg), .int (nI what)] = [.int (nI (bpT (C p) (W p) (H p) (C q) (W q) (H q) wb mg 8)), .int (nI what)] by rw [e7]) (And.intro ⟨by have := hbb.2; omega, hwt⟩ ?_))
      exact fin (a.1, a.2.1 + 8, a.2.2.1 + 24, a.2.2.2) I J Q ha (fun _ _ _ _ => rfl) hrel
    · refine mko rfl rfl rfl (And.intro (rok_of ⟨(show 0 < a.1 by omega), trivial, trivial, trivial, hkp, hkq, trivial, trivial⟩ (fun v hv => ?_)) ?_)
      · rcases List.mem_cons.mp hv with rfl | hv
        · trivial
        · rcases List.mem_cons.mp hv with rfl | hv
          · show 7 < a.1
            omega
          · cases hv
      refine Exists.intro ((ks p, C p, W p, H p), (ks q, C q, W q, H q), wb, mg) (And.intro (show [Value.ref 6, .ref (ks p), .ref (ks q), .int (I 0 11), .int (I 0 12)] = [.ref 6, .ref (ks p), .ref (ks q), .int (nI wb), .int (nI mg)] by rw [r1, r4]) (And.intro ⟨⟨b2, b4⟩, ⟨c2, c4⟩, r3, r6, mu⟩ ?_))
      rintro v a' I' J' Q' ⟨rfl, g1, g2, g3, g4, g5, g6, g7⟩
      refine And.intro hin (And.intro hin ?_)
      have hI' : ∀ k, k < a.1 → k ≠ 9 → I' k = I k := fun k h1 h2 => g5 k h1 (by simp; exact h2)
      have hr' : rel (a'.1, a.2.1 + 8, a.2.2.1 + 24, a'.2.2.2) I' J' Q' n m wb mg wl ks C W H kp S X Y T Kd B := rel_grow ha hr (show a.1 ≤ a'.1 by omega) g4 hI' g6 g7
      have hT' : rT I' := ⟨by rw [hI' 0 (by omega) (by decide), hI' 31 (by omega) (by decide)]; exact hT.1, by rw [hI' 0 (by omega) (by decide), hI' 31 (by omega) (by decide)]; exact hT.2⟩
      obtain ⟨-, -, -, hR', ⟨k1', k2'⟩, -⟩ := id hr'
      have hrE : relE (a'.1, a.2.1 + 8, a.2.2.1 + 24, a'.2.2.2) (up2 I' 7 (12 * p + q) (nI (bpT (C p) (W p) (H p) (C q) (W q) (H q) wb mg 8))) J' Q' := by
        refine rel_rule (show 60 ≤ a'.1 by omega) hT' hr' (fun k _ q2 _ _ => up2_ne q2) (fun j _ _ _ => by rw [up2_ne (by decide)]) (wb' := wb) (mg' := mg) (wl' := wl) ?_ ⟨fun s t h1 h2 => ?_, fun s t h1 h2 h3 => ?_⟩ (Or.inr ⟨up2_ne (by decide), rfl⟩)
        · unfold rR
          rw [up2_ne (show (0 : Nat) ≠ 7 by decide), up2_ne (show (37 : Nat) ≠ 7 by decide)]
          exact hR'
        · by_cases e : 12 * s + t = 12 * p + q
          · obtain ⟨rfl, rfl⟩ : s = p ∧ t = q := by omega
            rw [up2_at]
            exact Or.inr rfl
          · rw [up2_nej e]
            exact k1' s t h1 h2
        · rw [up2_nej (by omega)]
          exact k2' s t h1 h2 h3
      have ff := fin (a'.1, a.2.1 + 8, a.2.2.1 + 24, a'.2.2.2) _ J' Q' (show 60 ≤ a'.1 by omega) (fun k q1 q2 q3 => by rw [up2_ne q2, hI' k (by omega) q3]) hrE
      have e7 : up2 I' 7 (nI p * 12 + nI q).toNatClampNeg (nI (bpT (C p) (W p) (H p) (C q) (W q) (H q) wb mg 8)) 7 (nI p * 12 + nI q).toNatClampNeg = nI (bpT (C p) (W p) (H p) (C q) (W q) (H q) wb mg 8) := up2_at
      refine Exists.intro (bpT (C p) (W p) (H p) (C q) (W q) (H q) wb mg 8, what) (And.intro (show [Value.int (up2 I' 7 (nI p * 12 + nI q).toNatClampNeg (nI (bpT (C p) (W p) (H p) (C q) (W q) (H q) wb mg 8)) 7 (nI p * 12 + nI q).toNatClampNeg), .int (nI what)] = [.int (nI (bpT (C p) (W p) (H p) (C q) (W q) (H q) wb mg 8)), .int (nI what)] by rw [e7]) (And.intro ⟨by have := hbb.2; omega, hwt⟩ ?_))
      rw [← ec] at ff
      exact ff
  · refine And.intro ha (zz_rbest a2 a3 hsh hru (fun hn => hno hn) (fun p q hp hq hx hy _ => ⟨⟨_, rfl, rfl⟩, hrel⟩) (fun p' q' what' hp' hq' hx hy hwt' hw => ?_))
    subst hw
    rw [show wi (nI what') 0 3 = true from wi_in (nI_pos (by omega)) (nI_nlt (a := 3) (by omega) (by omega))] at w4
    cases w4
