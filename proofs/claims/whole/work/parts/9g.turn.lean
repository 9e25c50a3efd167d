/-! addShape; turn, shape -/
theorem aso {a : hA} {o k ci : Nat} {P : Prop} (h1 : cin 60 a o = true) (h2 : (tE tX a.2.2.2 o).1 = ci + 7) (ho : isOb a k ci) (h3 : Nat.blt 5 ci = true) (h4 : Nat.blt ci 9 = true) (p : P) : ck (cin 60 a o && cin 60 a k && Nat.beq ((tE tX a.2.2.2 k).1 + 7) (tE tX a.2.2.2 o).1 && Nat.blt 5 (tE tX a.2.2.2 k).1 && Nat.blt (tE tX a.2.2.2 k).1 9) P := by
  rw [h1, ho.1, ho.2, h2, Nat.beq_refl, h3, h4]
  exact p
abbrev x_asn : Type := Nat × Nat
abbrev e_asn : x_asn → List Value := fun x => [.ref 0, .long (lN x.1)]
theorem v_asn (n : Nat) (h : 3 ≤ n) (x : x_asn) : okv (e_asn x) ∧ (lvA (e_asn x)).length ≤ n := ⟨okv_ref (okv_long okv_nil), h⟩
/-- a shape was made and noted -/
def asP (a : hA) (I : hI) (J : hJ) (Q : hQ) (c n : Nat) (a' : hA) (I' : hI) (J' : hJ) (Q' : hQ) : Prop := a' = (a.1 + 1, a.2.1 + 1, a.2.2.1 + 3, va_up a.2.2.2 a.1 (7, 0)) ∧ (∀ k, k < a.1 → k ≠ 0 → I' k = I k) ∧ (∀ j, j ≠ 9 → I' 0 j = I 0 j) ∧ I' 0 9 = nI (n + 1) ∧ (∀ k, k < a.1 → J' k = J k) ∧ (∀ k, k < a.1 → k ≠ 1 → Q' k = Q k) ∧ (∀ j, j ≠ n → Q' 1 j = Q 1 j) ∧ Q' 1 n = some a.1 ∧ J' a.1 0 = lN (cornerN c) ∧ I' a.1 1 = nI (widthN (cornerN c)) ∧ I' a.1 2 = nI (heightN (cornerN c))
def e_addS9 : ev := (2, 9, true, 1, 3, sp e_asn (fun x _ I _ _ => x.1 < 2 ^ 64 ∧ I 0 9 = nI x.2 ∧ x.2 ≤ 12) (fun x a I J Q v a' I' J' Q' => (x.2 = 12 → v = some (.int (-4)) ∧ a' = (a.1, a.2.1 + 1, a.2.2.1 + 3, a.2.2.2) ∧ I' = I ∧ J' = J ∧ Q' = Q) ∧ (x.2 ≠ 12 → v = some (.int (nI x.2)) ∧ asP a I J Q x.1 x.2 a' I' J' Q')))
set_option maxRecDepth 20000 in
theorem c_addS9 {l : Launch} : CX l cdX9_addShape e_addS9 := by
  refine cm_sp RX9 edX9_addShape [e_shInit] false kX9_addShape cwX9_addShape okX9_addShape ⟨⟨_, rfl, c_shInit⟩, trivial⟩ (by decide) rfl (v_asn _ (by decide)) ?_
  intro G Rt ⟨c, n⟩ a I J Q cl hb hp hR
  obtain ⟨hc, h9, hn⟩ := hp
  have hc : c < 2 ^ 64 := hc
  have h9 : I 0 9 = nI n := h9
  have hn : n ≤ 12 := hn
  have hb : 60 ≤ a.1 := hb
  have hR : ∀ v a' I' J' Q', ((n = 12 → v = some (Value.int (-4)) ∧ (a'.1, a.2.1 + 1, a.2.2.1 + 3, a'.2.2.2) = (a.1, a.2.1 + 1, a.2.2.1 + 3, a.2.2.2) ∧ I' = I ∧ J' = J ∧ Q' = Q) ∧ (n ≠ 12 → v = some (Value.int (nI n)) ∧ asP a I J Q c n (a'.1, a.2.1 + 1, a.2.2.1 + 3, a'.2.2.2) I' J' Q')) → Rt v a' I' J' Q' := hR
  refine cl [] 60 0 _ _ _ _ _ _ ?_
  refine And.intro (fun (k : I 0 9 < 12) => ?_) (fun (k : ¬ I 0 9 < 12) => ?_)
  · rw [h9] at k
    have hn12 : n < 12 := (nI_ltI (b := 12) (by omega) (by decide)).mp k
    refine And.intro ⟨tX_big hb, fun j => qX_big hb j⟩ (And.intro (rok_of ⟨(show 0 < a.1 by omega), trivial, trivial⟩ (fun v hv => ?_)) (And.intro ⟨Nat.le_refl _, Nat.le_refl _⟩ ?_))
    · rcases List.mem_cons.mp hv with rfl | hv
      · trivial
      · rcases List.mem_cons.mp hv with rfl | hv
        · show 1 < a.1
          omega
        · cases hv
    have hob : isOb (hnew a 3 (7, 0)) a.1 7 := isOb_new hb
    refine Exists.intro (a.1, c) (And.intro rfl (And.intro ⟨hob, hc⟩ ?_))
    rintro v I2 J2 Q2 ⟨rfl, rfl, rfl, rfl⟩
    refine aso (o := 1) rfl rfl hob rfl rfl ?_
    refine And.intro (show vp_in (I 0 9) 12 by rw [h9]; exact vp_in_nI hn12 (by decide)) (And.intro rfl ?_)
    have hIa : ∀ k, k < a.1 → up2 (up2 (va_up I a.1 (fun _ => 0)) a.1 1 (nI (widthN (cornerN c)))) a.1 2 (nI (heightN (cornerN c))) k = I k := fun k hk => by rw [up2_ne (by omega), up2_ne (by omega)]; exact vup_ne (by omega)
    have hJa : ∀ k, k < a.1 → up2 (va_up J a.1 (fun _ => 0)) a.1 0 (lN (cornerN c)) k = J k := fun k hk => by rw [up2_ne (by omega)]; exact vup_ne (by omega)
    have hQa : ∀ k, k < a.1 → va_up Q a.1 (fun _ => none) k = Q k := fun k hk => vup_ne (by omega)
    have ec : (I 0 9).toNatClampNeg = n := by rw [h9]; exact nI_clamp (by omega)
    have e09 : up2 (up2 (va_up I a.1 (fun _ => 0)) a.1 1 (nI (widthN (cornerN c)))) a.1 2 (nI (heightN (cornerN c))) 0 9 = nI n := by rw [hIa 0 (by omega)]; exact h9
    have := hR (some (.int (up2 (up2 (va_up I a.1 (fun _ => 0)) a.1 1 (nI (widthN (cornerN c)))) a.1 2 (nI (heightN (cornerN c))) 0 9))) (hnew a 3 (7, 0)) (up2 (up2 (up2 (va_up I a.1 (fun _ => 0)) a.1 1 (nI (widthN (cornerN c)))) a.1 2 (nI (heightN (cornerN c)))) 0 9 (up2 (up2 (va_up I a.1 (fun _ => 0)) a.1 1 (nI (widthN (cornerN c)))) a.1 2 (nI (heightN (cornerN c))) 0 9 + 1)) (up2 (va_up J a.1 (fun _ => 0)) a.1 0 (lN (cornerN c))) (up2 (va_up Q a.1 (fun _ => none)) 1 (I 0 9).toNatClampNeg (some a.1)) ⟨fun e => by omega, fun _ => ⟨by rw [e09], rfl, fun k k1 k2 => by rw [up2_ne k2, hIa k k1], fun j hj => by rw [up2_nej hj, hIa 0 (by omega)], by rw [up2_at, e09, nI_1], hJa, fun k k1 k2 => by rw [up2_ne k2, hQa k k1], fun j hj => by rw [ec, up2_nej hj, hQa 1 (by omega)], by rw [ec, up2_at], by rw [up2_at], by rw [up2_ne (by omega), up2_nej (by decide), up2_at], by rw [up2_ne (by omega), up2_at]⟩⟩
    exact this
  · rw [h9] at k
    have hn12 : n = 12 := by
      have : ¬ n < 12 := fun h => k ((nI_ltI (b := 12) (by omega) (by decide)).mpr h)
      omega
    exact hR _ _ _ _ _ ⟨fun _ => ⟨rfl, rfl, rfl, rfl, rfl⟩, fun e => absurd hn12 e⟩
/-- the shape came on both sides -/
theorem rel_add {a a' : hA} {I I1 I2 : hI} {J J1 : hJ} {Q Q1 : hQ} {n m wb mg wl c : Nat} {ks C W H kp S X Y T Kd B : Nat → Nat} (ha : 60 ≤ a.1) (hr : rel a I J Q n m wb mg wl ks C W H kp S X Y T Kd B) (hn : n < 12) (hc : c < 2 ^ 64) (h0 : c ≠ 0) (has : asP a I J Q c n a' I1 J1 Q1) (f : ∀ k, k ∉ [31, 32, 33, 34, 35, 36] → I2 k = I1 k) (g31 : ∀ j, j ≠ 0 → j ≠ 2 → I2 31 j = I1 31 j) (b2 : I2 31 2 = nI (n + 1)) (g32 : ∀ i, i < 8 * n → I2 32 i = I1 32 i) (g33 : ∀ i, i ≠ n → I2 33 i = I1 33 i) (g34 : ∀ i, i ≠ n → I2 34 i = I1 34 i) (b5 : rwA I2 32 (8 * n) (cornerN c)) (b6 : I2 33 n = nI (widthN (cornerN c))) (b7 : I2 34 n = nI (heightN (cornerN c))) (hT : rT I2) : relE a' I2 J1 Q1 := by
  obtain ⟨rfl, s1, s2, s3, s4, s5, s6, s7, s8, s9, s10⟩ := has
  have hcl := corner_lt hc
  have hex := exS_of hcl (corner_cor hc h0)
  have hob : isOb (a.1 + 1, a.2.1 + 1, a.2.2.1 + 3, va_up a.2.2.2 a.1 (7, 0)) a.1 7 := isOb_new (n := 3) ha
  have fa : I2 a.1 = I1 a.1 := f a.1 (by simp; omega)
  refine rel_shape (kk := a.1) (c := cornerN c) (w := widthN (cornerN c)) (h := heightN (cornerN c)) ha hT hr hn (show a.1 ≤ a.1 + 1 by omega) (fun k hk => vup_ne (by omega)) (fun k k1 k2 => ?_) (fun j j1 _ _ => by rw [f 0 (by decide)]; exact s2 j j1) (fun j hj => by rw [g31 j (by omega) (by omega), s1 31 (by omega) (by decide)]) (fun i hi => by rw [g32 i hi, s1 32 (by omega) (by decide)]) (fun i hi => by rw [g33 i (by omega), s1 33 (by omega) (by decide)]) (fun i hi => by rw [g34 i (by omega), s1 34 (by omega) (by decide)]) s4 s5 (fun j hj => s6 j (by omega)) (by rw [f 0 (by decide)]; exact s3) b2 s7 ⟨⟨hob, s8, hcl⟩, by rw [fa]; exact s9, by rw [fa]; exact s10, fit_own hcl, hex.2.2.1.1, hex.2.2.1.2, hex.2.2.2.1.1, hex.2.2.2.1.2⟩ ⟨hn, hcl, b5, b6, b7, fit_own hcl, hex.2.2.1, hex.2.2.2.1⟩ hex
  simp at k2
  rw [f k (by simp; omega), s1 k k1 (by omega)]
abbrev i_turn : ev := (3, 9, true, 1, 3, inl true 1 3 [i_shAt, e_within, e_turned, e_addS9] false false kX9_turn 4)
theorem c_turn {l : Launch} : CX l cdX9_turn i_turn := cm_inl RX9 edX9_turn [i_shAt, e_within, e_turned, e_addS9] false false kX9_turn cwX9_turn okX9_turn ⟨⟨_, rfl, c_shAt⟩, ⟨_, rfl, c_within⟩, ⟨_, rfl, c_turned⟩, ⟨_, rfl, c_addS9⟩, trivial⟩ (by decide) rfl (fun h => Bool.noConfusion h)
abbrev i_rturn : ev := (3, 10, false, 0, 0, inl false 0 0 [e_isShape, e_within, e_turnOf, e_comes] false false kX10_turn 3)
theorem c_rturn {l : Launch} : CX l cdX10_turn i_rturn := cm_inl RX10 edX10_turn [e_isShape, e_within, e_turnOf, e_comes] false false kX10_turn cwX10_turn okX10_turn ⟨⟨_, rfl, c_isShape⟩, ⟨_, rfl, c_rwithin⟩, ⟨_, rfl, c_turnOf⟩, ⟨_, rfl, c_comes⟩, trivial⟩ (by decide) rfl (fun h => Bool.noConfusion h)
set_option maxRecDepth 20000 in
theorem zz_rturn {x t : Int32} {n : Nat} {C W H : Nat → Nat} {a : hA} {I : hI} {J : hJ} {Q : hQ} {K : hR} (hn : I 31 2 = nI n) (hn12 : n ≤ 12) (hsh : ∀ s, s < n → rsh I s (C s) (W s) (H s) ∧ exS (C s) (W s) (H s)) (h0 : bw x (nI n) = false → K (some (.int (-1))) a I J Q) (h2 : ∀ p, p < n → x = nI p → wi t 0 7 = false → K (some (.int (-2))) a I J Q) (h3 : ∀ p t', p < n → x = nI p → t' < 8 → t = nI t' → (n = 12 → K (some (.int (-4))) a I J Q) ∧ (n ≠ 12 → ∀ I3 I', fr I I3 [35, 36] → rAdd I3 I' (trn (C p) (W p) (H p) t') n → K (some (.int (nI n))) a I' J Q)) : i_rturn.2.2.2.2.2 [.ref 31, .int x, .int t] a I J Q K := by
  refine Exists.intro x (And.intro rfl (And.intro trivial (bI_cases (bw x (I 31 2)) (fun r1 => ?_) (fun r1 => h0 (by rw [hn] at r1; exact r1)))))
  rw [hn] at r1
  obtain ⟨p, hp, rfl⟩ := bw_nat hn12 r1
  refine Exists.intro (t, 0, 7) (And.intro rfl (And.intro trivial (bI_cases (wi t 0 7) (fun w1 => ?_) (fun w1 => h2 p hp rfl w1))))
  obtain ⟨t', ht, rfl⟩ := wi_nat (n := 7) (by decide) w1
  obtain ⟨g1, g2⟩ := h3 p t' hp rfl (by omega) rfl
  obtain ⟨sp, ep⟩ := hsh p hp
  have htk := trn_ok ep t'
  refine And.intro (fun (c : ¬ I 31 2 = 12) => ?_) (fun (c : I 31 2 = 12) => ?_)
  · have hnn : n ≠ 12 := fun e => c (by rw [hn, e]; rfl)
    refine Exists.intro (p, t', C p, W p, H p) (And.intro rfl (And.intro ⟨sp, (show t' < 8 by omega)⟩ ?_))
    rintro v I1 J1 Q1 ⟨rfl, rfl, rfl, f1, hrw⟩
    have f1 : fr I I1 [35, 36] := f1
    refine Exists.intro (trn (C p) (W p) (H p) t', n) (And.intro rfl (And.intro ⟨htk.1, cor_ne htk.2, hrw, by rw [f1 31 (by decide)]; exact hn, (show n < 12 by omega)⟩ ?_))
    rintro v I2 J2 Q2 ⟨rfl, rfl, rfl, hadd⟩
    exact g2 hnn I1 I2 f1 hadd
  · rw [hn] at c
    exact g1 ((nI_eq (b := 12) (by omega) (by decide)).mp c)
set_option maxRecDepth 20000 in
theorem o_turn (x t : Int32) : opI i_turn i_rturn [.ref 0, .int x, .int t] [.ref 31, .int x, .int t] := by
  intro a I J Q h
  obtain ⟨ha, hT, n, m, wb, mg, wl, ks, C, W, H, kp, S, X, Y, T, Kd, B, hr⟩ := id h
  obtain ⟨a1, a2, a3, a4⟩ := hr.1
  have hsh : ∀ s, s < n → rsh I s (C s) (W s) (H s) ∧ exS (C s) (W s) (H s) := fun s hs => ⟨(a4 s hs).2.2.1, (a4 s hs).2.2.2⟩
  have hrel := relE_a (a.2.1 + 1) (a.2.2.1 + 3) h
  refine zz_shAt a1 a3 (fun s hs => (a4 s hs).1) (fun r => ?_) (fun p hp hx => ?_)
  · refine And.intro ha (zz_rturn a2 a3 hsh (fun _ => ⟨⟨_, rfl, rfl⟩, hrel⟩) (fun p hp hx _ => ?_) (fun p t' hp hx _ _ => ?_))
    · rw [hx, bw_of a3 hp] at r; cases r
    · rw [hx, bw_of a3 hp] at r; cases r
  · subst hx
    obtain ⟨b1, b2, b3, b4⟩ := a4 p hp
    have hkp : ks p < a.1 := shw_lt ha b2
    have hno : ∀ {P : Prop}, bw (nI p) (nI n) = false → P := fun r => by rw [bw_of a3 hp] at r; cases r
    have hpp : ∀ q, q < n → nI p = nI q → q = p := fun q hq e => ((nI_eq (by omega) (by omega)).mp e).symm
    refine Exists.intro (t, 0, 7) (And.intro rfl (And.intro trivial (bI_cases' (wi t 0 7) (fun w1 => ?_) (fun w1 => ?_))))
    · obtain ⟨t, ht, rfl⟩ := wi_nat (n := 7) (by decide) w1
      have htk := trn_ok b4 t
      have hcn := trn_corner b4 t
      refine vko b2.1.1 rfl ?_
      refine Exists.intro (ks p, C p, W p, H p, t) (And.intro rfl (And.intro ⟨b2, (show t < 8 by omega)⟩ ?_))
      refine mko rfl rfl rfl (And.intro (rok_of ⟨(show 0 < a.1 by omega), trivial, trivial, hkp, trivial⟩ (fun v hv => by cases hv)) ?_)
      refine Exists.intro (trn (C p) (W p) (H p) t, n) (And.intro rfl (And.intro ⟨htk.1, a1, a3⟩ ?_))
      rintro v a' I1 J1 Q1 ⟨hz1, hz2⟩
      have hz1 : n = 12 → v = some (Value.int (-4)) ∧ a' = (a.1, a.2.1 + 1, a.2.2.1 + 3, a.2.2.2) ∧ I1 = I ∧ J1 = J ∧ Q1 = Q := hz1
      have hz2 : n ≠ 12 → v = some (Value.int (nI n)) ∧ asP a I J Q (trn (C p) (W p) (H p) t) n a' I1 J1 Q1 := hz2
      by_cases hn12 : n = 12
      · obtain ⟨rfl, rfl, rfl, rfl, rfl⟩ := hz1 hn12
        refine And.intro ha (zz_rturn a2 a3 hsh (fun r => hno r) (fun q hq hx k => by rw [w1] at k; cases k) (fun q t' hq hx _ _ => ⟨fun _ => ⟨⟨_, rfl, rfl⟩, hrel⟩, fun k => absurd hn12 k⟩))
      · obtain ⟨rfl, has⟩ := hz2 hn12
        obtain ⟨rfl, s1, s2, s3, s4, s5, s6, s7, s8, s9, s10⟩ := id has
        have e2 : I1 31 2 = nI n := by rw [s1 31 (by omega) (by decide)]; exact a2
        have hsh1 : ∀ s, s < n → rsh I1 s (C s) (W s) (H s) ∧ exS (C s) (W s) (H s) := fun s hs => ⟨rsh_of3 (hsh s hs).1 (s1 32 (by omega) (by decide)) (s1 33 (by omega) (by decide)) (s1 34 (by omega) (by decide)), (hsh s hs).2⟩
        refine And.intro (show 60 ≤ a.1 + 1 by omega) (zz_rturn e2 a3 hsh1 (fun r => hno r) (fun q hq hx k => by rw [w1] at k; cases k) (fun q t' hq hx ht' htt => ⟨fun k => absurd k hn12, fun _ I3 I' f1 hadd => ⟨⟨_, rfl, rfl⟩, ?_⟩⟩))
        obtain rfl := hpp q hq hx
        obtain rfl := (nI_eq (by omega) (by omega)).mp htt
        obtain ⟨d1, d2, d3, d4, d5, d6, d7, d8, d9⟩ := hadd
        have d1 : fr I3 I' [31, 32, 33, 34, 36] := d1
        refine rel_add ha hr (show n < 12 by omega) htk.1 (cor_ne htk.2) has (fun k hk => by rw [d1 k (by simp at hk ⊢; omega), f1 k (by simp at hk ⊢; omega)]) (fun j _ j2 => by rw [d2 j j2, f1 31 (by decide)]) d3 (fun i hi => by rw [d4 i (Or.inl hi), f1 32 (by decide)]) (fun i hi => by rw [d6 i hi, f1 33 (by decide)]) (fun i hi => by rw [d8 i hi, f1 34 (by decide)]) d5 d7 d9 ⟨?_, ?_⟩
        · rw [d1 0 (by decide), f1 0 (by decide), s2 14 (by decide), d2 1 (by decide), f1 31 (by decide), s1 31 (by omega) (by decide)]; exact hT.1
        · rw [d1 0 (by decide), f1 0 (by decide), s2 15 (by decide), d2 0 (by decide), f1 31 (by decide), s1 31 (by omega) (by decide)]; exact hT.2
    · refine And.intro ha (zz_rturn a2 a3 hsh (fun r => hno r) (fun q hq hx k => ⟨⟨_, rfl, rfl⟩, hrel⟩) (fun q t' hq hx ht' htt => ?_))
      rw [htt, show wi (nI t') 0 7 = true from wi_in (nI_pos (by omega)) (nI_nlt (a := 7) (by omega) (by omega))] at w1
      cases w1
