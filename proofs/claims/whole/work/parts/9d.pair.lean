/-! pair -/
abbrev i_pair : ev := (7, 9, true, 1, 3, inl true 1 3 [i_shAt, e_within, e_turned, e_shInit, e_ppair, e_strip, e_ccount, i_ofL] false false kX9_pair 12)
theorem c_pair {l : Launch} : CX l cdX9_pair i_pair := cm_inl RX9 edX9_pair [i_shAt, e_within, e_turned, e_shInit, e_ppair, e_strip, e_ccount, i_ofL] false false kX9_pair cwX9_pair okX9_pair ⟨⟨_, rfl, c_shAt⟩, ⟨_, rfl, c_within⟩, ⟨_, rfl, c_turned⟩, ⟨_, rfl, c_shInit⟩, ⟨_, rfl, c_ppair⟩, ⟨_, rfl, c_strip⟩, ⟨_, rfl, c_ccount⟩, ⟨_, rfl, c_ofL⟩, trivial⟩ (by decide) rfl (fun h => Bool.noConfusion h)
/-- what the reference's layings rest on -/
theorem rA_of {a a' : hA} {I I' : hI} {J J' : hJ} {Q Q' : hQ} {n : Nat} {ks C W H : Nat → Nat} (h : rA a I J Q n ks C W H) (f : ∀ k, k = 31 ∨ k = 32 ∨ k = 33 ∨ k = 34 → I' k = I k) : I' 31 2 = nI n ∧ ∀ s, s < n → rsh I' s (C s) (W s) (H s) ∧ exS (C s) (W s) (H s) := by
  refine ⟨by rw [f 31 (by decide)]; exact h.2.1, fun s hs => ?_⟩
  obtain ⟨b1, b2, b3, b4⟩ := h.2.2.2 s hs
  exact ⟨rsh_of3 b3 (f 32 (by decide)) (f 33 (by decide)) (f 34 (by decide)), b4⟩
set_option maxRecDepth 20000 in
set_option maxHeartbeats 2000000 in
theorem o_pair (x y t dx dy what : Int32) : opI i_pair i_rpair [.ref 0, .int x, .int y, .int t, .int dx, .int dy, .int what] [.ref 31, .int x, .int y, .int t, .int dx, .int dy, .int what] := by
  intro a I J Q h
  obtain ⟨ha, hT, n, m, wb, mg, wl, ks, C, W, H, kp, S, X, Y, T, Kd, B, hA, -, -, ⟨⟨r1, r2, r3⟩, ⟨r4, r5, r6⟩, -⟩, -, -, -, mu⟩ := id h
  obtain ⟨a1, a2, a3, a4⟩ := id hA
  have hru : rulR I wb mg := ⟨⟨r2, r3⟩, r5, r6⟩
  have hsh : ∀ s, s < n → rsh I s (C s) (W s) (H s) ∧ exS (C s) (W s) (H s) := fun s hs => ⟨(a4 s hs).2.2.1, (a4 s hs).2.2.2⟩
  have hrel := relE_a (a.2.1 + 1) (a.2.2.1 + 3) h
  have hd : ∀ {p q p' q' : Nat}, p < n → q < n → p' < n → q' < n → nI p = nI p' → nI q = nI q' → p' = p ∧ q' = q := fun h1 h2 h3 h4 e1 e2 => ⟨((nI_eq (by omega) (by omega)).mp e1).symm, ((nI_eq (by omega) (by omega)).mp e2).symm⟩
  have h0 : (bw x (nI n) = false ∨ bw y (nI n) = false) → (60 ≤ a.1 ∧ i_rpair.2.2.2.2.2 [.ref 31, .int x, .int y, .int t, .int dx, .int dy, .int what] (a.1, a.2.1 + 1, a.2.2.1 + 3, a.2.2.2) I J Q (fun w a2 I2 J2 Q2 => (∃ x, some (Value.int (-1)) = some (.int x) ∧ w = some (.int x)) ∧ relE a2 I2 J2 Q2)) := fun hn => by
    have hno : ∀ {P : Prop} (p q : Nat), p < n → q < n → x = nI p → y = nI q → P := fun p q hp hq hx hy => by
      rw [hx, hy, bw_of a3 hp, bw_of a3 hq] at hn
      rcases hn with hn | hn <;> cases hn
    exact And.intro ha (zz_rpair a2 a3 hsh hru (fun _ => ⟨⟨_, rfl, rfl⟩, hrel⟩) (fun p q hp hq hx hy _ => hno p q hp hq hx hy) (fun p q _ _ _ _ hp hq hx hy => hno p q hp hq hx hy))
  have hq1 : ∀ s, s < n → Q 1 s = some (ks s) := fun s hs => (a4 s hs).1
  refine zz_shAt a1 a3 hq1 (fun r => zz_shAt a1 a3 hq1 (fun _ => h0 (Or.inl r)) (fun _ _ _ => h0 (Or.inl r))) (fun p hp hx => zz_shAt a1 a3 hq1 (fun r => h0 (Or.inr r)) (fun q hq hy => ?_))
  subst hx
  subst hy
  have hno : ∀ {P : Prop}, (bw (nI p) (nI n) = false ∨ bw (nI q) (nI n) = false) → P := fun hn => by
    rw [bw_of a3 hp, bw_of a3 hq] at hn
    rcases hn with hn | hn <;> cases hn
  have h2 : ¬ rng t dx dy what → (60 ≤ a.1 ∧ i_rpair.2.2.2.2.2 [.ref 31, .int (nI p), .int (nI q), .int t, .int dx, .int dy, .int what] (a.1, a.2.1 + 1, a.2.2.1 + 3, a.2.2.2) I J Q (fun w a2 I2 J2 Q2 => (∃ x, some (Value.int (-2)) = some (.int x) ∧ w = some (.int x)) ∧ relE a2 I2 J2 Q2)) := fun hn => by
    refine And.intro ha (zz_rpair a2 a3 hsh hru (fun hn => hno hn) (fun p q hp hq hx hy _ => ⟨⟨_, rfl, rfl⟩, hrel⟩) (fun p q t' dx' what' d hp hq hx hy k1 k2 k3 k4 k5 k6 k7 k8 => ?_))
    subst k5 k6 k7 k8
    refine absurd ⟨?_, ?_, ?_, ?_⟩ hn
    · exact wi_in (nI_pos (by omega)) (nI_nlt (a := 7) (by omega) (by omega))
    · exact wi_in (nI_pos (by omega)) (nI_nlt (a := 31) (by omega) (by omega))
    · unfold wi
      rw [decide_eq_true (show (-8 : Int32) ≤ zI d from (zI_le (a := -8) (by omega) (by omega) (by omega) (by omega)).mpr k3.1), decide_eq_true (show zI d ≤ (8 : Int32) from (zI_le (b := 8) (by omega) (by omega) (by omega) (by omega)).mpr k3.2)]
      rfl
    · exact wi_in (nI_pos (by omega)) (nI_nlt (a := 3) (by omega) (by omega))
  refine Exists.intro (t, 0, 7) (And.intro rfl (And.intro trivial (bI_cases' (wi t 0 7) (fun w1 => ?_) (fun w1 => h2 (fun hr => by rw [hr.1] at w1; cases w1)))))
  refine Exists.intro (dx, 0, 31) (And.intro rfl (And.intro trivial (bI_cases' (wi dx 0 31) (fun w2 => ?_) (fun w2 => h2 (fun hr => by rw [hr.2.1] at w2; cases w2)))))
  refine Exists.intro (dy, -8, 8) (And.intro rfl (And.intro trivial (bI_cases' (wi dy (-8) 8) (fun w3 => ?_) (fun w3 => h2 (fun hr => by rw [hr.2.2.1] at w3; cases w3)))))
  refine Exists.intro (what, 0, 3) (And.intro rfl (And.intro trivial (bI_cases (wi what 0 3) (fun w4 => ?_) (fun w4 => h2 (fun hr => by rw [hr.2.2.2] at w4; cases w4)))))
  clear h2 h0
  obtain ⟨t, ht, rfl⟩ := wi_nat (n := 7) (by decide) w1
  obtain ⟨dx, hdx, rfl⟩ := wi_nat (n := 31) (by decide) w2
  obtain ⟨d, hdd, rfl⟩ := wi_z8 w3
  obtain ⟨what, hwt, rfl⟩ := wi_nat (n := 3) (by decide) w4
  obtain ⟨b1, b2, b3, b4⟩ := a4 p hp
  obtain ⟨c1, c2, c3, c4⟩ := a4 q hq
  have hkp : ks p < a.1 := shw_lt ha b2
  have hkq : ks q < a.1 := shw_lt ha c2
  have hkp60 := ob7_big b2.1.1
  have hkq60 := ob7_big c2.1.1
  have htk := trn_ok c4 t
  have hcn := trn_corner c4 t
  have hhs := height_spec htk.1
  have hws := width_spec htk.1
  -- the new cell
  refine And.intro ⟨tX_big ha, fun j => qX_big ha j⟩ (And.intro (rok_of ⟨(show 0 < a.1 by omega), trivial, trivial, trivial, trivial, trivial, trivial, hkp, hkq, trivial⟩ (fun v hv => by cases hv)) (And.intro ⟨Nat.le_refl _, Nat.le_refl _⟩ ?_))
  have hob : isOb (hnew a 3 (7, 0)) a.1 7 := isOb_new ha
  have hnA : ∀ k, k < a.1 → (hnew a 3 (7, 0)).2.2.2 k = a.2.2.2 k := fun k hk => vup_ne (by omega)
  have hsq : shw (hnew a 3 (7, 0)) (va_up I a.1 (fun _ => 0)) (va_up J a.1 (fun _ => 0)) (ks q) (C q) (W q) (H q) := shw_g ha c2 (Nat.le_succ _) (hnA _ hkq) (vup_ne (by omega)) (vup_ne (by omega))
  refine vko hsq.1.1 rfl ?_
  refine Exists.intro (ks q, C q, W q, H q, t) (And.intro rfl (And.intro ⟨hsq, (show t < 8 by omega)⟩ ?_))
  refine Exists.intro (a.1, trn (C q) (W q) (H q) t) (And.intro rfl (And.intro ⟨hob, htk.1⟩ ?_))
  rintro v I2 J2 Q2 ⟨rfl, rfl, rfl, rfl⟩
  have hsk : shw (hnew a 3 (7, 0)) (up2 (up2 (va_up I a.1 (fun _ => 0)) a.1 1 (nI (widthN (cornerN (trn (C q) (W q) (H q) t))))) a.1 2 (nI (heightN (cornerN (trn (C q) (W q) (H q) t))))) (up2 (va_up J a.1 (fun _ => 0)) a.1 0 (lN (cornerN (trn (C q) (W q) (H q) t)))) a.1 (trn (C q) (W q) (H q) t) (widthN (trn (C q) (W q) (H q) t)) (heightN (trn (C q) (W q) (H q) t)) :=
    ⟨⟨hob, by rw [up2_at, hcn], htk.1⟩, by rw [up2_nej (by decide), up2_at, hcn], by rw [up2_at, hcn], fit_own htk.1, hws.1.1, hws.1.2, hhs.1.1, hhs.1.2⟩
  have hIa : ∀ k, k < a.1 → up2 (up2 (va_up I a.1 (fun _ => 0)) a.1 1 (nI (widthN (cornerN (trn (C q) (W q) (H q) t))))) a.1 2 (nI (heightN (cornerN (trn (C q) (W q) (H q) t)))) k = I k := fun k hk => by rw [up2_ne (by omega), up2_ne (by omega)]; exact vup_ne (by omega)
  have hJa : ∀ k, k < a.1 → up2 (va_up J a.1 (fun _ => 0)) a.1 0 (lN (cornerN (trn (C q) (W q) (H q) t))) k = J k := fun k hk => by rw [up2_ne (by omega)]; exact vup_ne (by omega)
  have hQa : ∀ k, k < a.1 → va_up Q a.1 (fun _ => none) k = Q k := fun k hk => vup_ne (by omega)
  revert hsk hIa hJa hQa
  generalize up2 (up2 (va_up I a.1 (fun _ => 0)) a.1 1 (nI (widthN (cornerN (trn (C q) (W q) (H q) t))))) a.1 2 (nI (heightN (cornerN (trn (C q) (W q) (H q) t)))) = I2
  generalize up2 (va_up J a.1 (fun _ => 0)) a.1 0 (lN (cornerN (trn (C q) (W q) (H q) t))) = J2
  generalize va_up Q a.1 (fun _ => none) = Q2
  intro hsk hIa hJa hQa
  have hsp : shw (hnew a 3 (7, 0)) I2 J2 (ks p) (C p) (W p) (H p) := shw_g ha b2 (Nat.le_succ _) (hnA _ hkp) (hIa _ hkp) (hJa _ hkp)
  have mu2 : mulOK J2 := fun p h1 h2 => by rw [hJa 10 (by omega)]; exact mu p h1 h2
  have e11 : I2 0 11 = nI wb := by rw [hIa 0 (by omega)]; exact r1
  refine Exists.intro ((ks p, C p, W p, H p), (a.1, trn (C q) (W q) (H q) t, widthN (trn (C q) (W q) (H q) t), heightN (trn (C q) (W q) (H q) t)), dx, d, wb) (And.intro (show [Value.ref 6, .ref (ks p), .ref a.1, .int (nI dx), .int (zI d), .int (I2 0 11)] = [.ref 6, .ref (ks p), .ref a.1, .int (nI dx), .int (zI d), .int (nI wb)] by rw [e11]) (And.intro ⟨hsp, hsk, hdx, hdd, r3, mu2⟩ ?_))
  rintro v I3 J3 Q3 ⟨rfl, rfl, rfl, hgr⟩
  have hgr : grown 9 I2 I3 (C p) wb := hgr
  have hI3 : ∀ k, k < a.1 → k ≠ 9 → I3 k = I k := fun k h1 h2 => by rw [hgr.1 k h2, hIa k h1]
  have hrel3 : relE (a.1 + 1, a.2.1 + 1, a.2.2.1 + 3, va_up a.2.2.2 a.1 (7, 0)) I3 J3 Q3 := relE_grow h (show a.1 ≤ a.1 + 1 by omega) (fun k hk => vup_ne (by omega)) hI3 hJa hQa
  obtain ⟨e31, hsh3⟩ := rA_of (a' := a) (J' := J) (Q' := Q) hA (fun k hk => hI3 k (by omega) (by omega))
  have hru3 : rulR I3 wb mg := by
    unfold rulR
    rw [hI3 37 (by omega) (by decide)]
    exact hru
  have hfin : ∀ I4 J4, fr I3 I4 [35, 36] → frJ J3 J4 [41, 42, 43] → relE (a.1 + 1, a.2.1 + 1, a.2.2.1 + 3, va_up a.2.2.2 a.1 (7, 0)) I4 J4 Q3 := fun I4 J4 f fj => relE_fr hrel3 ⟨fun k _ _ k3 => f k (by simp at k3 ⊢; omega), fun j _ _ => by rw [f 0 (by decide)], fun j _ => by rw [f 31 (by decide)]⟩ (fun k hk => fj k (by simp at hk ⊢; omega)) ⟨by rw [f 0 (by decide), f 31 (by decide)]; exact hrel3.2.1.1, by rw [f 0 (by decide), f 31 (by decide)]; exact hrel3.2.1.2⟩
  have hpb := pair_bit (dx := dx) (dy := d) (web := wb) b4.1 htk.1 (fit_own htk.1) hws.1.2 hhs.1.2 (show wb ≤ 4 by omega)
  have hPi := pair_pitch (dy := d) (dx := dx) b4.1 b4.2.1 b4.2.2.1.2 b4.2.2.2.1.2 htk.1 (fit_own htk.1) hws.1.2 hhs.1.2 r3 hdx
  have hP1 := (pitchN_le (selfN (C p) (W p) (H p) wb ||| selfN (trn (C q) (W q) (H q) t) (widthN (trn (C q) (W q) (H q) t)) (heightN (trn (C q) (W q) (H q) t)) wb ||| acrN (pairS (C p) (widthN (trn (C q) (W q) (H q) t)) (heightN (trn (C q) (W q) (H q) t)) (trn (C q) (W q) (H q) t) wb d) (mirN (pairS (C p) (widthN (trn (C q) (W q) (H q) t)) (heightN (trn (C q) (W q) (H q) t)) (trn (C q) (W q) (H q) t) wb d) 23) dx))
  by_cases hcl : clash (C p) (trn (C q) (W q) (H q) t) wb dx d
  · have hz : pairN (C p) (W p) (H p) (trn (C q) (W q) (H q) t) (widthN (trn (C q) (W q) (H q) t)) (heightN (trn (C q) (W q) (H q) t)) wb dx d = 0 := by
      unfold pairN
      rw [if_pos (hpb.mpr hcl)]
    have hz2 : nI (pairN (C p) (W p) (H p) (trn (C q) (W q) (H q) t) (widthN (trn (C q) (W q) (H q) t)) (heightN (trn (C q) (W q) (H q) t)) wb dx d) = 0 := by rw [hz]; rfl
    refine And.intro (fun (c : ¬ nI (pairN (C p) (W p) (H p) (trn (C q) (W q) (H q) t) (widthN (trn (C q) (W q) (H q) t)) (heightN (trn (C q) (W q) (H q) t)) wb dx d) = 0) => absurd hz2 c) (fun _ => ?_)
    refine And.intro (show 60 ≤ a.1 + 1 by omega) (zz_rpair e31 a3 hsh3 hru3 (fun hn => hno hn) (fun p' q' hp' hq' hx hy hn => absurd ⟨w1, w2, w3, w4⟩ hn) (fun p' q' t' dx' what' d' hp' hq' hx hy k1 k2 k3 k4 k5 k6 k7 k8 I4 J4 f fj => ?_))
    obtain ⟨rfl, rfl⟩ := hd hp hq hp' hq' hx hy
    obtain rfl := (nI_eq (by omega) (by omega)).mp k5
    obtain rfl := (nI_eq (by omega) (by omega)).mp k6
    have e7 : d = d' := by
      have := congrArg Int32.toInt k7
      rw [zI_toInt (by omega) (by omega), zI_toInt (by omega) (by omega)] at this
      exact this
    subst e7
    exact ⟨fun _ => ⟨⟨_, rfl, rfl⟩, hfin I4 J4 f fj⟩, fun k => absurd hcl k⟩
  · have hz : pairN (C p) (W p) (H p) (trn (C q) (W q) (H q) t) (widthN (trn (C q) (W q) (H q) t)) (heightN (trn (C q) (W q) (H q) t)) wb dx d = pitchN (selfN (C p) (W p) (H p) wb ||| selfN (trn (C q) (W q) (H q) t) (widthN (trn (C q) (W q) (H q) t)) (heightN (trn (C q) (W q) (H q) t)) wb ||| acrN (pairS (C p) (widthN (trn (C q) (W q) (H q) t)) (heightN (trn (C q) (W q) (H q) t)) (trn (C q) (W q) (H q) t) wb d) (mirN (pairS (C p) (widthN (trn (C q) (W q) (H q) t)) (heightN (trn (C q) (W q) (H q) t)) (trn (C q) (W q) (H q) t) wb d) 23) dx) := by
      unfold pairN
      rw [if_neg (fun e => hcl (hpb.mp e))]
    rw [← hz] at hPi hP1
    revert hPi hP1
    show _ → _ → _
    generalize hPN : pairN (C p) (W p) (H p) (trn (C q) (W q) (H q) t) (widthN (trn (C q) (W q) (H q) t)) (heightN (trn (C q) (W q) (H q) t)) wb dx d = PP
    intro hPi hP1
    have hnz : ¬ nI PP = 0 := fun e => by
      rw [show (0 : Int32) = nI 0 from rfl, nI_eq (by omega) (by decide)] at e
      omega
    refine And.intro (fun (_ : ¬ nI PP = 0) => ?_) (fun c => absurd c hnz)
    have hsp3 : shw (hnew a 3 (7, 0)) I3 J3 (ks p) (C p) (W p) (H p) := shw_of hsp (hgr.1 _ (by omega))
    have hsk3 : shw (hnew a 3 (7, 0)) I3 J3 a.1 (trn (C q) (W q) (H q) t) (widthN (trn (C q) (W q) (H q) t)) (heightN (trn (C q) (W q) (H q) t)) := shw_of hsk (hgr.1 _ (by omega))
    have e12 : I3 0 12 = nI mg := by rw [hI3 0 (by omega) (by decide)]; exact r4
    refine Exists.intro (ks p, a.1, H p, heightN (trn (C q) (W q) (H q) t), d, mg) (And.intro (show [Value.ref (ks p), .ref a.1, .int (zI d), .int (I3 0 12)] = [.ref (ks p), .ref a.1, .int (zI d), .int (nI mg)] by rw [e12]) (And.intro ⟨⟨hsp3.1.1, hsp3.2.2.1, b4.2.2.2.1.2⟩, ⟨hsk3.1.1, hsk3.2.2.1, hhs.1.2⟩, hdd, r6⟩ ?_))
    refine vko hsp3.1.1 rfl ?_
    refine Exists.intro (ks p, C p) (And.intro rfl (And.intro hsp3.1 ?_))
    refine vko hsk3.1.1 rfl ?_
    refine Exists.intro (a.1, trn (C q) (W q) (H q) t) (And.intro rfl (And.intro hsk3.1 ?_))
    refine Exists.intro (what, nI PP, zI (stripZ (H p) (heightN (trn (C q) (W q) (H q) t)) mg d), nI (popN (C p)) + nI (popN (trn (C q) (W q) (H q) t))) (And.intro rfl (And.intro hwt ?_))
    have hst := strip_bnd (d := d) b4.2.2.2.1.1 b4.2.2.2.1.2 hhs.1.1 hhs.1.2 r6 hdd
    obtain ⟨st, hst2⟩ : ∃ st : Nat, stripZ (H p) (heightN (trn (C q) (W q) (H q) t)) mg d = st := ⟨(stripZ (H p) (heightN (trn (C q) (W q) (H q) t)) mg d).toNat, by omega⟩
    have hstr : (7 + max (heightN (C p) : Int) (d + heightN (trn (C q) (W q) (H q) t))).toNat - (8 + min 0 d).toNat + 1 + 2 * mg = st := by
      have e1 := exS_h b4
      unfold stripZ at hst2
      rw [e1]
      have := b4.2.2.2.1
      omega
    have hp60 : isPitch (clF (FU (C p) (trn (C q) (W q) (H q) t) dx d) wb) 60 PP := by
      have h2 := pitch_60 (fun d' hd' => ucl_far (by omega) hdx hd') hPi
      exact ⟨h2.1, h2.2.1, fun k1 k k2 hk => h2.2.2.1 k1 k k2 ((clF_two b4.1 htk.1 hdd).mp hk), fun q q1 q2 => by
        obtain ⟨k, k1, k2⟩ := h2.2.2.2 q q1 q2
        exact ⟨k, k1, (clF_two b4.1 htk.1 hdd).mpr k2⟩⟩
    have key : (60 ≤ a.1 + 1 ∧ i_rpair.2.2.2.2.2 [.ref 31, .int (nI p), .int (nI q), .int (nI t), .int (nI dx), .int (zI d), .int (nI what)] (a.1 + 1, a.2.1 + 1, a.2.2.1 + 3, va_up a.2.2.2 a.1 (7, 0)) I3 J3 Q3 (fun w a2 I2 J2 Q2 => (∃ x, some (Value.int (tvN what PP st (popN (C p) + popN (C q)))) = some (.int x) ∧ w = some (.int x)) ∧ relE a2 I2 J2 Q2)) := by
      refine And.intro (show 60 ≤ a.1 + 1 by omega) (zz_rpair e31 a3 hsh3 hru3 (fun hn => hno hn) (fun p' q' hp' hq' hx hy hn => absurd ⟨w1, w2, w3, w4⟩ hn) (fun p' q' t' dx' what' d' hp' hq' hx hy k1 k2 k3 k4 k5 k6 k7 k8 I4 J4 f fj => ?_))
      obtain ⟨rfl, rfl⟩ := hd hp hq hp' hq' hx hy
      obtain rfl := (nI_eq (by omega) (by omega)).mp k5
      obtain rfl := (nI_eq (by omega) (by omega)).mp k6
      obtain rfl := (nI_eq (by omega) (by omega)).mp k8
      have e7 : d = d' := by
        have := congrArg Int32.toInt k7
        rw [zI_toInt (by omega) (by omega), zI_toInt (by omega) (by omega)] at this
        exact this
      subst e7
      refine ⟨fun k => absurd k hcl, fun _ v' hv => ⟨⟨_, rfl, ?_⟩, hfin I4 J4 f fj⟩⟩
      rw [hv PP hp60, hstr]
    rw [← ofV_tv, zI_nat st, ← hst2, ← trn_pop c4 t, ← nI_add] at key
    exact key
