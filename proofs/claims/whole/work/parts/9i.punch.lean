/-! punch -/
theorem pkr {a : hA} {k ci kf : Nat} {b b2 : Bool} {P : Prop} (ho : isOb a k ci) (hb : b = true) (hq : b2 = true) (hv : cin 60 a kf = true) (p : P) : ck (cin 60 a k && Nat.beq (tE tX a.2.2.2 k).1 ci && b && b2 && cin 60 a kf) P := by
  rw [hb, hq, hv, ho.1, ho.2, Nat.beq_refl]
  exact p
abbrev x_pi : Type := Nat × (Int32 × Int32) × Nat × Int32 × Int32 × Int32
abbrev e_pi : x_pi → List Value := fun x => [.ref x.1, .int x.2.1.1, .int x.2.1.2, .ref x.2.2.1, .int x.2.2.2.1, .int x.2.2.2.2.1, .int x.2.2.2.2.2]
theorem v_pi (n : Nat) (h : 7 ≤ n) (x : x_pi) : okv (e_pi x) ∧ (lvA (e_pi x)).length ≤ n := ⟨okv_ref (okv_int (okv_int (okv_ref (okv_int (okv_int (okv_int okv_nil)))))), h⟩
def e_pInit : ev := (7, 99, false, 0, 0, sn e_pi (fun x a _ _ _ => isOb a x.1 6 ∧ 60 ≤ x.1 ∧ cin 60 a x.2.2.1 = true) (fun x _ I J Q v I' J' Q' => v = none ∧ J' = J ∧ I' = up2 (up2 (up2 (up2 (up2 I x.1 0 x.2.1.1) x.1 1 x.2.1.2) x.1 2 x.2.2.2.1) x.1 3 x.2.2.2.2.1) x.1 4 x.2.2.2.2.2 ∧ Q' = up2 Q x.1 5 (some x.2.2.1)))
set_option maxRecDepth 20000 in
theorem c_pInit {l : Launch} : CX l cdX6_init e_pInit := by
  refine cm_sni RX6 edX6_init [] false kX6_init cwX6_init okX6_init trivial (by decide) rfl rfl (v_pi _ (by decide)) ?_
  intro um zm G Rt ⟨k, ⟨kind, s⟩, kf, x, y, th⟩ a I J Q cl hb hp hR
  have ho : isOb a k 6 := hp.1
  have hk : 60 ≤ k := hp.2.1
  have hv : cin 60 a kf = true := hp.2.2
  refine cl [] 80 0 _ _ _ _ _ _ ?_
  refine pko ho rfl (pko ho rfl (pkr ho rfl (by show (qX k 5).isNone = true; rw [qX_big hk]; rfl) hv (pko ho rfl (pko ho rfl (pko ho rfl ?_)))))
  exact hR _ _ _ _ ⟨rfl, rfl, rfl, rfl⟩
def prm (kind x y th : Int32) : Prop := wi kind 0 2 = true ∧ wi x 0 60 = true ∧ wi y 0 20 = true ∧ wi th 1 20 = true
abbrev i_punch : ev := (6, 9, true, 1, 6, inl true 1 6 [i_shAt, e_within, e_pInit] false false kX9_punch 7)
theorem c_punch {l : Launch} : CX l cdX9_punch i_punch := cm_inl RX9 edX9_punch [i_shAt, e_within, e_pInit] false false kX9_punch cwX9_punch okX9_punch ⟨⟨_, rfl, c_shAt⟩, ⟨_, rfl, c_within⟩, ⟨_, rfl, c_pInit⟩, trivial⟩ (by decide) rfl (fun h => Bool.noConfusion h)
abbrev i_rpunch : ev := (6, 10, false, 0, 0, inl false 0 0 [e_isShape, e_within] false false kX10_punch 6)
theorem c_rpunch {l : Launch} : CX l cdX10_punch i_rpunch := cm_inl RX10 edX10_punch [e_isShape, e_within] false false kX10_punch cwX10_punch okX10_punch ⟨⟨_, rfl, c_isShape⟩, ⟨_, rfl, c_rwithin⟩, trivial⟩ (by decide) rfl (fun h => Bool.noConfusion h)
/-- the reference's punch came -/
def rpA (I I' : hI) (m : Nat) (kind s x y th : Int32) : Prop := (∀ k, k ∉ [31, 44, 45, 46, 47, 48] → I' k = I k) ∧ (∀ j, j ≠ 19 → I' 31 j = I 31 j) ∧ I' 31 19 = nI (m + 1) ∧ (∀ k i, 44 ≤ k → k ≤ 48 → i ≠ m → I' k i = I k i) ∧ I' 44 m = kind ∧ I' 45 m = s ∧ I' 46 m = x ∧ I' 47 m = y ∧ I' 48 m = th
set_option maxRecDepth 20000 in
theorem zz_rpunch {kind s x y th : Int32} {n m : Nat} {a : hA} {I : hI} {J : hJ} {Q : hQ} {K : hR} (hn : I 31 2 = nI n) (hn12 : n ≤ 12) (hm : I 31 19 = nI m) (hm10 : m ≤ 10) (h0 : bw s (nI n) = false → K (some (.int (-1))) a I J Q) (h2 : ∀ p, p < n → s = nI p → ¬ prm kind x y th → K (some (.int (-2))) a I J Q) (h3 : ∀ p, p < n → s = nI p → prm kind x y th → (m = 10 → K (some (.int (-4))) a I J Q) ∧ (m ≠ 10 → ∀ I', rpA I I' m kind s x y th → K (some (.int (nI m))) a I' J Q)) : i_rpunch.2.2.2.2.2 [.ref 31, .int kind, .int s, .int x, .int y, .int th] a I J Q K := by
  refine Exists.intro s (And.intro rfl (And.intro trivial (bI_cases (bw s (I 31 2)) (fun r1 => ?_) (fun r1 => h0 (by rw [hn] at r1; exact r1)))))
  rw [hn] at r1
  obtain ⟨p, hp, hs⟩ := bw_nat hn12 r1
  have h2 := h2 p hp hs
  have h3 := h3 p hp hs
  refine Exists.intro (kind, 0, 2) (And.intro rfl (And.intro trivial (bI_cases' (wi kind 0 2) (fun w1 => ?_) (fun w1 => h2 (fun hr => by rw [hr.1] at w1; cases w1)))))
  refine Exists.intro (x, 0, 60) (And.intro rfl (And.intro trivial (bI_cases' (wi x 0 60) (fun w2 => ?_) (fun w2 => h2 (fun hr => by rw [hr.2.1] at w2; cases w2)))))
  refine Exists.intro (y, 0, 20) (And.intro rfl (And.intro trivial (bI_cases' (wi y 0 20) (fun w3 => ?_) (fun w3 => h2 (fun hr => by rw [hr.2.2.1] at w3; cases w3)))))
  refine Exists.intro (th, 1, 20) (And.intro rfl (And.intro trivial (bI_cases (wi th 1 20) (fun w4 => ?_) (fun w4 => h2 (fun hr => by rw [hr.2.2.2] at w4; cases w4)))))
  obtain ⟨g1, g2⟩ := h3 ⟨w1, w2, w3, w4⟩
  refine And.intro (fun (c : ¬ I 31 19 = 10) => ?_) (fun (c : I 31 19 = 10) => ?_)
  · have hmm : m ≠ 10 := fun e => c (by rw [hm, e]; rfl)
    have hin : ∀ v : Int32, v = nI m → vp_in v 10 := fun v hv => by rw [hv]; exact vp_in_nI (by omega) (by decide)
    have ecm : (nI m).toNatClampNeg = m := nI_clamp (by omega)
    refine And.intro (hin (I 31 19) hm) (And.intro (hin (up2 I 44 _ _ 31 19) (by rw [up2_ne (by decide)]; exact hm)) (And.intro (hin (up2 (up2 I 44 _ _) 45 _ _ 31 19) (by rw [up2_ne (by decide), up2_ne (by decide)]; exact hm)) (And.intro (hin (up2 (up2 (up2 I 44 _ _) 45 _ _) 46 _ _ 31 19) (by rw [up2_ne (by decide), up2_ne (by decide), up2_ne (by decide)]; exact hm)) (And.intro (hin (up2 (up2 (up2 (up2 I 44 _ _) 45 _ _) 46 _ _) 47 _ _ 31 19) (by rw [up2_ne (by decide), up2_ne (by decide), up2_ne (by decide), up2_ne (by decide)]; exact hm)) ?_))))
    have g3 : ∀ (i1 i2 i3 i4 i5 : Nat) (v w : Int32), i1 = m → i2 = m → i3 = m → i4 = m → i5 = m → v = nI (m + 1) → w = nI m → K (some (.int w)) a (up2 (up2 (up2 (up2 (up2 (up2 I 44 i1 kind) 45 i2 s) 46 i3 x) 47 i4 y) 48 i5 th) 31 19 v) J Q := fun i1 i2 i3 i4 i5 v w e1 e2 e3 e4 e5 e6 e7 => by
      subst e1 e2 e3 e4 e5 e6 e7
      refine g2 hmm _ ⟨fun k hk => ?_, fun j hj => ?_, up2_at, fun k i k1 k2 hi => ?_, ?_, ?_, ?_, ?_, ?_⟩
      · simp at hk
        rw [up2_ne (by omega), up2_ne (by omega), up2_ne (by omega), up2_ne (by omega), up2_ne (by omega), up2_ne (by omega)]
      · rw [up2_nej hj, up2_ne (by decide), up2_ne (by decide), up2_ne (by decide), up2_ne (by decide), up2_ne (by decide)]
      · rw [up2_ne (by omega), up2_nej hi, up2_nej hi, up2_nej hi, up2_nej hi, up2_nej hi]
      · rw [up2_ne (by decide), up2_ne (by decide), up2_ne (by decide), up2_ne (by decide), up2_ne (by decide), up2_at]
      · rw [up2_ne (by decide), up2_ne (by decide), up2_ne (by decide), up2_ne (by decide), up2_at]
      · rw [up2_ne (by decide), up2_ne (by decide), up2_ne (by decide), up2_at]
      · rw [up2_ne (by decide), up2_ne (by decide), up2_at]
      · rw [up2_ne (by decide), up2_at]
    refine g3 _ _ _ _ _ _ _ (by rw [hm]; exact ecm) (by rw [up2_ne (by decide), hm]; exact ecm) (by rw [up2_ne (by decide), up2_ne (by decide), hm]; exact ecm) (by rw [up2_ne (by decide), up2_ne (by decide), up2_ne (by decide), hm]; exact ecm) (by rw [up2_ne (by decide), up2_ne (by decide), up2_ne (by decide), up2_ne (by decide), hm]; exact ecm) (by rw [up2_ne (by decide), up2_ne (by decide), up2_ne (by decide), up2_ne (by decide), up2_ne (by decide), hm, nI_1]) ?_
    rw [up2_at, up2_ne (by decide), up2_ne (by decide), up2_ne (by decide), up2_ne (by decide), up2_ne (by decide), hm, nI_1, nI_pred]
  · rw [hm] at c
    exact g1 ((nI_eq (b := 10) (by omega) (by decide)).mp c)
set_option maxRecDepth 20000 in
set_option maxHeartbeats 2000000 in
theorem o_punch (kind s x y th : Int32) : opI i_punch i_rpunch [.ref 0, .int kind, .int s, .int x, .int y, .int th] [.ref 31, .int kind, .int s, .int x, .int y, .int th] := by
  intro a I J Q h
  obtain ⟨ha, hT, n, m, wb, mg, wl, ks, C, W, H, kp, S, X, Y, T, Kd, B, hr⟩ := id h
  obtain ⟨a1, a2, a3, a4⟩ := hr.1
  have p1 := hr.2.1.1.1
  have p2 := hr.2.1.1.2.1
  have p4 := hr.2.1.2.1
  have hrel := relE_a (a.2.1 + 1) (a.2.2.1 + 6) h
  refine zz_shAt a1 a3 (fun s hs => (a4 s hs).1) (fun r => ?_) (fun p hp hx => ?_)
  · refine And.intro ha (zz_rpunch a2 a3 p4 p2 (fun _ => ⟨⟨_, rfl, rfl⟩, hrel⟩) (fun p hp hx _ => ?_) (fun p hp hx _ => ?_))
    · rw [hx, bw_of a3 hp] at r; cases r
    · rw [hx, bw_of a3 hp] at r; cases r
  · subst hx
    have hno : ∀ {P : Prop}, bw (nI p) (nI n) = false → P := fun r => by rw [bw_of a3 hp] at r; cases r
    have h2 : ¬ prm kind x y th → (60 ≤ a.1 ∧ i_rpunch.2.2.2.2.2 [.ref 31, .int kind, .int (nI p), .int x, .int y, .int th] (a.1, a.2.1 + 1, a.2.2.1 + 6, a.2.2.2) I J Q (fun w a2 I2 J2 Q2 => (∃ x, some (Value.int (-2)) = some (.int x) ∧ w = some (.int x)) ∧ relE a2 I2 J2 Q2)) := fun hn => And.intro ha (zz_rpunch a2 a3 p4 p2 (fun r => hno r) (fun _ _ _ _ => ⟨⟨_, rfl, rfl⟩, hrel⟩) (fun _ _ _ k => absurd k hn))
    refine Exists.intro (kind, 0, 2) (And.intro rfl (And.intro trivial (bI_cases' (wi kind 0 2) (fun w1 => ?_) (fun w1 => h2 (fun hr => by rw [hr.1] at w1; cases w1)))))
    refine Exists.intro (x, 0, 60) (And.intro rfl (And.intro trivial (bI_cases' (wi x 0 60) (fun w2 => ?_) (fun w2 => h2 (fun hr => by rw [hr.2.1] at w2; cases w2)))))
    refine Exists.intro (y, 0, 20) (And.intro rfl (And.intro trivial (bI_cases' (wi y 0 20) (fun w3 => ?_) (fun w3 => h2 (fun hr => by rw [hr.2.2.1] at w3; cases w3)))))
    refine Exists.intro (th, 1, 20) (And.intro rfl (And.intro trivial (bI_cases (wi th 1 20) (fun w4 => ?_) (fun w4 => h2 (fun hr => by rw [hr.2.2.2] at w4; cases w4)))))
    clear h2
    have hprm : prm kind x y th := ⟨w1, w2, w3, w4⟩
    refine And.intro (fun (c : I 0 10 < 10) => ?_) (fun (c : ¬ I 0 10 < 10) => ?_)
    · rw [p1] at c
      have hm10 : m < 10 := (nI_ltI (b := 10) (by omega) (by decide)).mp c
      obtain ⟨kd, hkd, rfl⟩ := wi_nat (n := 2) (by decide) w1
      obtain ⟨x, hx', rfl⟩ := wi_nat (n := 60) (by decide) w2
      obtain ⟨y, hy, rfl⟩ := wi_nat (n := 20) (by decide) w3
      obtain ⟨th, ht1, ht2, rfl⟩ := wi_nat1 (n := 20) (by decide) w4
      obtain ⟨b1, b2, b3, b4⟩ := a4 p hp
      have hkp : ks p < a.1 := shw_lt ha b2
      have hkp60 := ob7_big b2.1.1
      refine And.intro ⟨tX_big ha, fun j => qX_big ha j⟩ (And.intro (rok_of ⟨(show 0 < a.1 by omega), trivial, trivial, trivial, trivial, trivial, hkp, trivial⟩ (fun v hv => ?_)) (And.intro ⟨Nat.le_refl _, Nat.le_refl _⟩ ?_))
      · rcases List.mem_cons.mp hv with rfl | hv
        · trivial
        · rcases List.mem_cons.mp hv with rfl | hv
          · show 2 < a.1
            omega
          · cases hv
      have hob : isOb (hnew a 6 (6, 0)) a.1 6 := isOb_new ha
      have hcin : cin 60 (hnew a 6 (6, 0)) (ks p) = true := by
        unfold cin hnew
        rw [Bool.or_eq_true]
        exact Or.inr (Nat.ble_eq_true_of_le (show ks p + 1 ≤ a.1 + 1 by omega))
      refine Exists.intro (a.1, (nI kd, nI p), ks p, nI x, nI y, nI th) (And.intro rfl (And.intro ⟨hob, ha, hcin⟩ ?_))
      rintro v I2 J2 Q2 ⟨rfl, rfl, rfl, rfl⟩
      refine aso (o := 2) rfl rfl hob rfl rfl ?_
      refine And.intro (show vp_in (I 0 10) 10 by rw [p1]; exact vp_in_nI hm10 (by decide)) (And.intro rfl ?_)
      refine And.intro (Or.inl rfl) ?_
      have hIa : ∀ k, k < a.1 → up2 (up2 (up2 (up2 (up2 (va_up I a.1 (fun _ => 0)) a.1 0 (nI kd)) a.1 1 (nI p)) a.1 2 (nI x)) a.1 3 (nI y)) a.1 4 (nI th) k = I k := fun k hk => by rw [up2_ne (by omega), up2_ne (by omega), up2_ne (by omega), up2_ne (by omega), up2_ne (by omega)]; exact vup_ne (by omega)
      have hI0 : up2 (up2 (up2 (up2 (up2 (va_up I a.1 (fun _ => 0)) a.1 0 (nI kd)) a.1 1 (nI p)) a.1 2 (nI x)) a.1 3 (nI y)) a.1 4 (nI th) a.1 0 = nI kd := by rw [up2_nej (by decide), up2_nej (by decide), up2_nej (by decide), up2_nej (by decide), up2_at]
      have hI1 : up2 (up2 (up2 (up2 (up2 (va_up I a.1 (fun _ => 0)) a.1 0 (nI kd)) a.1 1 (nI p)) a.1 2 (nI x)) a.1 3 (nI y)) a.1 4 (nI th) a.1 1 = nI p := by rw [up2_nej (by decide), up2_nej (by decide), up2_nej (by decide), up2_at]
      have hI2 : up2 (up2 (up2 (up2 (up2 (va_up I a.1 (fun _ => 0)) a.1 0 (nI kd)) a.1 1 (nI p)) a.1 2 (nI x)) a.1 3 (nI y)) a.1 4 (nI th) a.1 2 = nI x := by rw [up2_nej (by decide), up2_nej (by decide), up2_at]
      have hI3 : up2 (up2 (up2 (up2 (up2 (va_up I a.1 (fun _ => 0)) a.1 0 (nI kd)) a.1 1 (nI p)) a.1 2 (nI x)) a.1 3 (nI y)) a.1 4 (nI th) a.1 3 = nI y := by rw [up2_nej (by decide), up2_at]
      have hI4 : up2 (up2 (up2 (up2 (up2 (va_up I a.1 (fun _ => 0)) a.1 0 (nI kd)) a.1 1 (nI p)) a.1 2 (nI x)) a.1 3 (nI y)) a.1 4 (nI th) a.1 4 = nI th := by rw [up2_at]
      have hJa : ∀ k, k < a.1 → va_up J a.1 (fun _ => 0) k = J k := fun k hk => vup_ne (by omega)
      have hQa : ∀ k, k < a.1 → up2 (va_up Q a.1 (fun _ => none)) a.1 5 (some (ks p)) k = Q k := fun k hk => by rw [up2_ne (by omega)]; exact vup_ne (by omega)
      have hQ5 : up2 (va_up Q a.1 (fun _ => none)) a.1 5 (some (ks p)) a.1 5 = some (ks p) := up2_at
      show 60 ≤ a.1 + 1 ∧ i_rpunch.2.2.2.2.2 [.ref 31, .int (nI kd), .int (nI p), .int (nI x), .int (nI y), .int (nI th)] (a.1 + 1, a.2.1 + 1, a.2.2.1 + 6, va_up a.2.2.2 a.1 (6, 0)) (up2 (up2 (up2 (up2 (up2 (up2 (up2 (va_up I a.1 (fun _ => 0)) a.1 0 (nI kd)) a.1 1 (nI p)) a.1 2 (nI x)) a.1 3 (nI y)) a.1 4 (nI th)) 13 0 0) 0 10 (up2 (up2 (up2 (up2 (up2 (up2 (va_up I a.1 (fun _ => 0)) a.1 0 (nI kd)) a.1 1 (nI p)) a.1 2 (nI x)) a.1 3 (nI y)) a.1 4 (nI th)) 13 0 0 0 10 + 1)) (va_up J a.1 (fun _ => 0)) (up2 (up2 (va_up Q a.1 (fun _ => none)) a.1 5 (some (ks p))) 2 (I 0 10).toNatClampNeg (some a.1)) (fun w a2 I2 J2 Q2 => (∃ z, some (Value.int (up2 (up2 (up2 (up2 (up2 (up2 (va_up I a.1 (fun _ => 0)) a.1 0 (nI kd)) a.1 1 (nI p)) a.1 2 (nI x)) a.1 3 (nI y)) a.1 4 (nI th)) 13 0 0 0 10)) = some (.int z) ∧ w = some (.int z)) ∧ relE a2 I2 J2 Q2)
      revert hIa hI0 hI1 hI2 hI3 hI4 hJa hQa hQ5
      generalize up2 (up2 (up2 (up2 (up2 (va_up I a.1 (fun _ => 0)) a.1 0 (nI kd)) a.1 1 (nI p)) a.1 2 (nI x)) a.1 3 (nI y)) a.1 4 (nI th) = I1
      generalize va_up J a.1 (fun _ => 0) = J1
      generalize up2 (va_up Q a.1 (fun _ => none)) a.1 5 (some (ks p)) = Q1
      intro hIa hI0 hI1 hI2 hI3 hI4 hJa hQa hQ5
      have e10 : up2 I1 13 0 0 0 10 = nI m := by rw [up2_ne (by decide), hIa 0 (by omega)]; exact p1
      rw [e10, p1, show (nI m).toNatClampNeg = m from nI_clamp (by omega), nI_1]
      have hob' : isOb (a.1 + 1, a.2.1 + 1, a.2.2.1 + 6, va_up a.2.2.2 a.1 (6, 0)) a.1 6 := hob
      have hk : ∀ k, k < a.1 → k ≠ 0 → k ≠ 13 → up2 (up2 I1 13 0 0) 0 10 (nI (m + 1)) k = I k := fun k k1 k2 k3 => by rw [up2_ne k2, up2_ne k3, hIa k k1]
      have hk1 : up2 (up2 I1 13 0 0) 0 10 (nI (m + 1)) a.1 = I1 a.1 := by rw [up2_ne (by omega), up2_ne (by omega)]
      have hk0 : ∀ j, j ≠ 10 → up2 (up2 I1 13 0 0) 0 10 (nI (m + 1)) 0 j = I 0 j := fun j hj => by rw [up2_nej hj, up2_ne (by decide), hIa 0 (by omega)]
      have hk13 : up2 (up2 I1 13 0 0) 0 10 (nI (m + 1)) 13 0 = 0 := by rw [up2_ne (by decide), up2_at]
      have hk10 : up2 (up2 I1 13 0 0) 0 10 (nI (m + 1)) 0 10 = nI (m + 1) := up2_at
      revert hk hk1 hk0 hk13 hk10
      generalize up2 (up2 I1 13 0 0) 0 10 (nI (m + 1)) = I3
      intro hk hk1 hk0 hk13 hk10
      have hq3 : ∀ k, k < a.1 → k ≠ 2 → up2 Q1 2 m (some a.1) k = Q k := fun k k1 k2 => by rw [up2_ne k2, hQa k k1]
      have hq4 : ∀ j, j < m → up2 Q1 2 m (some a.1) 2 j = Q 2 j := fun j hj => by rw [up2_nej (by omega), hQa 2 (by omega)]
      have hq5 : up2 Q1 2 m (some a.1) 2 m = some a.1 := up2_at
      have hq6 : up2 Q1 2 m (some a.1) a.1 5 = some (ks p) := by rw [up2_ne (by omega)]; exact hQ5
      revert hq3 hq4 hq5 hq6
      generalize up2 Q1 2 m (some a.1) = Q3
      intro hq3 hq4 hq5 hq6
      have e31 : I3 31 = I 31 := hk 31 (by omega) (by decide) (by decide)
      refine And.intro (show 60 ≤ a.1 + 1 by omega) (zz_rpunch (n := n) (m := m) (by rw [e31]; exact a2) a3 (by rw [e31]; exact p4) p2 (fun r => hno r) (fun _ _ _ k => absurd hprm k) (fun q hq hx _ => ⟨fun e => by omega, fun _ I4 hA => ⟨⟨_, rfl, rfl⟩, ?_⟩⟩))
      obtain ⟨f1, f2, f3, f4, f5, f6, f7, f8, f9⟩ := hA
      have hk4 : I4 a.1 = I1 a.1 := by rw [f1 a.1 (by simp; omega), hk1]
      refine rel_punch (kk := a.1) (s := p) (x := x) (y := y) (th := th) (kd := kd) ha ⟨?_, ?_⟩ hr hm10 hp (show a.1 ≤ a.1 + 1 by omega) (fun k hk' => vup_ne (by omega)) (fun k k1 k2 => ?_) (fun j j1 _ _ => by rw [f1 0 (by decide)]; exact hk0 j j1) (fun j hj => by rw [f2 j (by omega), e31]) (fun k i k1 k2 hi => by rw [f4 k i k1 k2 (by omega), hk k (by omega) (by omega) (by omega)]) (by rw [f1 13 (by decide)]; exact hk13) hJa hq3 hq4 (by rw [f1 0 (by decide)]; exact hk10) f3 hq5 ⟨hob', ha, ⟨by rw [hk4]; exact hI0, hkd⟩, ⟨by rw [hk4]; exact hI1, by omega⟩, ⟨by rw [hk4]; exact hI2, hx'⟩, ⟨by rw [hk4]; exact hI3, hy⟩, ⟨by rw [hk4]; exact hI4, ht1, ht2⟩, hq6, shw_g ha b2 (show a.1 ≤ a.1 + 1 by omega) (vup_ne (by omega)) (by rw [f1 _ (by simp; omega), hk _ hkp (by omega) (by omega)]) (hJa _ hkp)⟩ f5 f6 f7 f8 f9
      · rw [f1 0 (by decide), hk0 14 (by decide), f2 1 (by decide), e31]; exact hT.1
      · rw [f1 0 (by decide), hk0 15 (by decide), f2 0 (by decide), e31]; exact hT.2
      · simp at k2
        rw [f1 k (by simp; omega), hk k k1 (by omega) (by omega)]
    · rw [p1] at c
      have hm10 : m = 10 := by
        have : ¬ m < 10 := fun h => c ((nI_ltI (b := 10) (by omega) (by decide)).mpr h)
        omega
      exact And.intro ha (zz_rpunch a2 a3 p4 p2 (fun r => hno r) (fun _ _ _ k => absurd hprm k) (fun q hq hx _ => ⟨fun _ => ⟨⟨_, rfl, rfl⟩, hrel⟩, fun k => absurd hm10 k⟩))
