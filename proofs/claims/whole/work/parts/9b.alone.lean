/-! alone; cells of a turned shape -/
theorem cnt_or {x i : Nat} (h : x.testBit i = false) : ∀ n, fa_cnt (fun b => (x ||| 2 ^ i).testBit b) n = fa_cnt (fun b => x.testBit b) n + (if i < n then 1 else 0)
  | 0 => rfl
  | n + 1 => by
    have ih := cnt_or h n
    have hb : (x ||| 2 ^ i).testBit n = (x.testBit n || decide (i = n)) := by rw [Nat.testBit_or, Nat.testBit_two_pow]
    by_cases e : i = n
    · subst e
      rw [fa_cnt_yes (by show (x ||| 2 ^ i).testBit i = true; rw [hb, h, decide_eq_true rfl]; rfl), fa_cnt_no (by show x.testBit i = false; exact h), ih, if_neg (Nat.lt_irrefl _), if_pos (Nat.lt_succ_self _)]
    · have hb' : (x ||| 2 ^ i).testBit n = x.testBit n := by rw [hb, decide_eq_false e, Bool.or_false]
      have hif : (if i < n + 1 then 1 else 0) = (if i < n then 1 else 0) := by
        by_cases c : i < n
        · rw [if_pos c, if_pos (by omega)]
        · rw [if_neg c, if_neg (by omega)]
      rw [hif]
      cases hx : x.testBit n with
      | true => rw [fa_cnt_yes (by show (x ||| 2 ^ i).testBit n = true; rw [hb', hx]), fa_cnt_yes (by show x.testBit n = true; exact hx), ih]; omega
      | false => rw [fa_cnt_no (by show (x ||| 2 ^ i).testBit n = false; rw [hb', hx]), fa_cnt_no (by show x.testBit n = false; exact hx), ih]
theorem cnt_0 : ∀ n, fa_cnt (fun b => (0 : Nat).testBit b) n = 0
  | 0 => rfl
  | n + 1 => by rw [fa_cnt_no (by show (0 : Nat).testBit n = false; exact Nat.zero_testBit n)]; exact cnt_0 n
theorem cnt_add (p : Nat → Bool) (a : Nat) : ∀ b, fa_cnt p (a + b) = fa_cnt p a + fa_cnt (fun x => p (a + x)) b
  | 0 => rfl
  | b + 1 => by
    have ih := cnt_add p a b
    show fa_cnt p (a + b) + (if p (a + b) = true then 1 else 0) = fa_cnt p a + (fa_cnt (fun x => p (a + x)) b + (if p (a + b) = true then 1 else 0))
    omega
theorem pop_row (c y : Nat) : pop8 (rowN c y) = fa_cnt (fun x => c.testBit (8 * y + x)) 8 := by
  rw [pop8_cnt]
  exact fa_cnt_cong (fun k hk => by rw [rowN_bit, decide_eq_true hk, Bool.true_and])
theorem pop_cnt (c : Nat) : popN c = fa_cnt (fun b => c.testBit b) 64 := by
  unfold popN
  rw [pop_row, pop_row, pop_row, pop_row, pop_row, pop_row, pop_row, pop_row]
  rw [show (64 : Nat) = 8 + 8 + 8 + 8 + 8 + 8 + 8 + 8 from rfl, cnt_add, cnt_add, cnt_add, cnt_add, cnt_add, cnt_add, cnt_add]
  rw [show fa_cnt (fun x => c.testBit (8 * 0 + x)) 8 = fa_cnt (fun b => c.testBit b) 8 from fa_cnt_cong (fun k _ => by rw [Nat.mul_zero, Nat.zero_add])]
theorem tov_cnt {c w h : Nat} (hf : fitN c w h) (hw : w ≤ 8) (hh : h ≤ 8) : ∀ n, fa_cnt (fun b => (tov c w n).testBit b) 64 = fa_cnt (fun b => c.testBit b) n
  | 0 => cnt_0 64
  | n + 1 => by
    have ih := tov_cnt hf hw hh n
    cases hb : c.testBit n with
    | false =>
      rw [fa_cnt_no (p := fun b => c.testBit b) hb, ← ih]
      show fa_cnt (fun b => (if c.testBit n = true then tov c w n ||| 2 ^ (8 * (n / 8) + (w - 1 - n % 8)) else tov c w n).testBit b) 64 = _
      rw [hb]; rfl
    | true =>
      have hn := hf n hb
      rw [fa_cnt_yes (p := fun b => c.testBit b) hb, ← ih]
      show fa_cnt (fun b => (if c.testBit n = true then tov c w n ||| 2 ^ (8 * (n / 8) + (w - 1 - n % 8)) else tov c w n).testBit b) 64 = _
      rw [if_pos hb, cnt_or, if_pos (by omega)]
      cases hq : (tov c w n).testBit (8 * (n / 8) + (w - 1 - n % 8)) with
      | false => rfl
      | true =>
        obtain ⟨b, h1, h2, h3⟩ := (tov_bit _ n).mp hq
        have := hf b h2
        omega
theorem qtn_cnt {c w h : Nat} (hf : fitN c w h) (hw : w ≤ 8) (hh : h ≤ 8) : ∀ n, fa_cnt (fun b => (qtn c h n).testBit b) 64 = fa_cnt (fun b => c.testBit b) n
  | 0 => cnt_0 64
  | n + 1 => by
    have ih := qtn_cnt hf hw hh n
    cases hb : c.testBit n with
    | false =>
      rw [fa_cnt_no (p := fun b => c.testBit b) hb, ← ih]
      show fa_cnt (fun b => (if c.testBit n = true then qtn c h n ||| 2 ^ (8 * (n % 8) + (h - 1 - n / 8)) else qtn c h n).testBit b) 64 = _
      rw [hb]; rfl
    | true =>
      have hn := hf n hb
      rw [fa_cnt_yes (p := fun b => c.testBit b) hb, ← ih]
      show fa_cnt (fun b => (if c.testBit n = true then qtn c h n ||| 2 ^ (8 * (n % 8) + (h - 1 - n / 8)) else qtn c h n).testBit b) 64 = _
      rw [if_pos hb, cnt_or, if_pos (by omega)]
      cases hq : (qtn c h n).testBit (8 * (n % 8) + (h - 1 - n / 8)) with
      | false => rfl
      | true =>
        obtain ⟨b, h1, h2, h3⟩ := (qtn_bit _ n).mp hq
        have := hf b h2
        omega
theorem qit_pop : ∀ n c w h, fitN c w h → w ≤ 8 → h ≤ 8 → popN (qit n c w h) = popN c
  | 0, _, _, _, _, _, _ => rfl
  | n + 1, c, w, h, hf, hw, hh => by
    show popN (qit n (qtn c h 64) h w) = popN c
    rw [qit_pop n _ _ _ (qtn_fit hf hh hw) hh hw, pop_cnt, pop_cnt, qtn_cnt hf hw hh]
theorem trn_pop {c w h : Nat} (e : exS c w h) (t : Nat) : popN (trn c w h t) = popN c := by
  have hw := e.2.2.1.2
  have hh := e.2.2.2.1.2
  unfold trn
  by_cases c' : 3 < t
  · rw [if_pos c', qit_pop _ _ _ _ (tov_fit e.2.1 hw) hw hh, pop_cnt, pop_cnt, tov_cnt e.2.1 hw hh]
  · rw [if_neg c', qit_pop _ _ _ _ e.2.1 hw hh]
theorem pitch_60 {U : Nat → Prop} {p : Nat} (hfar : ∀ d, U d → d < 43) (h : isPitch U 63 p) : isPitch U 60 p := by
  have h43 := pitch_le (B := 43) (by decide) hfar h
  exact ⟨h.1, by omega, fun _ => h.2.2.1 (by omega), h.2.2.2⟩
def ofV (what : Nat) (p st ce : Int32) : Int32 := if what = 0 then p else if what = 1 then st else if what = 2 then p * st else p * st - ce
abbrev x_ofl : Type := Nat × Int32 × Int32 × Int32
abbrev e_ofl : x_ofl → List Value := fun x => [.int (nI x.1), .int x.2.1, .int x.2.2.1, .int x.2.2.2]
theorem v_ofl (n : Nat) (h : 4 ≤ n) (x : x_ofl) : okv (e_ofl x) ∧ (lvA (e_ofl x)).length ≤ n := ⟨okv_int (okv_int (okv_int (okv_int okv_nil))), h⟩
def i_ofL : ev := (4, 99, false, 0, 0, sf e_ofl (fun x _ _ _ _ => x.1 ≤ 3) (fun x _ _ _ _ => some (.int (ofV x.1 x.2.1 x.2.2.1 x.2.2.2))))
set_option maxRecDepth 20000 in
theorem c_ofL {l : Launch} : CX l cdX9_ofLaying i_ofL := by
  refine cm_sf RX9 edX9_ofLaying [] false kX9_ofLaying cwX9_ofLaying okX9_ofLaying trivial (by decide) rfl (v_ofl _ (by decide)) ?_
  intro um zm G Rt ⟨what, p, st, ce⟩ a I J Q cl hb hw hR
  have hw : what ≤ 3 := hw
  refine cl [] 50 0 _ _ _ _ _ _ ?_
  rcases (show what = 0 ∨ what = 1 ∨ what = 2 ∨ what = 3 by omega) with rfl | rfl | rfl | rfl
  · exact And.intro (fun _ => hR _ rfl) (fun c => absurd rfl c)
  · exact And.intro (fun c => absurd (show nI 1 = 0 from c) (by decide)) (fun _ => And.intro (fun _ => hR _ rfl) (fun c => absurd rfl c))
  · exact And.intro (fun c => absurd (show nI 2 = 0 from c) (by decide)) (fun _ => And.intro (fun c => absurd (show nI 2 = 1 from c) (by decide)) (fun _ => And.intro (fun _ => hR _ rfl) (fun c => absurd rfl c)))
  · exact And.intro (fun c => absurd (show nI 3 = 0 from c) (by decide)) (fun _ => And.intro (fun c => absurd (show nI 3 = 1 from c) (by decide)) (fun _ => And.intro (fun c => absurd (show nI 3 = 2 from c) (by decide)) (fun _ => hR _ rfl)))
theorem ofV_tv (what p st ce : Nat) : ofV what (nI p) (nI st) (nI ce) = tvN what p st ce := by
  unfold ofV tvN
  rw [pk_mul]
abbrev i_alone : ev := (3, 9, false, 0, 0, inl false 0 0 [i_shAt, e_within, e_self, e_pitch, e_ccount, i_ofL] false false kX9_alone 5)
theorem c_alone {l : Launch} : CX l cdX9_alone i_alone := cm_inl RX9 edX9_alone [i_shAt, e_within, e_self, e_pitch, e_ccount, i_ofL] false false kX9_alone cwX9_alone okX9_alone ⟨⟨_, rfl, c_shAt⟩, ⟨_, rfl, c_within⟩, ⟨_, rfl, c_self⟩, ⟨_, rfl, c_pitch⟩, ⟨_, rfl, c_ccount⟩, ⟨_, rfl, c_ofL⟩, trivial⟩ (by decide) rfl (fun h => Bool.noConfusion h)
abbrev i_ralone : ev := (3, 10, false, 0, 0, inl false 0 0 [e_isShape, e_within, e_layF, e_cellsOf, e_told] false false kX10_alone 3)
theorem c_ralone {l : Launch} : CX l cdX10_alone i_ralone := cm_inl RX10 edX10_alone [e_isShape, e_within, e_layF, e_cellsOf, e_told] false false kX10_alone cwX10_alone okX10_alone ⟨⟨_, rfl, c_isShape⟩, ⟨_, rfl, c_rwithin⟩, ⟨_, rfl, c_layF⟩, ⟨_, rfl, c_cellsOf⟩, ⟨_, rfl, c_told⟩, trivial⟩ (by decide) rfl (fun h => Bool.noConfusion h)
set_option maxRecDepth 20000 in
theorem o_alone (z y : Int32) : opI i_alone i_ralone [.ref 0, .int z, .int y] [.ref 31, .int z, .int y] := by
  intro a I J Q h
  obtain ⟨ha, hT, n, m, wb, mg, wl, ks, C, W, H, kp, S, X, Y, T, Kd, B, ⟨a1, a2, a3, a4⟩, -, -, ⟨⟨r1, r2, r3⟩, ⟨r4, r5, r6⟩, -⟩, -, -, -, mu⟩ := id h
  refine zz_shAt a1 a3 (fun s hs => (a4 s hs).1) (fun r => ?_) (fun s hs hz => ?_)
  · refine And.intro ha (Exists.intro z (And.intro rfl (And.intro trivial (bI_cases (bw z (I 31 2)) (fun r' => by rw [a2, r] at r'; cases r') (fun _ => ?_)))))
    exact ⟨⟨_, rfl, rfl⟩, h⟩
  · subst hz
    obtain ⟨b1, b2, b3, b4⟩ := a4 s hs
    have hb : bw (nI s) (I 31 2) = true := by rw [a2]; exact bw_of a3 hs
    have hs12 : s < 12 := by omega
    refine Exists.intro (y, 0, 3) (And.intro rfl (And.intro trivial (bI_cases (wi y 0 3) (fun ry => ?_) (fun ry => ?_))))
    · obtain ⟨what, hwt, rfl⟩ := wi_nat (n := 3) (by decide) ry
      refine Exists.intro (ks s, C s, W s, H s, wb) (And.intro (show [Value.ref 6, .ref (ks s), .int (I 0 11)] = [.ref 6, .ref (ks s), .int (nI wb)] by rw [r1]) (And.intro ⟨b2, (show wb ≤ 4 by omega)⟩ ?_))
      rintro v I1 J1 Q1 ⟨rfl, rfl, rfl, hgr⟩
      have hgr : grown 9 I I1 (C s) wb := hgr
      have hkb : 60 ≤ ks s := ob7_big b2.1.1
      have hsn : selfN (C s) (W s) (H s) wb < 2 ^ 24 := selfN_lt (by omega)
      refine Exists.intro (selfN (C s) (W s) (H s) wb) (And.intro rfl (And.intro ⟨(show selfN (C s) (W s) (H s) wb < 2 ^ 64 by omega), mu⟩ ?_))
      refine cko (isOb_ck b2.1.1) ?_
      refine vko b2.1.1 rfl ?_
      refine Exists.intro (ks s, C s) (And.intro rfl (And.intro b2.1 ?_))
      have est : I1 (ks s) 2 + 2 * I1 0 12 = nI (H s + 2 * mg) := by
        rw [hgr.1 (ks s) (by omega), hgr.1 0 (by decide), b2.2.2.1, r4, show (2 : Int32) = nI 2 from rfl, pk_mul, nI_add]
      have hpi := alone_pitch (web := wb) b3.2.1 b2.2.2.2.1 b4.2.2.1.2 b4.2.2.2.1.2 r3
      have hp60 : isPitch (clF (FA (C s)) wb) 60 (pitchN (selfN (C s) (W s) (H s) wb)) := by
        have h2 : isPitch (fun d => clash (C s) (C s) wb d 0) 60 (pitchN (selfN (C s) (W s) (H s) wb)) := pitch_60 (fun d hd => by have := clash_far (by omega) hd; omega) hpi
        exact ⟨h2.1, h2.2.1, fun k1 k k2 hk => h2.2.2.1 k1 k k2 ((clF_one b3.2.1).mp hk), fun q q1 q2 => by
          obtain ⟨k, k1, k2⟩ := h2.2.2.2 q q1 q2
          exact ⟨k, k1, (clF_one b3.2.1).mpr k2⟩⟩
      have key : (60 ≤ a.1 ∧ i_ralone.2.2.2.2.2 [.ref 31, .int (nI s), .int (nI what)] a I1 J1 Q1 (fun w a2 I2 J2 Q2 => (∃ x, some (Value.int (tvN what (pitchN (selfN (C s) (W s) (H s) wb)) (H s + 2 * mg) (popN (C s)))) = some (.int x) ∧ w = some (.int x)) ∧ relE a2 I2 J2 Q2)) := by
        have hb1 : bw (nI s) (I1 31 2) = true := by rw [hgr.1 31 (by decide)]; exact hb
        have hrw : rwA I1 32 (8 * s) (C s) := fun y hy => by rw [hgr.1 32 (by decide)]; exact b3.2.2.1 y hy
        refine And.intro ha (Exists.intro (nI s) (And.intro rfl (And.intro trivial (bI_cases (bw (nI s) (I1 31 2)) (fun _ => ?_) (fun r => by rw [hb1] at r; cases r)))))
        refine Exists.intro (nI what, 0, 3) (And.intro rfl (And.intro trivial (bI_cases (wi (nI what) 0 3) (fun _ => ?_) (fun r => by rw [ry] at r; cases r))))
        refine Exists.intro (s, C s) (And.intro rfl (And.intro ⟨hs12, hrw⟩ ?_))
        rintro v I2 J2 Q2 ⟨rfl, rfl, rfl, fj, hlj⟩
        refine Exists.intro (s, C s) (And.intro rfl (And.intro ⟨hs12, hrw⟩ ?_))
        have hends := ends_one b3.2.1 (exS_cor b4)
        refine Exists.intro (FA (C s), (8, 7 + heightN (C s)), (wb, mg), popN (C s), what) (And.intro rfl (And.intro ⟨hlj, hends, ⟨by rw [hgr.1 37 (by decide)]; exact r2, r3⟩, ⟨by rw [hgr.1 37 (by decide)]; exact r5, r6⟩, hwt⟩ ?_))
        rintro v I3 J3 Q3 ⟨rfl, rfl, fj2, v', rfl, hv⟩
        have hv : ∀ p, isPitch (clF (FA (C s)) wb) 60 p → v' = tvN what p (7 + heightN (C s) - 8 + 1 + 2 * mg) (popN (C s)) := hv
        have fj : frJ J1 J2 [41] := fj
        have fj2 : frJ J2 J3 [43] := fj2
        have e8 : 7 + heightN (C s) - 8 + 1 + 2 * mg = H s + 2 * mg := by
          have := exS_h b4
          have := b4.2.2.2.1
          omega
        rw [hv _ hp60, e8]
        refine ⟨⟨_, rfl, rfl⟩, relE_fr h ⟨fun k _ _ k3 => hgr.1 k (by simp at k3; omega), fun j _ _ => by rw [hgr.1 0 (by decide)], fun j _ => by rw [hgr.1 31 (by decide)]⟩ (fun k hk => ?_) ⟨by rw [hgr.1 0 (by decide), hgr.1 31 (by decide)]; exact hT.1, by rw [hgr.1 0 (by decide), hgr.1 31 (by decide)]; exact hT.2⟩⟩
        rw [fj2 k (by simp at hk ⊢; omega), fj k (by simp at hk ⊢; omega)]
      refine Exists.intro (what, nI (pitchN (selfN (C s) (W s) (H s) wb)), I1 (ks s) 2 + 2 * I1 0 12, nI (popN (C s))) (And.intro rfl (And.intro hwt ?_))
      rw [← ofV_tv, ← est] at key
      exact key
    · refine And.intro ha (Exists.intro (nI s) (And.intro rfl (And.intro trivial (bI_cases (bw (nI s) (I 31 2)) (fun _ => ?_) (fun r => by rw [hb] at r; cases r)))))
      refine Exists.intro (y, 0, 3) (And.intro rfl (And.intro trivial (bI_cases (wi y 0 3) (fun r => by rw [ry] at r; cases r) (fun _ => ?_))))
      exact ⟨⟨_, rfl, rfl⟩, h⟩
