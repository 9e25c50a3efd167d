/-! must, ahead, free -/
theorem wi_st12 {x : Int32} {K : Nat} (hK : K ≤ 12) (h : wi x 0 (nI K - 1) = true) : ∃ j, j < K ∧ x = nI j := by
  cases K with
  | zero =>
    unfold wi at h
    rw [Bool.and_eq_true, decide_eq_true_iff, decide_eq_true_iff, fa_le, fa_le] at h
    have e1 : (nI 0 - 1).toInt = -1 := by decide
    have e2 : (0 : Int32).toInt = 0 := by decide
    omega
  | succ K =>
    rw [nI_pred] at h
    obtain ⟨j, hj, rfl⟩ := wi_nat (by omega) h
    exact ⟨j, by omega, rfl⟩
theorem wi_bw {x : Int32} {m : Nat} (hm : m ≤ 12) : wi x 0 (nI m - 1) = bw x (nI m) := by
  cases hw : wi x 0 (nI m - 1) with
  | true =>
    obtain ⟨p, hp, rfl⟩ := wi_st12 hm hw
    exact (bw_of hm hp).symm
  | false =>
    cases hb : bw x (nI m) with
    | false => rfl
    | true =>
      obtain ⟨p, hp, rfl⟩ := bw_nat hm hb
      rw [wi_of hm hp] at hw
      cases hw
set_option maxRecDepth 20000 in
theorem zz_isP {x : Int32} {m : Nat} {a : hA} {I : hI} {J : hJ} {Q : hQ} {K : hR} (hm : I 0 10 = nI m) (hm10 : m ≤ 10) (h : K (some (.int (bI (bw x (nI m))))) a I J Q) : i_isPunch.2.2.2.2.2 [.ref 0, .int x] a I J Q K := by
  rw [← wi_bw (by omega), ← hm] at h
  exact Exists.intro (x, 0, I 0 10 - 1) (And.intro rfl (And.intro trivial (And.intro (bI_01 _) h)))
abbrev i_must : ev := (3, 9, false, 0, 0, inl false 0 0 [i_isPunch, e_must] false false kX9_must 3)
theorem c_must9 {l : Launch} : CX l cdX9_must i_must := cm_inl RX9 edX9_must [i_isPunch, e_must] false false kX9_must cwX9_must okX9_must ⟨⟨_, rfl, c_isPunch9⟩, ⟨_, rfl, c_must⟩, trivial⟩ (by decide) rfl (fun h => Bool.noConfusion h)
abbrev i_rmust : ev := (3, 10, false, 0, 0, inl false 0 0 [e_risPunch, e_ahead] false false kX10_must 3)
theorem c_rmust {l : Launch} : CX l cdX10_must i_rmust := cm_inl RX10 edX10_must [e_risPunch, e_ahead] false false kX10_must cwX10_must okX10_must ⟨⟨_, rfl, c_risPunch⟩, ⟨_, rfl, c_ahead⟩, trivial⟩ (by decide) rfl (fun h => Bool.noConfusion h)
abbrev i_ahead : ev := (3, 9, false, 0, 0, inl false 0 0 [i_isPunch, e_must, e_hasLaw, e_change] false false kX9_ahead 3)
theorem c_ahead9 {l : Launch} : CX l cdX9_ahead i_ahead := cm_inl RX9 edX9_ahead [i_isPunch, e_must, e_hasLaw, e_change] false false kX9_ahead cwX9_ahead okX9_ahead ⟨⟨_, rfl, c_isPunch9⟩, ⟨_, rfl, c_must⟩, ⟨_, rfl, c_hasLaw⟩, ⟨_, rfl, c_change⟩, trivial⟩ (by decide) rfl (fun h => Bool.noConfusion h)
abbrev i_rahead : ev := (3, 10, false, 0, 0, inl false 0 0 [e_risPunch, e_ahead] false false kX10_ahead 3)
theorem c_rahead {l : Launch} : CX l cdX10_ahead i_rahead := cm_inl RX10 edX10_ahead [e_risPunch, e_ahead] false false kX10_ahead cwX10_ahead okX10_ahead ⟨⟨_, rfl, c_risPunch⟩, ⟨_, rfl, c_ahead⟩, trivial⟩ (by decide) rfl (fun h => Bool.noConfusion h)
abbrev i_free : ev := (3, 9, false, 0, 0, inl false 0 0 [i_isPunch, e_hasLaw, e_change] false false kX9_free 3)
theorem c_free9 {l : Launch} : CX l cdX9_free i_free := cm_inl RX9 edX9_free [i_isPunch, e_hasLaw, e_change] false false kX9_free cwX9_free okX9_free ⟨⟨_, rfl, c_isPunch9⟩, ⟨_, rfl, c_hasLaw⟩, ⟨_, rfl, c_change⟩, trivial⟩ (by decide) rfl (fun h => Bool.noConfusion h)
abbrev i_rfree : ev := (3, 10, false, 0, 0, inl false 0 0 [e_risPunch] false false kX10_free 3)
theorem c_rfree {l : Launch} : CX l cdX10_free i_rfree := cm_inl RX10 edX10_free [e_risPunch] false false kX10_free cwX10_free okX10_free ⟨⟨_, rfl, c_risPunch⟩, trivial⟩ (by decide) rfl (fun h => Bool.noConfusion h)
theorem rL_lt {I : hI} {m : Nat} {B : Nat → Nat} (h : rL I m B) : ∀ p, p < 10 → B p < 1024 := fun p hp => (h.1 p hp).2
theorem rL_R {I : hI} {m : Nat} {B : Nat → Nat} (h : rL I m B) (h19 : I 31 19 = nI m) (hm : m ≤ 10) : lawR I B m := ⟨h19, hm, h.2.1, h.2.2.1.1⟩
theorem mst_bit {B : Nat → Nat} (hlt : ∀ p, p < 10 → B p < 1024) {p q : Nat} (hq : q < 10) (hp : p < 10) : (nI (mlr B (B q) 9) >>> (nI p &&& 31)) &&& 1 = nI (if mustN B p q = true then 1 else 0) := bit1 (by have := mlr_lt hlt (hlt q hq) 9; omega) (by omega)
set_option maxRecDepth 20000 in
theorem o_must (x y : Int32) : opI i_must i_rmust [.ref 0, .int x, .int y] [.ref 31, .int x, .int y] := by
  intro a I J Q h
  obtain ⟨ha, hT, n, m, wb, mg, wl, ks, C, W, H, kp, S, X, Y, T, Kd, B, hA, ⟨⟨p1, p2, p3⟩, p4, p5⟩, hL, -⟩ := id h
  have h0 : (bw x (nI m) = false ∨ bw y (nI m) = false) → (60 ≤ a.1 ∧ i_rmust.2.2.2.2.2 [.ref 31, .int x, .int y] a I J Q (fun w a2 I2 J2 Q2 => (∃ x, some (Value.int (-1)) = some (.int x) ∧ w = some (.int x)) ∧ relE a2 I2 J2 Q2)) := fun hn => by
    refine And.intro ha (Exists.intro x (And.intro rfl (And.intro trivial (bI_cases' (bw x (I 31 19)) (fun r1 => Exists.intro y (And.intro rfl (And.intro trivial (bI_cases (bw y (I 31 19)) (fun r2 => ?_) (fun r2 => ?_))))) (fun r1 => ?_)))))
    · rw [p4] at r1 r2
      rcases hn with hn | hn
      · rw [hn] at r1; cases r1
      · rw [hn] at r2; cases r2
    · exact ⟨⟨_, rfl, rfl⟩, h⟩
    · exact ⟨⟨_, rfl, rfl⟩, h⟩
  refine zz_isP p1 p2 (bI_cases' (bw x (nI m)) (fun r1 => ?_) (fun r1 => h0 (Or.inl r1)))
  refine zz_isP p1 p2 (bI_cases (bw y (nI m)) (fun r2 => ?_) (fun r2 => h0 (Or.inr r2)))
  obtain ⟨p, hp, rfl⟩ := bw_nat (by omega) r1
  obtain ⟨q, hq, rfl⟩ := bw_nat (by omega) r2
  have hb := mst_bit (rL_lt hL) (p := p) (q := q) (by omega) (by omega)
  have h1 : ∀ u, u = (nI (mlr B (B q) 9) >>> (nI p &&& 31)) &&& 1 → (60 ≤ a.1 ∧ i_rmust.2.2.2.2.2 [.ref 31, .int (nI p), .int (nI q)] a I J Q (fun w a2 I2 J2 Q2 => (∃ x, some (Value.int u) = some (.int x) ∧ w = some (.int x)) ∧ relE a2 I2 J2 Q2)) := fun u hu => by
    refine And.intro ha (Exists.intro (nI p) (And.intro rfl (And.intro trivial (bI_cases' (bw (nI p) (I 31 19)) (fun _ => Exists.intro (nI q) (And.intro rfl (And.intro trivial (bI_cases (bw (nI q) (I 31 19)) (fun _ => ?_) (fun r => by rw [p4, r2] at r; cases r))))) (fun r => by rw [p4, r1] at r; cases r)))))
    refine Exists.intro (q, m, B) (And.intro rfl (And.intro ⟨rL_R hL p4 p2, hq⟩ ?_))
    exact And.intro (Exists.intro u (And.intro rfl (by rw [hu]))) h
  refine Exists.intro (p, q, B) (And.intro rfl (And.intro ⟨hL.1, (show p < 10 by omega), (show q < 10 by omega)⟩ ?_))
  refine bI_cases' (mustN B p q) (fun r => ?_) (fun r => ?_)
  · exact h1 1 (by rw [hb, r]; rfl)
  · exact h1 0 (by rw [hb, r]; rfl)
/-! a law is made or ended -/
theorem lw_or : ∀ p, p < 10 → ∀ x, x < 1024 → x.testBit p = false → nI x ||| ((1 : Int32) <<< (nI p &&& 31)) = nI (x ^^^ 2 ^ p) ∧ pop10 (x ^^^ 2 ^ p) = pop10 x + 1 ∧ x ^^^ 2 ^ p < 1024 := by decide +kernel
theorem lw_an : ∀ p, p < 10 → ∀ x, x < 1024 → x.testBit p = true → nI x &&& (((1 : Int32) <<< (nI p &&& 31)) ^^^ (-1)) = nI (x ^^^ 2 ^ p) ∧ pop10 (x ^^^ 2 ^ p) + 1 = pop10 x ∧ x ^^^ 2 ^ p < 1024 := by decide +kernel
def chB (B : Nat → Nat) (p q : Nat) : Nat → Nat := fun r => if r = q then B q ^^^ 2 ^ p else B r
theorem chB_at {B : Nat → Nat} {p q : Nat} : chB B p q q = B q ^^^ 2 ^ p := by unfold chB; rw [if_pos rfl]
theorem chB_ne {B : Nat → Nat} {p q r : Nat} (h : r ≠ q) : chB B p q r = B r := by unfold chB; rw [if_neg h]
theorem lwc_up {B B' : Nat → Nat} {q d e : Nat} (h1 : ∀ r, r ≠ q → B' r = B r) (h2 : pop10 (B' q) + e = pop10 (B q) + d) : ∀ n, lwc B' n + (if q < n then e else 0) = lwc B n + (if q < n then d else 0)
  | 0 => by simp [lwc]
  | n + 1 => by
    have ih := lwc_up h1 h2 n
    show lwc B' n + pop10 (B' n) + _ = lwc B n + pop10 (B n) + _
    by_cases c : q = n
    · subst c
      rw [if_neg (Nat.lt_irrefl _), if_neg (Nat.lt_irrefl _)] at ih
      rw [if_pos (Nat.lt_succ_self _), if_pos (Nat.lt_succ_self _)]
      omega
    · rw [h1 n (fun e => c e.symm)]
      by_cases c2 : q < n
      · rw [if_pos c2, if_pos c2] at ih
        rw [if_pos (by omega), if_pos (by omega)]
        omega
      · rw [if_neg c2, if_neg c2] at ih
        rw [if_neg (by omega), if_neg (by omega)]
        omega
/-- the relation after a law was changed on both sides -/
theorem rel_law {a : hA} {I I' : hI} {J : hJ} {Q : hQ} {n m wb mg wl : Nat} {ks C W H kp S X Y T Kd B B' : Nat → Nat} (ha : 60 ≤ a.1) (hT : rT I) (h : rel a I J Q n m wb mg wl ks C W H kp S X Y T Kd B) (f : ∀ k, k ≠ 5 → k ≠ 13 → k ≠ 31 → k ≠ 49 → I' k = I k) (f31 : ∀ j, j ≠ 25 → I' 31 j = I 31 j) (h13 : I' 13 0 = 0) (h5 : ∀ p, p < 10 → I' 5 p = nI (B' p)) (h49 : ∀ p, p < 10 → I' 49 p = nI (B' p)) (hc : I' 31 25 = nI (lwc B' 10)) (hB : lawB B' m) (hB2 : ∀ p, p < 10 → B' p < 1024) : relE a I' J Q := by
  obtain ⟨⟨a1, a2, a3, a4⟩, ⟨p1, p2, p3⟩, -, ⟨⟨r1, r2, r3⟩, ⟨r4, r5, r6⟩, r7, r8, r9⟩, ⟨k1, k2⟩, s, ⟨n1, -⟩, mu⟩ := h
  have big : ∀ k, 60 ≤ k → I' k = I k := fun k hk => f k (by omega) (by omega) (by omega) (by omega)
  have f0 : I' 0 = I 0 := f 0 (by decide) (by decide) (by decide) (by decide)
  have e : ∀ k, k ≠ 5 → k ≠ 13 → k ≠ 31 → k ≠ 49 → I' k = I k := f
  refine ⟨ha, ⟨by rw [f0, f31 1 (by decide)]; exact hT.1, by rw [f0, f31 0 (by decide)]; exact hT.2⟩, n, m, wb, mg, wl, ks, C, W, H, kp, S, X, Y, T, Kd, B', ⟨by rw [f0]; exact a1, by rw [f31 2 (by decide)]; exact a2, a3, fun t ht => ?_⟩, ⟨cpn_of3 p1 (by rw [f0]) big (fun _ _ => rfl) (fun _ _ => rfl) rfl, by rw [f31 19 (by decide)]; exact p2, fun p hp => ?_⟩, ⟨fun p hp => ⟨h5 p hp, hB2 p hp⟩, h49, hB, hc⟩, ⟨⟨by rw [f0]; exact r1, by rw [e 37 (by decide) (by decide) (by decide) (by decide)]; exact r2, r3⟩, ⟨by rw [f0]; exact r4, by rw [e 37 (by decide) (by decide) (by decide) (by decide)]; exact r5, r6⟩, by rw [f0]; exact r7, by rw [e 37 (by decide) (by decide) (by decide) (by decide)]; exact r8, r9⟩, ⟨fun s t h1 h2 => ?_, fun s t h1 h2 h3 => ?_⟩, fun b hb => ?_, ⟨n1, Or.inl h13⟩, mu⟩
  · obtain ⟨q1, q2, q3, q4⟩ := a4 t ht
    have := ob7_big q2.1.1
    exact ⟨q1, shw_of3 q2 (big _ this) rfl, rsh_of3 q3 (e 32 (by decide) (by decide) (by decide) (by decide)) (e 33 (by decide) (by decide) (by decide) (by decide)) (e 34 (by decide) (by decide) (by decide) (by decide)), q4⟩
  · rw [e 44 (by decide) (by decide) (by decide) (by decide), e 45 (by decide) (by decide) (by decide) (by decide), e 46 (by decide) (by decide) (by decide) (by decide), e 47 (by decide) (by decide) (by decide) (by decide), e 48 (by decide) (by decide) (by decide) (by decide)]
    exact p3 p hp
  · rw [e 7 (by decide) (by decide) (by decide) (by decide)]; exact k1 s t h1 h2
  · rw [e 7 (by decide) (by decide) (by decide) (by decide)]; exact k2 s t h1 h2 h3
  · have s0 : 23 ≤ shK b ∧ shK b + 1 < 31 := by unfold shK; omega
    exact rSb_i (s b hb) (e _ (by omega) (by omega) (by omega) (by omega)) (e _ (by omega) (by omega) (by omega) (by omega)) (e 38 (by decide) (by decide) (by decide) (by decide)) (e 39 (by decide) (by decide) (by decide) (by decide)) (e 40 (by decide) (by decide) (by decide) (by decide))
