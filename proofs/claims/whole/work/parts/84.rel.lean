/-! the relation of the class's state and the reference's -/
def rA (a : hA) (I : hI) (J : hJ) (Q : hQ) (n : Nat) (ks C W H : Nat → Nat) : Prop := I 0 9 = nI n ∧ I 31 2 = nI n ∧ n ≤ 12 ∧ ∀ s, s < n → Q 1 s = some (ks s) ∧ shw a I J (ks s) (C s) (W s) (H s) ∧ rsh I s (C s) (W s) (H s) ∧ exS (C s) (W s) (H s)
def rP (a : hA) (I : hI) (J : hJ) (Q : hQ) (n m : Nat) (ks C W H kp S X Y T Kd : Nat → Nat) : Prop := cpn a I J Q m kp (fun p => ks (S p)) S X Y (fun p => C (S p)) T Kd (fun p => W (S p)) (fun p => H (S p)) ∧ I 31 19 = nI m ∧ ∀ p, p < m → S p < n ∧ I 44 p = nI (Kd p) ∧ I 45 p = nI (S p) ∧ I 46 p = nI (X p) ∧ I 47 p = nI (Y p) ∧ I 48 p = nI (T p)
def rL (I : hI) (m : Nat) (B : Nat → Nat) : Prop := lawsOK I B ∧ (∀ p, p < 10 → I 49 p = nI (B p)) ∧ lawB B m ∧ I 31 25 = nI (lwc B 10)
def rR (I : hI) (wb mg wl : Nat) : Prop := (I 0 11 = nI wb ∧ I 37 0 = nI wb ∧ wb ≤ 3) ∧ (I 0 12 = nI mg ∧ I 37 1 = nI mg ∧ mg ≤ 3) ∧ I 0 13 = nI wl ∧ I 37 2 = nI wl ∧ wl ≤ 4
def rK (I : hI) (n wb mg : Nat) (C W H : Nat → Nat) : Prop := ∀ s t, s < n → t < n → I 7 (12 * s + t) = 0 ∨ I 7 (12 * s + t) = nI (bpT (C s) (W s) (H s) (C t) (W t) (H t) wb mg 8)
/-- places of the cache beyond the shapes are empty -/
def rK0 (I : hI) (n : Nat) : Prop := ∀ s t, s < 12 → t < 12 → (n ≤ s ∨ n ≤ t) → I 7 (12 * s + t) = 0
def rSb (I : hI) (b : Nat) : Prop := (I (shK b) 1 = -1 ∧ I 38 b = -9) ∨ ∃ ln n, ln ≤ 2 ∧ n ≤ 64 ∧ I (shK b) 1 = nI ln ∧ I 38 b = nI ln ∧ I (shK b) 2 = nI n ∧ I 39 b = nI n ∧ ∀ i, i < 64 → I (shK b + 1) i = I 40 (64 * b + i)
def rS (I : hI) : Prop := ∀ b, b < 4 → rSb I b
def rT (I : hI) : Prop := I 0 14 = I 31 1 ∧ I 0 15 = I 31 0
def rN (I : hI) (J : hJ) (Q : hQ) (m wl : Nat) (C X Y S B : Nat → Nat) : Prop := dnQ Q ∧ (I 13 0 = 0 ∨ (I 13 0 = 1 ∧ plnOK I J m B (fun p => C (S p)) X Y wl))
def rel (a : hA) (I : hI) (J : hJ) (Q : hQ) (n m wb mg wl : Nat) (ks C W H kp S X Y T Kd B : Nat → Nat) : Prop := rA a I J Q n ks C W H ∧ rP a I J Q n m ks C W H kp S X Y T Kd ∧ rL I m B ∧ rR I wb mg wl ∧ (rK I n wb mg C W H ∧ rK0 I n) ∧ rS I ∧ rN I J Q m wl C X Y S B ∧ mulOK J
def relE (a : hA) (I : hI) (J : hJ) (Q : hQ) : Prop := 60 ≤ a.1 ∧ rT I ∧ ∃ n m wb mg wl ks C W H kp S X Y T Kd B, rel a I J Q n m wb mg wl ks C W H kp S X Y T Kd B
/-- one call of the class, then of the reference: the same int, and the relation is kept -/
def opI (ec er : ev) (ac ar : List Value) : Prop := ∀ a I J Q, relE a I J Q → ec.2.2.2.2.2 ac a I J Q (fun v a1 I1 J1 Q1 => 60 ≤ a1.1 ∧ er.2.2.2.2.2 ar a1 I1 J1 Q1 (fun w a2 I2 J2 Q2 => (∃ x, v = some (.int x) ∧ w = some (.int x)) ∧ relE a2 I2 J2 Q2))
def opL (ec er : ev) (ac ar : List Value) : Prop := ∀ a I J Q, relE a I J Q → ec.2.2.2.2.2 ac a I J Q (fun v a1 I1 J1 Q1 => 60 ≤ a1.1 ∧ er.2.2.2.2.2 ar a1 I1 J1 Q1 (fun w a2 I2 J2 Q2 => (∃ x, v = some (.long x) ∧ w = some (.long x)) ∧ relE a2 I2 J2 Q2))
/-- cells that no state is kept in -/
abbrev scI : List Nat := [8, 9, 12, 14, 15, 18, 19, 20, 35, 36, 41, 42, 43, 50, 51, 52, 53, 54, 55, 56, 57, 58, 59]
abbrev scJ : List Nat := [8, 9, 16, 17, 22, 41, 42, 43]
def frS (I I' : hI) : Prop := (∀ k, k ≠ 0 → k ≠ 31 → k ∉ scI → I' k = I k) ∧ (∀ j, j ≠ 14 → j ≠ 15 → I' 0 j = I 0 j) ∧ ∀ j, j = 2 ∨ j = 19 ∨ j = 25 → I' 31 j = I 31 j
theorem shw_of3 {a : hA} {I I' : hI} {J J' : hJ} {k c w h : Nat} (hs : shw a I J k c w h) (hk : I' k = I k) (hj : J' k = J k) : shw a I' J' k c w h := by
  have h9 := shw_of hs hk
  refine ⟨⟨h9.1.1, ?_⟩, h9.2⟩
  rw [hj]
  exact h9.1.2
theorem rsh_of3 {I I' : hI} {s c w h : Nat} (hs : rsh I s c w h) (h32 : I' 32 = I 32) (h33 : I' 33 = I 33) (h34 : I' 34 = I 34) : rsh I' s c w h := by
  obtain ⟨a1, a2, a3, a4, a5, a6⟩ := hs
  exact ⟨a1, a2, fun y hy => by rw [h32]; exact a3 y hy, by rw [h33]; exact a4, by rw [h34]; exact a5, a6⟩
theorem rel_fr {a : hA} {I I' : hI} {J J' : hJ} {Q : hQ} {n m wb mg wl : Nat} {ks C W H kp S X Y T Kd B : Nat → Nat} (h : rel a I J Q n m wb mg wl ks C W H kp S X Y T Kd B) (f : frS I I') (fj : frJ J J' scJ) : rel a I' J' Q n m wb mg wl ks C W H kp S X Y T Kd B := by
  obtain ⟨⟨a1, a2, a3, a4⟩, ⟨p1, p2, p3⟩, ⟨l1, l2, l3, l4⟩, ⟨⟨r1, r2, r3⟩, ⟨r4, r5, r6⟩, r7, r8, r9⟩, ⟨k1, k2⟩, s, ⟨n1, n2⟩, mu⟩ := h
  have big : ∀ k, 60 ≤ k → I' k = I k := fun k hk => f.1 k (by omega) (by omega) (by simp; omega)
  have bigJ : ∀ k, 60 ≤ k → J' k = J k := fun k hk => fj k (by simp; omega)
  have e : ∀ k, k ≠ 0 → k ≠ 31 → k ∉ scI → I' k = I k := f.1
  refine ⟨⟨by rw [f.2.1 9 (by decide) (by decide)]; exact a1, by rw [f.2.2 2 (Or.inl rfl)]; exact a2, a3, fun t ht => ?_⟩, ⟨cpn_of3 p1 (f.2.1 10 (by decide) (by decide)) big bigJ (fun _ _ => rfl) rfl, by rw [f.2.2 19 (Or.inr (Or.inl rfl))]; exact p2, fun p hp => ?_⟩, ⟨fun p hp => ?_, fun p hp => ?_, l3, by rw [f.2.2 25 (Or.inr (Or.inr rfl))]; exact l4⟩, ⟨⟨by rw [f.2.1 11 (by decide) (by decide)]; exact r1, by rw [e 37 (by decide) (by decide) (by decide)]; exact r2, r3⟩, ⟨by rw [f.2.1 12 (by decide) (by decide)]; exact r4, by rw [e 37 (by decide) (by decide) (by decide)]; exact r5, r6⟩, by rw [f.2.1 13 (by decide) (by decide)]; exact r7, by rw [e 37 (by decide) (by decide) (by decide)]; exact r8, r9⟩, ⟨fun s t h1 h2 => ?_, fun s t h1 h2 h3 => ?_⟩, fun b hb => ?_, ⟨n1, ?_⟩, fun p h1 h2 => ?_⟩
  · obtain ⟨q1, q2, q3, q4⟩ := a4 t ht
    have := ob7_big q2.1.1
    exact ⟨q1, shw_of3 q2 (big _ this) (bigJ _ this), rsh_of3 q3 (e 32 (by decide) (by decide) (by decide)) (e 33 (by decide) (by decide) (by decide)) (e 34 (by decide) (by decide) (by decide)), q4⟩
  · rw [e 44 (by decide) (by decide) (by decide), e 45 (by decide) (by decide) (by decide), e 46 (by decide) (by decide) (by decide), e 47 (by decide) (by decide) (by decide), e 48 (by decide) (by decide) (by decide)]
    exact p3 p hp
  · rw [e 5 (by decide) (by decide) (by decide)]; exact l1 p hp
  · rw [e 49 (by decide) (by decide) (by decide)]; exact l2 p hp
  · rw [e 7 (by decide) (by decide) (by decide)]; exact k1 s t h1 h2
  · rw [e 7 (by decide) (by decide) (by decide)]; exact k2 s t h1 h2 h3
  · have hs := s b hb
    unfold rSb at hs ⊢
    have h1 : I' (shK b) = I (shK b) := e _ (by unfold shK; omega) (by unfold shK; omega) (by unfold shK; simp; omega)
    have h2 : I' (shK b + 1) = I (shK b + 1) := e _ (by unfold shK; omega) (by unfold shK; omega) (by unfold shK; simp; omega)
    rw [h1, h2, e 38 (by decide) (by decide) (by decide), e 39 (by decide) (by decide) (by decide), e 40 (by decide) (by decide) (by decide)]
    exact hs
  · rw [e 13 (by decide) (by decide) (by decide)]
    rcases n2 with n2 | ⟨n2, F, K, g, q1, q2, q3, q4, q5, q6⟩
    · exact Or.inl n2
    · exact Or.inr ⟨n2, F, K, g, q1, q2, q3, by rw [e 13 (by decide) (by decide) (by decide)]; exact q4, by rw [e 13 (by decide) (by decide) (by decide)]; exact q5, by rw [fj 13 (by decide)]; exact q6⟩
  · rw [fj 10 (by decide)]; exact mu p h1 h2
/-! trace, fault, told -/
abbrev i_trace : ev := (1, 9, false, 0, 0, inl false 0 0 [] false false kX9_trace 1)
theorem c_trace {l : Launch} : CX l cdX9_trace i_trace := cm_inl RX9 edX9_trace [] false false kX9_trace cwX9_trace okX9_trace trivial (by decide) rfl (fun h => Bool.noConfusion h)
abbrev i_rtrace : ev := (1, 10, false, 0, 0, inl false 0 0 [] false false kX10_trace 1)
theorem c_rtrace {l : Launch} : CX l cdX10_trace i_rtrace := cm_inl RX10 edX10_trace [] false false kX10_trace cwX10_trace okX10_trace trivial (by decide) rfl (fun h => Bool.noConfusion h)
abbrev i_fault : ev := (1, 9, false, 0, 0, inl false 0 0 [] false false kX9_fault 1)
theorem c_fault {l : Launch} : CX l cdX9_fault i_fault := cm_inl RX9 edX9_fault [] false false kX9_fault cwX9_fault okX9_fault trivial (by decide) rfl (fun h => Bool.noConfusion h)
abbrev i_rfault : ev := (1, 10, false, 0, 0, inl false 0 0 [] false false kX10_fault 1)
theorem c_rfault {l : Launch} : CX l cdX10_fault i_rfault := cm_inl RX10 edX10_fault [] false false kX10_fault cwX10_fault okX10_fault trivial (by decide) rfl (fun h => Bool.noConfusion h)
theorem o_trace : opI i_trace i_rtrace [.ref 0] [.ref 31] := fun a I J Q h => And.intro h.1 (And.intro (Exists.intro (I 0 14) (And.intro rfl (show some (Value.int (I 31 1)) = some (.int (I 0 14)) by rw [h.2.1.1]))) h)
theorem o_fault : opI i_fault i_rfault [.ref 0] [.ref 31] := fun a I J Q h => And.intro h.1 (And.intro (Exists.intro (I 0 15) (And.intro rfl (show some (Value.int (I 31 0)) = some (.int (I 0 15)) by rw [h.2.1.2]))) h)
