/-! reference: small methods over its own cells -/
abbrev em : Unit → List Value := fun _ => [.ref 31]
abbrev em1 : Int32 → List Value := fun x => [.ref 31, .int x]
abbrev em2 : Int32 × Int32 → List Value := fun x => [.ref 31, .int x.1, .int x.2]
abbrev em3 : Int32 × Int32 × Int32 → List Value := fun x => [.ref 31, .int x.1, .int x.2.1, .int x.2.2]
theorem vm (n : Nat) (h : 1 ≤ n) (x : Unit) : okv (em x) ∧ (lvA (em x)).length ≤ n := ⟨okv_ref okv_nil, h⟩
theorem vm1 (n : Nat) (h : 2 ≤ n) (x : Int32) : okv (em1 x) ∧ (lvA (em1 x)).length ≤ n := ⟨okv_ref (okv_int okv_nil), h⟩
theorem vm2 (n : Nat) (h : 3 ≤ n) (x : Int32 × Int32) : okv (em2 x) ∧ (lvA (em2 x)).length ≤ n := ⟨okv_ref (okv_int (okv_int okv_nil)), h⟩
theorem vm3 (n : Nat) (h : 4 ≤ n) (x : Int32 × Int32 × Int32) : okv (em3 x) ∧ (lvA (em3 x)).length ≤ n := ⟨okv_ref (okv_int (okv_int (okv_int okv_nil))), h⟩
/-- fails(kind): the fault is noted -/
def e_fails : ev := (2, 10, false, 0, 0, sn em1 (fun _ _ _ _ _ => True) (fun x _ I J Q v I' J' Q' => v = some (.int (-10 - x)) ∧ I' = up2 I 31 0 x ∧ J' = J ∧ Q' = Q))
set_option maxRecDepth 20000 in
theorem c_fails {l : Launch} : CX l cdX10_fails e_fails := by
  refine cm_sn RX10 edX10_fails [] false kX10_fails cwX10_fails okX10_fails trivial (by decide) rfl (vm1 _ (by decide)) ?_
  intro um zm G Rt x a I J Q cl hb hp hR
  refine cl [] 50 0 _ _ _ _ _ _ ?_
  exact hR _ _ _ _ ⟨rfl, rfl, rfl, rfl⟩
def e_lost : ev := (2, 10, false, 0, 0, sn em1 (fun _ _ _ _ _ => True) (fun x _ I J Q v I' J' Q' => v = some (.long (-9223372036854775808)) ∧ I' = up2 I 31 0 x ∧ J' = J ∧ Q' = Q))
set_option maxRecDepth 20000 in
theorem c_lost {l : Launch} : CX l cdX10_lost e_lost := by
  refine cm_sn RX10 edX10_lost [] false kX10_lost cwX10_lost okX10_lost trivial (by decide) rfl (vm1 _ (by decide)) ?_
  intro um zm G Rt x a I J Q cl hb hp hR
  refine cl [] 50 0 _ _ _ _ _ _ ?_
  exact hR _ _ _ _ ⟨rfl, rfl, rfl, rfl⟩
/-- below(v, n): 0 .. n - 1 -/
def bw (v n : Int32) : Bool := decide (0 ≤ v) && decide (v < n)
theorem bw_lo {v n : Int32} (h : v < 0) : bw v n = false := by unfold bw; rw [decide_eq_false (Int32.not_le.mpr h)]; rfl
theorem bw_hi {v n : Int32} (h : n ≤ v) : bw v n = false := by unfold bw; rw [decide_eq_false (p := v < n) (Int32.not_lt.mpr h), Bool.and_false]
theorem bw_in {v n : Int32} (h : ¬ v < 0) (h2 : ¬ n ≤ v) : bw v n = true := by unfold bw; rw [decide_eq_true (Int32.not_lt.mp h), decide_eq_true (Int32.not_le.mp h2)]; rfl
def e_isShape : ev := (2, 10, false, 0, 0, sf em1 (fun _ _ _ _ _ => True) (fun x _ I _ _ => some (.int (bI (bw x (I 31 2))))))
set_option maxRecDepth 20000 in
theorem c_isShape {l : Launch} : CX l cdX10_isShape e_isShape := by
  refine cm_sf RX10 edX10_isShape [] true kX10_isShape cwX10_isShape okX10_isShape trivial (by decide) rfl (vm1 _ (by decide)) ?_
  intro um zm G Rt v a I J Q cl hb hp hR
  refine cl [] 50 0 _ _ _ _ _ _ ?_
  refine And.intro (fun c1 => And.intro (Or.inl rfl) (hR _ ?_)) (fun c1 => And.intro (fun c2 => And.intro (Or.inl rfl) (hR _ ?_)) (fun c2 => And.intro (Or.inr rfl) (hR _ ?_)))
  · simp only [bw_lo c1]; rfl
  · simp only [bw_hi c2]; rfl
  · simp only [bw_in c1 c2]; rfl
def e_risPunch : ev := (2, 10, false, 0, 0, sf em1 (fun _ _ _ _ _ => True) (fun x _ I _ _ => some (.int (bI (bw x (I 31 19))))))
set_option maxRecDepth 20000 in
theorem c_risPunch {l : Launch} : CX l cdX10_isPunch e_risPunch := by
  refine cm_sf RX10 edX10_isPunch [] true kX10_isPunch cwX10_isPunch okX10_isPunch trivial (by decide) rfl (vm1 _ (by decide)) ?_
  intro um zm G Rt v a I J Q cl hb hp hR
  refine cl [] 50 0 _ _ _ _ _ _ ?_
  refine And.intro (fun c1 => And.intro (Or.inl rfl) (hR _ ?_)) (fun c1 => And.intro (fun c2 => And.intro (Or.inl rfl) (hR _ ?_)) (fun c2 => And.intro (Or.inr rfl) (hR _ ?_)))
  · simp only [bw_lo c1]; rfl
  · simp only [bw_hi c2]; rfl
  · simp only [bw_in c1 c2]; rfl
abbrev i_begins : ev := (2, 10, false, 0, 0, inl false 0 0 [] false false kX10_begins 2)
theorem c_begins {l : Launch} : CX l cdX10_begins i_begins := cm_inl RX10 edX10_begins [] false false kX10_begins cwX10_begins okX10_begins trivial (by decide) rfl (fun h => Bool.noConfusion h)
abbrev i_rkeep : ev := (2, 10, false, 0, 0, inl false 0 0 [e_risPunch, i_begins] false false kX10_keep 2)
theorem c_rkeep {l : Launch} : CX l cdX10_keep i_rkeep := cm_inl RX10 edX10_keep [e_risPunch, i_begins] false false kX10_keep cwX10_keep okX10_keep ⟨⟨_, rfl, c_risPunch⟩, ⟨_, rfl, c_begins⟩, trivial⟩ (by decide) rfl (fun h => Bool.noConfusion h)
set_option maxRecDepth 20000 in
theorem zz_keep (x : Int32) (a : hA) (I : hI) (J : hJ) (Q : hQ) (K : hR) (h1 : bw x (I 31 19) = false → K (some (.int (-1))) a I J Q) (hin : bw x (I 31 19) = true → vp_in x 10) (h2 : bw x (I 31 19) = true → I 44 x.toNatClampNeg = 2 → K (some (.int 50)) a (up2 I 31 1 (31 * I 31 1 + 5)) J Q) (h3 : bw x (I 31 19) = true → ¬ I 44 x.toNatClampNeg = 2 → K (some (.int (x + I 44 x.toNatClampNeg))) a (up2 I 31 1 (31 * I 31 1 + 4)) J Q) : i_rkeep.2.2.2.2.2 [.ref 31, .int x] a I J Q K := by
  refine Exists.intro x (And.intro rfl (And.intro trivial ?_))
  cases hw : bw x (I 31 19) with
  | false =>
    simp only [hw]
    refine And.intro (fun c => absurd rfl c) (fun _ => h1 hw)
  | true =>
    simp only [hw]
    refine And.intro (fun _ => ?_) (fun c => absurd c (by decide))
    refine And.intro (hin hw) ?_
    refine And.intro (fun c => ?_) (fun c => ?_)
    · refine And.intro (hin hw) ?_
      refine And.intro (fun c2 => And.intro (hin hw) (h3 hw c)) (fun c2 => absurd c2 c)
    · refine And.intro (hin hw) ?_
      refine And.intro (fun c2 => absurd c c2) (fun c2 => h2 hw c)
