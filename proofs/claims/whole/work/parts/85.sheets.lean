/-! the sheets' operations; told -/
abbrev scS : List Nat := [8, 9, 12, 14, 15, 18, 19, 20, 23, 24, 25, 26, 27, 28, 29, 30, 35, 36, 38, 39, 40, 41, 42, 43, 50, 51, 52, 53, 54, 55, 56, 57, 58, 59]
def frS2 (I I' : hI) : Prop := (∀ k, k ≠ 0 → k ≠ 31 → k ∉ scS → I' k = I k) ∧ (∀ j, j ≠ 14 → j ≠ 15 → I' 0 j = I 0 j) ∧ ∀ j, j = 2 ∨ j = 19 ∨ j = 25 → I' 31 j = I 31 j
theorem rel_fs {a : hA} {I I' : hI} {J J' : hJ} {Q : hQ} {n m wb mg wl : Nat} {ks C W H kp S X Y T Kd B : Nat → Nat} (h : rel a I J Q n m wb mg wl ks C W H kp S X Y T Kd B) (f : frS2 I I') (fj : frJ J J' scJ) (s' : rS I') : rel a I' J' Q n m wb mg wl ks C W H kp S X Y T Kd B := by
  obtain ⟨⟨a1, a2, a3, a4⟩, ⟨p1, p2, p3⟩, ⟨l1, l2, l3, l4⟩, ⟨⟨r1, r2, r3⟩, ⟨r4, r5, r6⟩, r7, r8, r9⟩, ⟨k1, k2⟩, s, ⟨n1, n2⟩, mu⟩ := h
  have big : ∀ k, 60 ≤ k → I' k = I k := fun k hk => f.1 k (by omega) (by omega) (by simp; omega)
  have bigJ : ∀ k, 60 ≤ k → J' k = J k := fun k hk => fj k (by simp; omega)
  have e : ∀ k, k ≠ 0 → k ≠ 31 → k ∉ scS → I' k = I k := f.1
  refine ⟨⟨by rw [f.2.1 9 (by decide) (by decide)]; exact a1, by rw [f.2.2 2 (Or.inl rfl)]; exact a2, a3, fun t ht => ?_⟩, ⟨cpn_of3 p1 (f.2.1 10 (by decide) (by decide)) big bigJ (fun _ _ => rfl) rfl, by rw [f.2.2 19 (Or.inr (Or.inl rfl))]; exact p2, fun p hp => ?_⟩, ⟨fun p hp => ?_, fun p hp => ?_, l3, by rw [f.2.2 25 (Or.inr (Or.inr rfl))]; exact l4⟩, ⟨⟨by rw [f.2.1 11 (by decide) (by decide)]; exact r1, by rw [e 37 (by decide) (by decide) (by decide)]; exact r2, r3⟩, ⟨by rw [f.2.1 12 (by decide) (by decide)]; exact r4, by rw [e 37 (by decide) (by decide) (by decide)]; exact r5, r6⟩, by rw [f.2.1 13 (by decide) (by decide)]; exact r7, by rw [e 37 (by decide) (by decide) (by decide)]; exact r8, r9⟩, ⟨fun s t h1 h2 => ?_, fun s t h1 h2 h3 => ?_⟩, s', ⟨n1, ?_⟩, fun p h1 h2 => ?_⟩
  · obtain ⟨q1, q2, q3, q4⟩ := a4 t ht
    have := ob7_big q2.1.1
    exact ⟨q1, shw_of3 q2 (big _ this) (bigJ _ this), rsh_of3 q3 (e 32 (by decide) (by decide) (by decide)) (e 33 (by decide) (by decide) (by decide)) (e 34 (by decide) (by decide) (by decide)), q4⟩
  · rw [e 44 (by decide) (by decide) (by decide), e 45 (by decide) (by decide) (by decide), e 46 (by decide) (by decide) (by decide), e 47 (by decide) (by decide) (by decide), e 48 (by decide) (by decide) (by decide)]
    exact p3 p hp
  · rw [e 5 (by decide) (by decide) (by decide)]; exact l1 p hp
  · rw [e 49 (by decide) (by decide) (by decide)]; exact l2 p hp
  · rw [e 7 (by decide) (by decide) (by decide)]; exact k1 s t h1 h2
  · rw [e 7 (by decide) (by decide) (by decide)]; exact k2 s t h1 h2 h3
  · rw [e 13 (by decide) (by decide) (by decide)]
    rcases n2 with n2 | ⟨n2, F, K, g, q1, q2, q3, q4, q5, q6⟩
    · exact Or.inl n2
    · exact Or.inr ⟨n2, F, K, g, q1, q2, q3, by rw [e 13 (by decide) (by decide) (by decide)]; exact q4, by rw [e 13 (by decide) (by decide) (by decide)]; exact q5, by rw [fj 13 (by decide)]; exact q6⟩
  · rw [fj 10 (by decide)]; exact mu p h1 h2
theorem relE_fr {a : hA} {I I' : hI} {J J' : hJ} {Q : hQ} (h : relE a I J Q) (f : frS I I') (fj : frJ J J' scJ) (t : rT I') : relE a I' J' Q := by
  obtain ⟨ha, _, n, m, wb, mg, wl, ks, C, W, H, kp, S, X, Y, T, Kd, B, hr⟩ := h
  exact ⟨ha, t, n, m, wb, mg, wl, ks, C, W, H, kp, S, X, Y, T, Kd, B, rel_fr hr f fj⟩
theorem relE_fs {a : hA} {I I' : hI} {J J' : hJ} {Q : hQ} (h : relE a I J Q) (f : frS2 I I') (fj : frJ J J' scJ) (s : rS I') (t : rT I') : relE a I' J' Q := by
  obtain ⟨ha, _, n, m, wb, mg, wl, ks, C, W, H, kp, S, X, Y, T, Kd, B, hr⟩ := h
  exact ⟨ha, t, n, m, wb, mg, wl, ks, C, W, H, kp, S, X, Y, T, Kd, B, rel_fs hr f fj s⟩
theorem relE_S {a : hA} {I : hI} {J : hJ} {Q : hQ} (h : relE a I J Q) : rS I := by
  obtain ⟨ha, _, n, m, wb, mg, wl, ks, C, W, H, kp, S, X, Y, T, Kd, B, hr⟩ := h
  exact hr.2.2.2.2.2.1
/-- only the fault is written, on both sides -/
theorem fl_rel {a : hA} {I I' : hI} {J : hJ} {Q : hQ} (h : relE a I J Q) (h1 : ∀ k, k ≠ 0 → k ≠ 31 → I' k = I k) (h2 : ∀ j, j ≠ 15 → I' 0 j = I 0 j) (h3 : ∀ j, j ≠ 0 → I' 31 j = I 31 j) (h4 : I' 0 15 = I' 31 0) : relE a I' J Q := relE_fr h ⟨fun k a1 a2 _ => h1 k a1 a2, fun j _ b2 => h2 j b2, fun j hj => h3 j (by omega)⟩ (frJ_refl _ _) ⟨by rw [h2 14 (by decide), h3 1 (by decide)]; exact h.2.1.1, h4⟩
theorem fl_1 {a : hA} {I : hI} {J : hJ} {Q : hQ} (h : relE a I J Q) : relE a (up2 (up2 I 0 15 0) 31 0 0) J Q := fl_rel h (fun k a1 a2 => by rw [up2_ne a2, up2_ne a1]) (fun j hj => by rw [up2_ne (by decide), up2_nej hj]) (fun j hj => by rw [up2_nej hj, up2_ne (by decide)]) (by rw [up2_ne (by decide), up2_at, up2_at])
theorem fl_2 {a : hA} {I : hI} {J : hJ} {Q : hQ} (e : Int32) (h : relE a I J Q) : relE a (up2 (up2 (up2 (up2 I 0 15 0) 0 15 e) 31 0 0) 31 0 e) J Q := fl_rel h (fun k a1 a2 => by rw [up2_ne a2, up2_ne a2, up2_ne a1, up2_ne a1]) (fun j hj => by rw [up2_ne (by decide), up2_ne (by decide), up2_nej hj, up2_nej hj]) (fun j hj => by rw [up2_nej hj, up2_nej hj, up2_ne (by decide), up2_ne (by decide)]) (by rw [up2_ne (by decide), up2_ne (by decide), up2_at, up2_at])
abbrev i_told : ev := (2, 9, false, 0, 0, inl false 0 0 [e_count] false false kX9_told 2)
theorem c_told9 {l : Launch} : CX l cdX9_told i_told := cm_inl RX9 edX9_told [e_count] false false kX9_told cwX9_told okX9_told ⟨⟨_, rfl, c_count⟩, trivial⟩ (by decide) rfl (fun h => Bool.noConfusion h)
abbrev i_rtold : ev := (2, 10, false, 0, 0, inl false 0 0 [] false false kX10_told_ 2)
theorem c_rtold {l : Launch} : CX l cdX10_told_ i_rtold := cm_inl RX10 edX10_told_ [] false false kX10_told_ cwX10_told_ okX10_told_ trivial (by decide) rfl (fun h => Bool.noConfusion h)
set_option maxRecDepth 20000 in
theorem o_told (x : Int32) : opI i_told i_rtold [.ref 0, .int x] [.ref 31, .int x] := by
  intro a I J Q h
  obtain ⟨ha, hT, n, m, wb, mg, wl, ks, C, W, H, kp, S, X, Y, T, Kd, B, hr⟩ := id h
  obtain ⟨⟨a1, a2, -⟩, ⟨⟨p1, -⟩, p2, -⟩, ⟨l1, -, -, l4⟩, ⟨⟨r1, r2, -⟩, ⟨r4, r5, -⟩, r7, r8, -⟩, -⟩ := hr
  refine And.intro (fun (c : x = 0) => ?_) (fun (c0 : ¬ x = 0) => And.intro (fun (c : x = 1) => ?_) (fun (c1 : ¬ x = 1) => And.intro (fun (c : x = 2) => ?_) (fun (c2 : ¬ x = 2) => And.intro (fun (c : x = 3) => ?_) (fun (c3 : ¬ x = 3) => And.intro (fun (c : x = 4) => ?_) (fun (c4 : ¬ x = 4) => And.intro (fun (c : x = 5) => ?_) (fun (c5 : ¬ x = 5) => ?_))))))
  · subst c
    refine And.intro ha (And.intro (fun _ => ?_) (fun c => absurd rfl c))
    exact And.intro (Exists.intro (I 0 9) (And.intro rfl (show some (Value.int (I 31 2)) = some (.int (I 0 9)) by rw [a1, a2]))) h
  · subst c
    refine And.intro ha (And.intro (fun c => absurd c (by decide)) (fun _ => And.intro (fun _ => ?_) (fun c => absurd rfl c)))
    exact And.intro (Exists.intro (I 0 10) (And.intro rfl (show some (Value.int (I 31 19)) = some (.int (I 0 10)) by rw [p1, p2]))) h
  · subst c
    refine Exists.intro B (And.intro rfl (And.intro l1 ?_))
    refine And.intro ha (And.intro (fun c => absurd c (by decide)) (fun _ => And.intro (fun c => absurd c (by decide)) (fun _ => And.intro (fun _ => ?_) (fun c => absurd rfl c))))
    exact And.intro (Exists.intro (nI (lwc B 10)) (And.intro rfl (show some (Value.int (I 31 25)) = some (.int (nI (lwc B 10))) by rw [l4]))) h
  · subst c
    refine And.intro ha (And.intro (fun c => absurd c (by decide)) (fun _ => And.intro (fun c => absurd c (by decide)) (fun _ => And.intro (fun c => absurd c (by decide)) (fun _ => And.intro (fun _ => ?_) (fun c => absurd rfl c)))))
    refine And.intro (show vp_in ((3 : Int32) - 3) 3 from vp_in_nI (n := 0) (by decide) (by decide)) ?_
    exact And.intro (Exists.intro (I 0 11) (And.intro rfl (show some (Value.int (I 37 0)) = some (.int (I 0 11)) by rw [r1, r2]))) h
  · subst c
    refine And.intro ha (And.intro (fun c => absurd c (by decide)) (fun _ => And.intro (fun c => absurd c (by decide)) (fun _ => And.intro (fun c => absurd c (by decide)) (fun _ => And.intro (fun c => absurd c (by decide)) (fun _ => And.intro (fun _ => ?_) (fun c => absurd rfl c))))))
    refine And.intro (show vp_in ((4 : Int32) - 3) 3 from vp_in_nI (n := 1) (by decide) (by decide)) ?_
    exact And.intro (Exists.intro (I 0 12) (And.intro rfl (show some (Value.int (I 37 1)) = some (.int (I 0 12)) by rw [r4, r5]))) h
  · subst c
    refine And.intro ha (And.intro (fun c => absurd c (by decide)) (fun _ => And.intro (fun c => absurd c (by decide)) (fun _ => And.intro (fun c => absurd c (by decide)) (fun _ => And.intro (fun c => absurd c (by decide)) (fun _ => And.intro (fun c => absurd c (by decide)) (fun _ => And.intro (fun _ => ?_) (fun c => absurd rfl c)))))))
    refine And.intro (show vp_in ((5 : Int32) - 3) 3 from vp_in_nI (n := 2) (by decide) (by decide)) ?_
    exact And.intro (Exists.intro (I 0 13) (And.intro rfl (show some (Value.int (I 37 2)) = some (.int (I 0 13)) by rw [r7, r8]))) h
  · refine And.intro ha (And.intro (fun c => absurd c c0) (fun _ => And.intro (fun c => absurd c c1) (fun _ => And.intro (fun c => absurd c c2) (fun _ => And.intro (fun c => absurd c c3) (fun _ => And.intro (fun c => absurd c c4) (fun _ => And.intro (fun c => absurd c c5) (fun _ => ?_)))))))
    exact And.intro (Exists.intro (-2) (And.intro rfl rfl)) h
