/-! punched -/
abbrev i_punched : ev := (3, 9, false, 0, 0, inl false 0 0 [i_punchAt, e_strength] false false kX9_punched 4)
theorem c_punched {l : Launch} : CX l cdX9_punched i_punched := cm_inl RX9 edX9_punched [i_punchAt, e_strength] false false kX9_punched cwX9_punched okX9_punched ⟨⟨_, rfl, c_punchAt⟩, ⟨_, rfl, c_strength⟩, trivial⟩ (by decide) rfl (fun h => Bool.noConfusion h)
abbrev i_rpunched : ev := (3, 10, false, 0, 0, inl false 0 0 [e_risPunch, e_forceOf] false false kX10_punched 3)
theorem c_rpunched {l : Launch} : CX l cdX10_punched i_rpunched := cm_inl RX10 edX10_punched [e_risPunch, e_forceOf] false false kX10_punched cwX10_punched okX10_punched ⟨⟨_, rfl, c_risPunch⟩, ⟨_, rfl, c_forceOf⟩, trivial⟩ (by decide) rfl (fun h => Bool.noConfusion h)
/-- what the reference's forces rest on -/
theorem rel_rfo {a : hA} {I : hI} {J : hJ} {Q : hQ} {n m : Nat} {ks C W H kp S X Y T Kd : Nat → Nat} (hA : rA a I J Q n ks C W H) (hP : rP a I J Q n m ks C W H kp S X Y T Kd) : rfo I m S (fun p => C (S p)) T Kd := by
  refine ⟨fun p hp => ?_, fun p hp => ?_⟩
  · obtain ⟨q1, q2, q3, q4, q5, q6, q7, q8, q9⟩ := (hP.1.2.2 p hp).2
    obtain ⟨s1, s2, s3, s4, s5, s6⟩ := hP.2.2 p hp
    exact ⟨⟨s2, q3.2⟩, s6, q7.2.2⟩
  · obtain ⟨q1, q2, q3, q4, q5, q6, q7, q8, q9⟩ := (hP.1.2.2 p hp).2
    obtain ⟨s1, s2, s3, s4, s5, s6⟩ := hP.2.2 p hp
    exact ⟨⟨s3, q4.2⟩, (hA.2.2.2 (S p) s1).2.2.1.2.2.1⟩
set_option maxRecDepth 20000 in
theorem o_punched (x y : Int32) : opI i_punched i_rpunched [.ref 0, .int x, .int y] [.ref 31, .int x, .int y] := by
  intro a I J Q h
  obtain ⟨ha, hT, n, m, wb, mg, wl, ks, C, W, H, kp, S, X, Y, T, Kd, B, hA, hP, -⟩ := id h
  have hrf := rel_rfo hA hP
  obtain ⟨⟨p1, p2, p3⟩, p4, p5⟩ := id hP
  refine zz_pAt p1 p2 (fun p hp => (p3 p hp).1) (fun r => ?_) (fun p hp hx => ?_)
  · refine And.intro ha (Exists.intro x (And.intro rfl (And.intro trivial (bI_cases (bw x (I 31 19)) (fun r' => by rw [p4, r] at r'; cases r') (fun _ => ?_)))))
    exact ⟨⟨_, rfl, rfl⟩, h⟩
  · have hpn := (p3 p hp).2
    obtain ⟨q1, q2, q3, q4, q5, q6, q7, q8, q9⟩ := id hpn
    obtain ⟨s1, s2, s3, s4, s5, s6⟩ := p5 p hp
    subst hx
    have ecp : (nI p).toNatClampNeg = p := nI_clamp (by omega)
    have hb : bw (nI p) (I 31 19) = true := by rw [p4]; exact bw_of (by omega) hp
    have hin : vp_in (nI p) 10 := vp_in_nI (by omega) (by decide)
    refine And.intro (fun (c : y = 0) => ?_) (fun (c0 : ¬ y = 0) => And.intro (fun (c : y = 1) => ?_) (fun (c1 : ¬ y = 1) => And.intro (fun (c : y = 2) => ?_) (fun (c2 : ¬ y = 2) => And.intro (fun (c : y = 3) => ?_) (fun (c3 : ¬ y = 3) => And.intro (fun (c : y = 4) => ?_) (fun (c4 : ¬ y = 4) => And.intro (fun (c : y = 5) => ?_) (fun (c5 : ¬ y = 5) => ?_))))))
    · subst c
      refine cko (isOb_ck q1) ?_
      refine And.intro ha (Exists.intro (nI p) (And.intro rfl (And.intro trivial (bI_cases (bw (nI p) (I 31 19)) (fun _ => And.intro (fun _ => ?_) (fun c => absurd rfl c)) (fun r => by rw [hb] at r; cases r)))))
      refine And.intro hin ?_
      exact And.intro (Exists.intro (I (kp p) 0) (And.intro rfl (show some (Value.int (I 44 (nI p).toNatClampNeg)) = some (.int (I (kp p) 0)) by rw [ecp, s2, q3.1]))) h
    · subst c
      refine cko (isOb_ck q1) ?_
      refine And.intro ha (Exists.intro (nI p) (And.intro rfl (And.intro trivial (bI_cases (bw (nI p) (I 31 19)) (fun _ => And.intro (fun c => absurd c (by decide)) (fun _ => And.intro (fun _ => ?_) (fun c => absurd rfl c))) (fun r => by rw [hb] at r; cases r)))))
      refine And.intro hin ?_
      exact And.intro (Exists.intro (I (kp p) 1) (And.intro rfl (show some (Value.int (I 45 (nI p).toNatClampNeg)) = some (.int (I (kp p) 1)) by rw [ecp, s3, q4.1]))) h
    · subst c
      refine cko (isOb_ck q1) ?_
      refine And.intro ha (Exists.intro (nI p) (And.intro rfl (And.intro trivial (bI_cases (bw (nI p) (I 31 19)) (fun _ => And.intro (fun c => absurd c (by decide)) (fun _ => And.intro (fun c => absurd c (by decide)) (fun _ => And.intro (fun _ => ?_) (fun c => absurd rfl c)))) (fun r => by rw [hb] at r; cases r)))))
      refine And.intro hin ?_
      exact And.intro (Exists.intro (I (kp p) 2) (And.intro rfl (show some (Value.int (I 46 (nI p).toNatClampNeg)) = some (.int (I (kp p) 2)) by rw [ecp, s4, q5.1]))) h
    · subst c
      refine cko (isOb_ck q1) ?_
      refine And.intro ha (Exists.intro (nI p) (And.intro rfl (And.intro trivial (bI_cases (bw (nI p) (I 31 19)) (fun _ => And.intro (fun c => absurd c (by decide)) (fun _ => And.intro (fun c => absurd c (by decide)) (fun _ => And.intro (fun c => absurd c (by decide)) (fun _ => And.intro (fun _ => ?_) (fun c => absurd rfl c))))) (fun r => by rw [hb] at r; cases r)))))
      refine And.intro hin ?_
      exact And.intro (Exists.intro (I (kp p) 3) (And.intro rfl (show some (Value.int (I 47 (nI p).toNatClampNeg)) = some (.int (I (kp p) 3)) by rw [ecp, s5, q6.1]))) h
    · subst c
      refine cko (isOb_ck q1) ?_
      refine And.intro ha (Exists.intro (nI p) (And.intro rfl (And.intro trivial (bI_cases (bw (nI p) (I 31 19)) (fun _ => And.intro (fun c => absurd c (by decide)) (fun _ => And.intro (fun c => absurd c (by decide)) (fun _ => And.intro (fun c => absurd c (by decide)) (fun _ => And.intro (fun c => absurd c (by decide)) (fun _ => And.intro (fun _ => ?_) (fun c => absurd rfl c)))))) (fun r => by rw [hb] at r; cases r)))))
      refine And.intro hin ?_
      exact And.intro (Exists.intro (I (kp p) 4) (And.intro rfl (show some (Value.int (I 48 (nI p).toNatClampNeg)) = some (.int (I (kp p) 4)) by rw [ecp, s6, q7.1]))) h
    · subst c
      refine vko q1 rfl ?_
      refine Exists.intro (kp p, Kd p, S p, X p, Y p, T p, ks (S p), C (S p), W (S p), H (S p)) (And.intro rfl (And.intro hpn ?_))
      refine And.intro ha (Exists.intro (nI p) (And.intro rfl (And.intro trivial (bI_cases (bw (nI p) (I 31 19)) (fun _ => And.intro (fun c => absurd c (by decide)) (fun _ => And.intro (fun c => absurd c (by decide)) (fun _ => And.intro (fun c => absurd c (by decide)) (fun _ => And.intro (fun c => absurd c (by decide)) (fun _ => And.intro (fun c => absurd c (by decide)) (fun _ => And.intro (fun _ => ?_) (fun c => absurd rfl c))))))) (fun r => by rw [hb] at r; cases r)))))
      refine Exists.intro (p, m, S, (fun p => C (S p)), T, Kd) (And.intro rfl (And.intro ⟨hp, p2, hrf⟩ ?_))
      exact And.intro (Exists.intro (nI (strN (C (S p)) (Kd p) (T p))) (And.intro rfl rfl)) h
    · refine And.intro ha (Exists.intro (nI p) (And.intro rfl (And.intro trivial (bI_cases (bw (nI p) (I 31 19)) (fun _ => And.intro (fun c => absurd c c0) (fun _ => And.intro (fun c => absurd c c1) (fun _ => And.intro (fun c => absurd c c2) (fun _ => And.intro (fun c => absurd c c3) (fun _ => And.intro (fun c => absurd c c4) (fun _ => And.intro (fun c => absurd c c5) (fun _ => ?_))))))) (fun r => by rw [hb] at r; cases r)))))
      exact And.intro (Exists.intro (-2) (And.intro rfl rfl)) h
