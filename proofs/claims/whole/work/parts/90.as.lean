/-! as -/
abbrev i_as : ev := (3, 9, false, 0, 0, inl false 0 0 [i_punchAt, e_within, i_faulted] false false kX9_as 4)
theorem c_as {l : Launch} : CX l cdX9_as i_as := cm_inl RX9 edX9_as [i_punchAt, e_within, i_faulted] false false kX9_as cwX9_as okX9_as ⟨⟨_, rfl, c_punchAt⟩, ⟨_, rfl, c_within⟩, ⟨_, rfl, c_faulted⟩, trivial⟩ (by decide) rfl (fun h => Bool.noConfusion h)
abbrev i_ras : ev := (3, 10, false, 0, 0, inl false 0 0 [e_risPunch, e_within, e_fails] false false kX10_as 3)
theorem c_ras {l : Launch} : CX l cdX10_as i_ras := cm_inl RX10 edX10_as [e_risPunch, e_within, e_fails] false false kX10_as cwX10_as okX10_as ⟨⟨_, rfl, c_risPunch⟩, ⟨_, rfl, c_rwithin⟩, ⟨_, rfl, c_fails⟩, trivial⟩ (by decide) rfl (fun h => Bool.noConfusion h)
set_option maxRecDepth 20000 in
theorem zz_ras {x y : Int32} {m : Nat} {Kd : Nat → Nat} {a : hA} {I : hI} {J : hJ} {Q : hQ} {K : hR} (hm : I 31 19 = nI m) (hm10 : m ≤ 10) (hk : ∀ p, p < m → I 44 p = nI (Kd p)) (h0 : bw x (nI m) = false → K (some (.int (-1))) a (up2 I 31 0 0) J Q) (h1 : ∀ p, p < m → x = nI p → (wi y 0 2 = false → K (some (.int (-2))) a (up2 I 31 0 0) J Q) ∧ (wi y 0 2 = true → (nI (Kd p) < y → K (some (.int (-12))) a (up2 (up2 I 31 0 0) 31 0 2) J Q) ∧ (¬ nI (Kd p) < y → K (some (.int 1)) a (up2 I 31 0 0) J Q))) : i_ras.2.2.2.2.2 [.ref 31, .int x, .int y] a I J Q K := by
  have e19 : up2 I 31 0 0 31 19 = nI m := by rw [up2_nej (by decide)]; exact hm
  refine Exists.intro x (And.intro rfl (And.intro trivial (bI_cases (bw x (up2 I 31 0 0 31 19)) (fun r => ?_) (fun r => h0 (by rw [e19] at r; exact r)))))
  rw [e19] at r
  obtain ⟨p, hp, rfl⟩ := bw_nat (by omega) r
  obtain ⟨g1, g2⟩ := h1 p hp rfl
  have e44 : up2 I 31 0 0 44 (nI p).toNatClampNeg = nI (Kd p) := by rw [up2_ne (by decide), nI_clamp (by omega)]; exact hk p hp
  refine Exists.intro (y, 0, 2) (And.intro rfl (And.intro trivial (bI_cases (wi y 0 2) (fun r2 => ?_) (fun r2 => g1 r2))))
  refine And.intro (show vp_in (nI p) 10 from vp_in_nI (by omega) (by decide)) (And.intro (fun (c : up2 I 31 0 0 44 (nI p).toNatClampNeg < y) => ?_) (fun (c : ¬ up2 I 31 0 0 44 (nI p).toNatClampNeg < y) => ?_))
  · rw [e44] at c
    refine Exists.intro 2 (And.intro rfl (And.intro trivial ?_))
    rintro v I2 J2 Q2 ⟨rfl, rfl, rfl, rfl⟩
    exact (g2 r2).1 c
  · rw [e44] at c
    exact (g2 r2).2 c
set_option maxRecDepth 20000 in
theorem o_as (x y : Int32) : opI i_as i_ras [.ref 0, .int x, .int y] [.ref 31, .int x, .int y] := by
  intro a I J Q h
  obtain ⟨ha, hT, n, m, wb, mg, wl, ks, C, W, H, kp, S, X, Y, T, Kd, B, -, ⟨⟨p1, p2, p3⟩, p4, p5⟩, -⟩ := id h
  have hk : ∀ p, p < m → up2 I 0 15 0 44 p = nI (Kd p) := fun p hp => by rw [up2_ne (by decide)]; exact (p5 p hp).2.1
  have h19 : up2 I 0 15 0 31 19 = nI m := by rw [up2_ne (by decide)]; exact p4
  refine zz_pAt (m := m) (kp := kp) (show up2 I 0 15 0 0 10 = nI m by rw [up2_nej (by decide)]; exact p1) p2 (fun p hp => (p3 p hp).1) (fun r => ?_) (fun p hp hx => ?_)
  · refine And.intro ha (zz_ras h19 p2 hk (fun _ => ⟨⟨_, rfl, rfl⟩, fl_1 h⟩) (fun p hp hx => ?_))
    rw [hx, bw_of (by omega) hp] at r
    cases r
  · obtain ⟨q1, q2, q3, q4⟩ := (p3 p hp).2
    have hbw : bw x (nI m) = true := by rw [hx]; exact bw_of (by omega) hp
    have hpp : ∀ c, x = nI c → c < m → c = p := fun c hc hcm => by
      rw [hx] at hc
      exact ((nI_eq (by omega) (by omega)).mp hc).symm
    have ek : up2 I 0 15 0 (kp p) 0 = nI (Kd p) := by rw [up2_ne (by omega)]; exact q3.1
    refine Exists.intro (y, 0, 2) (And.intro rfl (And.intro trivial (bI_cases (wi y 0 2) (fun r2 => ?_) (fun r2 => ?_))))
    · refine cko (isOb_ck q1) ?_
      refine And.intro (fun (c : y ≤ up2 I 0 15 0 (kp p) 0) => ?_) (fun (c : ¬ y ≤ up2 I 0 15 0 (kp p) 0) => ?_)
      · rw [ek] at c
        refine And.intro ha (zz_ras h19 p2 hk (fun r => by rw [hbw] at r; cases r) (fun c' hc hxc => ?_))
        obtain rfl := hpp c' hxc hc
        exact ⟨fun r => by (rw [r2] at r; cases r), fun _ => ⟨fun k => absurd c (Int32.not_le.mpr k), fun _ => ⟨⟨_, rfl, rfl⟩, fl_1 h⟩⟩⟩
      · rw [ek] at c
        have e15 : ∀ k : Nat, k ≠ 0 → up2 (up2 I 0 15 0) 0 15 2 k = I k := fun k hk => by rw [up2_ne hk, up2_ne hk]
        refine And.intro ha (zz_ras (I := up2 (up2 I 0 15 0) 0 15 2) (m := m) (Kd := Kd) (by rw [e15 31 (by decide)]; exact p4) p2 (fun p hp => by rw [e15 44 (by decide)]; exact (p5 p hp).2.1) (fun r => by rw [hbw] at r; cases r) (fun c' hc hxc => ?_))
        obtain rfl := hpp c' hxc hc
        exact ⟨fun r => by (rw [r2] at r; cases r), fun _ => ⟨fun _ => ⟨⟨_, rfl, rfl⟩, fl_2 2 h⟩, fun k => absurd (Int32.not_le.mp c) k⟩⟩
    · refine And.intro ha (zz_ras h19 p2 hk (fun r => by rw [hbw] at r; cases r) (fun c' hc hxc => ?_))
      exact ⟨fun _ => ⟨⟨_, rfl, rfl⟩, fl_1 h⟩, fun r => by rw [r2] at r; cases r⟩
