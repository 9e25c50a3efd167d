/-! keep, as -/
theorem bw_nat {x : Int32} {m : Nat} (hm : m ≤ 12) (h : bw x (nI m) = true) : ∃ p, p < m ∧ x = nI p := by
  unfold bw at h
  rw [Bool.and_eq_true, decide_eq_true_iff, decide_eq_true_iff] at h
  obtain ⟨p, hp, rfl⟩ := nI_of (Int32.not_lt.mpr h.1)
  exact ⟨p, (nI_ltI hp (by omega)).mp h.2, rfl⟩
theorem bw_of {p m : Nat} (hm : m ≤ 12) (h : p < m) : bw (nI p) (nI m) = true := bw_in (nI_pos (by omega)) (nI_ge h (by omega))
theorem wi_of {p m : Nat} (hm : m ≤ 12) (h : p < m) : wi (nI p) 0 (nI m - 1) = true := by
  obtain ⟨m', rfl⟩ : ∃ m', m = m' + 1 := ⟨m - 1, by omega⟩
  rw [nI_pred]
  exact wi_in (nI_pos (by omega)) (nI_nlt (by omega) (by omega))
set_option maxRecDepth 20000 in
theorem zz_pAt {x : Int32} {m : Nat} {kp : Nat → Nat} {a : hA} {I : hI} {J : hJ} {Q : hQ} {K : hR} (hm : I 0 10 = nI m) (hm10 : m ≤ 10) (hq : ∀ p, p < m → Q 2 p = some (kp p)) (h0 : bw x (nI m) = false → K (some .null) a I J Q) (h1 : ∀ p, p < m → x = nI p → K (some (.ref (kp p))) a I J Q) : i_punchAt.2.2.2.2.2 [.ref 0, .int x] a I J Q K := by
  cases hw : wi x 0 (I 0 10 - 1) with
  | true =>
    rw [hm] at hw
    obtain ⟨p, hp, rfl⟩ := wi_st hm10 hw
    exact zz_punchAt hm hm10 hp (hq p hp) (h1 p hp rfl)
  | false =>
    have hb : bw x (nI m) = false := by
      cases hb : bw x (nI m) with
      | false => rfl
      | true =>
        obtain ⟨p, hp, rfl⟩ := bw_nat (by omega) hb
        rw [hm, wi_of (by omega) hp] at hw
        cases hw
    refine Exists.intro (x, 0, I 0 10 - 1) (And.intro rfl (And.intro trivial ?_))
    refine And.intro (bI_01 _) ?_
    exact bI_cases' (wi x 0 (I 0 10 - 1)) (fun r => by rw [hw] at r; cases r) (fun _ => h0 hb)
/-- the trace is written, on both sides -/
theorem tr_rel {a : hA} {I : hI} {J : hJ} {Q : hQ} {u w : Int32} (h : relE a I J Q) (e : u = w) : relE a (up2 (up2 I 0 14 u) 31 1 w) J Q := relE_fr h ⟨fun k a1 a2 _ => by rw [up2_ne a2, up2_ne a1], fun j b1 _ => by rw [up2_ne (by decide), up2_nej b1], fun j hj => by rw [up2_nej (by omega), up2_ne (by decide)]⟩ (frJ_refl _ _) ⟨by rw [up2_ne (by decide), up2_at, up2_at]; exact e, by rw [up2_ne (by decide), up2_nej (by decide), up2_nej (by decide), up2_ne (by decide)]; exact h.2.1.2⟩
abbrev i_leave : ev := (2, 9, false, 0, 0, inl false 0 0 [] false false kX9_leave 2)
theorem c_leave {l : Launch} : CX l cdX9_leave i_leave := cm_inl RX9 edX9_leave [] false false kX9_leave cwX9_leave okX9_leave trivial (by decide) rfl (fun h => Bool.noConfusion h)
abbrev i_bendK : ev := (1, 9, false, 0, 0, inl false 0 0 [i_leave] false false kX9_bendKeeps 1)
theorem c_bendK {l : Launch} : CX l cdX9_bendKeeps i_bendK := cm_inl RX9 edX9_bendKeeps [i_leave] false false kX9_bendKeeps cwX9_bendKeeps okX9_bendKeeps ⟨⟨_, rfl, c_leave⟩, trivial⟩ (by decide) rfl (fun h => Bool.noConfusion h)
abbrev i_lentK : ev := (3, 9, false, 0, 0, inl false 0 0 [i_leave] false false kX9_lentKeeps 3)
theorem c_lentK {l : Launch} : CX l cdX9_lentKeeps i_lentK := cm_inl RX9 edX9_lentKeeps [i_leave] false false kX9_lentKeeps cwX9_lentKeeps okX9_lentKeeps ⟨⟨_, rfl, c_leave⟩, trivial⟩ (by decide) rfl (fun h => Bool.noConfusion h)
abbrev i_keep : ev := (2, 9, false, 0, 0, inl false 0 0 [i_punchAt, i_bendK, i_lentK] false false kX9_keep 3)
theorem c_keep {l : Launch} : CX l cdX9_keep i_keep := cm_inl RX9 edX9_keep [i_punchAt, i_bendK, i_lentK] false false kX9_keep cwX9_keep okX9_keep ⟨⟨_, rfl, c_punchAt⟩, ⟨_, rfl, c_bendK⟩, ⟨_, rfl, c_lentK⟩, trivial⟩ (by decide) rfl (fun h => Bool.noConfusion h)
set_option maxRecDepth 20000 in
theorem o_keep (x : Int32) : opI i_keep i_rkeep [.ref 0, .int x] [.ref 31, .int x] := by
  intro a I J Q h
  obtain ⟨ha, hT, n, m, wb, mg, wl, ks, C, W, H, kp, S, X, Y, T, Kd, B, -, ⟨⟨p1, p2, p3⟩, p4, p5⟩, -⟩ := id h
  refine zz_pAt p1 p2 (fun p hp => (p3 p hp).1) (fun r => ?_) (fun p hp hx => ?_)
  · refine And.intro ha (zz_keep x a I J Q _ (fun _ => ⟨⟨_, rfl, rfl⟩, h⟩) (fun k => ?_) (fun k => ?_) (fun k => ?_))
    all_goals (rw [p4, r] at k; cases k)
  · obtain ⟨q1, q2, q3, q4, q5, q6, q7, q8, q9⟩ := (p3 p hp).2
    have hk : I (kp p) 0 = nI (Kd p) := q3.1
    have h44 : I 44 p = nI (Kd p) := (p5 p hp).2.1
    have ecp : x.toNatClampNeg = p := by rw [hx]; exact nI_clamp (by omega)
    have hbw : ∀ u, bw x (up2 I 0 14 u 31 19) = true := fun u => by rw [up2_ne (by decide), p4, hx]; exact bw_of (by omega) hp
    have hin : vp_in x 10 := by rw [hx]; exact vp_in_nI (by omega) (by decide)
    refine cko (isOb_ck q1) ?_
    refine And.intro (fun (c : ¬ I (kp p) 0 = 2) => ?_) (fun (c : I (kp p) 0 = 2) => ?_)
    · refine cko (isOb_ck q1) ?_
      refine And.intro ha (zz_keep x a (up2 I 0 14 (31 * I 0 14 + 4)) J Q _ (fun k => by rw [hbw] at k; cases k) (fun _ => hin) (fun _ k => ?_) (fun _ k => ?_))
      · rw [up2_ne (by decide), ecp, h44, ← hk] at k
        exact absurd k c
      · refine ⟨⟨x + I (kp p) 0, rfl, ?_⟩, tr_rel h ?_⟩
        · rw [up2_ne (by decide), ecp, h44, hk]
        · rw [up2_ne (by decide), hT.1]
    · refine And.intro ha (zz_keep x a (up2 I 0 14 (31 * I 0 14 + 5)) J Q _ (fun k => by rw [hbw] at k; cases k) (fun _ => hin) (fun _ k => ?_) (fun _ k => ?_))
      · refine ⟨⟨50, rfl, rfl⟩, tr_rel h ?_⟩
        rw [up2_ne (by decide), hT.1]
      · rw [up2_ne (by decide), ecp, h44, ← hk] at k
        exact absurd c k
