/-! lose -/
abbrev i_hasRow : ev := (1, 8, false, 0, 0, inl false 0 0 [] false true kX8_hasRow 1)
theorem c_hasRow {l : Launch} : CX l cdX8_hasRow i_hasRow := cm_inl RX8 edX8_hasRow [] false true kX8_hasRow cwX8_hasRow okX8_hasRow trivial (by decide) rfl (fun h => Bool.noConfusion h)
abbrev i_drop : ev := (1, 8, false, 0, 0, inl false 0 0 [] false false kX8_drop 1)
theorem c_drop {l : Launch} : CX l cdX8_drop i_drop := cm_inl RX8 edX8_drop [] false false kX8_drop cwX8_drop okX8_drop trivial (by decide) rfl (fun h => Bool.noConfusion h)
abbrev i_lose : ev := (2, 9, false, 0, 0, inl false 0 0 [i_sheetAt, i_hasRow, i_drop] false false kX9_lose 3)
theorem c_lose {l : Launch} : CX l cdX9_lose i_lose := cm_inl RX9 edX9_lose [i_sheetAt, i_hasRow, i_drop] false false kX9_lose cwX9_lose okX9_lose ⟨⟨_, rfl, c_sheetAt⟩, ⟨_, rfl, c_hasRow⟩, ⟨_, rfl, c_drop⟩, trivial⟩ (by decide) rfl (fun h => Bool.noConfusion h)
abbrev i_rlose : ev := (2, 10, false, 0, 0, inl false 0 0 [e_within] false false kX10_lose 3)
theorem c_rlose {l : Launch} : CX l cdX10_lose i_rlose := cm_inl RX10 edX10_lose [e_within] false false kX10_lose cwX10_lose okX10_lose ⟨⟨_, rfl, c_rwithin⟩, trivial⟩ (by decide) rfl (fun h => Bool.noConfusion h)
set_option maxRecDepth 20000 in
theorem zz_rlose {x : Int32} {a : hA} {I : hI} {J : hJ} {Q : hQ} {K : hR} (h0 : wi x 0 3 = false → K (some (.int (-1))) a I J Q) (h1 : ∀ b, b < 4 → x = nI b → wi x 0 3 = true → (I 38 b = -9 → K (some (.int 0)) a (up2 I 38 b (-9)) J Q) ∧ (¬ I 38 b = -9 → K (some (.int 1)) a (up2 I 38 b (-9)) J Q)) : i_rlose.2.2.2.2.2 [.ref 31, .int x] a I J Q K := by
  refine Exists.intro (x, 0, 3) (And.intro rfl (And.intro trivial ?_))
  refine bI_cases (wi x 0 3) (fun r1 => ?_) (fun r1 => h0 r1)
  obtain ⟨b, hb3, rfl⟩ := wi_nat (n := 3) (by decide) r1
  have h2 := h1 b (by omega) rfl r1
  have ecb : (nI b).toNatClampNeg = b := nI_clamp (by omega)
  rw [← ecb] at h2
  have hin : vp_in (nI b) 4 := vp_in_nI (by omega) (by decide)
  refine And.intro hin (And.intro (fun (c : ¬ I 38 (nI b).toNatClampNeg = -9) => And.intro hin (h2.2 c)) (fun (c : I 38 (nI b).toNatClampNeg = -9) => And.intro hin (h2.1 c)))
theorem lose_rel {a : hA} {I I1 : hI} {J : hJ} {Q : hQ} {b : Nat} (hb : b < 4) (h : relE a I J Q) (h1 : ∀ k, k ≠ shK b → I1 k = I k) (h2 : I1 (shK b) 1 = -1) : relE a (up2 I1 38 b (-9)) J Q := by
  have s0 : 23 ≤ shK b ∧ shK b < 31 := by unfold shK; omega
  have c0 : ∀ k, k ≠ 38 → k ≠ shK b → up2 I1 38 b (-9) k = I k := fun k q1 q2 => by rw [up2_ne q1, h1 k q2]
  refine relE_fs h ⟨fun k q1 q2 q3 => ?_, fun j _ _ => by rw [c0 0 (by decide) (by omega)], fun j _ => by rw [c0 31 (by decide) (by omega)]⟩ (frJ_refl _ _) ?_ ⟨by rw [c0 0 (by decide) (by omega), c0 31 (by decide) (by omega)]; exact h.2.1.1, by rw [c0 0 (by decide) (by omega), c0 31 (by decide) (by omega)]; exact h.2.1.2⟩
  · unfold shK at *
    simp at q3
    exact c0 k (by omega) (by omega)
  · refine rS_put (b := b) (relE_S h) (Or.inl ⟨by rw [up2_ne (by omega)]; exact h2, up2_at⟩) (fun k q1 q2 q3 => ?_) (fun j hj => by rw [up2_nej hj, h1 38 (by omega)]) (fun j hj => by rw [c0 39 (by decide) (by omega)]) (fun j hj => by rw [c0 40 (by decide) (by omega)])
    simp at q1
    exact c0 k (by omega) q1.1
theorem rSb_lost {I : hI} {b : Nat} (h : rSb I b) : I (shK b) 1 = -1 ↔ I 38 b = -9 := by
  rcases h with ⟨h1, h2⟩ | ⟨ln, n, q1, q2, q3, q4, q5⟩
  · exact ⟨fun _ => h2, fun _ => h1⟩
  · rw [q3, q4]
    have : ∀ ln, ln ≤ 2 → (nI ln = -1 ↔ nI ln = -9) := by decide
    exact this ln q1
set_option maxRecDepth 20000 in
theorem o_lose (x : Int32) : opI i_lose i_rlose [.ref 0, .int x] [.ref 31, .int x] := by
  intro a I J Q h
  have ha := h.1
  refine zz_sheetAt (fun r1 => ?_) (fun b hb hx r1 => ?_)
  · refine And.intro ha (zz_rlose (fun _ => ?_) (fun b _ _ r => by rw [r1] at r; cases r))
    exact ⟨⟨_, rfl, rfl⟩, h⟩
  · have hs := rSb_lost (relE_S h b hb)
    have hb' : ∀ c, x = nI c → c < 4 → c = b := fun c hc hc4 => by
      rw [hx] at hc
      exact ((nI_eq (by omega) (by omega)).mp hc).symm
    have f0 : I (shK b) 1 = -1 → (60 ≤ a.1 ∧ i_rlose.2.2.2.2.2 [.ref 31, .int x] a I J Q (fun w a2 I2 J2 Q2 => (∃ x, some (Value.int 0) = some (.int x) ∧ w = some (.int x)) ∧ relE a2 I2 J2 Q2)) := fun e => by
      refine And.intro ha (zz_rlose (fun r => by rw [r1] at r; cases r) (fun c hc hxc _ => ?_))
      obtain rfl := hb' c hxc hc
      exact ⟨fun _ => ⟨⟨_, rfl, rfl⟩, lose_rel hb h (fun _ _ => rfl) e⟩, fun k => absurd (hs.mp e) k⟩
    have f1 : ∀ I1 : hI, ¬ I (shK b) 1 = -1 → (∀ k, k ≠ shK b → I1 k = I k) → I1 (shK b) 1 = -1 → (60 ≤ a.1 ∧ i_rlose.2.2.2.2.2 [.ref 31, .int x] a I1 J Q (fun w a2 I2 J2 Q2 => (∃ x, some (Value.int 1) = some (.int x) ∧ w = some (.int x)) ∧ relE a2 I2 J2 Q2)) := fun I1 e k1 k2 => by
      refine And.intro ha (zz_rlose (fun r => by rw [r1] at r; cases r) (fun c hc hxc _ => ?_))
      obtain rfl := hb' c hxc hc
      refine ⟨fun k => absurd ?_ e, fun _ => ⟨⟨_, rfl, rfl⟩, lose_rel hb h k1 k2⟩⟩
      rw [k1 38 (by unfold shK; omega)] at k
      exact hs.mpr k
    rcases (show b = 0 ∨ b = 1 ∨ b = 2 ∨ b = 3 by omega) with rfl | rfl | rfl | rfl
    · refine And.intro (fun (c : I 23 1 = -1) => And.intro (Or.inl rfl) (And.intro (fun c => absurd rfl c) (fun _ => f0 c))) (fun (c : ¬ I 23 1 = -1) => And.intro (Or.inr rfl) (And.intro (fun _ => ?_) (fun c => absurd c (by decide))))
      exact f1 (up2 (up2 I 23 1 (-1)) 23 2 0) c (fun k (hk : k ≠ 23) => by rw [up2_ne hk, up2_ne hk]) (by show up2 (up2 I 23 1 (-1)) 23 2 0 23 1 = -1; rw [up2_nej (by decide), up2_at])
    · refine And.intro (fun (c : I 25 1 = -1) => And.intro (Or.inl rfl) (And.intro (fun c => absurd rfl c) (fun _ => f0 c))) (fun (c : ¬ I 25 1 = -1) => And.intro (Or.inr rfl) (And.intro (fun _ => ?_) (fun c => absurd c (by decide))))
      exact f1 (up2 (up2 I 25 1 (-1)) 25 2 0) c (fun k (hk : k ≠ 25) => by rw [up2_ne hk, up2_ne hk]) (by show up2 (up2 I 25 1 (-1)) 25 2 0 25 1 = -1; rw [up2_nej (by decide), up2_at])
    · refine And.intro (fun (c : I 27 1 = -1) => And.intro (Or.inl rfl) (And.intro (fun c => absurd rfl c) (fun _ => f0 c))) (fun (c : ¬ I 27 1 = -1) => And.intro (Or.inr rfl) (And.intro (fun _ => ?_) (fun c => absurd c (by decide))))
      exact f1 (up2 (up2 I 27 1 (-1)) 27 2 0) c (fun k (hk : k ≠ 27) => by rw [up2_ne hk, up2_ne hk]) (by show up2 (up2 I 27 1 (-1)) 27 2 0 27 1 = -1; rw [up2_nej (by decide), up2_at])
    · refine And.intro (fun (c : I 29 1 = -1) => And.intro (Or.inl rfl) (And.intro (fun c => absurd rfl c) (fun _ => f0 c))) (fun (c : ¬ I 29 1 = -1) => And.intro (Or.inr rfl) (And.intro (fun _ => ?_) (fun c => absurd c (by decide))))
      exact f1 (up2 (up2 I 29 1 (-1)) 29 2 0) c (fun k (hk : k ≠ 29) => by rw [up2_ne hk, up2_ne hk]) (by show up2 (up2 I 29 1 (-1)) 29 2 0 29 1 = -1; rw [up2_nej (by decide), up2_at])
