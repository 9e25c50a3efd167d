/-! sheet, lose -/
abbrev i_sheetAt : ev := (2, 9, false, 0, 0, inl false 0 0 [e_within] false false kX9_sheetAt 2)
theorem c_sheetAt {l : Launch} : CX l cdX9_sheetAt i_sheetAt := cm_inl RX9 edX9_sheetAt [e_within] false false kX9_sheetAt cwX9_sheetAt okX9_sheetAt ⟨⟨_, rfl, c_within⟩, trivial⟩ (by decide) rfl (fun h => Bool.noConfusion h)
set_option maxRecDepth 20000 in
theorem zz_sheetAt {x : Int32} {a : hA} {I : hI} {J : hJ} {Q : hQ} {K : hR} (h0 : wi x 0 3 = false → K (some .null) a I J Q) (h1 : ∀ b, b < 4 → x = nI b → wi x 0 3 = true → K (some (.ref (shK b))) a I J Q) : i_sheetAt.2.2.2.2.2 [.ref 0, .int x] a I J Q K := by
  refine Exists.intro (x, 0, 3) (And.intro rfl (And.intro trivial ?_))
  refine bI_cases' (wi x 0 3) (fun r1 => ?_) (fun r1 => h0 r1)
  obtain ⟨b, hb3, rfl⟩ := wi_nat (n := 3) (by decide) r1
  have h2 := h1 b (by omega) rfl r1
  refine And.intro (show vp_in (nI b) 4 from vp_in_nI (by omega) (by decide)) ?_
  rcases (show b = 0 ∨ b = 1 ∨ b = 2 ∨ b = 3 by omega) with rfl | rfl | rfl | rfl <;> exact h2
abbrev i_faulted : ev := (2, 9, false, 0, 0, inl false 0 0 [] false false kX9_faulted 2)
theorem c_faulted {l : Launch} : CX l cdX9_faulted i_faulted := cm_inl RX9 edX9_faulted [] false false kX9_faulted cwX9_faulted okX9_faulted trivial (by decide) rfl (fun h => Bool.noConfusion h)
abbrev i_sheet9 : ev := (4, 9, false, 0, 0, inl false 0 0 [i_sheetAt, e_within, i_faulted, e_renew] false false kX9_sheet 5)
theorem c_sheet9 {l : Launch} : CX l cdX9_sheet i_sheet9 := cm_inl RX9 edX9_sheet [i_sheetAt, e_within, i_faulted, e_renew] false false kX9_sheet cwX9_sheet okX9_sheet ⟨⟨_, rfl, c_sheetAt⟩, ⟨_, rfl, c_within⟩, ⟨_, rfl, c_faulted⟩, ⟨_, rfl, c_renew⟩, trivial⟩ (by decide) rfl (fun h => Bool.noConfusion h)
theorem shK_of {b b' : Nat} : shK b = shK b' ↔ b = b' := by unfold shK; omega
/-- a sheet is written, on both sides -/
theorem rS_put {I I' : hI} {b : Nat} (h : rS I) (hb : rSb I' b) (h1 : ∀ k, k ∉ [shK b, shK b + 1, 38, 39, 40] → 23 ≤ k → k < 31 → I' k = I k) (h2 : ∀ j, j ≠ b → I' 38 j = I 38 j) (h3 : ∀ j, j ≠ b → I' 39 j = I 39 j) (h4 : ∀ j, (j < 64 * b ∨ 64 * b + 64 ≤ j) → I' 40 j = I 40 j) : rS I' := by
  intro c hc
  by_cases e : c = b
  · subst e; exact hb
  · have hs := h c hc
    unfold rSb at hs ⊢
    have e1 : I' (shK c) = I (shK c) := h1 _ (by unfold shK; simp; omega) (by unfold shK; omega) (by unfold shK; omega)
    have e2 : I' (shK c + 1) = I (shK c + 1) := h1 _ (by unfold shK; simp; omega) (by unfold shK; omega) (by unfold shK; omega)
    rw [e1, e2, h2 c e, h3 c e]
    rcases hs with hs | ⟨ln, n, q1, q2, q3, q4, q5, q6, q7⟩
    · exact Or.inl hs
    · exact Or.inr ⟨ln, n, q1, q2, q3, q4, q5, q6, fun i hi => by rw [h4 _ (by omega)]; exact q7 i hi⟩
set_option maxRecDepth 20000 in
theorem o_sheet (x ln n : Int32) : opI i_sheet9 e_rsheet [.ref 0, .int x, .int ln, .int n] [.ref 31, .int x, .int ln, .int n] := by
  intro a I J Q h
  have ha := h.1
  refine zz_sheetAt (fun r1 => ?_) (fun b hb hx r1 => ?_)
  · refine And.intro ha (Exists.intro (x, ln, n) (And.intro rfl (And.intro trivial ?_)))
    rintro w I2 J2 Q2 ⟨rfl, rfl, hP, -⟩
    obtain ⟨e1, e2⟩ := hP r1
    rw [e1, e2]
    exact ⟨⟨_, rfl, rfl⟩, fl_1 h⟩
  · have hm2 : (wi ln 0 2 = false ∨ ¬ n ≤ 64) → (60 ≤ a.1 ∧ e_rsheet.2.2.2.2.2 [.ref 31, .int x, .int ln, .int n] a (up2 I 0 15 0) J Q (fun w a2 I2 J2 Q2 => (∃ x, some (Value.int (-2)) = some (.int x) ∧ w = some (.int x)) ∧ relE a2 I2 J2 Q2)) := fun hc => by
      refine And.intro ha (Exists.intro (x, ln, n) (And.intro rfl (And.intro trivial ?_)))
      rintro w I2 J2 Q2 ⟨rfl, rfl, -, hP⟩
      obtain ⟨e1, e2⟩ := (hP r1).1 hc
      rw [e1, e2]
      exact ⟨⟨_, rfl, rfl⟩, fl_1 h⟩
    refine Exists.intro (ln, 0, 2) (And.intro rfl (And.intro trivial ?_))
    refine bI_cases' (wi ln 0 2) (fun r2 => ?_) (fun r2 => hm2 (Or.inl r2))
    refine And.intro (fun (c : n ≤ 64) => ?_) (fun (c : ¬ n ≤ 64) => hm2 (Or.inr c))
    refine And.intro (fun (c2 : 0 ≤ n) => ?_) (fun (c2 : ¬ 0 ≤ n) => ?_)
    · obtain ⟨l', hl', rfl⟩ := wi_nat (n := 2) (by decide) r2
      obtain ⟨n', hn', rfl⟩ := nI_of (Int32.not_lt.mpr c2)
      have hn64 : n' ≤ 64 := (nI_leI (b := 64) hn' (by decide)).mp c
      have ecb : (nI b).toNatClampNeg = b := nI_clamp (by omega)
      have hren : ∀ I1 : hI, (∀ k', k' ≠ shK b → k' ≠ shK b + 1 → I1 k' = up2 I 0 15 0 k') → I1 (shK b) 1 = nI l' → I1 (shK b) 2 = nI n' → (∀ i, i < 64 → I1 (shK b + 1) i = 0) → (60 ≤ a.1 ∧ e_rsheet.2.2.2.2.2 [.ref 31, .int x, .int (nI l'), .int (nI n')] a I1 J Q (fun w a2 I2 J2 Q2 => (∃ x, some (Value.int 1) = some (.int x) ∧ w = some (.int x)) ∧ relE a2 I2 J2 Q2)) := by
        intro I1 k1 k2 k3 k4
        refine And.intro ha (Exists.intro (x, nI l', nI n') (And.intro rfl (And.intro trivial ?_)))
        rintro w I2 J2 Q2 ⟨rfl, rfl, -, hP⟩
        obtain ⟨e1, d1, d2, d3, d4, d5, d6, d7, d8⟩ := ((hP r1).2 r2 c).2 c2
        have e1 : w = some (.int 1) := e1
        have hxb : (x, nI l', nI n').1.toNatClampNeg = b := by show x.toNatClampNeg = b; rw [hx]; exact ecb
        rw [hxb] at d3 d4 d5 d6 d7 d8
        have d1 : fr I1 I2 [31, 38, 39, 40] := d1
        have d2 : ∀ j, I2 31 j = up2 I1 31 0 0 31 j := d2
        have s0 : shK b ≠ 0 ∧ shK b ≠ 31 ∧ shK b + 1 ≠ 31 ∧ 23 ≤ shK b ∧ shK b + 1 < 31 := by unfold shK; omega
        have c0 : ∀ k, k ≠ 0 → k ∉ [31, 38, 39, 40] → k ≠ shK b → k ≠ shK b + 1 → I2 k = I k := fun k q1 q2 q3 q4 => by rw [d1 k q2, k1 k q3 q4, up2_ne q1]
        have cz : ∀ j, I2 0 j = up2 I 0 15 0 0 j := fun j => by rw [d1 0 (by decide), k1 0 (by omega) (by omega)]
        have c31 : ∀ j, I1 31 j = I 31 j := fun j => by rw [k1 31 (by omega) (by omega), up2_ne (by decide)]
        have c38 : ∀ k, 38 ≤ k → k ≤ 40 → I1 k = I k := fun k q1 q2 => by rw [k1 k (by omega) (by omega), up2_ne (by omega)]
        refine ⟨⟨1, rfl, e1⟩, relE_fs h ⟨fun k q1 q2 q3 => c0 k q1 (by simp at q3 ⊢; omega) (by unfold shK; simp at q3; omega) (by unfold shK; simp at q3; omega), fun j q1 q2 => by rw [cz, up2_nej q2], fun j hj => by rw [d2, up2_nej (by omega), c31]⟩ (frJ_refl _ _) ?_ ⟨?_, ?_⟩⟩
        · refine rS_put (b := b) (relE_S h) (Or.inr ⟨l', n', hl', hn64, ?_, d4, ?_, d6, fun i hi => ?_⟩) (fun k q1 q2 q3 => ?_) (fun j hj => by rw [d3 j hj, c38 38 (by decide) (by decide)]) (fun j hj => by rw [d5 j hj, c38 39 (by decide) (by decide)]) (fun j hj => by rw [d7 j hj, c38 40 (by decide) (by decide)])
          · rw [d1 (shK b) (by simp; omega)]; exact k2
          · rw [d1 (shK b) (by simp; omega)]; exact k3
          · rw [d1 (shK b + 1) (by simp; omega), k4 i hi, d8 i hi]
          · simp at q1
            exact c0 k (by omega) (by simp; omega) q1.1 q1.2.1
        · rw [cz, up2_nej (by decide), d2, up2_nej (by decide), c31]; exact h.2.1.1
        · rw [cz, up2_at, d2, up2_at]
      rcases (show b = 0 ∨ b = 1 ∨ b = 2 ∨ b = 3 by omega) with rfl | rfl | rfl | rfl
      · refine Exists.intro (0, nI l', nI n') (And.intro rfl (And.intro (show 0 < 4 by decide) ?_))
        rintro v I1 J1 Q1 ⟨rfl, rfl, rfl, k1, k2, k3, k4⟩
        exact hren I1 k1 k2 k3 k4
      · refine Exists.intro (1, nI l', nI n') (And.intro rfl (And.intro (show 1 < 4 by decide) ?_))
        rintro v I1 J1 Q1 ⟨rfl, rfl, rfl, k1, k2, k3, k4⟩
        exact hren I1 k1 k2 k3 k4
      · refine Exists.intro (2, nI l', nI n') (And.intro rfl (And.intro (show 2 < 4 by decide) ?_))
        rintro v I1 J1 Q1 ⟨rfl, rfl, rfl, k1, k2, k3, k4⟩
        exact hren I1 k1 k2 k3 k4
      · refine Exists.intro (3, nI l', nI n') (And.intro rfl (And.intro (show 3 < 4 by decide) ?_))
        rintro v I1 J1 Q1 ⟨rfl, rfl, rfl, k1, k2, k3, k4⟩
        exact hren I1 k1 k2 k3 k4
    · refine And.intro ha (Exists.intro (x, ln, n) (And.intro rfl (And.intro trivial ?_)))
      rintro w I2 J2 Q2 ⟨rfl, rfl, -, hP⟩
      obtain ⟨e1, e2⟩ := ((hP r1).2 r2 c).1 c2
      rw [e1, e2]
      exact ⟨⟨_, rfl, rfl⟩, fl_2 4 h⟩
