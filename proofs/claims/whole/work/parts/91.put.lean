/-! put, at -/
def fof (I : hI) (k : Nat) (asl i many : Int32) : Int32 := if I k 1 = -1 then 1 else if I k 1 = asl then (if i < 0 then 3 else if i ≤ I k 2 - many then 0 else 3) else 2
def wrV (l v : Int32) : Int32 := if l = 0 then v.toInt8.toInt32 else if l = 1 then v.toInt16.toInt32 else v
abbrev i_faultOf : ev := (4, 8, false, 0, 0, inl false 0 0 [i_hasRow] false false kX8_faultOf 4)
theorem c_faultOf {l : Launch} : CX l cdX8_faultOf i_faultOf := cm_inl RX8 edX8_faultOf [i_hasRow] false false kX8_faultOf cwX8_faultOf okX8_faultOf ⟨⟨_, rfl, c_hasRow⟩, trivial⟩ (by decide) rfl (fun h => Bool.noConfusion h)
abbrev i_write : ev := (3, 8, false, 0, 0, inl false 0 0 [] false false kX8_write 3)
theorem c_write {l : Launch} : CX l cdX8_write i_write := cm_inl RX8 edX8_write [] false false kX8_write cwX8_write okX8_write trivial (by decide) rfl (fun h => Bool.noConfusion h)
abbrev i_put : ev := (4, 9, false, 0, 0, inl false 0 0 [i_sheetAt, i_faultOf, i_faulted, i_write] false false kX9_put 6)
theorem c_put {l : Launch} : CX l cdX9_put i_put := cm_inl RX9 edX9_put [i_sheetAt, i_faultOf, i_faulted, i_write] false false kX9_put cwX9_put okX9_put ⟨⟨_, rfl, c_sheetAt⟩, ⟨_, rfl, c_faultOf⟩, ⟨_, rfl, c_faulted⟩, ⟨_, rfl, c_write⟩, trivial⟩ (by decide) rfl (fun h => Bool.noConfusion h)
abbrev i_at : ev := (4, 9, false, 0, 0, inl false 0 0 [i_sheetAt, e_within, i_faultOf] false false kX9_at 5)
theorem c_at {l : Launch} : CX l cdX9_at i_at := cm_inl RX9 edX9_at [i_sheetAt, e_within, i_faultOf] false false kX9_at cwX9_at okX9_at ⟨⟨_, rfl, c_sheetAt⟩, ⟨_, rfl, c_within⟩, ⟨_, rfl, c_faultOf⟩, trivial⟩ (by decide) rfl (fun h => Bool.noConfusion h)
abbrev i_rput : ev := (4, 10, false, 0, 0, inl false 0 0 [e_within, e_fails] false false kX10_put 4)
theorem c_rput {l : Launch} : CX l cdX10_put i_rput := cm_inl RX10 edX10_put [e_within, e_fails] false false kX10_put cwX10_put okX10_put ⟨⟨_, rfl, c_rwithin⟩, ⟨_, rfl, c_fails⟩, trivial⟩ (by decide) rfl (fun h => Bool.noConfusion h)
abbrev i_rat : ev := (4, 10, false, 0, 0, inl false 0 0 [e_within, e_lost] false false kX10_at 4)
theorem c_rat {l : Launch} : CX l cdX10_at i_rat := cm_inl RX10 edX10_at [e_within, e_lost] false false kX10_at cwX10_at okX10_at ⟨⟨_, rfl, c_rwithin⟩, ⟨_, rfl, c_lost⟩, trivial⟩ (by decide) rfl (fun h => Bool.noConfusion h)
set_option maxRecDepth 20000 in
theorem fo_0 {asl i many : Int32} {a : hA} {I : hI} {J : hJ} {Q : hQ} {K : hR} (h : K (some (.int (fof I 23 asl i many))) a I J Q) : i_faultOf.2.2.2.2.2 [.ref 23, .int asl, .int i, .int many] a I J Q K := by
  refine And.intro (fun (c : I 23 1 = -1) => And.intro (Or.inl rfl) (And.intro (fun c => absurd rfl c) (fun _ => ?_))) (fun (c : ¬ I 23 1 = -1) => And.intro (Or.inr rfl) (And.intro (fun _ => ?_) (fun c => absurd c (by decide))))
  · unfold fof at h; rw [if_pos c] at h; exact h
  · unfold fof at h; rw [if_neg c] at h
    refine And.intro (fun (c1 : I 23 1 = asl) => ?_) (fun (c1 : ¬ I 23 1 = asl) => ?_)
    · rw [if_pos c1] at h
      refine And.intro (fun (c2 : i < 0) => ?_) (fun (c2 : ¬ i < 0) => And.intro (fun (c3 : i ≤ I 23 2 - many) => ?_) (fun (c3 : ¬ i ≤ I 23 2 - many) => ?_))
      · rw [if_pos c2] at h; exact h
      · rw [if_neg c2, if_pos c3] at h; exact h
      · rw [if_neg c2, if_neg c3] at h; exact h
    · rw [if_neg c1] at h; exact h
set_option maxRecDepth 20000 in
theorem wr_0 {j : Nat} (hj : j < 64) {v : Int32} {a : hA} {I : hI} {J : hJ} {Q : hQ} {K : hR} (h : K none a (up2 I 24 j (wrV (I 23 1) v)) J Q) : i_write.2.2.2.2.2 [.ref 23, .int (nI j), .int v] a I J Q K := by
  have hin : vp_in (nI j) 64 := vp_in_nI hj (by decide)
  have ecj : (nI j).toNatClampNeg = j := nI_clamp (by omega)
  rw [← ecj] at h
  unfold wrV at h
  refine And.intro (fun (c : I 23 1 = 0) => And.intro hin ?_) (fun (c : ¬ I 23 1 = 0) => And.intro (fun (c1 : I 23 1 = 1) => And.intro hin ?_) (fun (c1 : ¬ I 23 1 = 1) => And.intro hin ?_))
  · rw [if_pos c] at h; exact h
  · rw [if_neg c, if_pos c1] at h; exact h
  · rw [if_neg c, if_neg c1] at h; exact h
set_option maxRecDepth 20000 in
theorem fo_1 {asl i many : Int32} {a : hA} {I : hI} {J : hJ} {Q : hQ} {K : hR} (h : K (some (.int (fof I 25 asl i many))) a I J Q) : i_faultOf.2.2.2.2.2 [.ref 25, .int asl, .int i, .int many] a I J Q K := by
  refine And.intro (fun (c : I 25 1 = -1) => And.intro (Or.inl rfl) (And.intro (fun c => absurd rfl c) (fun _ => ?_))) (fun (c : ¬ I 25 1 = -1) => And.intro (Or.inr rfl) (And.intro (fun _ => ?_) (fun c => absurd c (by decide))))
  · unfold fof at h; rw [if_pos c] at h; exact h
  · unfold fof at h; rw [if_neg c] at h
    refine And.intro (fun (c1 : I 25 1 = asl) => ?_) (fun (c1 : ¬ I 25 1 = asl) => ?_)
    · rw [if_pos c1] at h
      refine And.intro (fun (c2 : i < 0) => ?_) (fun (c2 : ¬ i < 0) => And.intro (fun (c3 : i ≤ I 25 2 - many) => ?_) (fun (c3 : ¬ i ≤ I 25 2 - many) => ?_))
      · rw [if_pos c2] at h; exact h
      · rw [if_neg c2, if_pos c3] at h; exact h
      · rw [if_neg c2, if_neg c3] at h; exact h
    · rw [if_neg c1] at h; exact h
set_option maxRecDepth 20000 in
theorem wr_1 {j : Nat} (hj : j < 64) {v : Int32} {a : hA} {I : hI} {J : hJ} {Q : hQ} {K : hR} (h : K none a (up2 I 26 j (wrV (I 25 1) v)) J Q) : i_write.2.2.2.2.2 [.ref 25, .int (nI j), .int v] a I J Q K := by
  have hin : vp_in (nI j) 64 := vp_in_nI hj (by decide)
  have ecj : (nI j).toNatClampNeg = j := nI_clamp (by omega)
  rw [← ecj] at h
  unfold wrV at h
  refine And.intro (fun (c : I 25 1 = 0) => And.intro hin ?_) (fun (c : ¬ I 25 1 = 0) => And.intro (fun (c1 : I 25 1 = 1) => And.intro hin ?_) (fun (c1 : ¬ I 25 1 = 1) => And.intro hin ?_))
  · rw [if_pos c] at h; exact h
  · rw [if_neg c, if_pos c1] at h; exact h
  · rw [if_neg c, if_neg c1] at h; exact h
set_option maxRecDepth 20000 in
theorem fo_2 {asl i many : Int32} {a : hA} {I : hI} {J : hJ} {Q : hQ} {K : hR} (h : K (some (.int (fof I 27 asl i many))) a I J Q) : i_faultOf.2.2.2.2.2 [.ref 27, .int asl, .int i, .int many] a I J Q K := by
  refine And.intro (fun (c : I 27 1 = -1) => And.intro (Or.inl rfl) (And.intro (fun c => absurd rfl c) (fun _ => ?_))) (fun (c : ¬ I 27 1 = -1) => And.intro (Or.inr rfl) (And.intro (fun _ => ?_) (fun c => absurd c (by decide))))
  · unfold fof at h; rw [if_pos c] at h; exact h
  · unfold fof at h; rw [if_neg c] at h
    refine And.intro (fun (c1 : I 27 1 = asl) => ?_) (fun (c1 : ¬ I 27 1 = asl) => ?_)
    · rw [if_pos c1] at h
      refine And.intro (fun (c2 : i < 0) => ?_) (fun (c2 : ¬ i < 0) => And.intro (fun (c3 : i ≤ I 27 2 - many) => ?_) (fun (c3 : ¬ i ≤ I 27 2 - many) => ?_))
      · rw [if_pos c2] at h; exact h
      · rw [if_neg c2, if_pos c3] at h; exact h
      · rw [if_neg c2, if_neg c3] at h; exact h
    · rw [if_neg c1] at h; exact h
set_option maxRecDepth 20000 in
theorem wr_2 {j : Nat} (hj : j < 64) {v : Int32} {a : hA} {I : hI} {J : hJ} {Q : hQ} {K : hR} (h : K none a (up2 I 28 j (wrV (I 27 1) v)) J Q) : i_write.2.2.2.2.2 [.ref 27, .int (nI j), .int v] a I J Q K := by
  have hin : vp_in (nI j) 64 := vp_in_nI hj (by decide)
  have ecj : (nI j).toNatClampNeg = j := nI_clamp (by omega)
  rw [← ecj] at h
  unfold wrV at h
  refine And.intro (fun (c : I 27 1 = 0) => And.intro hin ?_) (fun (c : ¬ I 27 1 = 0) => And.intro (fun (c1 : I 27 1 = 1) => And.intro hin ?_) (fun (c1 : ¬ I 27 1 = 1) => And.intro hin ?_))
  · rw [if_pos c] at h; exact h
  · rw [if_neg c, if_pos c1] at h; exact h
  · rw [if_neg c, if_neg c1] at h; exact h
set_option maxRecDepth 20000 in
theorem fo_3 {asl i many : Int32} {a : hA} {I : hI} {J : hJ} {Q : hQ} {K : hR} (h : K (some (.int (fof I 29 asl i many))) a I J Q) : i_faultOf.2.2.2.2.2 [.ref 29, .int asl, .int i, .int many] a I J Q K := by
  refine And.intro (fun (c : I 29 1 = -1) => And.intro (Or.inl rfl) (And.intro (fun c => absurd rfl c) (fun _ => ?_))) (fun (c : ¬ I 29 1 = -1) => And.intro (Or.inr rfl) (And.intro (fun _ => ?_) (fun c => absurd c (by decide))))
  · unfold fof at h; rw [if_pos c] at h; exact h
  · unfold fof at h; rw [if_neg c] at h
    refine And.intro (fun (c1 : I 29 1 = asl) => ?_) (fun (c1 : ¬ I 29 1 = asl) => ?_)
    · rw [if_pos c1] at h
      refine And.intro (fun (c2 : i < 0) => ?_) (fun (c2 : ¬ i < 0) => And.intro (fun (c3 : i ≤ I 29 2 - many) => ?_) (fun (c3 : ¬ i ≤ I 29 2 - many) => ?_))
      · rw [if_pos c2] at h; exact h
      · rw [if_neg c2, if_pos c3] at h; exact h
      · rw [if_neg c2, if_neg c3] at h; exact h
    · rw [if_neg c1] at h; exact h
set_option maxRecDepth 20000 in
theorem wr_3 {j : Nat} (hj : j < 64) {v : Int32} {a : hA} {I : hI} {J : hJ} {Q : hQ} {K : hR} (h : K none a (up2 I 30 j (wrV (I 29 1) v)) J Q) : i_write.2.2.2.2.2 [.ref 29, .int (nI j), .int v] a I J Q K := by
  have hin : vp_in (nI j) 64 := vp_in_nI hj (by decide)
  have ecj : (nI j).toNatClampNeg = j := nI_clamp (by omega)
  rw [← ecj] at h
  unfold wrV at h
  refine And.intro (fun (c : I 29 1 = 0) => And.intro hin ?_) (fun (c : ¬ I 29 1 = 0) => And.intro (fun (c1 : I 29 1 = 1) => And.intro hin ?_) (fun (c1 : ¬ I 29 1 = 1) => And.intro hin ?_))
  · rw [if_pos c] at h; exact h
  · rw [if_neg c, if_pos c1] at h; exact h
  · rw [if_neg c, if_neg c1] at h; exact h
set_option maxRecDepth 20000 in
theorem zz_rput {x i v : Int32} {a : hA} {I : hI} {J : hJ} {Q : hQ} {K : hR} (h0 : wi x 0 3 = false → K (some (.int (-1))) a (up2 I 31 0 0) J Q) (h1 : ∀ b, b < 4 → x = nI b → (I 38 b = -9 → K (some (.int (-11))) a (up2 (up2 I 31 0 0) 31 0 1) J Q) ∧ (¬ I 38 b = -9 → (wi i 0 (I 39 b - 1) = false → K (some (.int (-13))) a (up2 (up2 I 31 0 0) 31 0 3) J Q) ∧ (wi i 0 (I 39 b - 1) = true → ∃ j, j < 64 ∧ i = nI j ∧ K (some (.int 1)) a (up2 (up2 I 31 0 0) 40 (64 * b + j) (wrV (I 38 b) v)) J Q))) : i_rput.2.2.2.2.2 [.ref 31, .int x, .int i, .int v] a I J Q K := by
  refine Exists.intro (x, 0, 3) (And.intro rfl (And.intro trivial (bI_cases (wi x 0 3) (fun r1 => ?_) (fun r1 => h0 r1))))
  obtain ⟨b, hb3, rfl⟩ := wi_nat (n := 3) (by decide) r1
  obtain ⟨g1, g2⟩ := h1 b (by omega) rfl
  have ecb : (nI b).toNatClampNeg = b := nI_clamp (by omega)
  have hin : vp_in (nI b) 4 := vp_in_nI (by omega) (by decide)
  have e38 : up2 I 31 0 0 38 (nI b).toNatClampNeg = I 38 b := by rw [up2_ne (by decide), ecb]
  have e39 : up2 I 31 0 0 39 (nI b).toNatClampNeg = I 39 b := by rw [up2_ne (by decide), ecb]
  refine And.intro hin (And.intro (fun (c : ¬ up2 I 31 0 0 38 (nI b).toNatClampNeg = -9) => ?_) (fun (c : up2 I 31 0 0 38 (nI b).toNatClampNeg = -9) => ?_))
  · rw [e38] at c
    obtain ⟨g3, g4⟩ := g2 c
    refine And.intro hin (Exists.intro (i, 0, up2 I 31 0 0 39 (nI b).toNatClampNeg - 1) (And.intro rfl (And.intro trivial (bI_cases (wi i 0 (up2 I 31 0 0 39 (nI b).toNatClampNeg - 1)) (fun r => ?_) (fun r => ?_)))))
    · rw [e39] at r
      obtain ⟨j, hj, rfl, hk⟩ := g4 r
      have e1 : 64 * nI b + nI j = nI (64 * b + j) := by rw [show (64 : Int32) = nI 64 from rfl, pk_mul, nI_add]
      have ec : (64 * nI b + nI j).toNatClampNeg = 64 * b + j := by rw [e1]; exact nI_clamp (by omega)
      have hin2 : vp_in (64 * nI b + nI j) 256 := by rw [e1]; exact vp_in_nI (by omega) (by decide)
      rw [← ec, ← e38] at hk
      unfold wrV at hk
      refine And.intro hin (And.intro (fun (c1 : ¬ up2 I 31 0 0 38 (nI b).toNatClampNeg = 0) => And.intro hin (And.intro (fun (c2 : ¬ up2 I 31 0 0 38 (nI b).toNatClampNeg = 1) => And.intro hin2 ?_) (fun (c2 : up2 I 31 0 0 38 (nI b).toNatClampNeg = 1) => And.intro hin2 ?_))) (fun (c1 : up2 I 31 0 0 38 (nI b).toNatClampNeg = 0) => And.intro hin2 ?_))
      · rw [if_neg c1, if_neg c2] at hk; exact hk
      · rw [if_neg c1, if_pos c2] at hk; exact hk
      · rw [if_pos c1] at hk; exact hk
    · rw [e39] at r
      refine Exists.intro 3 (And.intro rfl (And.intro trivial ?_))
      rintro w I2 J2 Q2 ⟨rfl, rfl, rfl, rfl⟩
      exact g3 r
  · rw [e38] at c
    refine Exists.intro 1 (And.intro rfl (And.intro trivial ?_))
    rintro w I2 J2 Q2 ⟨rfl, rfl, rfl, rfl⟩
    exact g1 c
/-- what a sheet's fault is, on both sides -/
theorem rSb_put {I : hI} {b : Nat} {i : Int32} (h : rSb I b) : (fof I (shK b) (I (shK b) 1) i 1 = 1 ∧ I 38 b = -9) ∨ (¬ I 38 b = -9 ∧ I (shK b) 1 = I 38 b ∧ ((fof I (shK b) (I (shK b) 1) i 1 = 3 ∧ wi i 0 (I 39 b - 1) = false) ∨ (fof I (shK b) (I (shK b) 1) i 1 = 0 ∧ wi i 0 (I 39 b - 1) = true ∧ ∃ j, j < 64 ∧ i = nI j))) := by
  have h9 := rSb_lost h
  rcases h with ⟨h1, h2⟩ | ⟨ln, n, q1, q2, q3, q4, q5, q6, q7⟩
  · refine Or.inl ⟨?_, h2⟩
    unfold fof
    rw [if_pos h1]
  · have hl : ¬ I 38 b = -9 := by
      rw [q4]
      have : ∀ ln, ln ≤ 2 → ¬ nI ln = -9 := by decide
      exact this ln q1
    refine Or.inr ⟨hl, by rw [q3, q4], ?_⟩
    unfold fof
    rw [if_neg (fun e => hl (h9.mp e)), if_pos rfl]
    rw [q5, q6]
    by_cases c : i < 0
    · rw [if_pos c]
      exact Or.inl ⟨rfl, wi_lo c⟩
    · rw [if_neg c]
      by_cases c2 : i ≤ nI n - 1
      · rw [if_pos c2]
        refine Or.inr ⟨rfl, wi_in c (Int32.not_lt.mpr c2), ?_⟩
        obtain ⟨j, hj, rfl⟩ := nI_of c
        refine ⟨j, ?_, rfl⟩
        rcases Nat.eq_zero_or_pos n with rfl | hn
        · exact absurd (Int32.lt_of_le_of_lt c2 (show nI 0 - 1 < 0 by decide)) c
        · obtain ⟨n', rfl⟩ : ∃ n', n = n' + 1 := ⟨n - 1, by omega⟩
          rw [nI_pred, nI_leI hj (by omega)] at c2
          omega
      · rw [if_neg c2]
        exact Or.inl ⟨rfl, wi_hi (Int32.not_le.mp c2)⟩
theorem rSb_i {I I' : hI} {b : Nat} (h : rSb I b) (h1 : I' (shK b) = I (shK b)) (h2 : I' (shK b + 1) = I (shK b + 1)) (h3 : I' 38 = I 38) (h4 : I' 39 = I 39) (h5 : I' 40 = I 40) : rSb I' b := by
  unfold rSb at h ⊢
  rw [h1, h2, h3, h4, h5]
  exact h
set_option maxRecDepth 20000 in
theorem o_put (x i v : Int32) : opI i_put i_rput [.ref 0, .int x, .int i, .int v] [.ref 31, .int x, .int i, .int v] := by
  intro a I J Q h
  have ha := h.1
  refine zz_sheetAt (fun r1 => ?_) (fun b hb hx r1 => ?_)
  · exact And.intro ha (zz_rput (fun _ => ⟨⟨_, rfl, rfl⟩, fl_1 h⟩) (fun b hb hx => by rw [hx, show wi (nI b) 0 3 = true from (by rcases (show b = 0 ∨ b = 1 ∨ b = 2 ∨ b = 3 by omega) with rfl | rfl | rfl | rfl <;> decide)] at r1; cases r1))
  · have s0 : 23 ≤ shK b ∧ shK b + 1 < 31 := by unfold shK; omega
    have hs0 := relE_S h b hb
    have hs : rSb (up2 I 0 15 0) b := rSb_i hs0 (up2_ne (by omega)) (up2_ne (by omega)) (up2_ne (by decide)) (up2_ne (by decide)) (up2_ne (by decide))
    have hp := rSb_put (i := i) hs
    have hb' : ∀ c, x = nI c → c < 4 → c = b := fun c hc hc4 => by
      rw [hx] at hc
      exact ((nI_eq (by omega) (by omega)).mp hc).symm
    have hr0 : wi x 0 3 = false → False := fun r => by rw [r1] at r; cases r
    have g1 : ∀ e, fof (up2 I 0 15 0) (shK b) (up2 I 0 15 0 (shK b) 1) i 1 = e → ¬ e = 0 → (60 ≤ a.1 ∧ i_rput.2.2.2.2.2 [.ref 31, .int x, .int i, .int v] a (up2 (up2 I 0 15 0) 0 15 e) J Q (fun w a2 I2 J2 Q2 => (∃ x, some (Value.int (-10 - e)) = some (.int x) ∧ w = some (.int x)) ∧ relE a2 I2 J2 Q2)) := fun e he hne => by
      refine And.intro ha (zz_rput (fun r => (hr0 r).elim) (fun c hc hxc => ?_))
      obtain rfl := hb' c hxc hc
      rw [up2_ne (show (38 : Nat) ≠ 0 by decide), up2_ne (show (39 : Nat) ≠ 0 by decide)]
      rcases hp with ⟨k1, k2⟩ | ⟨k1, k2, ⟨k3, k4⟩ | ⟨k3, -⟩⟩
      · rw [k1] at he
        subst he
        exact ⟨fun _ => ⟨⟨_, rfl, rfl⟩, fl_2 1 h⟩, fun k => absurd k2 k⟩
      · rw [k3] at he
        subst he
        exact ⟨fun k => absurd k k1, fun _ => ⟨fun _ => ⟨⟨_, rfl, rfl⟩, fl_2 3 h⟩, fun k => by rw [k4] at k; cases k⟩⟩
      · rw [k3] at he
        exact absurd he.symm hne
    have g2 : fof (up2 I 0 15 0) (shK b) (up2 I 0 15 0 (shK b) 1) i 1 = 0 → ∃ j, j < 64 ∧ i = nI j ∧ (60 ≤ a.1 ∧ i_rput.2.2.2.2.2 [.ref 31, .int x, .int i, .int v] a (up2 (up2 I 0 15 0) (shK b + 1) j (wrV (up2 I 0 15 0 (shK b) 1) v)) J Q (fun w a2 I2 J2 Q2 => (∃ x, some (Value.int 1) = some (.int x) ∧ w = some (.int x)) ∧ relE a2 I2 J2 Q2)) := fun he => by
      rcases hp with ⟨k1, k2⟩ | ⟨k1, k2, ⟨k3, k4⟩ | ⟨k3, k4, j, hj, rfl⟩⟩
      · rw [k1] at he; exact absurd he (by decide)
      · rw [k3] at he; exact absurd he (by decide)
      refine ⟨j, hj, rfl, And.intro ha (zz_rput (fun r => (hr0 r).elim) (fun c hc hxc => ?_))⟩
      obtain rfl := hb' c hxc hc
      rw [up2_ne (show (38 : Nat) ≠ shK c + 1 by omega), up2_ne (show (39 : Nat) ≠ shK c + 1 by omega)]
      refine ⟨fun k => absurd k k1, fun _ => ⟨fun k => by (rw [k4] at k; cases k), fun _ => ⟨j, hj, rfl, ⟨⟨_, rfl, rfl⟩, ?_⟩⟩⟩⟩
      rw [k2]
      generalize wrV (up2 I 0 15 0 38 c) v = u
      have z : ∀ k, k ≠ 0 → k ≠ 31 → k ≠ 40 → k ≠ shK c + 1 → up2 (up2 (up2 (up2 I 0 15 0) (shK c + 1) j u) 31 0 0) 40 (64 * c + j) u k = I k := fun k z1 z2 z3 z4 => by rw [up2_ne z3, up2_ne z2, up2_ne z4, up2_ne z1]
      have z0 : ∀ q, up2 (up2 (up2 (up2 I 0 15 0) (shK c + 1) j u) 31 0 0) 40 (64 * c + j) u 0 q = up2 I 0 15 0 0 q := fun q => by rw [up2_ne (by decide), up2_ne (by decide), up2_ne (by omega)]
      have z31 : ∀ q, up2 (up2 (up2 (up2 I 0 15 0) (shK c + 1) j u) 31 0 0) 40 (64 * c + j) u 31 q = up2 I 31 0 0 31 q := fun q => by
        rw [up2_ne (by decide), up2_row, up2_row, up2_ne (by omega), up2_ne (by decide)]
      have z40 : up2 (up2 (up2 (up2 I 0 15 0) (shK c + 1) j u) 31 0 0) 40 (64 * c + j) u 40 = up2 I 40 (64 * c + j) u 40 := by
        rw [up2_row, up2_row, up2_ne (by decide), up2_ne (by omega), up2_ne (by decide)]
      have zs : up2 (up2 (up2 (up2 I 0 15 0) (shK c + 1) j u) 31 0 0) 40 (64 * c + j) u (shK c + 1) = up2 I (shK c + 1) j u (shK c + 1) := by
        rw [up2_ne (by omega), up2_ne (by omega), up2_row, up2_row, up2_ne (by omega)]
      revert z z0 z31 z40 zs
      generalize up2 (up2 (up2 (up2 I 0 15 0) (shK c + 1) j u) 31 0 0) 40 (64 * c + j) u = I2
      intro z z0 z31 z40 zs
      refine relE_fs h ⟨fun k q1 q2 q3 => z k q1 q2 (by simp at q3; omega) (by unfold shK; simp at q3; omega), fun q q1 q2 => by rw [z0, up2_nej q2], fun q hq => by rw [z31, up2_nej (by omega)]⟩ (frJ_refl _ _) ?_ ⟨by rw [z0, z31, up2_nej (by decide), up2_nej (by decide)]; exact h.2.1.1, by rw [z0, z31, up2_at, up2_at]⟩
      refine rS_put (b := c) (relE_S h) ?_ (fun k q1 q2 q3 => ?_) (fun q hq => by rw [z 38 (by decide) (by decide) (by decide) (by omega)]) (fun q hq => by rw [z 39 (by decide) (by decide) (by decide) (by omega)]) (fun q hq => by rw [z40, up2_nej (by omega)])
      · rcases hs0 with ⟨y1, y2⟩ | ⟨ln, n, y1, y2, y3, y4, y5, y6, y7⟩
        · rw [up2_ne (by decide)] at k1
          exact absurd y2 k1
        · refine Or.inr ⟨ln, n, y1, y2, by rw [z _ (by omega) (by omega) (by omega) (by omega)]; exact y3, by rw [z 38 (by decide) (by decide) (by decide) (by omega)]; exact y4, by rw [z _ (by omega) (by omega) (by omega) (by omega)]; exact y5, by rw [z 39 (by decide) (by decide) (by decide) (by omega)]; exact y6, fun q hq => ?_⟩
          rw [zs, z40]
          by_cases e : q = j
          · subst e
            rw [up2_at, up2_at]
          · rw [up2_nej e, up2_nej (by omega)]
            exact y7 q hq
      · simp at q1
        exact z k (by omega) (by omega) (by omega) (by omega)
    rcases (show b = 0 ∨ b = 1 ∨ b = 2 ∨ b = 3 by omega) with rfl | rfl | rfl | rfl
    · refine fo_0 ?_
      refine And.intro (fun (c : fof (up2 I 0 15 0) 23 (up2 I 0 15 0 23 1) i 1 = 0) => ?_) (fun (c : ¬ fof (up2 I 0 15 0) 23 (up2 I 0 15 0 23 1) i 1 = 0) => ?_)
      · obtain ⟨j, hj, rfl, g3⟩ := g2 c
        exact wr_0 hj g3
      · exact g1 _ rfl c
    · refine fo_1 ?_
      refine And.intro (fun (c : fof (up2 I 0 15 0) 25 (up2 I 0 15 0 25 1) i 1 = 0) => ?_) (fun (c : ¬ fof (up2 I 0 15 0) 25 (up2 I 0 15 0 25 1) i 1 = 0) => ?_)
      · obtain ⟨j, hj, rfl, g3⟩ := g2 c
        exact wr_1 hj g3
      · exact g1 _ rfl c
    · refine fo_2 ?_
      refine And.intro (fun (c : fof (up2 I 0 15 0) 27 (up2 I 0 15 0 27 1) i 1 = 0) => ?_) (fun (c : ¬ fof (up2 I 0 15 0) 27 (up2 I 0 15 0 27 1) i 1 = 0) => ?_)
      · obtain ⟨j, hj, rfl, g3⟩ := g2 c
        exact wr_2 hj g3
      · exact g1 _ rfl c
    · refine fo_3 ?_
      refine And.intro (fun (c : fof (up2 I 0 15 0) 29 (up2 I 0 15 0 29 1) i 1 = 0) => ?_) (fun (c : ¬ fof (up2 I 0 15 0) 29 (up2 I 0 15 0 29 1) i 1 = 0) => ?_)
      · obtain ⟨j, hj, rfl, g3⟩ := g2 c
        exact wr_3 hj g3
      · exact g1 _ rfl c
