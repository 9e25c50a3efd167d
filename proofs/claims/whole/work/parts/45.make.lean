/-! Plan.make -/
/-- the rows of sets after k stations -/
def dT (JT : Nat → Option Nat) (B : Nat → Nat) (m : Nat) : Nat → Nat → Option Nat
  | 0 => fun t => if t = 0 then some 0 else none
  | k + 1 => asL (dT JT B m k) JT B k m (2 ^ m - 1)
/-- the fields of the plan that make leaves, and all other cells -/
def mkI (I I' : hI) (m k : Nat) : Prop := (∀ k', k' ≠ 13 → k' ≠ 15 → I' k' = I k') ∧ I' 13 7 = nI m ∧ I' 13 1 = nI k ∧ I' 13 0 = 1
def mkJ (J J' : hJ) : Prop := ∀ k', k' ≠ 13 → k' ≠ 16 → k' ≠ 17 → J' k' = J k'
def mkQ (Q Q' : hQ) : Prop := (∀ k', k' ≠ 13 → Q' k' = Q k') ∧ (∀ j, j ≠ 4 → j ≠ 5 → Q' 13 j = Q 13 j) ∧ ∃ b, Q' 13 4 = some (dnK b) ∧ Q' 13 5 = some (dnK !b)
abbrev x_mk : Type := Nat × (Nat → Nat) × (Nat → Nat)
abbrev e_mk : x_mk → List Value := fun x => [.ref 13, .int (nI x.1), .ref 5]
theorem v_mk (n : Nat) (h : 3 ≤ n) (x : x_mk) : okv (e_mk x) ∧ (lvA (e_mk x)).length ≤ n := ⟨okv_ref (okv_int (okv_ref okv_nil)), h⟩
def e_make : ev := (3, 4, false, 0, 0, sn e_mk (fun x _ I _ Q => x.1 ≤ 10 ∧ (∀ p, p < x.1 → I 14 p = nI (x.2.1 p)) ∧ lawsOK I x.2.2 ∧ ∃ b, Q 13 4 = some (dnK b) ∧ Q 13 5 = some (dnK !b))
  (fun x _ I J Q v I' J' Q' => v = none ∧ ∃ k, k ≤ x.1 ∧ (∀ j, j < k → dT (jT x.2.1 (2 ^ x.1 - 1) x.1) x.2.2 x.1 j (2 ^ x.1 - 1) = none) ∧ (k = x.1 ∨ dT (jT x.2.1 (2 ^ x.1 - 1) x.1) x.2.2 x.1 k (2 ^ x.1 - 1) ≠ none) ∧ mkI I I' x.1 k ∧ mkJ J J' ∧ mkQ Q Q' ∧ J' 13 6 = pI (dT (jT x.2.1 (2 ^ x.1 - 1) x.1) x.2.2 x.1 k (2 ^ x.1 - 1))))
/-- the loop over stations, whichever of the two rows is the done one -/
def mkInv (I I' : hI) (J J' : hJ) (Q Q' : hQ) (F B : Nat → Nat) (m k : Nat) : Prop := (∀ k', k' ≠ 13 → k' ≠ 15 → I' k' = I k') ∧ I' 13 7 = nI m ∧ I' 13 1 = nI k ∧ (∀ s, s < 2 ^ m → I' 15 s = oI (jT F (2 ^ m - 1) m s)) ∧ mkJ J J' ∧ (∀ k', k' ≠ 13 → Q' k' = Q k') ∧ (∀ j, j ≠ 4 → j ≠ 5 → Q' 13 j = Q 13 j) ∧ (∀ t y, dT (jT F (2 ^ m - 1) m) B m k t = some y → y ≤ k * (10 * 2 ^ 40)) ∧ ∀ j, j < k → dT (jT F (2 ^ m - 1) m) B m j (2 ^ m - 1) = none
set_option maxRecDepth 20000 in
theorem c_make {l : Launch} : CX l cdX4_make e_make := by
  refine cm_sn RX4 edX4_make [e_joins, e_pclear, e_addS] false kX4_make cwX4_make okX4_make ⟨⟨_, rfl, c_joins⟩, ⟨_, rfl, c_pclear⟩, ⟨_, rfl, c_addS⟩, trivial⟩ (by decide) rfl (v_mk _ (by decide)) ?_
  intro um zm G Rt ⟨m, F, B⟩ a I J Q cl hb hp hR
  obtain ⟨hm, hF, hB, b0, hq4, hq5⟩ := hp
  have hm : m ≤ 10 := hm
  have hF : ∀ p, p < m → I 14 p = nI (F p) := hF
  have hB : lawsOK I B := hB
  have hm2 : 2 ^ m ≤ 2 ^ 10 := Nat.pow_le_pow_right (by decide) hm
  have hm0 : 0 < 2 ^ m := Nat.two_pow_pos m
  have hal : 2 ^ m - 1 < 1024 := by omega
  have e1 : ((1 : Int32) <<< (nI m &&& 31)) - 1 = nI (2 ^ m - 1) := by
    rw [show (1 : Int32) = nI 1 from rfl, shlN (by omega) (by omega), Nat.one_mul, pk_sub hm0]
  have loop : ∀ n k b I' J' Q', n + k = m → mkInv I I' J J' Q Q' F B m k → Q' 13 4 = some (dnK b) → Q' 13 5 = some (dnK !b) → (∀ t, t < 2 ^ m → J' (dnK b) t = pI (dT (jT F (2 ^ m - 1) m) B m k t)) → G 36 [some (.ref 13), some (.int (nI m)), some (.ref 5), some (.int (nI (2 ^ m - 1)))] [] a I' J' Q' := by
    have done : ∀ k b I' J' Q', k ≤ m → mkInv I I' J J' Q Q' F B m k → Q' 13 4 = some (dnK b) → Q' 13 5 = some (dnK !b) → (k = m ∨ dT (jT F (2 ^ m - 1) m) B m k (2 ^ m - 1) ≠ none) → (∀ t, t < 2 ^ m → J' (dnK b) t = pI (dT (jT F (2 ^ m - 1) m) B m k t)) → Rt none a (up2 I' 13 0 1) (up2 J' 13 6 (J' (dnK b) (nI (2 ^ m - 1)).toNatClampNeg)) Q' := by
      intro k b I' J' Q' hk hinv h4 h5 hend hrow
      obtain ⟨i1, i2, i3, i4, i5, i6, i7, i8, i9⟩ := hinv
      refine hR _ _ _ _ ⟨rfl, k, hk, i9, hend, ⟨fun k' h1 h2 => by rw [up2_ne h1]; exact i1 k' h1 h2, by rw [up2_nej (by decide)]; exact i2, by rw [up2_nej (by decide)]; exact i3, up2_at⟩, fun k' h1 h2 h3 => by rw [up2_ne h1]; exact i5 k' h1 h2 h3, ⟨i6, i7, b, h4, h5⟩, ?_⟩
      rw [up2_at, nI_clamp (by omega)]
      exact hrow _ (by omega)
    intro n
    induction n with
    | zero =>
      intro k b I' J' Q' hk hinv h4 h5 hrow
      obtain rfl : k = m := by omega
      obtain ⟨Q0, rfl⟩ := q_two h4 h5
      have hd := done k b I' J' _ (Nat.le_refl _) hinv h4 h5 (Or.inl rfl) hrow
      have hin : vp_in (nI (2 ^ k - 1)) 1024 := vp_in_nI hal (by decide)
      cases b <;> (
        refine cl [36] 90 36 _ _ _ _ _ _ ?_
        refine And.intro (fun _ => And.intro hin (And.intro (Or.inr rfl) hd)) (fun (c : ¬ nI k ≤ I' 13 1) => absurd (by rw [hinv.2.2.1]; exact nI_le (Nat.le_refl _) (by omega)) c))
    | succ n ih =>
      intro k b I' J' Q' hk hinv h4 h5 hrow
      obtain ⟨Q0, rfl⟩ := q_two h4 h5
      have hin : vp_in (nI (2 ^ m - 1)) 1024 := vp_in_nI hal (by decide)
      have ecl : (nI (2 ^ m - 1)).toNatClampNeg = 2 ^ m - 1 := nI_clamp (by omega)
      have hd := done k b I' J' _ (by omega) hinv h4 h5
      have hrw := hrow (2 ^ m - 1) (by omega)
      obtain ⟨i1, i2, i3, i4, i5, i6, i7, i8, i9⟩ := hinv
      have hkb : k * (10 * 2 ^ 40) ≤ 10 * (10 * 2 ^ 40) := Nat.mul_le_mul_right _ (by omega)
      have hlaw : lawsOK I' B := fun p hp => by rw [i1 5 (by decide) (by decide)]; exact hB p hp
      have next : ∀ J2 b2, b2 = (!b) → dT (jT F (2 ^ m - 1) m) B m k (2 ^ m - 1) = none → (∀ k', k' ≠ dnK !b → J2 k' = J' k') → (∀ t, t < 2 ^ m → J2 (dnK !b) t = pI (dT (jT F (2 ^ m - 1) m) B m (k + 1) t)) → (∀ t y, dT (jT F (2 ^ m - 1) m) B m (k + 1) t = some y → y ≤ k * (10 * 2 ^ 40) + 10 * 2 ^ 40) → G 36 [some (.ref 13), some (.int (nI m)), some (.ref 5), some (.int (nI (2 ^ m - 1)))] [] a (up2 I' 13 1 (I' 13 1 + 1)) J2 (up2 (up2 (up2 (up2 Q0 13 4 (some (dnK b))) 13 5 (some (dnK !b))) 13 4 (some (dnK !b))) 13 5 (some (dnK b))) := by
        intro J2 b2 hb2 hnone g1 g2 g3
        refine ih (k + 1) (!b) _ J2 _ (by omega) ⟨fun k' h1 h2 => by rw [up2_ne h1]; exact i1 k' h1 h2, by rw [up2_nej (by decide)]; exact i2, by rw [up2_at, i3, nI_1], fun s hs => by rw [up2_ne (by decide)]; exact i4 s hs, fun k' h1 h2 h3 => by rw [g1 k' (by cases b <;> assumption)]; exact i5 k' h1 h2 h3, fun k' h1 => by rw [up2_ne h1, up2_ne h1]; exact i6 k' h1, fun j h1 h2 => by rw [up2_nej h2, up2_nej h1]; exact i7 j h1 h2, fun t y hy => by have := g3 t y hy; rw [Nat.succ_mul]; exact this, fun j hj => ?_⟩ (by rw [up2_nej (by decide), up2_at]) (by rw [up2_at, Bool.not_not]) g2
        rcases Nat.lt_or_ge j k with h | h
        · exact i9 j h
        · obtain rfl : j = k := by omega
          exact hnone
      have hadd : ∀ b1, b1 = b → e_addS.2.2.2.2.2 [.ref 13, .int (nI (2 ^ m - 1)), .ref 5] a I' J' (up2 (up2 Q0 13 4 (some (dnK b))) 13 5 (some (dnK !b))) (fun v a' I2 J2 Q2 => a' = a ∧ v = none ∧ I2 = I' ∧ Q2 = up2 (up2 (up2 (up2 Q0 13 4 (some (dnK b))) 13 5 (some (dnK !b))) 13 4 (some (dnK !b))) 13 5 (some (dnK b)) ∧ (∀ k', k' ≠ dnK !b → J2 k' = J' k') ∧ (∀ t, t < 2 ^ m → J2 (dnK !b) t = pI (dT (jT F (2 ^ m - 1) m) B m (k + 1) t)) ∧ ∀ t y, dT (jT F (2 ^ m - 1) m) B m (k + 1) t = some y → y ≤ k * (10 * 2 ^ 40) + 10 * 2 ^ 40) := by
        intro b1 _
        exact ⟨(b, m, k, dT (jT F (2 ^ m - 1) m) B m k, jT F (2 ^ m - 1) m, B, k * (10 * 2 ^ 40)), rfl, ⟨⟨hm, (by show k ≤ 10; omega)⟩, ⟨i2, i3⟩, fun s hs => ⟨i4 s hs, fun v hv => jT_lt hal m s v hv⟩, hlaw, ⟨h4, h5⟩, hrow, i8, (by show k * (10 * 2 ^ 40) < 2 ^ 48; omega)⟩, fun v I2 J2 Q2 ⟨r1, r2, r3, r4, r5, r6⟩ => ⟨rfl, r1, r2, r3, r4, r5, r6⟩⟩
      cases b <;> (
        refine cl [36] 90 36 _ _ _ _ _ _ ?_
        refine And.intro (fun (c : nI m ≤ I' 13 1) => absurd c (by rw [i3]; exact nI_ge (by omega) (by omega))) (fun _ => And.intro hin (And.intro (fun c => And.intro hin (And.intro (Or.inr rfl) (hd (Or.inr ?_) hrow))) (fun c => ?_)))
        · intro hn
          rw [hn] at hrw
          rw [ecl] at c
          rw [lg_cmp_ge, hrw] at c
          exact absurd c (by decide)
        · have hnone : dT (jT F (2 ^ m - 1) m) B m k (2 ^ m - 1) = none := by
            cases h : dT (jT F (2 ^ m - 1) m) B m k (2 ^ m - 1) with
            | none => rfl
            | some y =>
              rw [h] at hrw
              rw [ecl, lg_cmp_ge, hrw] at c
              have hy := i8 _ _ h
              exact absurd (by rw [show (0 : Int64) = lN 0 from rfl]; exact (pk_lLE (by decide) (by omega)).mpr (Nat.zero_le y)) c
          obtain ⟨x, p1, p2, p3⟩ := hadd _ rfl
          refine Exists.intro x (And.intro p1 (And.intro p2 (fun v I2 J2 Q2 h => ?_)))
          obtain ⟨-, rfl, rfl, rfl, g1, g2, g3⟩ := p3 v I2 J2 Q2 h
          exact next J2 _ rfl hnone g1 g2 g3)
  have d0 : ∀ t y, dT (jT F (2 ^ m - 1) m) B m 0 t = some y → y ≤ 0 * (10 * 2 ^ 40) := by
    intro t y hy
    replace hy : (if t = 0 then some 0 else none) = some y := hy
    split at hy
    · cases hy
      omega
    · cases hy
  obtain ⟨Q0, rfl⟩ := q_two hq4 hq5
  cases b0
  · refine cl [36] 90 0 _ _ _ _ _ _ ?_
    refine Exists.intro (m, F) (And.intro (show [Value.ref 13, Value.int (((1 : Int32) <<< (nI m &&& 31)) - 1)] = [Value.ref 13, Value.int (nI (2 ^ m - 1))] by rw [e1]) (And.intro (show m ≤ 10 ∧ up2 I 13 7 (nI m) 13 7 = nI m ∧ ∀ p, p < m → up2 I 13 7 (nI m) 14 p = nI (F p) from ⟨hm, up2_at, fun p hp => by rw [up2_ne (by decide)]; exact hF p hp⟩) ?_))
    intro v I2 J2 Q2 hpost
    obtain ⟨hv, hj2, hq2, g1, g2⟩ := hpost
    subst hv hj2 hq2
    refine Exists.intro (_, 2 ^ m - 1) (And.intro (by rw [e1]; rfl) (And.intro hal ?_))
    intro v I3 J3 Q3 hpost
    obtain ⟨hv, hi3, hq3, g3, g4⟩ := hpost
    subst hv hi3 hq3
    refine And.intro (show vp_in 0 1024 from vp_in_nI (n := 0) (by decide) (by decide)) ?_
    have fin := loop m 0 false (up2 I3 13 1 0) (up2 J3 (dnK false) 0 0) _ (by omega) ⟨fun k' h1 h2 => by rw [up2_ne h1, g1 k' h2, up2_ne h1], by rw [up2_nej (by decide), g1 13 (by decide), up2_at], up2_at, fun s hs => by rw [up2_ne (by decide)]; exact g2 s hs, fun k' h1 h2 h3 => by rw [up2_ne (by first | exact h2 | exact h3), g3 k' (by first | exact h2 | exact h3)], fun k' h1 => rfl, fun j h1 h2 => rfl, d0, fun j hj => by omega⟩ hq4 hq5 (fun t ht => by
        show up2 J3 (dnK false) 0 0 (dnK false) t = pI (if t = 0 then some 0 else none)
        by_cases h0 : t = 0
        · subst h0; rw [up2_at, if_pos rfl]; rfl
        · rw [up2_nej h0, if_neg h0, g4 t (by show t ≤ 2 ^ m - 1; omega)]; rfl)
    rw [← e1] at fin
    exact fin
  · refine cl [36] 90 0 _ _ _ _ _ _ ?_
    refine Exists.intro (m, F) (And.intro (show [Value.ref 13, Value.int (((1 : Int32) <<< (nI m &&& 31)) - 1)] = [Value.ref 13, Value.int (nI (2 ^ m - 1))] by rw [e1]) (And.intro (show m ≤ 10 ∧ up2 I 13 7 (nI m) 13 7 = nI m ∧ ∀ p, p < m → up2 I 13 7 (nI m) 14 p = nI (F p) from ⟨hm, up2_at, fun p hp => by rw [up2_ne (by decide)]; exact hF p hp⟩) ?_))
    intro v I2 J2 Q2 hpost
    obtain ⟨hv, hj2, hq2, g1, g2⟩ := hpost
    subst hv hj2 hq2
    refine Exists.intro (_, 2 ^ m - 1) (And.intro (by rw [e1]; rfl) (And.intro hal ?_))
    intro v I3 J3 Q3 hpost
    obtain ⟨hv, hi3, hq3, g3, g4⟩ := hpost
    subst hv hi3 hq3
    refine And.intro (show vp_in 0 1024 from vp_in_nI (n := 0) (by decide) (by decide)) ?_
    have fin := loop m 0 true (up2 I3 13 1 0) (up2 J3 (dnK true) 0 0) _ (by omega) ⟨fun k' h1 h2 => by rw [up2_ne h1, g1 k' h2, up2_ne h1], by rw [up2_nej (by decide), g1 13 (by decide), up2_at], up2_at, fun s hs => by rw [up2_ne (by decide)]; exact g2 s hs, fun k' h1 h2 h3 => by rw [up2_ne (by first | exact h2 | exact h3), g3 k' (by first | exact h2 | exact h3)], fun k' h1 => rfl, fun j h1 h2 => rfl, d0, fun j hj => by omega⟩ hq4 hq5 (fun t ht => by
        show up2 J3 (dnK true) 0 0 (dnK true) t = pI (if t = 0 then some 0 else none)
        by_cases h0 : t = 0
        · subst h0; rw [up2_at, if_pos rfl]; rfl
        · rw [up2_nej h0, if_neg h0, g4 t (by show t ≤ 2 ^ m - 1; omega)]; rfl)
    rw [← e1] at fin
    exact fin
