/-! Plan.addStation -/
/-- the next station's rows out of the sets below s -/
def asL (D JT : Nat → Option Nat) (B : Nat → Nat) (cnt m : Nat) : Nat → Nat → Option Nat
  | 0 => fun _ => none
  | s + 1 => match D s with
    | none => asL D JT B cnt m s
    | some _ => fsL D JT cnt m s (rdN B s m) (rdN B s m) (rdN B s m) (asL D JT B cnt m s)
abbrev x_as : Type := Bool × Nat × Nat × (Nat → Option Nat) × (Nat → Option Nat) × (Nat → Nat) × Nat
abbrev e_as : x_as → List Value := fun x => [.ref 13, .int (nI (2 ^ x.2.1 - 1)), .ref 5]
theorem v_as (n : Nat) (h : 3 ≤ n) (x : x_as) : okv (e_as x) ∧ (lvA (e_as x)).length ≤ n := ⟨okv_ref (okv_int (okv_ref okv_nil)), h⟩
def e_addS : ev := (3, 4, false, 0, 0, sn e_as (fun x _ I J Q => (x.2.1 ≤ 10 ∧ x.2.2.1 ≤ 10) ∧ (I 13 7 = nI x.2.1 ∧ I 13 1 = nI x.2.2.1) ∧ (∀ s, s < 2 ^ x.2.1 → I 15 s = oI (x.2.2.2.2.1 s) ∧ ∀ v, x.2.2.2.2.1 s = some v → v < 1024) ∧ lawsOK I x.2.2.2.2.2.1 ∧ (Q 13 4 = some (dnK x.1) ∧ Q 13 5 = some (dnK !x.1)) ∧ (∀ t, t < 2 ^ x.2.1 → J (dnK x.1) t = pI (x.2.2.2.1 t)) ∧ (∀ t y, x.2.2.2.1 t = some y → y ≤ x.2.2.2.2.2.2) ∧ x.2.2.2.2.2.2 < 2 ^ 48)
  (fun x _ I J Q v I' J' Q' => v = none ∧ I' = I ∧ Q' = up2 (up2 Q 13 4 (some (dnK !x.1))) 13 5 (some (dnK x.1)) ∧ (∀ k', k' ≠ dnK !x.1 → J' k' = J k') ∧ (∀ t, t < 2 ^ x.2.1 → J' (dnK !x.1) t = pI (asL x.2.2.2.1 x.2.2.2.2.1 x.2.2.2.2.2.1 x.2.2.1 x.2.1 (2 ^ x.2.1 - 1) t)) ∧ ∀ t y, asL x.2.2.2.1 x.2.2.2.2.1 x.2.2.2.2.2.1 x.2.2.1 x.2.1 (2 ^ x.2.1 - 1) t = some y → y ≤ x.2.2.2.2.2.2 + 10 * 2 ^ 40))
set_option maxRecDepth 20000 in
theorem addS_b16 {um zm : Nat} {G : hG} {Rt : hR} {m cnt bd : Nat} {D JT : Nat → Option Nat} {B : Nat → Nat} {a : hA} {I : hI} {J : hJ} {Q0 : hQ} (cl : CL tX qX false 60 um zm [e_pclear, e_ready, e_fill] false false kX4_addStation G Rt) (hm : m ≤ 10) (hc : cnt ≤ 10) (hI7 : I 13 7 = nI m) (hI1 : I 13 1 = nI cnt) (hJT : ∀ s, s < 2 ^ m → I 15 s = oI (JT s) ∧ ∀ v, JT s = some v → v < 1024) (hB : lawsOK I B) (hJd : ∀ t, t < 2 ^ m → J 16 t = pI (D t)) (hDb : ∀ t y, D t = some y → y ≤ bd) (hbd : bd < 2 ^ 48)
    (hR : ∀ J', (∀ k', k' ≠ 17 → J' k' = J k') → (∀ t, t < 2 ^ m → J' 17 t = pI (asL D JT B cnt m (2 ^ m - 1) t)) → (∀ t y, asL D JT B cnt m (2 ^ m - 1) t = some y → y ≤ bd + 10 * 2 ^ 40) → Rt none a I J' (up2 (up2 (up2 (up2 Q0 13 4 (some 16)) 13 5 (some 17)) 13 4 (some 17)) 13 5 (some 16))) : G 0 [some (.ref 13), some (.int (nI (2 ^ m - 1))), some (.ref 5), none] [] a I J (up2 (up2 Q0 13 4 (some 16)) 13 5 (some 17)) := by
  have hm2 : 2 ^ m ≤ 2 ^ 10 := Nat.pow_le_pow_right (by decide) hm
  have hm0 : 0 < 2 ^ m := Nat.two_pow_pos m
  have loop : ∀ k s J', k + s = 2 ^ m - 1 → (∀ k', k' ≠ 17 → J' k' = J k') → (∀ t, t < 2 ^ m → J' 17 t = pI (asL D JT B cnt m s t)) → (∀ t y, asL D JT B cnt m s t = some y → y ≤ bd + 10 * 2 ^ 40) → G 10 [some (.ref 13), some (.int (nI (2 ^ m - 1))), some (.ref 5), some (.int (nI s))] [] a I J' (up2 (up2 Q0 13 4 (some 16)) 13 5 (some 17)) := by
    intro k
    induction k with
    | zero =>
      intro s J' hk ho h1 h2
      obtain rfl : s = 2 ^ m - 1 := by omega
      refine cl [10] 90 10 _ _ _ _ _ _ ?_
      exact And.intro (fun _ => hR J' ho h1 h2) (fun c => absurd (nI_le (Nat.le_refl _) (by omega)) c)
    | succ k ih =>
      intro s J' hk ho h1 h2
      have ecl : (nI s).toNatClampNeg = s := nI_clamp (by omega)
      have eJ : J' 16 s = pI (D s) := by rw [ho 16 (by decide)]; exact hJd s (by omega)
      refine cl [10] 90 10 _ _ _ _ _ _ ?_
      refine And.intro (fun c => absurd c (nI_ge (a := s) (b := 2 ^ m - 1) (by omega) (by omega))) (fun _ => And.intro (show vp_in (nI s) 1024 from vp_in_nI (by omega) (by decide)) (And.intro (fun (c : lg_cmp (J' 16 (nI s).toNatClampNeg) 0 < 0) => ?_) (fun (c : ¬ lg_cmp (J' 16 (nI s).toNatClampNeg) 0 < 0) => ?_)))
      · rw [lg_lt0, ecl, eJ] at c
        have hDs : D s = none := by
          cases h : D s with
          | none => rfl
          | some y => rw [h] at c; exact absurd c (lN_nn (by have := hDb s y h; omega))
        have eas : asL D JT B cnt m (s + 1) = asL D JT B cnt m s := by
          show (match D s with | none => _ | some _ => _) = _
          rw [hDs]
        have := ih (s + 1) J' (by omega) ho (by rw [eas]; exact h1) (by rw [eas]; exact h2)
        rw [← nI_1 s] at this
        exact this
      · rw [lg_lt0, ecl, eJ] at c
        obtain ⟨d, hd⟩ : ∃ d, D s = some d := by
          cases h : D s with
          | none => rw [h] at c; exact absurd pI_neg c
          | some d => exact ⟨d, rfl⟩
        have hrd : rdN B s m < 2 ^ m := rdN_lt B s m
        have eas : asL D JT B cnt m (s + 1) = fsL D JT cnt m s (rdN B s m) (rdN B s m) (rdN B s m) (asL D JT B cnt m s) := by
          show (match D s with | none => _ | some _ => _) = _
          rw [hd]
        refine Exists.intro (s, m, B) (And.intro rfl (And.intro (show s < 1024 ∧ m ≤ 10 ∧ I 13 7 = nI m ∧ lawsOK I B from ⟨by omega, hm, hI7, hB⟩) ?_))
        refine Exists.intro (false, s, rdN B s m, m, cnt, D, JT, asL D JT B cnt m s, bd) (And.intro rfl (And.intro ⟨⟨(by show s < 2 ^ m; omega), hrd, hm, hc⟩, ⟨hI7, hI1⟩, hJT, ⟨rfl, rfl⟩, ⟨d, hd, hDb s d hd, (by show J' 16 s = lN d; rw [eJ, hd]; rfl)⟩, h1, h2, hbd⟩ ?_))
        rintro v I2 J2 Q2 ⟨rfl, rfl, rfl, g1, g2, g3⟩
        have := ih (s + 1) J2 (by omega) (fun k' hk' => (g1 k' hk').trans (ho k' hk')) (by rw [eas]; exact g2) (by rw [eas]; exact g3)
        rw [← nI_1 s] at this
        exact this
  refine cl [10] 90 0 _ _ _ _ _ _ ?_
  refine Exists.intro (!false, 2 ^ m - 1) (And.intro rfl (And.intro (show 2 ^ m - 1 < 1024 by omega) ?_))
  rintro v I2 J2 Q2 ⟨rfl, rfl, rfl, g1, g2⟩
  exact loop (2 ^ m - 1) 0 J2 (by omega) g1 (fun t ht => by rw [show J2 17 t = -1 from g2 t (by show t ≤ 2 ^ m - 1; omega)]; rfl) (fun t y h => by cases h)
set_option maxRecDepth 20000 in
theorem addS_b17 {um zm : Nat} {G : hG} {Rt : hR} {m cnt bd : Nat} {D JT : Nat → Option Nat} {B : Nat → Nat} {a : hA} {I : hI} {J : hJ} {Q0 : hQ} (cl : CL tX qX false 60 um zm [e_pclear, e_ready, e_fill] false false kX4_addStation G Rt) (hm : m ≤ 10) (hc : cnt ≤ 10) (hI7 : I 13 7 = nI m) (hI1 : I 13 1 = nI cnt) (hJT : ∀ s, s < 2 ^ m → I 15 s = oI (JT s) ∧ ∀ v, JT s = some v → v < 1024) (hB : lawsOK I B) (hJd : ∀ t, t < 2 ^ m → J 17 t = pI (D t)) (hDb : ∀ t y, D t = some y → y ≤ bd) (hbd : bd < 2 ^ 48)
    (hR : ∀ J', (∀ k', k' ≠ 16 → J' k' = J k') → (∀ t, t < 2 ^ m → J' 16 t = pI (asL D JT B cnt m (2 ^ m - 1) t)) → (∀ t y, asL D JT B cnt m (2 ^ m - 1) t = some y → y ≤ bd + 10 * 2 ^ 40) → Rt none a I J' (up2 (up2 (up2 (up2 Q0 13 4 (some 17)) 13 5 (some 16)) 13 4 (some 16)) 13 5 (some 17))) : G 0 [some (.ref 13), some (.int (nI (2 ^ m - 1))), some (.ref 5), none] [] a I J (up2 (up2 Q0 13 4 (some 17)) 13 5 (some 16)) := by
  have hm2 : 2 ^ m ≤ 2 ^ 10 := Nat.pow_le_pow_right (by decide) hm
  have hm0 : 0 < 2 ^ m := Nat.two_pow_pos m
  have loop : ∀ k s J', k + s = 2 ^ m - 1 → (∀ k', k' ≠ 16 → J' k' = J k') → (∀ t, t < 2 ^ m → J' 16 t = pI (asL D JT B cnt m s t)) → (∀ t y, asL D JT B cnt m s t = some y → y ≤ bd + 10 * 2 ^ 40) → G 10 [some (.ref 13), some (.int (nI (2 ^ m - 1))), some (.ref 5), some (.int (nI s))] [] a I J' (up2 (up2 Q0 13 4 (some 17)) 13 5 (some 16)) := by
    intro k
    induction k with
    | zero =>
      intro s J' hk ho h1 h2
      obtain rfl : s = 2 ^ m - 1 := by omega
      refine cl [10] 90 10 _ _ _ _ _ _ ?_
      exact And.intro (fun _ => hR J' ho h1 h2) (fun c => absurd (nI_le (Nat.le_refl _) (by omega)) c)
    | succ k ih =>
      intro s J' hk ho h1 h2
      have ecl : (nI s).toNatClampNeg = s := nI_clamp (by omega)
      have eJ : J' 17 s = pI (D s) := by rw [ho 17 (by decide)]; exact hJd s (by omega)
      refine cl [10] 90 10 _ _ _ _ _ _ ?_
      refine And.intro (fun c => absurd c (nI_ge (a := s) (b := 2 ^ m - 1) (by omega) (by omega))) (fun _ => And.intro (show vp_in (nI s) 1024 from vp_in_nI (by omega) (by decide)) (And.intro (fun (c : lg_cmp (J' 17 (nI s).toNatClampNeg) 0 < 0) => ?_) (fun (c : ¬ lg_cmp (J' 17 (nI s).toNatClampNeg) 0 < 0) => ?_)))
      · rw [lg_lt0, ecl, eJ] at c
        have hDs : D s = none := by
          cases h : D s with
          | none => rfl
          | some y => rw [h] at c; exact absurd c (lN_nn (by have := hDb s y h; omega))
        have eas : asL D JT B cnt m (s + 1) = asL D JT B cnt m s := by
          show (match D s with | none => _ | some _ => _) = _
          rw [hDs]
        have := ih (s + 1) J' (by omega) ho (by rw [eas]; exact h1) (by rw [eas]; exact h2)
        rw [← nI_1 s] at this
        exact this
      · rw [lg_lt0, ecl, eJ] at c
        obtain ⟨d, hd⟩ : ∃ d, D s = some d := by
          cases h : D s with
          | none => rw [h] at c; exact absurd pI_neg c
          | some d => exact ⟨d, rfl⟩
        have hrd : rdN B s m < 2 ^ m := rdN_lt B s m
        have eas : asL D JT B cnt m (s + 1) = fsL D JT cnt m s (rdN B s m) (rdN B s m) (rdN B s m) (asL D JT B cnt m s) := by
          show (match D s with | none => _ | some _ => _) = _
          rw [hd]
        refine Exists.intro (s, m, B) (And.intro rfl (And.intro (show s < 1024 ∧ m ≤ 10 ∧ I 13 7 = nI m ∧ lawsOK I B from ⟨by omega, hm, hI7, hB⟩) ?_))
        refine Exists.intro (true, s, rdN B s m, m, cnt, D, JT, asL D JT B cnt m s, bd) (And.intro rfl (And.intro ⟨⟨(by show s < 2 ^ m; omega), hrd, hm, hc⟩, ⟨hI7, hI1⟩, hJT, ⟨rfl, rfl⟩, ⟨d, hd, hDb s d hd, (by show J' 17 s = lN d; rw [eJ, hd]; rfl)⟩, h1, h2, hbd⟩ ?_))
        rintro v I2 J2 Q2 ⟨rfl, rfl, rfl, g1, g2, g3⟩
        have := ih (s + 1) J2 (by omega) (fun k' hk' => (g1 k' hk').trans (ho k' hk')) (by rw [eas]; exact g2) (by rw [eas]; exact g3)
        rw [← nI_1 s] at this
        exact this
  refine cl [10] 90 0 _ _ _ _ _ _ ?_
  refine Exists.intro (!true, 2 ^ m - 1) (And.intro rfl (And.intro (show 2 ^ m - 1 < 1024 by omega) ?_))
  rintro v I2 J2 Q2 ⟨rfl, rfl, rfl, g1, g2⟩
  exact loop (2 ^ m - 1) 0 J2 (by omega) g1 (fun t ht => by rw [show J2 16 t = -1 from g2 t (by show t ≤ 2 ^ m - 1; omega)]; rfl) (fun t y h => by cases h)
theorem c_addS {l : Launch} : CX l cdX4_addStation e_addS := by
  refine cm_sn RX4 edX4_addStation [e_pclear, e_ready, e_fill] false kX4_addStation cwX4_addStation okX4_addStation ⟨⟨_, rfl, c_pclear⟩, ⟨_, rfl, c_ready⟩, ⟨_, rfl, c_fill⟩, trivial⟩ (by decide) rfl (v_as _ (by decide)) ?_
  intro um zm G Rt ⟨b, m, cnt, D, JT, B, bd⟩ a I J Q cl hb hp hR
  obtain ⟨⟨h1, h2⟩, ⟨h3, h4⟩, h5, h6, ⟨h7, h8⟩, h9, h10, h11⟩ := hp
  obtain ⟨Q0, rfl⟩ := q_two h7 h8
  cases b with
  | true => exact addS_b17 cl h1 h2 h3 h4 h5 h6 h9 h10 h11 (fun J' g1 g2 g3 => hR _ _ _ _ ⟨rfl, rfl, rfl, g1, g2, g3⟩)
  | false => exact addS_b16 cl h1 h2 h3 h4 h5 h6 h9 h10 h11 (fun J' g1 g2 g3 => hR _ _ _ _ ⟨rfl, rfl, rfl, g1, g2, g3⟩)
