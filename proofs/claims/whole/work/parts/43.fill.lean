/-! Plan.fillStation -/
/-- what one set of punches brings to the next station's rows -/
def fstep (D JT : Nat → Option Nat) (cnt m set ready : Nat) (N : Nat → Option Nat) (i : Nat) : Nat → Option Nat := match JT i, D set with
  | some v, some d => if v &&& ready = 0 then (fun t => if t = set ||| i then olt (N t) (some (d + cnt * dgN i m)) else N t) else N
  | _, _ => N
def fsL (D JT : Nat → Option Nat) (cnt m set ready : Nat) : Nat → Nat → (Nat → Option Nat) → (Nat → Option Nat)
  | 0, _, N => N
  | f + 1, i, N => if i = 0 then N else fsL D JT cnt m set ready f ((i - 1) &&& ready) (fstep D JT cnt m set ready N i)
def rowsOK (J : hJ) (k : Nat) (N : Nat → Option Nat) (n : Nat) : Prop := ∀ t, t < n → J k t = pI (N t) ∧ ∀ x, N t = some x → x < 2 ^ 50
abbrev x_fs : Type := Bool × Nat × Nat × Nat × Nat × (Nat → Option Nat) × (Nat → Option Nat) × (Nat → Option Nat) × Nat
abbrev e_fs : x_fs → List Value := fun x => [.ref 13, .int (nI x.2.1), .int (nI x.2.2.1)]
theorem v_fs (n : Nat) (h : 3 ≤ n) (x : x_fs) : okv (e_fs x) ∧ (lvA (e_fs x)).length ≤ n := ⟨okv_ref (okv_int (okv_int okv_nil)), h⟩
theorem fstep_lt {D JT : Nat → Option Nat} {cnt m set ready i bd : Nat} {N : Nat → Option Nat} (hD : ∀ d, D set = some d → d ≤ bd) (hc : cnt ≤ 10) (hm : m ≤ 10) (hN : ∀ t x, N t = some x → x ≤ bd + 10 * 2 ^ 40) : ∀ t x, fstep D JT cnt m set ready N i t = some x → x ≤ bd + 10 * 2 ^ 40 := by
  intro t x hx
  cases h1 : JT i with
  | none => simp only [fstep, h1] at hx; exact hN t x hx
  | some v =>
    cases h2 : D set with
    | none => simp only [fstep, h1, h2] at hx; exact hN t x hx
    | some d =>
      simp only [fstep, h1, h2] at hx
      by_cases hv : v &&& ready = 0
      · rw [if_pos hv] at hx
        replace hx : (if t = set ||| i then olt (N t) (some (d + cnt * dgN i m)) else N t) = some x := hx
        by_cases ht : t = set ||| i
        · rw [if_pos ht] at hx
          have hd := hD d h2
          have hg : dgN i m < 2 ^ 40 := Nat.lt_of_lt_of_le (dgN_lt i m) (Nat.pow_le_pow_right (by decide) (by omega))
          have hcd : cnt * dgN i m ≤ 10 * 2 ^ 40 := Nat.mul_le_mul hc (by omega)
          exact olt_le (fun y hy => hN t y hy) (fun y hy => by cases hy; omega) x hx
        · rw [if_neg ht] at hx
          exact hN t x hx
      · rw [if_neg hv] at hx
        exact hN t x hx
def e_fill : ev := (3, 4, false, 0, 0, sn e_fs (fun x _ I J Q => (x.2.1 < 2 ^ x.2.2.2.1 ∧ x.2.2.1 < 2 ^ x.2.2.2.1 ∧ x.2.2.2.1 ≤ 10 ∧ x.2.2.2.2.1 ≤ 10) ∧ (I 13 7 = nI x.2.2.2.1 ∧ I 13 1 = nI x.2.2.2.2.1) ∧ (∀ s, s < 2 ^ x.2.2.2.1 → I 15 s = oI (x.2.2.2.2.2.2.1 s) ∧ ∀ v, x.2.2.2.2.2.2.1 s = some v → v < 1024) ∧ (Q 13 4 = some (dnK x.1) ∧ Q 13 5 = some (dnK !x.1)) ∧ (∃ d, x.2.2.2.2.2.1 x.2.1 = some d ∧ d ≤ x.2.2.2.2.2.2.2.2 ∧ J (dnK x.1) x.2.1 = lN d) ∧ (∀ t, t < 2 ^ x.2.2.2.1 → J (dnK !x.1) t = pI (x.2.2.2.2.2.2.2.1 t)) ∧ (∀ t y, x.2.2.2.2.2.2.2.1 t = some y → y ≤ x.2.2.2.2.2.2.2.2 + 10 * 2 ^ 40) ∧ x.2.2.2.2.2.2.2.2 < 2 ^ 48)
  (fun x _ I J Q v I' J' Q' => v = none ∧ I' = I ∧ Q' = Q ∧ (∀ k', k' ≠ dnK !x.1 → J' k' = J k') ∧ (∀ t, t < 2 ^ x.2.2.2.1 → J' (dnK !x.1) t = pI (fsL x.2.2.2.2.2.1 x.2.2.2.2.2.2.1 x.2.2.2.2.1 x.2.2.2.1 x.2.1 x.2.2.1 x.2.2.1 x.2.2.1 x.2.2.2.2.2.2.2.1 t)) ∧ ∀ t y, fsL x.2.2.2.2.2.1 x.2.2.2.2.2.2.1 x.2.2.2.2.1 x.2.2.2.1 x.2.1 x.2.2.1 x.2.2.1 x.2.2.1 x.2.2.2.2.2.2.2.1 t = some y → y ≤ x.2.2.2.2.2.2.2.2 + 10 * 2 ^ 40))
theorem q_two {Q : hQ} {x y : Nat} (h1 : Q 13 4 = some x) (h2 : Q 13 5 = some y) : ∃ Q0 : hQ, Q = up2 (up2 Q0 13 4 (some x)) 13 5 (some y) := by
  refine ⟨Q, ?_⟩
  funext k j
  unfold up2
  by_cases hk : k = 13
  · subst hk
    by_cases h5 : j = 5
    · subst h5; simp [h2]
    · by_cases h4 : j = 4
      · subst h4; simp [h1]
      · simp [h4, h5]
  · simp [hk]
set_option maxRecDepth 20000 in
theorem fill_b16 {um zm : Nat} {G : hG} {Rt : hR} {set ready m cnt d bd : Nat} {D JT N : Nat → Option Nat} {a : hA} {I : hI} {J : hJ} {Q0 : hQ} (cl : CL tX qX false 60 um zm [e_digits] false false kX4_fillStation G Rt) (hset : set < 2 ^ m) (hrdy : ready < 2 ^ m) (hm : m ≤ 10) (hc : cnt ≤ 10) (hI7 : I 13 7 = nI m) (hI1 : I 13 1 = nI cnt) (hJT : ∀ s, s < 2 ^ m → I 15 s = oI (JT s) ∧ ∀ v, JT s = some v → v < 1024) (hD : D set = some d) (hd : d ≤ bd) (hJd : J 16 set = lN d) (hN : ∀ t, t < 2 ^ m → J 17 t = pI (N t)) (hNb : ∀ t y, N t = some y → y ≤ bd + 10 * 2 ^ 40) (hbd : bd < 2 ^ 48)
    (hR : ∀ J', (∀ k', k' ≠ 17 → J' k' = J k') → (∀ t, t < 2 ^ m → J' 17 t = pI (fsL D JT cnt m set ready ready ready N t)) → (∀ t y, fsL D JT cnt m set ready ready ready N t = some y → y ≤ bd + 10 * 2 ^ 40) → Rt none a I J' (up2 (up2 Q0 13 4 (some 16)) 13 5 (some 17))) : G 0 [some (.ref 13), some (.int (nI set)), some (.int (nI ready)), none, none, none, none] [] a I J (up2 (up2 Q0 13 4 (some 16)) 13 5 (some 17)) := by
  have hm2 : 2 ^ m ≤ 2 ^ 10 := Nat.pow_le_pow_right (by decide) hm
  have loop : ∀ f i v4 v6 N' J', i ≤ f → i < 2 ^ m → (∀ k', k' ≠ 17 → J' k' = J k') → (∀ t, t < 2 ^ m → J' 17 t = pI (N' t)) → (∀ t y, N' t = some y → y ≤ bd + 10 * 2 ^ 40) → fsL D JT cnt m set ready f i N' = fsL D JT cnt m set ready ready ready N → G 2 [some (.ref 13), some (.int (nI set)), some (.int (nI ready)), some (.int (nI i)), v4, none, v6] [] a I J' (up2 (up2 Q0 13 4 (some 16)) 13 5 (some 17)) := by
    intro f
    induction f with
    | zero =>
      intro i v4 v6 N' J' hi him ho h1 h2 he
      obtain rfl : i = 0 := by omega
      replace he : N' = fsL D JT cnt m set ready ready ready N := he
      refine cl [2] 90 2 _ _ _ _ _ _ ?_
      exact And.intro (fun _ => hR J' ho (by rw [← he]; exact h1) (by rw [← he]; exact h2)) (fun c => absurd (by decide) c)
    | succ f ih =>
      intro i v4 v6 N' J' hi him ho h1 h2 he
      by_cases hi0 : i = 0
      · subst hi0
        replace he : N' = fsL D JT cnt m set ready ready ready N := he
        refine cl [2] 90 2 _ _ _ _ _ _ ?_
        exact And.intro (fun _ => hR J' ho (by rw [← he]; exact h1) (by rw [← he]; exact h2)) (fun c => absurd (by decide) c)
      · replace he : fsL D JT cnt m set ready f ((i - 1) &&& ready) (fstep D JT cnt m set ready N' i) = fsL D JT cnt m set ready ready ready N := by rw [← he]; exact (if_neg hi0).symm
        have hand : (i - 1) &&& ready ≤ i - 1 := Nat.and_le_left
        have hand2 : (i - 1) &&& ready ≤ ready := Nat.and_le_right
        have enx : (nI i - 1) &&& nI ready = nI ((i - 1) &&& ready) := by rw [show (1 : Int32) = nI 1 from rfl, pk_sub (by omega), fa_and]
        have ecl : (nI i).toNatClampNeg = i := nI_clamp (by omega)
        have hin : vp_in (nI i) 1024 := vp_in_nI (by omega) (by decide)
        have hj := hJT i him
        have skip : ∀ v4 v6, fstep D JT cnt m set ready N' i = N' → G 2 [some (.ref 13), some (.int (nI set)), some (.int (nI ready)), some (.int ((nI i - 1) &&& nI ready)), v4, none, v6] [] a I J' (up2 (up2 Q0 13 4 (some 16)) 13 5 (some 17)) := by
          intro v4 v6 hs
          rw [hs] at he
          have := ih ((i - 1) &&& ready) v4 v6 N' J' (by omega) (by omega) ho h1 h2 he
          rw [enx]
          exact this
        refine cl [2] 90 2 _ _ _ _ _ _ ?_
        refine And.intro (fun c => absurd c (nI_nle (by omega) (by omega))) (fun _ => And.intro hin (And.intro (fun (c : I 15 (nI i).toNatClampNeg < 0) => ?_) (fun (c : ¬ I 15 (nI i).toNatClampNeg < 0) => And.intro hin (And.intro (fun (c2 : ¬ I 15 (nI i).toNatClampNeg &&& nI ready = 0) => ?_) (fun (c2 : I 15 (nI i).toNatClampNeg &&& nI ready = 0) => ?_)))))
        · rw [ecl, hj.1, oI_neg hj.2] at c
          exact skip v4 v6 (by unfold fstep; rw [c])
        · rw [ecl, hj.1, oI_neg hj.2] at c
          obtain ⟨v, hv⟩ : ∃ v, JT i = some v := by
            cases h : JT i with
            | none => exact absurd h c
            | some v => exact ⟨v, rfl⟩
          rw [ecl, hj.1, hv] at c2
          replace c2 : ¬ nI v &&& nI ready = 0 := c2
          rw [fa_and, show (0 : Int32) = nI 0 from rfl, nI_eq (Nat.lt_of_le_of_lt Nat.and_le_right (by omega)) (by decide)] at c2
          exact skip v4 v6 (by unfold fstep; rw [hv, hD]; exact if_neg c2)
        · rw [ecl, hj.1, oI_neg hj.2] at c
          obtain ⟨v, hv⟩ : ∃ v, JT i = some v := by
            cases h : JT i with
            | none => exact absurd h c
            | some v => exact ⟨v, rfl⟩
          rw [ecl, hj.1, hv] at c2
          replace c2 : nI v &&& nI ready = 0 := c2
          rw [fa_and, show (0 : Int32) = nI 0 from rfl, nI_eq (Nat.lt_of_le_of_lt Nat.and_le_right (by omega)) (by decide)] at c2
          have hst : fstep D JT cnt m set ready N' i = fun t => if t = set ||| i then olt (N' t) (some (d + cnt * dgN i m)) else N' t := by unfold fstep; rw [hv, hD]; exact if_pos c2
          have hg : dgN i m < 2 ^ 40 := Nat.lt_of_lt_of_le (dgN_lt i m) (Nat.pow_le_pow_right (by decide) (by omega))
          have hcd : cnt * dgN i m ≤ 10 * 2 ^ 40 := Nat.mul_le_mul hc (by omega)
          have ecs : (nI set).toNatClampNeg = set := nI_clamp (by omega)
          have hor : set ||| i < 2 ^ m := Nat.or_lt_two_pow hset him
          have eor : nI set ||| nI i = nI (set ||| i) := fa_or set i
          have eco : (nI set ||| nI i).toNatClampNeg = set ||| i := by rw [eor]; exact nI_clamp (by omega)
          have hin2 : vp_in (nI set ||| nI i) 1024 := by rw [eor]; exact vp_in_nI (by omega) (by decide)
          have efd : J' 16 (nI set).toNatClampNeg + (I 13 1).toInt64 * lN (dgN i m) = lN (d + cnt * dgN i m) := by
            rw [ecs, ho 16 (by decide), hJd, hI1, nI_l (by omega), lN_mul, lN_add]
          have hst2 := h1 (set ||| i) hor
          refine And.intro (show vp_in (nI set) 1024 from vp_in_nI (by omega) (by decide)) ?_
          refine Exists.intro (i, m) (And.intro rfl (And.intro (show i < 1024 ∧ m ≤ 10 ∧ I 13 7 = nI m from ⟨by omega, hm, hI7⟩) ?_))
          have put : ∀ v4, olt (N' (set ||| i)) (some (d + cnt * dgN i m)) = some (d + cnt * dgN i m) → G 2 [some (.ref 13), some (.int (nI set)), some (.int (nI ready)), some (.int ((nI i - 1) &&& nI ready)), v4, none, some (.int (nI set ||| nI i))] [] a I (up2 J' 17 (nI set ||| nI i).toNatClampNeg (J' 16 (nI set).toNatClampNeg + (I 13 1).toInt64 * lN (dgN i m))) (up2 (up2 Q0 13 4 (some 16)) 13 5 (some 17)) := by
            intro v4 hol
            have := ih ((i - 1) &&& ready) v4 (some (.int (nI set ||| nI i))) (fstep D JT cnt m set ready N' i) (up2 J' 17 (nI set ||| nI i).toNatClampNeg (J' 16 (nI set).toNatClampNeg + (I 13 1).toInt64 * lN (dgN i m))) (by omega) (by omega) (fun k' hk' => by rw [up2_ne hk']; exact ho k' hk') (fun t ht => ?_) (fstep_lt (fun d' hd' => by rw [hD] at hd'; cases hd'; exact hd) hc hm h2) he
            · rw [enx]
              exact this
            · rw [eco, efd, hst]
              by_cases het : t = set ||| i
              · subst het
                rw [up2_at]
                show _ = pI (if _ then _ else _)
                rw [if_pos rfl, hol]
                rfl
              · rw [up2_nej het]
                show _ = pI (if _ then _ else _)
                rw [if_neg het]
                exact h1 t ht
          refine And.intro hin2 (And.intro (fun (c3 : lg_cmp (J' 17 (nI set ||| nI i).toNatClampNeg) 0 < 0) => And.intro hin2 ?_) (fun (c3 : ¬ lg_cmp (J' 17 (nI set ||| nI i).toNatClampNeg) 0 < 0) => And.intro hin2 (And.intro (fun (c4 : 0 ≤ lg_cmp (J' 16 (nI set).toNatClampNeg + (I 13 1).toInt64 * lN (dgN i m)) (J' 17 (nI set ||| nI i).toNatClampNeg)) => ?_) (fun (c4 : ¬ 0 ≤ lg_cmp (J' 16 (nI set).toNatClampNeg + (I 13 1).toInt64 * lN (dgN i m)) (J' 17 (nI set ||| nI i).toNatClampNeg)) => And.intro hin2 ?_))))
          · rw [lg_lt0, eco, hst2] at c3
            refine put _ ?_
            cases hx : N' (set ||| i) with
            | none => rfl
            | some x => rw [hx] at c3; exact absurd c3 (lN_nn (by have := h2 _ _ hx; omega))
          · rw [lg_lt0, eco, hst2] at c3
            rw [lg_cmp_ge, efd, eco, hst2] at c4
            refine skip _ _ ?_
            rw [hst]
            funext t
            by_cases het : t = set ||| i
            · subst het
              rw [if_pos rfl]
              cases hx : N' (set ||| i) with
              | none => rw [hx] at c3; exact absurd pI_neg c3
              | some x =>
                rw [hx] at c4
                have hxx := h2 _ _ hx
                have : ¬ d + cnt * dgN i m < x := fun h => absurd ((lN_ltI (by omega) (by omega)).mpr h) (Int64.not_lt.mpr c4)
                exact if_neg this
            · rw [if_neg het]
          · rw [lg_lt0, eco, hst2] at c3
            rw [lg_cmp_ge, efd, eco, hst2, Int64.not_le] at c4
            refine put _ ?_
            cases hx : N' (set ||| i) with
            | none => rfl
            | some x =>
              rw [hx] at c4
              have hxx := h2 _ _ hx
              have : d + cnt * dgN i m < x := (lN_ltI (by omega) (by omega)).mp c4
              exact if_pos this
  refine cl [2] 90 0 _ _ _ _ _ _ ?_
  exact loop ready ready none none N J (Nat.le_refl _) hrdy (fun _ _ => rfl) hN hNb rfl
set_option maxRecDepth 20000 in
theorem fill_b17 {um zm : Nat} {G : hG} {Rt : hR} {set ready m cnt d bd : Nat} {D JT N : Nat → Option Nat} {a : hA} {I : hI} {J : hJ} {Q0 : hQ} (cl : CL tX qX false 60 um zm [e_digits] false false kX4_fillStation G Rt) (hset : set < 2 ^ m) (hrdy : ready < 2 ^ m) (hm : m ≤ 10) (hc : cnt ≤ 10) (hI7 : I 13 7 = nI m) (hI1 : I 13 1 = nI cnt) (hJT : ∀ s, s < 2 ^ m → I 15 s = oI (JT s) ∧ ∀ v, JT s = some v → v < 1024) (hD : D set = some d) (hd : d ≤ bd) (hJd : J 17 set = lN d) (hN : ∀ t, t < 2 ^ m → J 16 t = pI (N t)) (hNb : ∀ t y, N t = some y → y ≤ bd + 10 * 2 ^ 40) (hbd : bd < 2 ^ 48)
    (hR : ∀ J', (∀ k', k' ≠ 16 → J' k' = J k') → (∀ t, t < 2 ^ m → J' 16 t = pI (fsL D JT cnt m set ready ready ready N t)) → (∀ t y, fsL D JT cnt m set ready ready ready N t = some y → y ≤ bd + 10 * 2 ^ 40) → Rt none a I J' (up2 (up2 Q0 13 4 (some 17)) 13 5 (some 16))) : G 0 [some (.ref 13), some (.int (nI set)), some (.int (nI ready)), none, none, none, none] [] a I J (up2 (up2 Q0 13 4 (some 17)) 13 5 (some 16)) := by
  have hm2 : 2 ^ m ≤ 2 ^ 10 := Nat.pow_le_pow_right (by decide) hm
  have loop : ∀ f i v4 v6 N' J', i ≤ f → i < 2 ^ m → (∀ k', k' ≠ 16 → J' k' = J k') → (∀ t, t < 2 ^ m → J' 16 t = pI (N' t)) → (∀ t y, N' t = some y → y ≤ bd + 10 * 2 ^ 40) → fsL D JT cnt m set ready f i N' = fsL D JT cnt m set ready ready ready N → G 2 [some (.ref 13), some (.int (nI set)), some (.int (nI ready)), some (.int (nI i)), v4, none, v6] [] a I J' (up2 (up2 Q0 13 4 (some 17)) 13 5 (some 16)) := by
    intro f
    induction f with
    | zero =>
      intro i v4 v6 N' J' hi him ho h1 h2 he
      obtain rfl : i = 0 := by omega
      replace he : N' = fsL D JT cnt m set ready ready ready N := he
      refine cl [2] 90 2 _ _ _ _ _ _ ?_
      exact And.intro (fun _ => hR J' ho (by rw [← he]; exact h1) (by rw [← he]; exact h2)) (fun c => absurd (by decide) c)
    | succ f ih =>
      intro i v4 v6 N' J' hi him ho h1 h2 he
      by_cases hi0 : i = 0
      · subst hi0
        replace he : N' = fsL D JT cnt m set ready ready ready N := he
        refine cl [2] 90 2 _ _ _ _ _ _ ?_
        exact And.intro (fun _ => hR J' ho (by rw [← he]; exact h1) (by rw [← he]; exact h2)) (fun c => absurd (by decide) c)
      · replace he : fsL D JT cnt m set ready f ((i - 1) &&& ready) (fstep D JT cnt m set ready N' i) = fsL D JT cnt m set ready ready ready N := by rw [← he]; exact (if_neg hi0).symm
        have hand : (i - 1) &&& ready ≤ i - 1 := Nat.and_le_left
        have hand2 : (i - 1) &&& ready ≤ ready := Nat.and_le_right
        have enx : (nI i - 1) &&& nI ready = nI ((i - 1) &&& ready) := by rw [show (1 : Int32) = nI 1 from rfl, pk_sub (by omega), fa_and]
        have ecl : (nI i).toNatClampNeg = i := nI_clamp (by omega)
        have hin : vp_in (nI i) 1024 := vp_in_nI (by omega) (by decide)
        have hj := hJT i him
        have skip : ∀ v4 v6, fstep D JT cnt m set ready N' i = N' → G 2 [some (.ref 13), some (.int (nI set)), some (.int (nI ready)), some (.int ((nI i - 1) &&& nI ready)), v4, none, v6] [] a I J' (up2 (up2 Q0 13 4 (some 17)) 13 5 (some 16)) := by
          intro v4 v6 hs
          rw [hs] at he
          have := ih ((i - 1) &&& ready) v4 v6 N' J' (by omega) (by omega) ho h1 h2 he
          rw [enx]
          exact this
        refine cl [2] 90 2 _ _ _ _ _ _ ?_
        refine And.intro (fun c => absurd c (nI_nle (by omega) (by omega))) (fun _ => And.intro hin (And.intro (fun (c : I 15 (nI i).toNatClampNeg < 0) => ?_) (fun (c : ¬ I 15 (nI i).toNatClampNeg < 0) => And.intro hin (And.intro (fun (c2 : ¬ I 15 (nI i).toNatClampNeg &&& nI ready = 0) => ?_) (fun (c2 : I 15 (nI i).toNatClampNeg &&& nI ready = 0) => ?_)))))
        · rw [ecl, hj.1, oI_neg hj.2] at c
          exact skip v4 v6 (by unfold fstep; rw [c])
        · rw [ecl, hj.1, oI_neg hj.2] at c
          obtain ⟨v, hv⟩ : ∃ v, JT i = some v := by
            cases h : JT i with
            | none => exact absurd h c
            | some v => exact ⟨v, rfl⟩
          rw [ecl, hj.1, hv] at c2
          replace c2 : ¬ nI v &&& nI ready = 0 := c2
          rw [fa_and, show (0 : Int32) = nI 0 from rfl, nI_eq (Nat.lt_of_le_of_lt Nat.and_le_right (by omega)) (by decide)] at c2
          exact skip v4 v6 (by unfold fstep; rw [hv, hD]; exact if_neg c2)
        · rw [ecl, hj.1, oI_neg hj.2] at c
          obtain ⟨v, hv⟩ : ∃ v, JT i = some v := by
            cases h : JT i with
            | none => exact absurd h c
            | some v => exact ⟨v, rfl⟩
          rw [ecl, hj.1, hv] at c2
          replace c2 : nI v &&& nI ready = 0 := c2
          rw [fa_and, show (0 : Int32) = nI 0 from rfl, nI_eq (Nat.lt_of_le_of_lt Nat.and_le_right (by omega)) (by decide)] at c2
          have hst : fstep D JT cnt m set ready N' i = fun t => if t = set ||| i then olt (N' t) (some (d + cnt * dgN i m)) else N' t := by unfold fstep; rw [hv, hD]; exact if_pos c2
          have hg : dgN i m < 2 ^ 40 := Nat.lt_of_lt_of_le (dgN_lt i m) (Nat.pow_le_pow_right (by decide) (by omega))
          have hcd : cnt * dgN i m ≤ 10 * 2 ^ 40 := Nat.mul_le_mul hc (by omega)
          have ecs : (nI set).toNatClampNeg = set := nI_clamp (by omega)
          have hor : set ||| i < 2 ^ m := Nat.or_lt_two_pow hset him
          have eor : nI set ||| nI i = nI (set ||| i) := fa_or set i
          have eco : (nI set ||| nI i).toNatClampNeg = set ||| i := by rw [eor]; exact nI_clamp (by omega)
          have hin2 : vp_in (nI set ||| nI i) 1024 := by rw [eor]; exact vp_in_nI (by omega) (by decide)
          have efd : J' 17 (nI set).toNatClampNeg + (I 13 1).toInt64 * lN (dgN i m) = lN (d + cnt * dgN i m) := by
            rw [ecs, ho 17 (by decide), hJd, hI1, nI_l (by omega), lN_mul, lN_add]
          have hst2 := h1 (set ||| i) hor
          refine And.intro (show vp_in (nI set) 1024 from vp_in_nI (by omega) (by decide)) ?_
          refine Exists.intro (i, m) (And.intro rfl (And.intro (show i < 1024 ∧ m ≤ 10 ∧ I 13 7 = nI m from ⟨by omega, hm, hI7⟩) ?_))
          have put : ∀ v4, olt (N' (set ||| i)) (some (d + cnt * dgN i m)) = some (d + cnt * dgN i m) → G 2 [some (.ref 13), some (.int (nI set)), some (.int (nI ready)), some (.int ((nI i - 1) &&& nI ready)), v4, none, some (.int (nI set ||| nI i))] [] a I (up2 J' 16 (nI set ||| nI i).toNatClampNeg (J' 17 (nI set).toNatClampNeg + (I 13 1).toInt64 * lN (dgN i m))) (up2 (up2 Q0 13 4 (some 17)) 13 5 (some 16)) := by
            intro v4 hol
            have := ih ((i - 1) &&& ready) v4 (some (.int (nI set ||| nI i))) (fstep D JT cnt m set ready N' i) (up2 J' 16 (nI set ||| nI i).toNatClampNeg (J' 17 (nI set).toNatClampNeg + (I 13 1).toInt64 * lN (dgN i m))) (by omega) (by omega) (fun k' hk' => by rw [up2_ne hk']; exact ho k' hk') (fun t ht => ?_) (fstep_lt (fun d' hd' => by rw [hD] at hd'; cases hd'; exact hd) hc hm h2) he
            · rw [enx]
              exact this
            · rw [eco, efd, hst]
              by_cases het : t = set ||| i
              · subst het
                rw [up2_at]
                show _ = pI (if _ then _ else _)
                rw [if_pos rfl, hol]
                rfl
              · rw [up2_nej het]
                show _ = pI (if _ then _ else _)
                rw [if_neg het]
                exact h1 t ht
          refine And.intro hin2 (And.intro (fun (c3 : lg_cmp (J' 16 (nI set ||| nI i).toNatClampNeg) 0 < 0) => And.intro hin2 ?_) (fun (c3 : ¬ lg_cmp (J' 16 (nI set ||| nI i).toNatClampNeg) 0 < 0) => And.intro hin2 (And.intro (fun (c4 : 0 ≤ lg_cmp (J' 17 (nI set).toNatClampNeg + (I 13 1).toInt64 * lN (dgN i m)) (J' 16 (nI set ||| nI i).toNatClampNeg)) => ?_) (fun (c4 : ¬ 0 ≤ lg_cmp (J' 17 (nI set).toNatClampNeg + (I 13 1).toInt64 * lN (dgN i m)) (J' 16 (nI set ||| nI i).toNatClampNeg)) => And.intro hin2 ?_))))
          · rw [lg_lt0, eco, hst2] at c3
            refine put _ ?_
            cases hx : N' (set ||| i) with
            | none => rfl
            | some x => rw [hx] at c3; exact absurd c3 (lN_nn (by have := h2 _ _ hx; omega))
          · rw [lg_lt0, eco, hst2] at c3
            rw [lg_cmp_ge, efd, eco, hst2] at c4
            refine skip _ _ ?_
            rw [hst]
            funext t
            by_cases het : t = set ||| i
            · subst het
              rw [if_pos rfl]
              cases hx : N' (set ||| i) with
              | none => rw [hx] at c3; exact absurd pI_neg c3
              | some x =>
                rw [hx] at c4
                have hxx := h2 _ _ hx
                have : ¬ d + cnt * dgN i m < x := fun h => absurd ((lN_ltI (by omega) (by omega)).mpr h) (Int64.not_lt.mpr c4)
                exact if_neg this
            · rw [if_neg het]
          · rw [lg_lt0, eco, hst2] at c3
            rw [lg_cmp_ge, efd, eco, hst2, Int64.not_le] at c4
            refine put _ ?_
            cases hx : N' (set ||| i) with
            | none => rfl
            | some x =>
              rw [hx] at c4
              have hxx := h2 _ _ hx
              have : d + cnt * dgN i m < x := (lN_ltI (by omega) (by omega)).mp c4
              exact if_pos this
  refine cl [2] 90 0 _ _ _ _ _ _ ?_
  exact loop ready ready none none N J (Nat.le_refl _) hrdy (fun _ _ => rfl) hN hNb rfl
theorem c_fill {l : Launch} : CX l cdX4_fillStation e_fill := by
  refine cm_sn RX4 edX4_fillStation [e_digits] false kX4_fillStation cwX4_fillStation okX4_fillStation ⟨⟨_, rfl, c_digits⟩, trivial⟩ (by decide) rfl (v_fs _ (by decide)) ?_
  intro um zm G Rt ⟨b, set, ready, m, cnt, D, JT, N, bd⟩ a I J Q cl hb hp hR
  obtain ⟨⟨h1, h2, h3, h4⟩, ⟨h5, h6⟩, h7, ⟨h8, h9⟩, ⟨d, h10, h11, h12⟩, h13, h14, h15⟩ := hp
  obtain ⟨Q0, rfl⟩ := q_two h8 h9
  cases b with
  | true => exact fill_b17 cl h1 h2 h3 h4 h5 h6 h7 h10 h11 h12 h13 h14 h15 (fun J' g1 g2 g3 => hR _ _ _ _ ⟨rfl, rfl, rfl, g1, g2, g3⟩)
  | false => exact fill_b16 cl h1 h2 h3 h4 h5 h6 h7 h10 h11 h12 h13 h14 h15 (fun J' g1 g2 g3 => hR _ _ _ _ ⟨rfl, rfl, rfl, g1, g2, g3⟩)
