/-! Plan.findJoins -/
def oI (o : Option Nat) : Int32 := match o with
  | none => -1
  | some v => nI v
theorem oI_neg {o : Option Nat} (hb : ∀ v, o = some v → v < 1024) : oI o < 0 ↔ o = none := by
  cases o with
  | none => exact ⟨fun _ => rfl, fun _ => by decide⟩
  | some v => exact ⟨fun h => absurd h (nI_pos (by have := hb v rfl; omega)), fun h => by cases h⟩
/-- who else fits to all of a set of the first p punches; none: the set can't be in one station -/
def jT (F : Nat → Nat) (all : Nat) : Nat → Nat → Option Nat
  | 0, _ => some all
  | p + 1, s => if s < 2 ^ p then jT F all p s else match jT F all p (s - 2 ^ p) with
    | some v => if v.testBit p = true then some (v &&& F p) else none
    | none => none
def jnew (F : Nat → Nat) (all p t : Nat) : Option Nat := match jT F all p t with
  | some v => if v.testBit p = true then some (v &&& F p) else none
  | none => none
theorem jT_new (F : Nat → Nat) (all p t : Nat) : jT F all (p + 1) (2 ^ p + t) = jnew F all p t := by
  show (if 2 ^ p + t < 2 ^ p then _ else _) = _
  rw [if_neg (by omega), Nat.add_sub_cancel_left]
  rfl
theorem jT_old (F : Nat → Nat) (all p s : Nat) (h : s < 2 ^ p) : jT F all (p + 1) s = jT F all p s := if_pos h
theorem jT_lt {F : Nat → Nat} {all : Nat} (ha : all < 1024) : ∀ p s v, jT F all p s = some v → v < 1024
  | 0, s, v, h => by cases h; exact ha
  | p + 1, s, v, h => by
    have ih := jT_lt (F := F) ha p
    unfold jT at h
    split at h
    · exact ih _ _ h
    · split at h
      · rename_i w hw
        split at h
        · cases h
          exact Nat.lt_of_le_of_lt Nat.and_le_left (ih _ _ hw)
        · cases h
      · cases h
abbrev x_fj : Type := Nat × (Nat → Nat)
abbrev e_fj : x_fj → List Value := fun x => [.ref 13, .int (nI (2 ^ x.1 - 1))]
theorem v_fj (n : Nat) (h : 2 ≤ n) (x : x_fj) : okv (e_fj x) ∧ (lvA (e_fj x)).length ≤ n := ⟨okv_ref (okv_int okv_nil), h⟩
def e_joins : ev := (2, 4, false, 0, 0, sn e_fj (fun x _ I _ _ => x.1 ≤ 10 ∧ I 13 7 = nI x.1 ∧ ∀ p, p < x.1 → I 14 p = nI (x.2 p)) (fun x _ I J Q v I' J' Q' => v = none ∧ J' = J ∧ Q' = Q ∧ (∀ k', k' ≠ 15 → I' k' = I k') ∧ ∀ s, s < 2 ^ x.1 → I' 15 s = oI (jT x.2 (2 ^ x.1 - 1) x.1 s)))
set_option maxRecDepth 20000 in
theorem c_joins {l : Launch} : CX l cdX4_findJoins e_joins := by
  refine cm_sn RX4 edX4_findJoins [] false kX4_findJoins cwX4_findJoins okX4_findJoins trivial (by decide) rfl (v_fj _ (by decide)) ?_
  intro um zm G Rt ⟨m, F⟩ a I J Q cl hb hp hR
  obtain ⟨hm, hI, hF⟩ := hp
  have hm : m ≤ 10 := hm
  have hI : I 13 7 = nI m := hI
  have hF : ∀ p, p < m → I 14 p = nI (F p) := hF
  have hal : 2 ^ m - 1 < 1024 := by
    have : 2 ^ m ≤ 2 ^ 10 := Nat.pow_le_pow_right (by decide) hm
    omega
  have l2 : ∀ k t p v4 I', k + t = 2 ^ p → p < m → (∀ k', k' ≠ 15 → I' k' = I k') → (∀ s, s < 2 ^ p → I' 15 s = oI (jT F (2 ^ m - 1) p s)) → (∀ s, s < t → I' 15 (2 ^ p + s) = oI (jnew F (2 ^ m - 1) p s)) → (∀ v4 v3 I', (∀ k', k' ≠ 15 → I' k' = I k') → (∀ s, s < 2 ^ (p + 1) → I' 15 s = oI (jT F (2 ^ m - 1) (p + 1) s)) → G 9 [some (.ref 13), some (.int (nI (2 ^ m - 1))), some (.int (nI (p + 1))), v3, v4] [] a I' J Q) → G 19 [some (.ref 13), some (.int (nI (2 ^ m - 1))), some (.int (nI p)), some (.int (nI t)), v4] [] a I' J Q := by
    intro k
    induction k with
    | zero =>
      intro t p v4 I' hk hp ho h1 h2 hK
      have hp2 : 2 ^ p < 2 ^ 10 := Nat.pow_lt_pow_right (by decide) (by omega)
      have e1 : (1 : Int32) <<< (nI p &&& 31) = nI (2 ^ p) := by
        rw [show (1 : Int32) = nI 1 from rfl, shlN (by omega) (by omega), Nat.one_mul]
      refine cl [9, 19] 80 19 _ _ _ _ _ _ ?_
      refine And.intro (fun _ => ?_) (fun (c : ¬ ((1 : Int32) <<< (nI p &&& 31)) ≤ nI t) => absurd (by rw [e1]; exact nI_le (by omega) (by omega)) c)
      have := hK v4 (some (.int (nI t))) I' ho (fun s hs => ?_)
      · rw [← nI_1 p] at this
        exact this
      · by_cases hsp : s < 2 ^ p
        · rw [jT_old _ _ _ _ hsp]; exact h1 s hsp
        · have := h2 (s - 2 ^ p) (by rw [Nat.pow_succ] at hs; omega)
          rw [show 2 ^ p + (s - 2 ^ p) = s by omega] at this
          rw [this, ← jT_new, show 2 ^ p + (s - 2 ^ p) = s by omega]
    | succ k ih =>
      intro t p v4 I' hk hp ho h1 h2 hK
      have hp2 : 2 ^ p < 2 ^ 10 := Nat.pow_lt_pow_right (by decide) (by omega)
      have hp3 : 2 ^ p * 2 ≤ 2 ^ 10 := by rw [← Nat.pow_succ]; exact Nat.pow_le_pow_right (by decide) (by omega)
      have ht : t < 2 ^ p := by omega
      have e1 : (1 : Int32) <<< (nI p &&& 31) = nI (2 ^ p) := by
        rw [show (1 : Int32) = nI 1 from rfl, shlN (by omega) (by omega), Nat.one_mul]
      have eo : nI t ||| ((1 : Int32) <<< (nI p &&& 31)) = nI (2 ^ p + t) := by
        rw [e1, fa_or, Nat.or_comm]
        exact congrArg nI (Nat.two_pow_add_eq_or_of_lt ht 1 |> fun h => by rw [Nat.mul_one] at h; exact h.symm)
      have ecl : (nI t).toNatClampNeg = t := nI_clamp (by omega)
      have eoc : (nI t ||| ((1 : Int32) <<< (nI p &&& 31))).toNatClampNeg = 2 ^ p + t := by rw [eo]; exact nI_clamp (by omega)
      have hin : vp_in (nI t) 1024 := vp_in_nI (by omega) (by decide)
      have hin2 : vp_in (nI t ||| ((1 : Int32) <<< (nI p &&& 31))) 1024 := by rw [eo]; exact vp_in_nI (by omega) (by decide)
      have hj := h1 t ht
      have hjl := jT_lt (F := F) hal p t
      have fin : ∀ v4 x, x = oI (jnew F (2 ^ m - 1) p t) → G 19 [some (.ref 13), some (.int (nI (2 ^ m - 1))), some (.int (nI p)), some (.int (nI t + 1)), v4] [] a (up2 I' 15 (nI t ||| ((1 : Int32) <<< (nI p &&& 31))).toNatClampNeg x) J Q := by
        intro v4 x hx
        have := ih (t + 1) p v4 (up2 I' 15 (nI t ||| ((1 : Int32) <<< (nI p &&& 31))).toNatClampNeg x) (by omega) hp (fun k' hk' => by rw [up2_ne hk']; exact ho k' hk') (fun s hs => by rw [eoc, up2_nej (by omega)]; exact h1 s hs) (fun s hs => ?_) hK
        · rw [← nI_1 t] at this
          exact this
        · rw [eoc]
          by_cases he : s = t
          · subst he; rw [up2_at, hx]
          · rw [up2_nej (by omega)]; exact h2 s (by omega)
      refine cl [9, 19] 80 19 _ _ _ _ _ _ ?_
      refine And.intro (fun (c : ((1 : Int32) <<< (nI p &&& 31)) ≤ nI t) => absurd c (by rw [e1]; exact nI_ge (by omega) (by omega))) (fun _ => And.intro hin (And.intro (fun (c : I' 15 (nI t).toNatClampNeg < 0) => ?_) (fun (c : ¬ I' 15 (nI t).toNatClampNeg < 0) => And.intro hin (And.intro (fun (c2 : ((I' 15 (nI t).toNatClampNeg).toUInt32 >>> ((nI p).toUInt32 &&& Int32.toUInt32 31)).toInt32 &&& 1 = 0) => ?_) (fun (c2 : ¬ ((I' 15 (nI t).toNatClampNeg).toUInt32 >>> ((nI p).toUInt32 &&& Int32.toUInt32 31)).toInt32 &&& 1 = 0) => ?_)))))
      · rw [ecl, hj, oI_neg hjl] at c
        refine And.intro (fun _ => And.intro hin2 ?_) (fun h => absurd rfl h)
        exact fin _ (-1) (by unfold jnew; rw [c]; rfl)
      · rw [ecl, hj, oI_neg hjl] at c
        obtain ⟨v, hv⟩ : ∃ v, jT F (2 ^ m - 1) p t = some v := by
          cases h : jT F (2 ^ m - 1) p t with
          | none => exact absurd h c
          | some v => exact ⟨v, rfl⟩
        rw [ecl, hj, hv] at c2
        have c2 := (nx_bit (k := v) (j := p) (by have := hjl v hv; omega) (by omega)).mp c2
        refine And.intro (fun _ => And.intro hin2 ?_) (fun h => absurd rfl h)
        exact fin _ (-1) (by unfold jnew; rw [hv]; simp only [c2]; rfl)
      · rw [ecl, hj, oI_neg hjl] at c
        obtain ⟨v, hv⟩ : ∃ v, jT F (2 ^ m - 1) p t = some v := by
          cases h : jT F (2 ^ m - 1) p t with
          | none => exact absurd h c
          | some v => exact ⟨v, rfl⟩
        rw [ecl, hj, hv] at c2
        have c2 : v.testBit p = true := by
          cases h : v.testBit p with
          | true => rfl
          | false => exact absurd ((nx_bit (k := v) (j := p) (by have := hjl v hv; omega) (by omega)).mpr h) c2
        have eF : I' 14 (nI p).toNatClampNeg = nI (F p) := by rw [nI_clamp (by omega), ho 14 (by decide)]; exact hF p hp
        refine And.intro (fun h => absurd h (by decide)) (fun _ => And.intro hin (And.intro (show vp_in (nI p) 10 from vp_in_nI (by omega) (by decide)) (And.intro hin2 ?_)))
        exact fin _ (I' 15 (nI t).toNatClampNeg &&& I' 14 (nI p).toNatClampNeg) (by
          rw [ecl, hj, hv, eF]
          show nI v &&& nI (F p) = _
          rw [fa_and]
          unfold jnew
          rw [hv]
          simp only [c2]
          rfl)
  have l1 : ∀ k p v3 v4 I', k + p = m → (∀ k', k' ≠ 15 → I' k' = I k') → (∀ s, s < 2 ^ p → I' 15 s = oI (jT F (2 ^ m - 1) p s)) → G 9 [some (.ref 13), some (.int (nI (2 ^ m - 1))), some (.int (nI p)), v3, v4] [] a I' J Q := by
    intro k
    induction k with
    | zero =>
      intro p v3 v4 I' hk ho h1
      obtain rfl : p = m := by omega
      refine cl [9, 19] 80 9 _ _ _ _ _ _ ?_
      exact And.intro (fun _ => hR _ _ _ _ ⟨rfl, rfl, rfl, ho, h1⟩) (fun (c : ¬ I' 13 7 ≤ nI p) => absurd (by rw [ho 13 (by decide), hI]; exact nI_le (Nat.le_refl _) (by omega)) c)
    | succ k ih =>
      intro p v3 v4 I' hk ho h1
      refine cl [9, 19] 80 9 _ _ _ _ _ _ ?_
      refine And.intro (fun (c : I' 13 7 ≤ nI p) => absurd c (by rw [ho 13 (by decide), hI]; exact nI_ge (by omega) (by omega))) (fun _ => ?_)
      exact l2 (2 ^ p) 0 p v4 I' (by omega) (by omega) ho h1 (fun s hs => by omega) (fun v4 v3 I2 g1 g2 => ih (p + 1) v3 v4 I2 (by omega) g1 g2)
  refine cl [9, 19] 80 0 _ _ _ _ _ _ ?_
  refine And.intro (show vp_in 0 1024 from vp_in_nI (n := 0) (by decide) (by decide)) ?_
  have := l1 m 0 none none (up2 I 15 0 (nI (2 ^ m - 1))) (by omega) (fun k' hk' => up2_ne hk') (fun s hs => by
    obtain rfl : s = 0 := by simp at hs; exact hs
    rw [up2_at]; rfl)
  exact this
