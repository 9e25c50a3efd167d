/-! Plan: its small loops -/
def dnK (b : Bool) : Nat := match b with
  | true => 17
  | false => 16
abbrev e_clr : Bool × Nat → List Value := fun x => [.ref (dnK x.1), .int (nI x.2)]
theorem v_clr (n : Nat) (h : 2 ≤ n) (x : Bool × Nat) : okv (e_clr x) ∧ (lvA (e_clr x)).length ≤ n := ⟨okv_ref (okv_int okv_nil), h⟩
def e_pclear : ev := (2, 99, false, 0, 0, sn e_clr (fun x _ _ _ _ => x.2 < 1024) (fun x _ I J Q v I' J' Q' => v = none ∧ I' = I ∧ Q' = Q ∧ (∀ k', k' ≠ dnK x.1 → J' k' = J k') ∧ ∀ j, j ≤ x.2 → J' (dnK x.1) j = -1))
set_option maxRecDepth 20000 in
theorem pclear_b16 {um zm : Nat} {G : hG} {Rt : hR} {n : Nat} {a : hA} {I : hI} {J : hJ} {Q : hQ} (cl : CL tX qX false 60 um zm [] false false kX4_clear G Rt) (hn : n < 1024) (hR : ∀ J', (∀ k', k' ≠ 16 → J' k' = J k') → (∀ j, j ≤ n → J' 16 j = -1) → Rt none a I J' Q) : G 0 [some (.ref 16), some (.int (nI n)), none] [] a I J Q := by
  have l1 : ∀ k r J', k + r = n + 1 → (∀ k', k' ≠ 16 → J' k' = J k') → (∀ r', r' < r → J' 16 r' = -1) → G 2 [some (.ref 16), some (.int (nI n)), some (.int (nI r))] [] a I J' Q := by
    intro k
    induction k with
    | zero =>
      intro r J' hk ho hr
      obtain rfl : r = n + 1 := by omega
      refine cl [2] 60 2 _ _ _ _ _ _ ?_
      exact And.intro (fun _ => hR J' ho (fun j hj => hr j (by omega))) (fun c => absurd (nI_lt (a := n) (by omega) (by omega)) c)
    | succ k ih =>
      intro r J' hk ho hr
      refine cl [2] 60 2 _ _ _ _ _ _ ?_
      refine And.intro (fun c => absurd c (nI_nlt (a := n) (b := r) (by omega) (by omega))) (fun _ => And.intro (show vp_in (nI r) 1024 from vp_in_nI (by omega) (by decide)) ?_)
      have := ih (r + 1) (up2 J' 16 (nI r).toNatClampNeg (-1)) (by omega) (fun k' hk' => by rw [up2_ne hk']; exact ho k' hk') (fun r' h' => ?_)
      · rw [← nI_1 r] at this
        exact this
      · rw [nI_clamp (by omega)]
        by_cases he : r' = r
        · subst he; rw [up2_at]
        · rw [up2_nej he]; exact hr r' (by omega)
  refine cl [2] 60 0 _ _ _ _ _ _ ?_
  exact l1 (n + 1) 0 J (by omega) (fun _ _ => rfl) (fun r h => by omega)
set_option maxRecDepth 20000 in
theorem pclear_b17 {um zm : Nat} {G : hG} {Rt : hR} {n : Nat} {a : hA} {I : hI} {J : hJ} {Q : hQ} (cl : CL tX qX false 60 um zm [] false false kX4_clear G Rt) (hn : n < 1024) (hR : ∀ J', (∀ k', k' ≠ 17 → J' k' = J k') → (∀ j, j ≤ n → J' 17 j = -1) → Rt none a I J' Q) : G 0 [some (.ref 17), some (.int (nI n)), none] [] a I J Q := by
  have l1 : ∀ k r J', k + r = n + 1 → (∀ k', k' ≠ 17 → J' k' = J k') → (∀ r', r' < r → J' 17 r' = -1) → G 2 [some (.ref 17), some (.int (nI n)), some (.int (nI r))] [] a I J' Q := by
    intro k
    induction k with
    | zero =>
      intro r J' hk ho hr
      obtain rfl : r = n + 1 := by omega
      refine cl [2] 60 2 _ _ _ _ _ _ ?_
      exact And.intro (fun _ => hR J' ho (fun j hj => hr j (by omega))) (fun c => absurd (nI_lt (a := n) (by omega) (by omega)) c)
    | succ k ih =>
      intro r J' hk ho hr
      refine cl [2] 60 2 _ _ _ _ _ _ ?_
      refine And.intro (fun c => absurd c (nI_nlt (a := n) (b := r) (by omega) (by omega))) (fun _ => And.intro (show vp_in (nI r) 1024 from vp_in_nI (by omega) (by decide)) ?_)
      have := ih (r + 1) (up2 J' 17 (nI r).toNatClampNeg (-1)) (by omega) (fun k' hk' => by rw [up2_ne hk']; exact ho k' hk') (fun r' h' => ?_)
      · rw [← nI_1 r] at this
        exact this
      · rw [nI_clamp (by omega)]
        by_cases he : r' = r
        · subst he; rw [up2_at]
        · rw [up2_nej he]; exact hr r' (by omega)
  refine cl [2] 60 0 _ _ _ _ _ _ ?_
  exact l1 (n + 1) 0 J (by omega) (fun _ _ => rfl) (fun r h => by omega)
theorem c_pclear {l : Launch} : CX l cdX4_clear e_pclear := by
  refine cm_sn RX4 edX4_clear [] false kX4_clear cwX4_clear okX4_clear trivial (by decide) rfl (v_clr _ (by decide)) ?_
  intro um zm G Rt ⟨b, n⟩ a I J Q cl hb hp hR
  cases b with
  | true => exact pclear_b17 cl hp (fun J' h1 h2 => hR _ _ _ _ ⟨rfl, rfl, rfl, h1, h2⟩)
  | false => exact pclear_b16 cl hp (fun J' h1 h2 => hR _ _ _ _ ⟨rfl, rfl, rfl, h1, h2⟩)
/-- b has nothing outside of s -/
theorem and_not {b s : Nat} (hb : b < 2 ^ 31) (hs : s < 2 ^ 31) : nI b &&& (nI s ^^^ (-1)) = 0 ↔ b &&& s = b := by
  rw [show (-1 : Int32) = nI (2 ^ 32 - 1) from rfl, nx_xor, fa_and]
  have hle : b &&& (s ^^^ (2 ^ 32 - 1)) ≤ b := Nat.and_le_left
  rw [show (0 : Int32) = nI 0 from rfl, nI_eq (by omega) (by decide)]
  constructor
  · intro h
    apply Nat.eq_of_testBit_eq
    intro i
    have h1 := congrArg (fun z => z.testBit i) h
    simp only [Nat.testBit_and, Nat.testBit_xor, Nat.testBit_two_pow_sub_one, Nat.zero_testBit] at h1
    rw [Nat.testBit_and]
    by_cases hi : i < 32
    · simp only [hi, decide_true] at h1
      cases hbi : b.testBit i <;> cases hsi : s.testBit i <;> simp_all
    · have : b.testBit i = false := Nat.testBit_lt_two_pow (Nat.lt_of_lt_of_le hb (Nat.pow_le_pow_right (by decide) (by omega)))
      rw [this]; rfl
  · intro h
    apply Nat.eq_of_testBit_eq
    intro i
    have h1 := congrArg (fun z => z.testBit i) h
    simp only [Nat.testBit_and] at h1
    simp only [Nat.testBit_and, Nat.testBit_xor, Nat.testBit_two_pow_sub_one, Nat.zero_testBit]
    by_cases hi : i < 32
    · simp only [hi, decide_true]
      cases hbi : b.testBit i <;> cases hsi : s.testBit i <;> simp_all
    · have : b.testBit i = false := Nat.testBit_lt_two_pow (Nat.lt_of_lt_of_le hb (Nat.pow_le_pow_right (by decide) (by omega)))
      rw [this]; rfl
/-- who can come when the set s is done -/
def rdN (B : Nat → Nat) (s : Nat) : Nat → Nat
  | 0 => 0
  | p + 1 => if s.testBit p = false ∧ B p &&& s = B p then rdN B s p ||| 2 ^ p else rdN B s p
theorem rdN_lt (B : Nat → Nat) (s : Nat) : ∀ p, rdN B s p < 2 ^ p
  | 0 => (show 0 < 1 by decide)
  | p + 1 => by
    have ih := rdN_lt B s p
    have h2 : 2 ^ p < 2 ^ (p + 1) := Nat.pow_lt_pow_right (by decide) (by omega)
    unfold rdN
    split
    · exact Nat.or_lt_two_pow (by omega) h2
    · omega
abbrev x_rd : Type := Nat × Nat × (Nat → Nat)
abbrev e_rd : x_rd → List Value := fun x => [.ref 13, .int (nI x.1), .ref 5]
theorem v_rd (n : Nat) (h : 3 ≤ n) (x : x_rd) : okv (e_rd x) ∧ (lvA (e_rd x)).length ≤ n := ⟨okv_ref (okv_int (okv_ref okv_nil)), h⟩
def e_ready : ev := (3, 4, false, 0, 0, sf e_rd (fun x _ I _ _ => x.1 < 1024 ∧ x.2.1 ≤ 10 ∧ I 13 7 = nI x.2.1 ∧ lawsOK I x.2.2) (fun x _ _ _ _ => some (.int (nI (rdN x.2.2 x.1 x.2.1)))))
set_option maxRecDepth 20000 in
theorem c_ready {l : Launch} : CX l cdX4_readyAfter e_ready := by
  refine cm_sf RX4 edX4_readyAfter [] false kX4_readyAfter cwX4_readyAfter okX4_readyAfter trivial (by decide) rfl (v_rd _ (by decide)) ?_
  intro um zm G Rt ⟨s, m, B⟩ a I J Q cl hb hp hR
  obtain ⟨hs, hm, hI, hB⟩ := hp
  have hs : s < 1024 := hs
  have hm : m ≤ 10 := hm
  have hI : I 13 7 = nI m := hI
  have hB : lawsOK I B := hB
  have loop : ∀ k p, k + p = m → G 5 [some (.ref 13), some (.int (nI s)), some (.ref 5), some (.int (nI (rdN B s p))), some (.int (nI p))] [] a I J Q := by
    intro k
    induction k with
    | zero =>
      intro p hk
      obtain rfl : p = m := by omega
      refine cl [5] 60 5 _ _ _ _ _ _ ?_
      exact And.intro (fun _ => hR _ rfl) (fun (c : ¬ I 13 7 ≤ nI p) => absurd (by rw [hI]; exact nI_le (Nat.le_refl _) (by omega)) c)
    | succ k ih =>
      intro p hk
      have ih' := ih (p + 1) (by omega)
      rw [← nI_1 p] at ih'
      have hbit := nx_bit (k := s) (j := p) (by omega) (by omega)
      refine cl [5] 60 5 _ _ _ _ _ _ ?_
      refine And.intro (fun (c : I 13 7 ≤ nI p) => absurd c (by rw [hI]; exact nI_ge (by omega) (by omega))) (fun _ => And.intro (fun (c : ¬ ((nI s).toUInt32 >>> ((nI p).toUInt32 &&& Int32.toUInt32 31)).toInt32 &&& 1 = 0) => ?_) (fun (c : ((nI s).toUInt32 >>> ((nI p).toUInt32 &&& Int32.toUInt32 31)).toInt32 &&& 1 = 0) => And.intro (show vp_in (nI p) 10 from vp_in_nI (by omega) (by decide)) (And.intro (fun (c2 : ¬ I 5 (nI p).toNatClampNeg &&& (nI s ^^^ (-1)) = 0) => ?_) (fun (c2 : I 5 (nI p).toNatClampNeg &&& (nI s ^^^ (-1)) = 0) => ?_))))
      · rw [hbit] at c
        rw [show rdN B s (p + 1) = rdN B s p from if_neg (fun h => c h.1)] at ih'
        exact ih'
      · rw [nI_clamp (by omega), (hB p (by omega)).1, and_not (by have := (hB p (by omega)).2; omega) (by omega)] at c2
        rw [show rdN B s (p + 1) = rdN B s p from if_neg (fun h => c2 h.2)] at ih'
        exact ih'
      · rw [hbit] at c
        rw [nI_clamp (by omega), (hB p (by omega)).1, and_not (by have := (hB p (by omega)).2; omega) (by omega)] at c2
        have e1 : nI (rdN B s p) ||| ((1 : Int32) <<< (nI p &&& 31)) = nI (rdN B s (p + 1)) := by
          have : 1 * 2 ^ p < 2 ^ 32 := by rw [Nat.one_mul]; exact Nat.pow_lt_pow_right (by decide) (by omega)
          rw [show (1 : Int32) = nI 1 from rfl, shlN (by omega) this, Nat.one_mul, fa_or]
          exact congrArg nI (if_pos ⟨c, c2⟩).symm
        rw [← e1] at ih'
        exact ih'
  refine cl [5] 60 0 _ _ _ _ _ _ ?_
  exact loop m 0 (by omega)
/-- a digit a punch, one where the set has it -/
def dgN (s : Nat) : Nat → Nat
  | 0 => 0
  | p + 1 => dgN s p * 2 ^ 4 ||| s / 2 ^ p % 2
theorem dgN_lt (s : Nat) : ∀ p, dgN s p < 2 ^ (4 * p)
  | 0 => (show 0 < 1 by decide)
  | p + 1 => by
    have ih := dgN_lt s p
    refine Nat.or_lt_two_pow ?_ (Nat.lt_of_lt_of_le (Nat.mod_lt _ (by decide)) (show 2 ^ 1 ≤ 2 ^ (4 * (p + 1)) from Nat.pow_le_pow_right (by decide) (by omega)))
    rw [show 4 * (p + 1) = 4 * p + 4 by omega, Nat.pow_add]
    exact Nat.mul_lt_mul_of_lt_of_le ih (Nat.le_refl _) (by decide)
abbrev e_dg : Nat × Nat → List Value := fun x => [.ref 13, .int (nI x.1)]
theorem v_dg (n : Nat) (h : 2 ≤ n) (x : Nat × Nat) : okv (e_dg x) ∧ (lvA (e_dg x)).length ≤ n := ⟨okv_ref (okv_int okv_nil), h⟩
def e_digits : ev := (2, 4, false, 0, 0, sf e_dg (fun x _ I _ _ => x.1 < 1024 ∧ x.2 ≤ 10 ∧ I 13 7 = nI x.2) (fun x _ _ _ _ => some (.long (lN (dgN x.1 x.2)))))
set_option maxRecDepth 20000 in
theorem c_digits {l : Launch} : CX l cdX4_digitsOf e_digits := by
  refine cm_sf RX4 edX4_digitsOf [] false kX4_digitsOf cwX4_digitsOf okX4_digitsOf trivial (by decide) rfl (v_dg _ (by decide)) ?_
  intro um zm G Rt ⟨s, m⟩ a I J Q cl hb hp hR
  obtain ⟨hs, hm, hI⟩ := hp
  have hs : s < 1024 := hs
  have hm : m ≤ 10 := hm
  have hI : I 13 7 = nI m := hI
  have loop : ∀ k p, k + p = m → G 5 [some (.ref 13), some (.int (nI s)), some (.long (lN (dgN s p))), none, some (.int (nI p))] [] a I J Q := by
    intro k
    induction k with
    | zero =>
      intro p hk
      obtain rfl : p = m := by omega
      refine cl [5] 60 5 _ _ _ _ _ _ ?_
      exact And.intro (fun _ => hR _ rfl) (fun (c : ¬ I 13 7 ≤ nI p) => absurd (by rw [hI]; exact nI_le (Nat.le_refl _) (by omega)) c)
    | succ k ih =>
      intro p hk
      refine cl [5] 60 5 _ _ _ _ _ _ ?_
      refine And.intro (fun (c : I 13 7 ≤ nI p) => absurd c (by rw [hI]; exact nI_ge (by omega) (by omega))) (fun _ => ?_)
      have hlt := dgN_lt s p
      have hlt2 : dgN s p < 2 ^ 40 := Nat.lt_of_lt_of_le hlt (Nat.pow_le_pow_right (by decide) (by omega))
      have ew : (lN (dgN s p) <<< ((4 : Int32).toInt64 &&& 63)) ||| (((nI s).toUInt32 >>> ((nI p).toUInt32 &&& Int32.toUInt32 31)).toInt32 &&& 1).toInt64 = lN (dgN s (p + 1)) := by
        rw [nx_ush (by omega) (by omega), show (1 : Int32) = nI (2 ^ 1 - 1) from rfl, fa_mask, Nat.shiftRight_eq_div_pow, nI_l (by omega), show (4 : Int32) = nI 4 from rfl, wb_shl _ (by decide), wb_or (by omega) (by omega)]
        rfl
      have := ih (p + 1) (by omega)
      rw [← nI_1 p, ← ew] at this
      exact this
  refine cl [5] 60 0 _ _ _ _ _ _ ?_
  exact loop m 0 (by omega)
