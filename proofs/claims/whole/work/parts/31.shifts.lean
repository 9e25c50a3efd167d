/-! Nearness.shiftsOf -/
def zI (z : Int) : Int32 := Int32.ofInt z
theorem zI_nat (n : Nat) : nI n = zI (n : Int) := rfl
theorem zI_add (a b : Int) : zI a + zI b = zI (a + b) := (Int32.ofInt_add a b).symm
theorem zI_toInt {z : Int} (h1 : -2147483648 ≤ z) (h2 : z < 2147483648) : (zI z).toInt = z := by
  unfold zI
  rw [Int32.toInt_ofInt]
  exact Int.bmod_eq_of_le (by rw [show ((Int32.size : Nat) : Int) = 4294967296 from rfl]; omega) (by rw [show ((Int32.size : Nat) : Int) = 4294967296 from rfl]; omega)
theorem zI_lt {a b : Int} (h1 : -2147483648 ≤ a) (h2 : a < 2147483648) (h3 : -2147483648 ≤ b) (h4 : b < 2147483648) : zI a < zI b ↔ a < b := by
  rw [Int32.lt_iff_toInt_lt, zI_toInt h1 h2, zI_toInt h3 h4]
theorem zI_le {a b : Int} (h1 : -2147483648 ≤ a) (h2 : a < 2147483648) (h3 : -2147483648 ≤ b) (h4 : b < 2147483648) : zI a ≤ zI b ↔ a ≤ b := by
  rw [Int32.le_iff_toInt_le, zI_toInt h1 h2, zI_toInt h3 h4]
/-- what one row of the other shape brings -/
def shx (g v : Nat) : Nat → Nat
  | 0 => 0
  | x + 1 => if v.testBit x = true then shx g v x ||| g * 2 ^ (7 - x) else shx g v x
/-- the shifts that bring the other shape too near, out of its first rows -/
def shN (f : Nat → Nat) (c w : Nat) (d : Int) : Nat → Nat
  | 0 => 0
  | y + 1 => if 0 ≤ (y : Int) + d + 4 ∧ (y : Int) + d + 4 < 16 then shN f c w d y ||| shx (f ((y : Int) + d + 4).toNat) (rowN c y) w else shN f c w d y
theorem shx_lt {g v : Nat} (hg : g < 2 ^ 17) : ∀ x, shx g v x < 2 ^ 24
  | 0 => (show 0 < 2 ^ 24 by decide)
  | x + 1 => by
    unfold shx
    split
    · exact Nat.or_lt_two_pow (shx_lt hg x) (Nat.lt_of_lt_of_le (Nat.mul_lt_mul_of_lt_of_le hg (Nat.pow_le_pow_right (by decide) (show 7 - x ≤ 7 by omega)) (Nat.two_pow_pos _)) (by decide))
    · exact shx_lt hg x
theorem shN_lt {f : Nat → Nat} {c w : Nat} {d : Int} (hf : ∀ r, r < 16 → f r < 2 ^ 17) : ∀ y, shN f c w d y < 2 ^ 24
  | 0 => (show 0 < 2 ^ 24 by decide)
  | y + 1 => by
    unfold shN
    split
    · exact Nat.or_lt_two_pow (shN_lt hf y) (shx_lt (hf _ (by omega)) w)
    · exact shN_lt hf y
abbrev xSh : Type := Bool × Nat × Nat × Nat × Nat × Int × (Nat → Nat)
abbrev e_sh : xSh → List Value := fun x => [.ref (nearP x.1), .ref x.2.1, .int (zI x.2.2.2.2.2.1)]
theorem v_sh (n : Nat) (h : 3 ≤ n) (x : xSh) : okv (e_sh x) ∧ (lvA (e_sh x)).length ≤ n := ⟨okv_ref (okv_ref (okv_int okv_nil)), h⟩
def e_shifts : ev := (3, 3, false, 0, 0, sf e_sh (fun x a I J _ => shw a I J x.2.1 x.2.2.1 x.2.2.2.1 x.2.2.2.2.1 ∧ (-1000 ≤ x.2.2.2.2.2.1 ∧ x.2.2.2.2.2.1 ≤ 1000) ∧ ∀ r, r < 16 → I (nearG x.1) r = nI (x.2.2.2.2.2.2 r) ∧ x.2.2.2.2.2.2 r < 2 ^ 17) (fun x _ _ _ _ => some (.long (lN (shN x.2.2.2.2.2.2 x.2.2.1 x.2.2.2.1 x.2.2.2.2.2.1 x.2.2.2.2.1)))))
set_option maxRecDepth 20000 in
theorem shifts_b8 {um zm : Nat} {G : hG} {Rt : hR} {k c w h : Nat} {d : Int} {f : Nat → Nat} {a : hA} {I : hI} {J : hJ} {Q : hQ} (cl : CL tX qX false 60 um zm [e_row] false false kX3_shiftsOf G Rt) (hs : shw a I J k c w h) (hd : -1000 ≤ d ∧ d ≤ 1000) (hf : ∀ r, r < 16 → I 9 r = nI (f r) ∧ f r < 2 ^ 17) (hR : Rt (some (.long (lN (shN f c w d h)))) a I J Q) : G 0 [some (.ref 8), some (.ref k), some (.int (zI d)), none, none, none, none, none, none] [] a I J Q := by
  obtain ⟨hsp, hiw, hih, hft, hw1, hw8, hh1, hh8⟩ := id hs
  have hf2 : ∀ r, r < 16 → f r < 2 ^ 17 := fun r hr => (hf r hr).2
  have lx : ∀ j x y r m, j + x = w → y < h → r < 16 → m < 2 ^ 24 → (∀ v7 v8, G 5 [some (.ref 8), some (.ref k), some (.int (zI d)), some (.long (lN (m ||| shx (f r) (rowN c y) w))), none, some (.int (nI (y + 1))), some (.int (nI r)), v7, v8] [] a I J Q) → G 51 [some (.ref 8), some (.ref k), some (.int (zI d)), some (.long (lN (m ||| shx (f r) (rowN c y) x))), none, some (.int (nI y)), some (.int (nI r)), some (.int (nI (rowN c y))), some (.int (nI x))] [] a I J Q := by
    intro j
    induction j with
    | zero =>
      intro x y r m hj hy hr hm hK
      obtain rfl : x = w := by omega
      refine cl [5, 51] 60 51 _ _ _ _ _ _ ?_
      refine cko (isOb_ck hsp.1) (And.intro (fun _ => ?_) (fun (c2 : ¬ I k 1 ≤ nI x) => absurd (by rw [hiw]; exact nI_le (Nat.le_refl _) (by omega)) c2))
      have := hK (some (.int (nI (rowN c y)))) (some (.int (nI x)))
      rw [← nI_1 y] at this
      exact this
    | succ j ih =>
      intro x y r m hj hy hr hm hK
      have hx8 : x < 8 := by omega
      have hrl := rowN_lt c y
      have ih' := ih (x + 1) y r m (by omega) hy hr hm hK
      rw [← nI_1 x] at ih'
      refine cl [5, 51] 60 51 _ _ _ _ _ _ ?_
      refine cko (isOb_ck hsp.1) (And.intro (fun (c2 : I k 1 ≤ nI x) => absurd c2 (by rw [hiw]; exact nI_ge (by omega) (by omega))) (fun _ => And.intro (fun (c2 : ((nI (rowN c y)).toUInt32 >>> ((nI x).toUInt32 &&& Int32.toUInt32 31)).toInt32 &&& 1 = 0) => ?_) (fun (c2 : ¬ ((nI (rowN c y)).toUInt32 >>> ((nI x).toUInt32 &&& Int32.toUInt32 31)).toInt32 &&& 1 = 0) => And.intro (show vp_in (nI r) 16 from vp_in_nI hr (by decide)) ?_)))
      · rw [nx_bit (by omega) (by omega)] at c2
        rw [show shx (f r) (rowN c y) (x + 1) = shx (f r) (rowN c y) x by show (if _ then _ else _) = _; rw [if_neg (by rw [c2]; decide)]] at ih'
        exact ih'
      · rw [nx_bit (by omega) (by omega), Bool.not_eq_false] at c2
        have hsx := shx_lt (v := rowN c y) (hf2 r hr) x
        have hsh : f r * 2 ^ (7 - x) < 2 ^ 24 := Nat.lt_of_lt_of_le (Nat.mul_lt_mul_of_lt_of_le (hf2 r hr) (Nat.pow_le_pow_right (by decide) (show 7 - x ≤ 7 by omega)) (Nat.two_pow_pos _)) (by decide)
        have ew : lN (m ||| shx (f r) (rowN c y) x) ||| (I 9 (nI r).toNatClampNeg).toInt64 <<< (((7 : Int32) - nI x).toInt64 &&& 63) = lN (m ||| shx (f r) (rowN c y) (x + 1)) := by
          rw [nI_clamp (by omega), (hf r hr).1, nI_l (by have := hf2 r hr; omega), show (7 : Int32) - nI x = nI (7 - x) from pk_sub (a := 7) (by omega), wb_shl _ (by omega), wb_or (Nat.lt_of_lt_of_le (Nat.or_lt_two_pow hm hsx) (by decide)) (by omega), Nat.or_assoc]
          rw [show shx (f r) (rowN c y) (x + 1) = shx (f r) (rowN c y) x ||| f r * 2 ^ (7 - x) by show (if _ then _ else _) = _; rw [if_pos c2]]
        rw [← ew] at ih'
        exact ih'
  have ly : ∀ j y v6 v7 v8, j + y = h → G 5 [some (.ref 8), some (.ref k), some (.int (zI d)), some (.long (lN (shN f c w d y))), none, some (.int (nI y)), v6, v7, v8] [] a I J Q := by
    intro j
    induction j with
    | zero =>
      intro y v6 v7 v8 hj
      obtain rfl : y = h := by omega
      refine cl [5, 51] 60 5 _ _ _ _ _ _ ?_
      exact cko (isOb_ck hsp.1) (And.intro (fun _ => hR) (fun (c2 : ¬ I k 2 ≤ nI y) => absurd (by rw [hih]; exact nI_le (Nat.le_refl _) (by omega)) c2))
    | succ j ih =>
      intro y v6 v7 v8 hj
      have er : nI y + zI d + 4 = zI ((y : Int) + d + 4) := by rw [zI_nat, zI_add, show (4 : Int32) = zI 4 from rfl, zI_add]
      refine cl [5, 51] 60 5 _ _ _ _ _ _ ?_
      refine cko (isOb_ck hsp.1) (And.intro (fun (c2 : I k 2 ≤ nI y) => absurd c2 (by rw [hih]; exact nI_ge (by omega) (by omega))) (fun _ => And.intro (fun (c2 : nI y + zI d + 4 < 0) => ?_) (fun (c2 : ¬ nI y + zI d + 4 < 0) => And.intro (fun (c3 : nI y + zI d + 4 < nI 16) => ?_) (fun (c3 : ¬ nI y + zI d + 4 < nI 16) => ?_))))
      · rw [er, show (0 : Int32) = zI 0 from rfl, zI_lt (by omega) (by omega) (by omega) (by omega)] at c2
        have := ih (y + 1) (some (.int (nI y + zI d + 4))) v7 v8 (by omega)
        rw [show shN f c w d (y + 1) = shN f c w d y by show (if _ then _ else _) = _; rw [if_neg (by omega)], ← nI_1 y] at this
        exact this
      · rw [er, show (0 : Int32) = zI 0 from rfl, zI_lt (by omega) (by omega) (by omega) (by omega)] at c2
        rw [er, zI_nat, zI_lt (by omega) (by omega) (by omega) (by omega)] at c3
        have en : nI y + zI d + 4 = nI ((y : Int) + d + 4).toNat := by rw [er, zI_nat]; congr 1; omega
        have := lx w 0 y ((y : Int) + d + 4).toNat (shN f c w d y) (by omega) (by omega) (by omega) (shN_lt hf2 y) (fun v7 v8 => ?_)
        · rw [show shN f c w d y ||| shx (f ((y : Int) + d + 4).toNat) (rowN c y) 0 = shN f c w d y from Nat.or_zero _, ← en] at this
          exact vko hsp.1 rfl (Exists.intro (k, c, y) (And.intro rfl (And.intro ⟨hsp, show y < 8 by omega⟩ this)))
        · have := ih (y + 1) (some (.int (nI ((y : Int) + d + 4).toNat))) v7 v8 (by omega)
          rw [show shN f c w d (y + 1) = shN f c w d y ||| shx (f ((y : Int) + d + 4).toNat) (rowN c y) w by show (if _ then _ else _) = _; rw [if_pos (by omega)]] at this
          exact this
      · rw [er, zI_nat, zI_lt (by omega) (by omega) (by omega) (by omega)] at c3
        have := ih (y + 1) (some (.int (nI y + zI d + 4))) v7 v8 (by omega)
        rw [show shN f c w d (y + 1) = shN f c w d y by show (if _ then _ else _) = _; rw [if_neg (by omega)], ← nI_1 y] at this
        exact this
  refine cl [5, 51] 60 0 _ _ _ _ _ _ ?_
  exact ly h 0 none none none (by omega)
set_option maxRecDepth 20000 in
theorem shifts_b11 {um zm : Nat} {G : hG} {Rt : hR} {k c w h : Nat} {d : Int} {f : Nat → Nat} {a : hA} {I : hI} {J : hJ} {Q : hQ} (cl : CL tX qX false 60 um zm [e_row] false false kX3_shiftsOf G Rt) (hs : shw a I J k c w h) (hd : -1000 ≤ d ∧ d ≤ 1000) (hf : ∀ r, r < 16 → I 12 r = nI (f r) ∧ f r < 2 ^ 17) (hR : Rt (some (.long (lN (shN f c w d h)))) a I J Q) : G 0 [some (.ref 11), some (.ref k), some (.int (zI d)), none, none, none, none, none, none] [] a I J Q := by
  obtain ⟨hsp, hiw, hih, hft, hw1, hw8, hh1, hh8⟩ := id hs
  have hf2 : ∀ r, r < 16 → f r < 2 ^ 17 := fun r hr => (hf r hr).2
  have lx : ∀ j x y r m, j + x = w → y < h → r < 16 → m < 2 ^ 24 → (∀ v7 v8, G 5 [some (.ref 11), some (.ref k), some (.int (zI d)), some (.long (lN (m ||| shx (f r) (rowN c y) w))), none, some (.int (nI (y + 1))), some (.int (nI r)), v7, v8] [] a I J Q) → G 51 [some (.ref 11), some (.ref k), some (.int (zI d)), some (.long (lN (m ||| shx (f r) (rowN c y) x))), none, some (.int (nI y)), some (.int (nI r)), some (.int (nI (rowN c y))), some (.int (nI x))] [] a I J Q := by
    intro j
    induction j with
    | zero =>
      intro x y r m hj hy hr hm hK
      obtain rfl : x = w := by omega
      refine cl [5, 51] 60 51 _ _ _ _ _ _ ?_
      refine cko (isOb_ck hsp.1) (And.intro (fun _ => ?_) (fun (c2 : ¬ I k 1 ≤ nI x) => absurd (by rw [hiw]; exact nI_le (Nat.le_refl _) (by omega)) c2))
      have := hK (some (.int (nI (rowN c y)))) (some (.int (nI x)))
      rw [← nI_1 y] at this
      exact this
    | succ j ih =>
      intro x y r m hj hy hr hm hK
      have hx8 : x < 8 := by omega
      have hrl := rowN_lt c y
      have ih' := ih (x + 1) y r m (by omega) hy hr hm hK
      rw [← nI_1 x] at ih'
      refine cl [5, 51] 60 51 _ _ _ _ _ _ ?_
      refine cko (isOb_ck hsp.1) (And.intro (fun (c2 : I k 1 ≤ nI x) => absurd c2 (by rw [hiw]; exact nI_ge (by omega) (by omega))) (fun _ => And.intro (fun (c2 : ((nI (rowN c y)).toUInt32 >>> ((nI x).toUInt32 &&& Int32.toUInt32 31)).toInt32 &&& 1 = 0) => ?_) (fun (c2 : ¬ ((nI (rowN c y)).toUInt32 >>> ((nI x).toUInt32 &&& Int32.toUInt32 31)).toInt32 &&& 1 = 0) => And.intro (show vp_in (nI r) 16 from vp_in_nI hr (by decide)) ?_)))
      · rw [nx_bit (by omega) (by omega)] at c2
        rw [show shx (f r) (rowN c y) (x + 1) = shx (f r) (rowN c y) x by show (if _ then _ else _) = _; rw [if_neg (by rw [c2]; decide)]] at ih'
        exact ih'
      · rw [nx_bit (by omega) (by omega), Bool.not_eq_false] at c2
        have hsx := shx_lt (v := rowN c y) (hf2 r hr) x
        have hsh : f r * 2 ^ (7 - x) < 2 ^ 24 := Nat.lt_of_lt_of_le (Nat.mul_lt_mul_of_lt_of_le (hf2 r hr) (Nat.pow_le_pow_right (by decide) (show 7 - x ≤ 7 by omega)) (Nat.two_pow_pos _)) (by decide)
        have ew : lN (m ||| shx (f r) (rowN c y) x) ||| (I 12 (nI r).toNatClampNeg).toInt64 <<< (((7 : Int32) - nI x).toInt64 &&& 63) = lN (m ||| shx (f r) (rowN c y) (x + 1)) := by
          rw [nI_clamp (by omega), (hf r hr).1, nI_l (by have := hf2 r hr; omega), show (7 : Int32) - nI x = nI (7 - x) from pk_sub (a := 7) (by omega), wb_shl _ (by omega), wb_or (Nat.lt_of_lt_of_le (Nat.or_lt_two_pow hm hsx) (by decide)) (by omega), Nat.or_assoc]
          rw [show shx (f r) (rowN c y) (x + 1) = shx (f r) (rowN c y) x ||| f r * 2 ^ (7 - x) by show (if _ then _ else _) = _; rw [if_pos c2]]
        rw [← ew] at ih'
        exact ih'
  have ly : ∀ j y v6 v7 v8, j + y = h → G 5 [some (.ref 11), some (.ref k), some (.int (zI d)), some (.long (lN (shN f c w d y))), none, some (.int (nI y)), v6, v7, v8] [] a I J Q := by
    intro j
    induction j with
    | zero =>
      intro y v6 v7 v8 hj
      obtain rfl : y = h := by omega
      refine cl [5, 51] 60 5 _ _ _ _ _ _ ?_
      exact cko (isOb_ck hsp.1) (And.intro (fun _ => hR) (fun (c2 : ¬ I k 2 ≤ nI y) => absurd (by rw [hih]; exact nI_le (Nat.le_refl _) (by omega)) c2))
    | succ j ih =>
      intro y v6 v7 v8 hj
      have er : nI y + zI d + 4 = zI ((y : Int) + d + 4) := by rw [zI_nat, zI_add, show (4 : Int32) = zI 4 from rfl, zI_add]
      refine cl [5, 51] 60 5 _ _ _ _ _ _ ?_
      refine cko (isOb_ck hsp.1) (And.intro (fun (c2 : I k 2 ≤ nI y) => absurd c2 (by rw [hih]; exact nI_ge (by omega) (by omega))) (fun _ => And.intro (fun (c2 : nI y + zI d + 4 < 0) => ?_) (fun (c2 : ¬ nI y + zI d + 4 < 0) => And.intro (fun (c3 : nI y + zI d + 4 < nI 16) => ?_) (fun (c3 : ¬ nI y + zI d + 4 < nI 16) => ?_))))
      · rw [er, show (0 : Int32) = zI 0 from rfl, zI_lt (by omega) (by omega) (by omega) (by omega)] at c2
        have := ih (y + 1) (some (.int (nI y + zI d + 4))) v7 v8 (by omega)
        rw [show shN f c w d (y + 1) = shN f c w d y by show (if _ then _ else _) = _; rw [if_neg (by omega)], ← nI_1 y] at this
        exact this
      · rw [er, show (0 : Int32) = zI 0 from rfl, zI_lt (by omega) (by omega) (by omega) (by omega)] at c2
        rw [er, zI_nat, zI_lt (by omega) (by omega) (by omega) (by omega)] at c3
        have en : nI y + zI d + 4 = nI ((y : Int) + d + 4).toNat := by rw [er, zI_nat]; congr 1; omega
        have := lx w 0 y ((y : Int) + d + 4).toNat (shN f c w d y) (by omega) (by omega) (by omega) (shN_lt hf2 y) (fun v7 v8 => ?_)
        · rw [show shN f c w d y ||| shx (f ((y : Int) + d + 4).toNat) (rowN c y) 0 = shN f c w d y from Nat.or_zero _, ← en] at this
          exact vko hsp.1 rfl (Exists.intro (k, c, y) (And.intro rfl (And.intro ⟨hsp, show y < 8 by omega⟩ this)))
        · have := ih (y + 1) (some (.int (nI ((y : Int) + d + 4).toNat))) v7 v8 (by omega)
          rw [show shN f c w d (y + 1) = shN f c w d y ||| shx (f ((y : Int) + d + 4).toNat) (rowN c y) w by show (if _ then _ else _) = _; rw [if_pos (by omega)]] at this
          exact this
      · rw [er, zI_nat, zI_lt (by omega) (by omega) (by omega) (by omega)] at c3
        have := ih (y + 1) (some (.int (nI y + zI d + 4))) v7 v8 (by omega)
        rw [show shN f c w d (y + 1) = shN f c w d y by show (if _ then _ else _) = _; rw [if_neg (by omega)], ← nI_1 y] at this
        exact this
  refine cl [5, 51] 60 0 _ _ _ _ _ _ ?_
  exact ly h 0 none none none (by omega)
theorem c_shifts {l : Launch} : CX l cdX3_shiftsOf e_shifts := by
  refine cm_sf RX3 edX3_shiftsOf [e_row] false kX3_shiftsOf cwX3_shiftsOf okX3_shiftsOf ⟨⟨_, rfl, c_row⟩, trivial⟩ (by decide) rfl (v_sh _ (by decide)) ?_
  intro um zm G Rt ⟨b, k, c, w, h, d, f⟩ a I J Q cl hb hp hR
  cases b with
  | true => exact shifts_b11 cl hp.1 hp.2.1 hp.2.2 (hR _ rfl)
  | false => exact shifts_b8 cl hp.1 hp.2.1 hp.2.2 (hR _ rfl)
