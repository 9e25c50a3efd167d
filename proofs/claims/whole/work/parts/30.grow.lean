/-! Nearness.grow -/
theorem shlN {v i : Nat} (hi : i < 32) (h : v * 2 ^ i < 2 ^ 32) : nI v <<< (nI i &&& 31) = nI (v * 2 ^ i) := pk_shlN _ i (s_l i hi) h
def wdN (v s : Nat) : Nat → Nat
  | 0 => 0
  | n + 1 => wdN v s n ||| (v * 2 ^ (s + n))
/-- a row widened on both sides -/
def wide (v gap : Nat) : Nat := wdN v (4 - gap) (2 * gap + 1)
theorem wdN_lt {v s : Nat} (hv : v < 256) : ∀ n, s + n ≤ 9 → wdN v s n < 2 ^ 17
  | 0, _ => (show 0 < 2 ^ 17 by decide)
  | n + 1, h => Nat.or_lt_two_pow (wdN_lt hv n (by omega)) (Nat.lt_of_lt_of_le (Nat.mul_lt_mul_of_lt_of_le hv (Nat.pow_le_pow_right (by decide) (show s + n ≤ 8 by omega)) (Nat.two_pow_pos _)) (by decide))
theorem rowN_lt (c y : Nat) : rowN c y < 256 := Nat.mod_lt _ (by decide)
/-- what the rows hold when y rows of the shape are done -/
def gst (c gap : Nat) : Nat → Nat → Nat
  | 0, _ => 0
  | y + 1, r => if y + (4 - gap) ≤ r ∧ r < y + 4 + gap + 1 then gst c gap y r ||| wide (rowN c y) gap else gst c gap y r
/-- .. and of the next one the places below i -/
def gsi (c gap y i r : Nat) : Nat := if y + (4 - gap) ≤ r ∧ r < y + i then gst c gap y r ||| wide (rowN c y) gap else gst c gap y r
def grN (c gap r : Nat) : Nat := gst c gap 8 r
theorem gsi_0 (c gap y r : Nat) : gsi c gap y (4 - gap) r = gst c gap y r := by unfold gsi; rw [if_neg (by omega)]
theorem gsi_n (c gap y r : Nat) : gsi c gap y (4 + gap + 1) r = gst c gap (y + 1) r := by
  unfold gsi
  rw [show y + (4 + gap + 1) = y + 4 + gap + 1 by omega]
  rfl
def nearP (b : Bool) : Nat := match b with
  | true => 11
  | false => 8
def nearG (b : Bool) : Nat := match b with
  | true => 12
  | false => 9
abbrev e_gr : Bool × Nat × Nat × Nat → List Value := fun x => [.ref (nearP x.1), .ref x.2.1, .int (nI x.2.2.2)]
theorem v_gr (n : Nat) (h : 3 ≤ n) (x : Bool × Nat × Nat × Nat) : okv (e_gr x) ∧ (lvA (e_gr x)).length ≤ n := ⟨okv_ref (okv_ref (okv_int okv_nil)), h⟩
def grown (g : Nat) (I I' : hI) (c gap : Nat) : Prop := (∀ k', k' ≠ g → I' k' = I k') ∧ ∀ r, r < 16 → I' g r = nI (grN c gap r)
def e_grow : ev := (3, 3, false, 0, 0, sn e_gr (fun x a I J _ => shp a I J x.2.1 x.2.2.1 ∧ x.2.2.2 ≤ 4) (fun x _ I J Q v I' J' Q' => v = none ∧ J' = J ∧ Q' = Q ∧ grown (nearG x.1) I I' x.2.2.1 x.2.2.2))
set_option maxRecDepth 20000 in
theorem grow_b8 {um zm : Nat} {G : hG} {Rt : hR} {k c gap : Nat} {a : hA} {I : hI} {J : hJ} {Q : hQ} (cl : CL tX qX false 60 um zm [e_row] false false kX3_grow G Rt) (hs : shp a I J k c) (hg : gap ≤ 4) (hR : ∀ I', grown 9 I I' c gap → Rt none a I' J Q) : G 0 [some (.ref 8), some (.ref k), some (.int (nI gap)), none, none, none] [] a I J Q := by
  have e4m : (4 : Int32) - nI gap = nI (4 - gap) := pk_sub (a := 4) hg
  have e4p : (4 : Int32) + nI gap = nI (4 + gap) := nI_add 4 gap
  have up_oth : ∀ {I' : hI} {i : Nat} {v : Int32}, (∀ k', k' ≠ 9 → I' k' = I k') → ∀ k', k' ≠ 9 → up2 I' 9 i v k' = I k' := fun h k' hk => by rw [up2_ne hk]; exact h k' hk
  have l4 : ∀ j i y w5 I', j + i = 4 + gap + 1 → y < 8 → (∀ k', k' ≠ 9 → I' k' = I k') → (∀ r, r < 16 → I' 9 r = nI (gsi c gap y i r)) → (∀ I', (∀ k', k' ≠ 9 → I' k' = I k') → (∀ r, r < 16 → I' 9 r = nI (gst c gap (y + 1) r)) → G 26 [some (.ref 8), some (.ref k), some (.int (nI gap)), some (.int (nI (y + 1))), some (.int (nI w5)), some (.int (nI (4 + gap + 1)))] [] a I' J Q) → 4 - gap ≤ i → w5 = wide (rowN c y) gap → G 72 [some (.ref 8), some (.ref k), some (.int (nI gap)), some (.int (nI y)), some (.int (nI w5)), some (.int (nI i))] [] a I' J Q := by
    intro j
    induction j with
    | zero =>
      intro i y w5 I' hi hy ho hr hK hlo hw
      obtain rfl : i = 4 + gap + 1 := by omega
      refine cl [2, 26, 40, 72] 60 72 _ _ _ _ _ _ ?_
      refine And.intro (fun _ => ?_) (fun (c2 : ¬ (4 : Int32) + nI gap < nI (4 + gap + 1)) => absurd (by rw [e4p]; exact nI_lt (by omega) (by omega)) c2)
      have := hK I' ho (fun r h => by rw [← gsi_n]; exact hr r h)
      rw [← nI_1 y] at this
      exact this
    | succ j ih =>
      intro i y w5 I' hi hy ho hr hK hlo hw
      refine cl [2, 26, 40, 72] 60 72 _ _ _ _ _ _ ?_
      have hin : vp_in (nI y + nI i) 16 := by rw [nI_add]; exact vp_in_nI (by omega) (by decide)
      have ecl : (nI y + nI i).toNatClampNeg = y + i := by rw [nI_add]; exact nI_clamp (by omega)
      refine And.intro (fun (c2 : (4 : Int32) + nI gap < nI i) => absurd c2 (by rw [e4p]; exact nI_nlt (by omega) (by omega))) (fun _ => And.intro hin (And.intro hin ?_))
      have hv : I' 9 (nI y + nI i).toNatClampNeg ||| nI w5 = nI (gsi c gap y (i + 1) (y + i)) := by
        rw [ecl, hr (y + i) (by omega), fa_or]
        unfold gsi
        rw [if_neg (by omega), if_pos (by omega), hw]
      have := ih (i + 1) y w5 (up2 I' 9 (nI y + nI i).toNatClampNeg (I' 9 (nI y + nI i).toNatClampNeg ||| nI w5)) (by omega) hy (up_oth ho) (fun r hr16 => ?_) hK (by omega) hw
      · rw [← nI_1 i] at this
        exact this
      · by_cases he : r = y + i
        · subst he
          rw [ecl] at hv
          rw [ecl, up2_at, hv]
        · rw [ecl, up2_nej he, hr r hr16]
          unfold gsi
          by_cases hc2 : y + (4 - gap) ≤ r ∧ r < y + i
          · rw [if_pos hc2, if_pos (by omega)]
          · rw [if_neg hc2, if_neg (by omega)]
  have l3 : ∀ j i y I', j + i = 4 + gap + 1 → y < 8 → (∀ k', k' ≠ 9 → I' k' = I k') → (∀ r, r < 16 → I' 9 r = nI (gst c gap y r)) → (∀ w5 I', (∀ k', k' ≠ 9 → I' k' = I k') → (∀ r, r < 16 → I' 9 r = nI (gst c gap (y + 1) r)) → G 26 [some (.ref 8), some (.ref k), some (.int (nI gap)), some (.int (nI (y + 1))), some (.int (nI w5)), some (.int (nI (4 + gap + 1)))] [] a I' J Q) → 4 - gap ≤ i → G 40 [some (.ref 8), some (.ref k), some (.int (nI gap)), some (.int (nI y)), some (.int (nI (wdN (rowN c y) (4 - gap) (i - (4 - gap))))), some (.int (nI i))] [] a I' J Q := by
    intro j
    induction j with
    | zero =>
      intro i y I' hi hy ho hr hK hlo
      obtain rfl : i = 4 + gap + 1 := by omega
      refine cl [2, 26, 40, 72] 60 40 _ _ _ _ _ _ ?_
      refine And.intro (fun _ => ?_) (fun (c2 : ¬ (4 : Int32) + nI gap < nI (4 + gap + 1)) => absurd (by rw [e4p]; exact nI_lt (by omega) (by omega)) c2)
      have := l4 (2 * gap + 1) (4 - gap) y (wdN (rowN c y) (4 - gap) (4 + gap + 1 - (4 - gap))) I' (by omega) hy ho (fun r h16 => by rw [gsi_0]; exact hr r h16) (fun I2 h1 h2 => hK _ I2 h1 h2) (Nat.le_refl _) (by unfold wide; rw [show 4 + gap + 1 - (4 - gap) = 2 * gap + 1 by omega])
      rw [← e4m] at this
      exact this
    | succ j ih =>
      intro i y I' hi hy ho hr hK hlo
      refine cl [2, 26, 40, 72] 60 40 _ _ _ _ _ _ ?_
      refine And.intro (fun (c2 : (4 : Int32) + nI gap < nI i) => absurd c2 (by rw [e4p]; exact nI_nlt (by omega) (by omega))) (fun _ => vko hs.1 rfl (Exists.intro (k, c, y) (And.intro rfl (And.intro ⟨hs, hy⟩ ?_))))
      have hrl := rowN_lt c y
      have hsh : rowN c y * 2 ^ i < 2 ^ 32 := Nat.lt_of_lt_of_le (Nat.mul_lt_mul_of_lt_of_le hrl (Nat.pow_le_pow_right (by decide) (show i ≤ 8 by omega)) (Nat.two_pow_pos _)) (by decide)
      have := ih (i + 1) y I' (by omega) hy ho hr hK (by omega)
      rw [show i + 1 - (4 - gap) = (i - (4 - gap)) + 1 by omega] at this
      have ew : wdN (rowN c y) (4 - gap) (i - (4 - gap) + 1) = wdN (rowN c y) (4 - gap) (i - (4 - gap)) ||| rowN c y * 2 ^ i := by
        show _ ||| _ = _
        rw [show 4 - gap + (i - (4 - gap)) = i by omega]
      rw [ew, ← fa_or, ← shlN (show i < 32 by omega) hsh, ← nI_1 i] at this
      exact this
  have l2 : ∀ j y v4 v5 I', j + y = 8 → (∀ k', k' ≠ 9 → I' k' = I k') → (∀ r, r < 16 → I' 9 r = nI (gst c gap y r)) → G 26 [some (.ref 8), some (.ref k), some (.int (nI gap)), some (.int (nI y)), v4, v5] [] a I' J Q := by
    intro j
    induction j with
    | zero =>
      intro y v4 v5 I' hy ho hr
      obtain rfl : y = 8 := by omega
      refine cl [2, 26, 40, 72] 60 26 _ _ _ _ _ _ ?_
      exact And.intro (fun _ => hR I' ⟨ho, hr⟩) (fun c => absurd (by decide) c)
    | succ j ih =>
      intro y v4 v5 I' hy ho hr
      refine cl [2, 26, 40, 72] 60 26 _ _ _ _ _ _ ?_
      refine And.intro (fun c => absurd c (nI_ge (a := y) (b := 8) (by omega) (by decide))) (fun _ => ?_)
      have := l3 (2 * gap + 1) (4 - gap) y I' (by omega) (by omega) ho hr (fun w5 I2 h1 h2 => ih (y + 1) _ _ I2 (by omega) h1 h2) (Nat.le_refl _)
      rw [Nat.sub_self, ← e4m] at this
      exact this
  have l1 : ∀ j r I', j + r = 16 → (∀ k', k' ≠ 9 → I' k' = I k') → (∀ r', r' < r → I' 9 r' = 0) → G 2 [some (.ref 8), some (.ref k), some (.int (nI gap)), some (.int (nI r)), none, none] [] a I' J Q := by
    intro j
    induction j with
    | zero =>
      intro r I' hj ho hr
      obtain rfl : r = 16 := by omega
      refine cl [2, 26, 40, 72] 60 2 _ _ _ _ _ _ ?_
      exact And.intro (fun _ => l2 8 0 none none I' rfl ho (fun r h => hr r h)) (fun c => absurd (show nI 16 ≤ nI 16 from nI_le (Nat.le_refl _) (by decide)) c)
    | succ j ih =>
      intro r I' hj ho hr
      refine cl [2, 26, 40, 72] 60 2 _ _ _ _ _ _ ?_
      refine And.intro (fun c => absurd c (nI_ge (a := r) (b := 16) (by omega) (by decide))) (fun _ => And.intro (vp_in_nI (N := 16) (by omega) (by decide)) ?_)
      have := ih (r + 1) (up2 I' 9 (nI r).toNatClampNeg 0) (by omega) (up_oth ho) (fun r' h' => ?_)
      · rw [← nI_1 r] at this
        exact this
      · rw [nI_clamp (by omega)]
        by_cases he : r' = r
        · subst he; rw [up2_at]
        · rw [up2_nej he]; exact hr r' (by omega)
  refine cl [2, 26, 40, 72] 60 0 _ _ _ _ _ _ ?_
  exact l1 16 0 I rfl (fun _ _ => rfl) (fun r h => by omega)
set_option maxRecDepth 20000 in
theorem grow_b11 {um zm : Nat} {G : hG} {Rt : hR} {k c gap : Nat} {a : hA} {I : hI} {J : hJ} {Q : hQ} (cl : CL tX qX false 60 um zm [e_row] false false kX3_grow G Rt) (hs : shp a I J k c) (hg : gap ≤ 4) (hR : ∀ I', grown 12 I I' c gap → Rt none a I' J Q) : G 0 [some (.ref 11), some (.ref k), some (.int (nI gap)), none, none, none] [] a I J Q := by
  have e4m : (4 : Int32) - nI gap = nI (4 - gap) := pk_sub (a := 4) hg
  have e4p : (4 : Int32) + nI gap = nI (4 + gap) := nI_add 4 gap
  have up_oth : ∀ {I' : hI} {i : Nat} {v : Int32}, (∀ k', k' ≠ 12 → I' k' = I k') → ∀ k', k' ≠ 12 → up2 I' 12 i v k' = I k' := fun h k' hk => by rw [up2_ne hk]; exact h k' hk
  have l4 : ∀ j i y w5 I', j + i = 4 + gap + 1 → y < 8 → (∀ k', k' ≠ 12 → I' k' = I k') → (∀ r, r < 16 → I' 12 r = nI (gsi c gap y i r)) → (∀ I', (∀ k', k' ≠ 12 → I' k' = I k') → (∀ r, r < 16 → I' 12 r = nI (gst c gap (y + 1) r)) → G 26 [some (.ref 11), some (.ref k), some (.int (nI gap)), some (.int (nI (y + 1))), some (.int (nI w5)), some (.int (nI (4 + gap + 1)))] [] a I' J Q) → 4 - gap ≤ i → w5 = wide (rowN c y) gap → G 72 [some (.ref 11), some (.ref k), some (.int (nI gap)), some (.int (nI y)), some (.int (nI w5)), some (.int (nI i))] [] a I' J Q := by
    intro j
    induction j with
    | zero =>
      intro i y w5 I' hi hy ho hr hK hlo hw
      obtain rfl : i = 4 + gap + 1 := by omega
      refine cl [2, 26, 40, 72] 60 72 _ _ _ _ _ _ ?_
      refine And.intro (fun _ => ?_) (fun (c2 : ¬ (4 : Int32) + nI gap < nI (4 + gap + 1)) => absurd (by rw [e4p]; exact nI_lt (by omega) (by omega)) c2)
      have := hK I' ho (fun r h => by rw [← gsi_n]; exact hr r h)
      rw [← nI_1 y] at this
      exact this
    | succ j ih =>
      intro i y w5 I' hi hy ho hr hK hlo hw
      refine cl [2, 26, 40, 72] 60 72 _ _ _ _ _ _ ?_
      have hin : vp_in (nI y + nI i) 16 := by rw [nI_add]; exact vp_in_nI (by omega) (by decide)
      have ecl : (nI y + nI i).toNatClampNeg = y + i := by rw [nI_add]; exact nI_clamp (by omega)
      refine And.intro (fun (c2 : (4 : Int32) + nI gap < nI i) => absurd c2 (by rw [e4p]; exact nI_nlt (by omega) (by omega))) (fun _ => And.intro hin (And.intro hin ?_))
      have hv : I' 12 (nI y + nI i).toNatClampNeg ||| nI w5 = nI (gsi c gap y (i + 1) (y + i)) := by
        rw [ecl, hr (y + i) (by omega), fa_or]
        unfold gsi
        rw [if_neg (by omega), if_pos (by omega), hw]
      have := ih (i + 1) y w5 (up2 I' 12 (nI y + nI i).toNatClampNeg (I' 12 (nI y + nI i).toNatClampNeg ||| nI w5)) (by omega) hy (up_oth ho) (fun r hr16 => ?_) hK (by omega) hw
      · rw [← nI_1 i] at this
        exact this
      · by_cases he : r = y + i
        · subst he
          rw [ecl] at hv
          rw [ecl, up2_at, hv]
        · rw [ecl, up2_nej he, hr r hr16]
          unfold gsi
          by_cases hc2 : y + (4 - gap) ≤ r ∧ r < y + i
          · rw [if_pos hc2, if_pos (by omega)]
          · rw [if_neg hc2, if_neg (by omega)]
  have l3 : ∀ j i y I', j + i = 4 + gap + 1 → y < 8 → (∀ k', k' ≠ 12 → I' k' = I k') → (∀ r, r < 16 → I' 12 r = nI (gst c gap y r)) → (∀ w5 I', (∀ k', k' ≠ 12 → I' k' = I k') → (∀ r, r < 16 → I' 12 r = nI (gst c gap (y + 1) r)) → G 26 [some (.ref 11), some (.ref k), some (.int (nI gap)), some (.int (nI (y + 1))), some (.int (nI w5)), some (.int (nI (4 + gap + 1)))] [] a I' J Q) → 4 - gap ≤ i → G 40 [some (.ref 11), some (.ref k), some (.int (nI gap)), some (.int (nI y)), some (.int (nI (wdN (rowN c y) (4 - gap) (i - (4 - gap))))), some (.int (nI i))] [] a I' J Q := by
    intro j
    induction j with
    | zero =>
      intro i y I' hi hy ho hr hK hlo
      obtain rfl : i = 4 + gap + 1 := by omega
      refine cl [2, 26, 40, 72] 60 40 _ _ _ _ _ _ ?_
      refine And.intro (fun _ => ?_) (fun (c2 : ¬ (4 : Int32) + nI gap < nI (4 + gap + 1)) => absurd (by rw [e4p]; exact nI_lt (by omega) (by omega)) c2)
      have := l4 (2 * gap + 1) (4 - gap) y (wdN (rowN c y) (4 - gap) (4 + gap + 1 - (4 - gap))) I' (by omega) hy ho (fun r h16 => by rw [gsi_0]; exact hr r h16) (fun I2 h1 h2 => hK _ I2 h1 h2) (Nat.le_refl _) (by unfold wide; rw [show 4 + gap + 1 - (4 - gap) = 2 * gap + 1 by omega])
      rw [← e4m] at this
      exact this
    | succ j ih =>
      intro i y I' hi hy ho hr hK hlo
      refine cl [2, 26, 40, 72] 60 40 _ _ _ _ _ _ ?_
      refine And.intro (fun (c2 : (4 : Int32) + nI gap < nI i) => absurd c2 (by rw [e4p]; exact nI_nlt (by omega) (by omega))) (fun _ => vko hs.1 rfl (Exists.intro (k, c, y) (And.intro rfl (And.intro ⟨hs, hy⟩ ?_))))
      have hrl := rowN_lt c y
      have hsh : rowN c y * 2 ^ i < 2 ^ 32 := Nat.lt_of_lt_of_le (Nat.mul_lt_mul_of_lt_of_le hrl (Nat.pow_le_pow_right (by decide) (show i ≤ 8 by omega)) (Nat.two_pow_pos _)) (by decide)
      have := ih (i + 1) y I' (by omega) hy ho hr hK (by omega)
      rw [show i + 1 - (4 - gap) = (i - (4 - gap)) + 1 by omega] at this
      have ew : wdN (rowN c y) (4 - gap) (i - (4 - gap) + 1) = wdN (rowN c y) (4 - gap) (i - (4 - gap)) ||| rowN c y * 2 ^ i := by
        show _ ||| _ = _
        rw [show 4 - gap + (i - (4 - gap)) = i by omega]
      rw [ew, ← fa_or, ← shlN (show i < 32 by omega) hsh, ← nI_1 i] at this
      exact this
  have l2 : ∀ j y v4 v5 I', j + y = 8 → (∀ k', k' ≠ 12 → I' k' = I k') → (∀ r, r < 16 → I' 12 r = nI (gst c gap y r)) → G 26 [some (.ref 11), some (.ref k), some (.int (nI gap)), some (.int (nI y)), v4, v5] [] a I' J Q := by
    intro j
    induction j with
    | zero =>
      intro y v4 v5 I' hy ho hr
      obtain rfl : y = 8 := by omega
      refine cl [2, 26, 40, 72] 60 26 _ _ _ _ _ _ ?_
      exact And.intro (fun _ => hR I' ⟨ho, hr⟩) (fun c => absurd (by decide) c)
    | succ j ih =>
      intro y v4 v5 I' hy ho hr
      refine cl [2, 26, 40, 72] 60 26 _ _ _ _ _ _ ?_
      refine And.intro (fun c => absurd c (nI_ge (a := y) (b := 8) (by omega) (by decide))) (fun _ => ?_)
      have := l3 (2 * gap + 1) (4 - gap) y I' (by omega) (by omega) ho hr (fun w5 I2 h1 h2 => ih (y + 1) _ _ I2 (by omega) h1 h2) (Nat.le_refl _)
      rw [Nat.sub_self, ← e4m] at this
      exact this
  have l1 : ∀ j r I', j + r = 16 → (∀ k', k' ≠ 12 → I' k' = I k') → (∀ r', r' < r → I' 12 r' = 0) → G 2 [some (.ref 11), some (.ref k), some (.int (nI gap)), some (.int (nI r)), none, none] [] a I' J Q := by
    intro j
    induction j with
    | zero =>
      intro r I' hj ho hr
      obtain rfl : r = 16 := by omega
      refine cl [2, 26, 40, 72] 60 2 _ _ _ _ _ _ ?_
      exact And.intro (fun _ => l2 8 0 none none I' rfl ho (fun r h => hr r h)) (fun c => absurd (show nI 16 ≤ nI 16 from nI_le (Nat.le_refl _) (by decide)) c)
    | succ j ih =>
      intro r I' hj ho hr
      refine cl [2, 26, 40, 72] 60 2 _ _ _ _ _ _ ?_
      refine And.intro (fun c => absurd c (nI_ge (a := r) (b := 16) (by omega) (by decide))) (fun _ => And.intro (vp_in_nI (N := 16) (by omega) (by decide)) ?_)
      have := ih (r + 1) (up2 I' 12 (nI r).toNatClampNeg 0) (by omega) (up_oth ho) (fun r' h' => ?_)
      · rw [← nI_1 r] at this
        exact this
      · rw [nI_clamp (by omega)]
        by_cases he : r' = r
        · subst he; rw [up2_at]
        · rw [up2_nej he]; exact hr r' (by omega)
  refine cl [2, 26, 40, 72] 60 0 _ _ _ _ _ _ ?_
  exact l1 16 0 I rfl (fun _ _ => rfl) (fun r h => by omega)
theorem c_grow {l : Launch} : CX l cdX3_grow e_grow := by
  refine cm_sn RX3 edX3_grow [e_row] false kX3_grow cwX3_grow okX3_grow ⟨⟨_, rfl, c_row⟩, trivial⟩ (by decide) rfl (v_gr _ (by decide)) ?_
  intro um zm G Rt ⟨b, k, c, gap⟩ a I J Q cl hb hp hR
  cases b with
  | true => exact grow_b11 cl hp.1 hp.2 (fun I' h => hR _ _ _ _ ⟨rfl, rfl, rfl, h⟩)
  | false => exact grow_b8 cl hp.1 hp.2 (fun I' h => hR _ _ _ _ ⟨rfl, rfl, rfl, h⟩)
