/-! Sheet.cellsFrom -/
def b8 (x : Int32) : Nat := x.toBitVec.toNat % 256
theorem b8_and (x : Int32) : x &&& 255 = nI (b8 x) := pk_and x 8 (by decide)
theorem b8_lt (x : Int32) : b8 x < 256 := Nat.mod_lt _ (by decide)
/-- eight rows, a byte each, from the last on -/
def cfN (f : Nat → Nat) : Nat → Nat
  | 0 => 0
  | j + 1 => cfN f j * 2 ^ 8 ||| f (7 - j)
theorem cfN_lt {f : Nat → Nat} (hf : ∀ y, f y < 256) : ∀ j, cfN f j < 2 ^ (8 * j)
  | 0 => (show 0 < 1 by decide)
  | j + 1 => by
    have h1 := cfN_lt hf j
    have h2 := hf (7 - j)
    have e1 : 2 ^ (8 * (j + 1)) = 2 ^ (8 * j) * 2 ^ 8 := by rw [← Nat.pow_add, show 8 * (j + 1) = 8 * j + 8 by omega]
    refine Nat.or_lt_two_pow ?_ (Nat.lt_of_lt_of_le h2 (show 2 ^ 8 ≤ 2 ^ (8 * (j + 1)) from Nat.pow_le_pow_right (by decide) (by omega)))
    rw [e1]
    exact Nat.mul_lt_mul_of_lt_of_le h1 (Nat.le_refl _) (by decide)
abbrev e_cf : Nat × Nat → List Value := fun x => [.ref (shK x.1), .int (nI x.2)]
theorem v_cf (n : Nat) (h : 2 ≤ n) (x : Nat × Nat) : okv (e_cf x) ∧ (lvA (e_cf x)).length ≤ n := ⟨okv_ref (okv_int okv_nil), h⟩
def e_cells : ev := (2, 8, false, 0, 0, sf e_cf (fun x _ _ _ _ => x.1 < 4 ∧ x.2 ≤ 56) (fun x _ I _ _ => some (.long (lN (cfN (fun y => b8 (I (shK x.1 + 1) (x.2 + y))) 8)))))
set_option maxRecDepth 20000 in
theorem cells_b23 {um zm : Nat} {G : hG} {Rt : hR} {i : Nat} {a : hA} {I : hI} {J : hJ} {Q : hQ} (cl : CL tX qX false 60 um zm [] false false kX8_cellsFrom G Rt) (hi : i ≤ 56) (hR : Rt (some (.long (lN (cfN (fun y => b8 (I 24 (i + y))) 8)))) a I J Q) : G 0 [some (.ref 23), some (.int (nI i)), none, none, none] [] a I J Q := by
  have loop : ∀ (m j : Nat), m + j = 8 → ∀ yv, yv = zI (7 - (j : Int)) → G 6 [some (.ref 23), some (.int (nI i)), some (.long (lN (cfN (fun y => b8 (I 24 (i + y))) j))), none, some (.int yv)] [] a I J Q := by
    intro m
    induction m with
    | zero =>
      intro j hj yv hy
      obtain rfl : j = 8 := by omega
      refine cl [6] 60 6 _ _ _ _ _ _ ?_
      exact And.intro (fun _ => hR) (fun (c : ¬ yv < 0) => absurd (by rw [hy]; decide) c)
    | succ m ih =>
      intro j hj yv hy
      have hyn : yv = nI (7 - j) := by rw [hy, zI_nat]; congr 1; omega
      have hlt := cfN_lt (f := fun y => b8 (I 24 (i + y))) (fun y => b8_lt _) j
      have hlt2 : cfN (fun y => b8 (I 24 (i + y))) j * 2 ^ 8 < 2 ^ 64 := Nat.lt_of_lt_of_le (Nat.mul_lt_mul_of_lt_of_le hlt (Nat.le_refl (2 ^ 8)) (by decide)) (by rw [← Nat.pow_add]; exact Nat.pow_le_pow_right (by decide) (by omega))
      have hb := b8_lt (I 24 (i + (7 - j)))
      refine cl [6] 60 6 _ _ _ _ _ _ ?_
      refine And.intro (fun (c : yv < 0) => absurd c (by rw [hyn]; exact nI_pos (by omega))) (fun _ => And.intro (show vp_in (nI i + yv) 64 by rw [hyn, nI_add]; exact vp_in_nI (by omega) (by decide)) ?_)
      have ew : (lN (cfN (fun y => b8 (I 24 (i + y))) j) <<< ((8 : Int32).toInt64 &&& 63)) ||| (I 24 (nI i + yv).toNatClampNeg &&& 255).toInt64 = lN (cfN (fun y => b8 (I 24 (i + y))) (j + 1)) := by
        rw [hyn, nI_add, nI_clamp (by omega), b8_and, nI_l (by omega), show (8 : Int32) = nI 8 from rfl, wb_shl _ (by decide), wb_or hlt2 (by omega)]
        rfl
      have := ih (j + 1) (by omega) (yv + (-1)) (by rw [hy, show (-1 : Int32) = zI (-1) from rfl, zI_add]; congr 1; omega)
      rw [← ew] at this
      exact this
  refine cl [6] 60 0 _ _ _ _ _ _ ?_
  exact loop 8 0 rfl 7 rfl
set_option maxRecDepth 20000 in
theorem cells_b25 {um zm : Nat} {G : hG} {Rt : hR} {i : Nat} {a : hA} {I : hI} {J : hJ} {Q : hQ} (cl : CL tX qX false 60 um zm [] false false kX8_cellsFrom G Rt) (hi : i ≤ 56) (hR : Rt (some (.long (lN (cfN (fun y => b8 (I 26 (i + y))) 8)))) a I J Q) : G 0 [some (.ref 25), some (.int (nI i)), none, none, none] [] a I J Q := by
  have loop : ∀ (m j : Nat), m + j = 8 → ∀ yv, yv = zI (7 - (j : Int)) → G 6 [some (.ref 25), some (.int (nI i)), some (.long (lN (cfN (fun y => b8 (I 26 (i + y))) j))), none, some (.int yv)] [] a I J Q := by
    intro m
    induction m with
    | zero =>
      intro j hj yv hy
      obtain rfl : j = 8 := by omega
      refine cl [6] 60 6 _ _ _ _ _ _ ?_
      exact And.intro (fun _ => hR) (fun (c : ¬ yv < 0) => absurd (by rw [hy]; decide) c)
    | succ m ih =>
      intro j hj yv hy
      have hyn : yv = nI (7 - j) := by rw [hy, zI_nat]; congr 1; omega
      have hlt := cfN_lt (f := fun y => b8 (I 26 (i + y))) (fun y => b8_lt _) j
      have hlt2 : cfN (fun y => b8 (I 26 (i + y))) j * 2 ^ 8 < 2 ^ 64 := Nat.lt_of_lt_of_le (Nat.mul_lt_mul_of_lt_of_le hlt (Nat.le_refl (2 ^ 8)) (by decide)) (by rw [← Nat.pow_add]; exact Nat.pow_le_pow_right (by decide) (by omega))
      have hb := b8_lt (I 26 (i + (7 - j)))
      refine cl [6] 60 6 _ _ _ _ _ _ ?_
      refine And.intro (fun (c : yv < 0) => absurd c (by rw [hyn]; exact nI_pos (by omega))) (fun _ => And.intro (show vp_in (nI i + yv) 64 by rw [hyn, nI_add]; exact vp_in_nI (by omega) (by decide)) ?_)
      have ew : (lN (cfN (fun y => b8 (I 26 (i + y))) j) <<< ((8 : Int32).toInt64 &&& 63)) ||| (I 26 (nI i + yv).toNatClampNeg &&& 255).toInt64 = lN (cfN (fun y => b8 (I 26 (i + y))) (j + 1)) := by
        rw [hyn, nI_add, nI_clamp (by omega), b8_and, nI_l (by omega), show (8 : Int32) = nI 8 from rfl, wb_shl _ (by decide), wb_or hlt2 (by omega)]
        rfl
      have := ih (j + 1) (by omega) (yv + (-1)) (by rw [hy, show (-1 : Int32) = zI (-1) from rfl, zI_add]; congr 1; omega)
      rw [← ew] at this
      exact this
  refine cl [6] 60 0 _ _ _ _ _ _ ?_
  exact loop 8 0 rfl 7 rfl
set_option maxRecDepth 20000 in
theorem cells_b27 {um zm : Nat} {G : hG} {Rt : hR} {i : Nat} {a : hA} {I : hI} {J : hJ} {Q : hQ} (cl : CL tX qX false 60 um zm [] false false kX8_cellsFrom G Rt) (hi : i ≤ 56) (hR : Rt (some (.long (lN (cfN (fun y => b8 (I 28 (i + y))) 8)))) a I J Q) : G 0 [some (.ref 27), some (.int (nI i)), none, none, none] [] a I J Q := by
  have loop : ∀ (m j : Nat), m + j = 8 → ∀ yv, yv = zI (7 - (j : Int)) → G 6 [some (.ref 27), some (.int (nI i)), some (.long (lN (cfN (fun y => b8 (I 28 (i + y))) j))), none, some (.int yv)] [] a I J Q := by
    intro m
    induction m with
    | zero =>
      intro j hj yv hy
      obtain rfl : j = 8 := by omega
      refine cl [6] 60 6 _ _ _ _ _ _ ?_
      exact And.intro (fun _ => hR) (fun (c : ¬ yv < 0) => absurd (by rw [hy]; decide) c)
    | succ m ih =>
      intro j hj yv hy
      have hyn : yv = nI (7 - j) := by rw [hy, zI_nat]; congr 1; omega
      have hlt := cfN_lt (f := fun y => b8 (I 28 (i + y))) (fun y => b8_lt _) j
      have hlt2 : cfN (fun y => b8 (I 28 (i + y))) j * 2 ^ 8 < 2 ^ 64 := Nat.lt_of_lt_of_le (Nat.mul_lt_mul_of_lt_of_le hlt (Nat.le_refl (2 ^ 8)) (by decide)) (by rw [← Nat.pow_add]; exact Nat.pow_le_pow_right (by decide) (by omega))
      have hb := b8_lt (I 28 (i + (7 - j)))
      refine cl [6] 60 6 _ _ _ _ _ _ ?_
      refine And.intro (fun (c : yv < 0) => absurd c (by rw [hyn]; exact nI_pos (by omega))) (fun _ => And.intro (show vp_in (nI i + yv) 64 by rw [hyn, nI_add]; exact vp_in_nI (by omega) (by decide)) ?_)
      have ew : (lN (cfN (fun y => b8 (I 28 (i + y))) j) <<< ((8 : Int32).toInt64 &&& 63)) ||| (I 28 (nI i + yv).toNatClampNeg &&& 255).toInt64 = lN (cfN (fun y => b8 (I 28 (i + y))) (j + 1)) := by
        rw [hyn, nI_add, nI_clamp (by omega), b8_and, nI_l (by omega), show (8 : Int32) = nI 8 from rfl, wb_shl _ (by decide), wb_or hlt2 (by omega)]
        rfl
      have := ih (j + 1) (by omega) (yv + (-1)) (by rw [hy, show (-1 : Int32) = zI (-1) from rfl, zI_add]; congr 1; omega)
      rw [← ew] at this
      exact this
  refine cl [6] 60 0 _ _ _ _ _ _ ?_
  exact loop 8 0 rfl 7 rfl
set_option maxRecDepth 20000 in
theorem cells_b29 {um zm : Nat} {G : hG} {Rt : hR} {i : Nat} {a : hA} {I : hI} {J : hJ} {Q : hQ} (cl : CL tX qX false 60 um zm [] false false kX8_cellsFrom G Rt) (hi : i ≤ 56) (hR : Rt (some (.long (lN (cfN (fun y => b8 (I 30 (i + y))) 8)))) a I J Q) : G 0 [some (.ref 29), some (.int (nI i)), none, none, none] [] a I J Q := by
  have loop : ∀ (m j : Nat), m + j = 8 → ∀ yv, yv = zI (7 - (j : Int)) → G 6 [some (.ref 29), some (.int (nI i)), some (.long (lN (cfN (fun y => b8 (I 30 (i + y))) j))), none, some (.int yv)] [] a I J Q := by
    intro m
    induction m with
    | zero =>
      intro j hj yv hy
      obtain rfl : j = 8 := by omega
      refine cl [6] 60 6 _ _ _ _ _ _ ?_
      exact And.intro (fun _ => hR) (fun (c : ¬ yv < 0) => absurd (by rw [hy]; decide) c)
    | succ m ih =>
      intro j hj yv hy
      have hyn : yv = nI (7 - j) := by rw [hy, zI_nat]; congr 1; omega
      have hlt := cfN_lt (f := fun y => b8 (I 30 (i + y))) (fun y => b8_lt _) j
      have hlt2 : cfN (fun y => b8 (I 30 (i + y))) j * 2 ^ 8 < 2 ^ 64 := Nat.lt_of_lt_of_le (Nat.mul_lt_mul_of_lt_of_le hlt (Nat.le_refl (2 ^ 8)) (by decide)) (by rw [← Nat.pow_add]; exact Nat.pow_le_pow_right (by decide) (by omega))
      have hb := b8_lt (I 30 (i + (7 - j)))
      refine cl [6] 60 6 _ _ _ _ _ _ ?_
      refine And.intro (fun (c : yv < 0) => absurd c (by rw [hyn]; exact nI_pos (by omega))) (fun _ => And.intro (show vp_in (nI i + yv) 64 by rw [hyn, nI_add]; exact vp_in_nI (by omega) (by decide)) ?_)
      have ew : (lN (cfN (fun y => b8 (I 30 (i + y))) j) <<< ((8 : Int32).toInt64 &&& 63)) ||| (I 30 (nI i + yv).toNatClampNeg &&& 255).toInt64 = lN (cfN (fun y => b8 (I 30 (i + y))) (j + 1)) := by
        rw [hyn, nI_add, nI_clamp (by omega), b8_and, nI_l (by omega), show (8 : Int32) = nI 8 from rfl, wb_shl _ (by decide), wb_or hlt2 (by omega)]
        rfl
      have := ih (j + 1) (by omega) (yv + (-1)) (by rw [hy, show (-1 : Int32) = zI (-1) from rfl, zI_add]; congr 1; omega)
      rw [← ew] at this
      exact this
  refine cl [6] 60 0 _ _ _ _ _ _ ?_
  exact loop 8 0 rfl 7 rfl
theorem c_cells {l : Launch} : CX l cdX8_cellsFrom e_cells := by
  refine cm_sf RX8 edX8_cellsFrom [] false kX8_cellsFrom cwX8_cellsFrom okX8_cellsFrom trivial (by decide) rfl (v_cf _ (by decide)) ?_
  intro um zm G Rt ⟨b, i⟩ a I J Q cl hb hp hR
  have hb4 : b < 4 := hp.1
  rcases (show b = 0 ∨ b = 1 ∨ b = 2 ∨ b = 3 by omega) with rfl | rfl | rfl | rfl
  · exact cells_b23 cl hp.2 (hR _ rfl)
  · exact cells_b25 cl hp.2 (hR _ rfl)
  · exact cells_b27 cl hp.2 (hR _ rfl)
  · exact cells_b29 cl hp.2 (hR _ rfl)
