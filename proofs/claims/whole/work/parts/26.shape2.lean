/-! SHAPES of the class, on -/
def wl : Nat → Nat → Nat
  | 0, _ => 1
  | x + 1, n => if n &&& (COL * 2 ^ (x + 1)) = 0 then wl x n else x + 2
def hl8 : Nat → Nat → Nat
  | 0, _ => 1
  | y + 1, n => if n &&& (255 * 2 ^ (8 * (y + 1))) = 0 then hl8 y n else y + 2
def widthN (n : Nat) : Nat := wl 7 n
def heightN (n : Nat) : Nat := hl8 7 n
def e_width : ev := (1, 99, false, 0, 0, sf e1l p64 (fun n _ _ _ _ => some (.int (nI (widthN n)))))
def e_height : ev := (1, 99, false, 0, 0, sf e1l p64 (fun n _ _ _ _ => some (.int (nI (heightN n)))))
set_option maxRecDepth 20000 in
theorem c_width {l : Launch} {tF : hTF} {qF : hQF} {base : Nat} : CM l tF qF base cdX7_widthOf e_width := by
  refine cm_sf RX7 edX7_widthOf [] false kX7_widthOf cwX7_widthOf okX7_widthOf trivial (by decide) rfl (v1l _ (by decide)) ?_
  intro um zm G Rt n a I J Q cl hb hp hR
  have loop : ∀ x, x ≤ 7 → wl x n = widthN n → G 3 [some (.long (lN n)), none, some (.int (nI x))] [] a I J Q := by
    intro x
    induction x with
    | zero =>
      intro _ he
      refine cl [3] 50 3 _ _ _ _ _ _ ?_
      exact And.intro (fun _ => hR _ (by rw [← he]; rfl)) (fun c => absurd (by decide) c)
    | succ x ih =>
      intro hx he
      refine cl [3] 50 3 _ _ _ _ _ _ ?_
      have hc : COL * 2 ^ (x + 1) < 2 ^ 64 := Nat.lt_of_le_of_lt (Nat.mul_le_mul_left COL (Nat.pow_le_pow_right (by decide) hx)) (by decide)
      have ea : lN n &&& (72340172838076673 <<< ((nI (x + 1)).toInt64 &&& 63)) = lN (n &&& (COL * 2 ^ (x + 1))) := by
        rw [show (72340172838076673 : Int64) = lN COL from rfl, wb_shl COL (by omega), wb_and hp hc]
      have hlt : n &&& (COL * 2 ^ (x + 1)) < 2 ^ 64 := Nat.lt_of_le_of_lt Nat.and_le_left hp
      replace he : (if n &&& (COL * 2 ^ (x + 1)) = 0 then wl x n else x + 2) = widthN n := he
      refine And.intro (fun c => absurd c (nI_nle (by omega) (by omega))) (fun _ => And.intro (fun (c2 : lg_cmp (lN n &&& (72340172838076673 <<< ((nI (x + 1)).toInt64 &&& 63))) 0 = 0) => ?_) (fun (c2 : ¬ lg_cmp (lN n &&& (72340172838076673 <<< ((nI (x + 1)).toInt64 &&& 63))) 0 = 0) => hR _ ?_))
      · rw [ea, lgN hlt] at c2
        rw [if_pos c2] at he
        have := ih (by omega) he
        rw [← pk_m1] at this
        exact this
      · rw [ea, lgN hlt] at c2
        rw [if_neg c2] at he
        rw [← he, ← nI_1 (x + 1)]
  refine cl [3] 50 0 _ _ _ _ _ _ ?_
  exact loop 7 (by decide) rfl
set_option maxRecDepth 20000 in
theorem c_height {l : Launch} {tF : hTF} {qF : hQF} {base : Nat} : CM l tF qF base cdX7_heightOf e_height := by
  refine cm_sf RX7 edX7_heightOf [] false kX7_heightOf cwX7_heightOf okX7_heightOf trivial (by decide) rfl (v1l _ (by decide)) ?_
  intro um zm G Rt n a I J Q cl hb hp hR
  have loop : ∀ x, x ≤ 7 → hl8 x n = heightN n → G 3 [some (.long (lN n)), none, some (.int (nI x))] [] a I J Q := by
    intro x
    induction x with
    | zero =>
      intro _ he
      refine cl [3] 50 3 _ _ _ _ _ _ ?_
      exact And.intro (fun _ => hR _ (by rw [← he]; rfl)) (fun c => absurd (by decide) c)
    | succ x ih =>
      intro hx he
      refine cl [3] 50 3 _ _ _ _ _ _ ?_
      have hc : 255 * 2 ^ (8 * (x + 1)) < 2 ^ 64 := Nat.lt_of_le_of_lt (Nat.mul_le_mul_left 255 (Nat.pow_le_pow_right (by decide) (Nat.mul_le_mul_left 8 hx))) (by decide)
      have ea : lN n &&& ((255 : Int64) <<< ((8 * nI (x + 1)).toInt64 &&& 63)) = lN (n &&& (255 * 2 ^ (8 * (x + 1)))) := by
        rw [show (255 : Int64) = lN 255 from rfl, show (8 : Int32) = nI 8 from rfl, pk_mul, wb_shl 255 (by omega), wb_and hp hc]
      have hlt : n &&& (255 * 2 ^ (8 * (x + 1))) < 2 ^ 64 := Nat.lt_of_le_of_lt Nat.and_le_left hp
      replace he : (if n &&& (255 * 2 ^ (8 * (x + 1))) = 0 then hl8 x n else x + 2) = heightN n := he
      refine And.intro (fun c => absurd c (nI_nle (by omega) (by omega))) (fun _ => And.intro (fun (c2 : lg_cmp (lN n &&& ((255 : Int64) <<< ((8 * nI (x + 1)).toInt64 &&& 63))) 0 = 0) => ?_) (fun (c2 : ¬ lg_cmp (lN n &&& ((255 : Int64) <<< ((8 * nI (x + 1)).toInt64 &&& 63))) 0 = 0) => hR _ ?_))
      · rw [ea, lgN hlt] at c2
        rw [if_pos c2] at he
        have := ih (by omega) he
        rw [← pk_m1] at this
        exact this
      · rw [ea, lgN hlt] at c2
        rw [if_neg c2] at he
        rw [← he, ← nI_1 (x + 1)]
  refine cl [3] 50 0 _ _ _ _ _ _ ?_
  exact loop 7 (by decide) rfl
abbrev e2n : Nat × Nat → List Value := fun x => [.int (nI x.1), .int (nI x.2)]
theorem v2n (n : Nat) (h : 2 ≤ n) (x : Nat × Nat) : okv (e2n x) ∧ (lvA (e2n x)).length ≤ n := ⟨okv_int (okv_int okv_nil), h⟩
def e_cellAt : ev := (2, 99, false, 0, 0, sf e2n (fun x _ _ _ _ => 8 * x.2 + x.1 < 64) (fun x _ _ _ _ => some (.long (lN (2 ^ (8 * x.2 + x.1))))))
set_option maxRecDepth 20000 in
theorem c_cellAt {l : Launch} {tF : hTF} {qF : hQF} {base : Nat} : CM l tF qF base cdX7_cellAt e_cellAt := by
  refine cm_sf RX7 edX7_cellAt [] false kX7_cellAt cwX7_cellAt okX7_cellAt trivial (by decide) rfl (v2n _ (by decide)) ?_
  intro um zm G Rt ⟨x, y⟩ a I J Q cl hb hp hR
  refine cl [] 50 0 _ _ _ _ _ _ ?_
  refine hR (some (.long ((1 : Int64) <<< ((8 * nI y + nI x).toInt64 &&& 63)))) ?_
  have hp' : 8 * y + x < 64 := hp
  rw [show (8 : Int32) = nI 8 from rfl, pk_mul, nI_add, show (1 : Int64) = lN 1 from rfl, wb_shl 1 hp', Nat.one_mul]
/-- a shape of the class: its cells -/
def shp (a : hA) (I : hI) (J : hJ) (k c : Nat) : Prop := isOb a k 7 ∧ J k 0 = lN c ∧ c < 2 ^ 64
def rowN (c y : Nat) : Nat := c / 2 ^ (8 * y) % 256
abbrev e_ks : Nat × Nat × Nat → List Value := fun x => [.ref x.1, .int (nI x.2.2)]
theorem v_ks (n : Nat) (h : 2 ≤ n) (x : Nat × Nat × Nat) : okv (e_ks x) ∧ (lvA (e_ks x)).length ≤ n := ⟨okv_ref (okv_int okv_nil), h⟩
def e_row : ev := (2, 7, false, 0, 0, sf e_ks (fun x a I J _ => shp a I J x.1 x.2.1 ∧ x.2.2 < 8) (fun x _ _ _ _ => some (.int (nI (rowN x.2.1 x.2.2)))))
theorem row_long {c y : Nat} (hc : c < 2 ^ 64) (hy : y < 8) : (((lN c).toUInt64 >>> ((8 * nI y).toInt64.toUInt64 &&& Int64.toUInt64 63)).toInt64 &&& 255).toInt32 = nI (rowN c y) := by
  rw [show (8 : Int32) = nI 8 from rfl, pk_mul, wb_shr hc (by omega), show (255 : Int64) = lN (2 ^ 8 - 1) from rfl, wb_mask (Nat.lt_of_le_of_lt (Nat.div_le_self _ _) hc) (by decide), lN_i]
  rfl
set_option maxRecDepth 20000 in
theorem c_row {l : Launch} : CX l cdX7_row e_row := by
  refine cm_sf RX7 edX7_row [] false kX7_row cwX7_row okX7_row trivial (by decide) rfl (v_ks _ (by decide)) ?_
  intro um zm G Rt ⟨k, c, y⟩ a I J Q cl hb hp hR
  obtain ⟨⟨ho, hj, hc⟩, hy⟩ := hp
  refine cl [] 50 0 _ _ _ _ _ _ ?_
  refine cko (isOb_ck ho) ?_
  refine hR (some (.int (((J k 0).toUInt64 >>> ((8 * nI y).toInt64.toUInt64 &&& Int64.toUInt64 63)).toInt64 &&& 255).toInt32)) ?_
  have hj' : J k 0 = lN c := hj
  rw [hj', row_long hc hy]
