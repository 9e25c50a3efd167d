/-! Coil.answer -/
abbrev x_an : Type := Nat × Nat × Nat × Nat × Nat × Nat
abbrev e_an : x_an → List Value := fun x => [.ref 21, .int (nI x.1), .int (nI x.2.1)]
theorem v_an (n : Nat) (h : 3 ≤ n) (x : x_an) : okv (e_an x) ∧ (lvA (e_an x)).length ≤ n := ⟨okv_ref (okv_int (okv_int okv_nil)), h⟩
def anV (width what filled n0 n1 n2 : Nat) : Nat := if what = 0 then width - filled else if what = 1 then n0 + n1 + n2 else if what = 2 then n0 else if what = 3 then n1 else n2
def e_answer : ev := (3, 0, false, 0, 0, sf e_an (fun x _ _ J _ => x.1 ≤ 2000 ∧ x.2.1 ≤ 4 ∧ x.2.2.1 ≤ x.1 ∧ J 22 x.2.2.1 = lN (prN x.2.2.2.1 x.2.2.2.2.1 x.2.2.2.2.2) ∧ (x.2.2.2.1 ≤ 2000 ∧ x.2.2.2.2.1 ≤ 2000 ∧ x.2.2.2.2.2 ≤ 2000) ∧ ∀ j, x.2.2.1 < j → j ≤ x.1 → J 22 j = -1) (fun x _ _ _ _ => some (.int (nI (anV x.1 x.2.1 x.2.2.1 x.2.2.2.1 x.2.2.2.2.1 x.2.2.2.2.2)))))
set_option maxRecDepth 20000 in
theorem c_answer {l : Launch} : CX l cdX0_answer e_answer := by
  refine cm_sf RX0 edX0_answer [] false kX0_answer cwX0_answer okX0_answer trivial (by decide) rfl (v_an _ (by decide)) ?_
  intro um zm G Rt ⟨width, what, filled, n0, n1, n2⟩ a I J Q cl hb hp hR
  obtain ⟨hw, hwt, hf, hJ, ⟨hn0, hn1, hn2⟩, hneg⟩ := hp
  have hw : width ≤ 2000 := hw
  have hwt : what ≤ 4 := hwt
  have hf : filled ≤ width := hf
  have hJ : J 22 filled = lN (prN n0 n1 n2) := hJ
  have hn0 : n0 ≤ 2000 := hn0
  have hn1 : n1 ≤ 2000 := hn1
  have hn2 : n2 ≤ 2000 := hn2
  have hneg : ∀ j, filled < j → j ≤ width → J 22 j = -1 := hneg
  have fin : ∀ v4 v6 v8 v9, G 23 [some (.ref 21), some (.int (nI width)), some (.int (nI what)), some (.int (nI filled)), v4, none, v6, none, v8, v9] [] a I J Q := by
    intro v4 v6 v8 v9
    have ecl : (nI filled).toNatClampNeg = filled := nI_clamp (by omega)
    have hin : vp_in (nI filled) 2001 := vp_in_nI (by omega) (by decide)
    have eS : (J 22 (nI filled).toNatClampNeg + 4194304 - 1) >>> ((22 : Int32).toInt64 &&& 63) = lN (n0 + n1 + n2) := by
      rw [ecl, hJ, show (4194304 : Int64) = lN 4194304 from rfl, lN_add, show (1 : Int64) = lN 1 from rfl, lN_sub (by omega), pf_shr (d := 22) (by decide) (by unfold prN; omega)]
      exact congrArg lN (by unfold prN; omega)
    have eF : (J 22 (nI filled).toNatClampNeg + 4194304 - 1) >>> ((22 : Int32).toInt64 &&& 63) * 4194304 - J 22 (nI filled).toNatClampNeg = lN (n0 * 2048 + n1) := by
      rw [eS, ecl, hJ, show (4194304 : Int64) = lN 4194304 from rfl, lN_mul, lN_sub (by unfold prN; omega)]
      exact congrArg lN (by unfold prN; omega)
    have e1 : (((J 22 (nI filled).toNatClampNeg + 4194304 - 1) >>> ((22 : Int32).toInt64 &&& 63) * 4194304 - J 22 (nI filled).toNatClampNeg) >>> ((11 : Int32).toInt64 &&& 63)).toInt32 = nI n0 := by
      rw [eF, pf_shr (d := 11) (by decide) (by omega), lN_i]
      exact congrArg nI (by omega)
    have e2 : (((J 22 (nI filled).toNatClampNeg + 4194304 - 1) >>> ((22 : Int32).toInt64 &&& 63) * 4194304 - J 22 (nI filled).toNatClampNeg) &&& 2047).toInt32 = nI n1 := by
      rw [eF, show (2047 : Int64) = lN (2 ^ 11 - 1) from rfl, wb_mask (by omega) (by decide), lN_i]
      exact congrArg nI (by omega)
    have e0 : ((J 22 (nI filled).toNatClampNeg + 4194304 - 1) >>> ((22 : Int32).toInt64 &&& 63)).toInt32 = nI (n0 + n1 + n2) := by rw [eS, lN_i]
    refine cl [2, 23] 80 23 _ _ _ _ _ _ ?_
    refine And.intro hin (And.intro hin ?_)
    refine And.intro (fun (c : nI what = 0) => ?_) (fun (c0 : ¬ nI what = 0) => And.intro (fun (c : nI what = 1) => ?_) (fun (c1 : ¬ nI what = 1) => And.intro (fun (c : nI what = 2) => ?_) (fun (c2 : ¬ nI what = 2) => And.intro (fun (c : nI what = 3) => ?_) (fun (c3 : ¬ nI what = 3) => ?_))))
    · have h0 : what = 0 := (nI_eq (b := 0) (by omega) (by decide)).mp c
      have := hR (some (.int (nI width - nI filled))) (by
        rw [pk_sub hf]
        show some (Value.int (nI (width - filled))) = some (Value.int (nI (anV width what filled n0 n1 n2)))
        unfold anV
        rw [if_pos h0])
      exact this
    · have h0 : what = 1 := (nI_eq (b := 1) (by omega) (by decide)).mp c
      have := hR (some (.int ((J 22 (nI filled).toNatClampNeg + 4194304 - 1) >>> ((22 : Int32).toInt64 &&& 63)).toInt32)) (by
        rw [e0]
        show some (Value.int (nI (n0 + n1 + n2))) = some (Value.int (nI (anV width what filled n0 n1 n2)))
        subst h0
        rfl)
      exact this
    · have h0 : what = 2 := (nI_eq (b := 2) (by omega) (by decide)).mp c
      have := hR (some (.int (((J 22 (nI filled).toNatClampNeg + 4194304 - 1) >>> ((22 : Int32).toInt64 &&& 63) * 4194304 - J 22 (nI filled).toNatClampNeg) >>> ((11 : Int32).toInt64 &&& 63)).toInt32)) (by
        rw [e1]
        show some (Value.int (nI n0)) = some (Value.int (nI (anV width what filled n0 n1 n2)))
        subst h0
        rfl)
      exact this
    · have h0 : what = 3 := (nI_eq (b := 3) (by omega) (by decide)).mp c
      have := hR (some (.int (((J 22 (nI filled).toNatClampNeg + 4194304 - 1) >>> ((22 : Int32).toInt64 &&& 63) * 4194304 - J 22 (nI filled).toNatClampNeg) &&& 2047).toInt32)) (by
        rw [e2]
        show some (Value.int (nI n1)) = some (Value.int (nI (anV width what filled n0 n1 n2)))
        subst h0
        rfl)
      exact this
    · have h0 : what = 4 := by
        have g : ∀ k, k < 2 ^ 31 → ¬ nI what = nI k → what ≠ k := fun k hk h e => h (by rw [e])
        have := g 0 (by decide) c0
        have := g 1 (by decide) c1
        have := g 2 (by decide) c2
        have := g 3 (by decide) c3
        omega
      have := hR (some (.int (((J 22 (nI filled).toNatClampNeg + 4194304 - 1) >>> ((22 : Int32).toInt64 &&& 63)).toInt32 - (((J 22 (nI filled).toNatClampNeg + 4194304 - 1) >>> ((22 : Int32).toInt64 &&& 63) * 4194304 - J 22 (nI filled).toNatClampNeg) >>> ((11 : Int32).toInt64 &&& 63)).toInt32 - (((J 22 (nI filled).toNatClampNeg + 4194304 - 1) >>> ((22 : Int32).toInt64 &&& 63) * 4194304 - J 22 (nI filled).toNatClampNeg) &&& 2047).toInt32))) (by
        rw [e0, e1, e2, pk_sub (by omega), pk_sub (by omega)]
        show some (Value.int (nI (n0 + n1 + n2 - n0 - n1))) = some (Value.int (nI (anV width what filled n0 n1 n2)))
        rw [show n0 + n1 + n2 - n0 - n1 = n2 by omega]
        subst h0
        rfl)
      exact this
  have loop : ∀ k f, k + filled = f → f ≤ width → G 2 [some (.ref 21), some (.int (nI width)), some (.int (nI what)), some (.int (nI f)), none, none, none, none, none, none] [] a I J Q := by
    intro k
    induction k with
    | zero =>
      intro f hk hfw
      obtain rfl : f = filled := by omega
      refine cl [2, 23] 80 2 _ _ _ _ _ _ ?_
      refine And.intro (fun _ => fin none none none none) (fun _ => And.intro (show vp_in (nI f) 2001 from vp_in_nI (by omega) (by decide)) (And.intro (fun _ => fin none none none none) (fun (c : ¬ 0 ≤ lg_cmp (J 22 (nI f).toNatClampNeg) 0) => ?_)))
      rw [lg_cmp_ge, nI_clamp (by omega), hJ] at c
      exact absurd (by rw [show (0 : Int64) = lN 0 from rfl]; exact (pk_lLE (by decide) (by unfold prN; omega)).mpr (Nat.zero_le _)) c
    | succ k ih =>
      intro f hk hfw
      obtain ⟨g, rfl⟩ : ∃ g, f = g + 1 := ⟨f - 1, by omega⟩
      refine cl [2, 23] 80 2 _ _ _ _ _ _ ?_
      refine And.intro (fun c => absurd c (nI_nle (by omega) (by omega))) (fun _ => And.intro (show vp_in (nI (g + 1)) 2001 from vp_in_nI (by omega) (by decide)) (And.intro (fun (c : 0 ≤ lg_cmp (J 22 (nI (g + 1)).toNatClampNeg) 0) => ?_) (fun _ => ?_)))
      · rw [lg_cmp_ge, nI_clamp (by omega), hneg (g + 1) (by omega) (by omega)] at c
        exact absurd c (by decide)
      · have := ih g (by omega) (by omega)
        rw [← pk_m1 g] at this
        exact this
  refine cl [2, 23] 80 0 _ _ _ _ _ _ ?_
  exact loop (width - filled) width (by omega) (Nat.le_refl _)
