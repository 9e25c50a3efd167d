/-! Press: add, hasTwin -/
def prsOK (I : hI) (l : List Nat) : Prop := I 18 2 = nI l.length ∧ (∀ i, i < l.length → I 19 i = nI (l.getD i 0)) ∧ I 18 3 = nI l.sum ∧ l.length ≤ 10 ∧ ∀ x, x ∈ l → x ≤ 10000
theorem getD_ins (f : Nat) : ∀ (p : Nat) (l : List Nat) (i : Nat), p ≤ l.length → (l.take p ++ f :: l.drop p).getD i 0 = if i < p then l.getD i 0 else if i = p then f else l.getD (i - 1) 0
  | 0, l, i, _ => by
    cases i with
    | zero => simp
    | succ i => simp
  | p + 1, [], i, h => by simp at h
  | p + 1, x :: t, i, h => by
    cases i with
    | zero => simp
    | succ i =>
      have := getD_ins f p t i (by simp at h; omega)
      simp only [List.take_succ_cons, List.drop_succ_cons, List.cons_append, List.getD_cons_succ]
      rw [this]
      by_cases h1 : i < p
      · rw [if_pos h1, if_pos (show i + 1 < p + 1 by omega)]
      · rw [if_neg h1, if_neg (show ¬ i + 1 < p + 1 by omega)]
        by_cases h2 : i = p
        · rw [if_pos h2, if_pos (show i + 1 = p + 1 by omega)]
        · rw [if_neg h2, if_neg (show ¬ i + 1 = p + 1 by omega)]
          obtain ⟨k, rfl⟩ : ∃ k, i = k + 1 := ⟨i - 1, by omega⟩
          rw [show k + 1 + 1 - 1 = k + 1 by omega, show k + 1 - 1 = k by omega, List.getD_cons_succ]
theorem sum_ins (f p : Nat) (l : List Nat) : (l.take p ++ f :: l.drop p).sum = l.sum + f := by
  have := congrArg List.sum (List.take_append_drop p l)
  rw [List.sum_append] at this
  rw [List.sum_append, List.sum_cons]
  omega
theorem len_ins (f p : Nat) (l : List Nat) (h : p ≤ l.length) : (l.take p ++ f :: l.drop p).length = l.length + 1 := by
  rw [List.length_append, List.length_cons, List.length_take, List.length_drop]
  omega
theorem perm_ins (f p : Nat) (l : List Nat) : (l.take p ++ f :: l.drop p).Perm (f :: l) := by
  have h := List.perm_middle (a := f) (l₁ := l.take p) (l₂ := l.drop p)
  rwa [List.take_append_drop] at h
abbrev x_ad : Type := Nat × List Nat
abbrev e_ad : x_ad → List Value := fun x => [.ref 18, .int (nI x.1)]
theorem v_ad (n : Nat) (h : 2 ≤ n) (x : x_ad) : okv (e_ad x) ∧ (lvA (e_ad x)).length ≤ n := ⟨okv_ref (okv_int okv_nil), h⟩
def e_padd : ev := (2, 5, false, 0, 0, sn e_ad (fun x _ I _ _ => prsOK I x.2 ∧ x.2.length < 10 ∧ x.1 ≤ 10000) (fun x _ I J Q v I' J' Q' => v = none ∧ J' = J ∧ Q' = Q ∧ (∀ k', k' ≠ 18 → k' ≠ 19 → I' k' = I k') ∧ ∃ l', l'.Perm (x.1 :: x.2) ∧ prsOK I' l'))
set_option maxRecDepth 20000 in
theorem c_padd {l : Launch} : CX l cdX5_add e_padd := by
  refine cm_sn RX5 edX5_add [] false kX5_add cwX5_add okX5_add trivial (by decide) rfl (v_ad _ (by decide)) ?_
  intro um zm G Rt ⟨f, l⟩ a I J Q cl hb hp hR
  obtain ⟨⟨h2, h19, h3, hl10, hx⟩, hl, hf⟩ := hp
  have h2 : I 18 2 = nI l.length := h2
  have h19 : ∀ i, i < l.length → I 19 i = nI (l.getD i 0) := h19
  have h3 : I 18 3 = nI l.sum := h3
  have hl : l.length < 10 := hl
  have hf : f ≤ 10000 := hf
  have hx : ∀ x, x ∈ l → x ≤ 10000 := hx
  -- the cells while those from p on have moved up
  have fin : ∀ p I', p ≤ l.length → (∀ k', k' ≠ 19 → I' k' = I k') → (∀ i, i < p → I' 19 i = nI (l.getD i 0)) → (∀ i, p < i → i ≤ l.length → I' 19 i = nI (l.getD (i - 1) 0)) → G 51 [some (.ref 18), some (.int (nI f)), some (.int (nI p))] [] a I' J Q := by
    intro p I' hp ho h1 h4
    have ecl : (nI p).toNatClampNeg = p := nI_clamp (by omega)
    refine cl [15, 51] 80 51 _ _ _ _ _ _ ?_
    refine And.intro (show vp_in (nI p) 10 from vp_in_nI (by omega) (by decide)) ?_
    have := hR none (up2 (up2 (up2 I' 19 (nI p).toNatClampNeg (nI f)) 18 2 (up2 I' 19 (nI p).toNatClampNeg (nI f) 18 2 + 1)) 18 3 (up2 (up2 I' 19 (nI p).toNatClampNeg (nI f)) 18 2 (up2 I' 19 (nI p).toNatClampNeg (nI f) 18 2 + 1) 18 3 + nI f)) J Q ⟨rfl, rfl, rfl, fun k' hk1 hk2 => by rw [up2_ne hk1, up2_ne hk1, up2_ne hk2]; exact ho k' hk2, l.take p ++ f :: l.drop p, perm_ins f p l, ?_⟩
    · exact this
    · refine ⟨?_, fun i hi => ?_, ?_, ?_, fun x hx' => ?_⟩
      · rw [up2_nej (by decide), up2_at, up2_ne (by decide), ho 18 (by decide), h2, nI_1, len_ins f p l hp]
      · rw [len_ins f p l hp] at hi
        rw [up2_ne (by decide), up2_ne (by decide), ecl, getD_ins f p l i hp]
        by_cases c1 : i < p
        · rw [if_pos c1, up2_nej (by omega)]; exact h1 i c1
        · rw [if_neg c1]
          by_cases c2 : i = p
          · rw [if_pos c2, c2, up2_at]
          · rw [if_neg c2, up2_nej c2]; exact h4 i (by omega) (by omega)
      · rw [up2_at, up2_nej (by decide), up2_ne (by decide), ho 18 (by decide), h3, nI_add, sum_ins]
      · rw [len_ins f p l hp]; omega
      · have := (perm_ins f p l).mem_iff.mp hx'
        rcases List.mem_cons.mp this with rfl | h
        · exact hf
        · exact hx x h
  have loop : ∀ p I', p ≤ l.length → (∀ k', k' ≠ 19 → I' k' = I k') → (∀ i, i < p → I' 19 i = nI (l.getD i 0)) → (∀ i, p < i → i ≤ l.length → I' 19 i = nI (l.getD (i - 1) 0)) → G 15 [some (.ref 18), some (.int (nI f)), some (.int (nI p))] [] a I' J Q := by
    intro p
    induction p with
    | zero =>
      intro I' hp ho h1 h4
      refine cl [15, 51] 80 15 _ _ _ _ _ _ ?_
      exact And.intro (fun _ => fin 0 I' hp ho h1 h4) (fun c => absurd (by decide) c)
    | succ p ih =>
      intro I' hp ho h1 h4
      have em : nI (p + 1) - 1 = nI p := nI_pred p
      have ecm : (nI (p + 1) - 1).toNatClampNeg = p := by rw [em]; exact nI_clamp (by omega)
      have ecl : (nI (p + 1)).toNatClampNeg = p + 1 := nI_clamp (by omega)
      have hin : vp_in (nI (p + 1) - 1) 10 := by rw [em]; exact vp_in_nI (by omega) (by decide)
      refine cl [15, 51] 80 15 _ _ _ _ _ _ ?_
      refine And.intro (fun c => absurd c (nI_nle (by omega) (by omega))) (fun _ => And.intro hin (And.intro (fun _ => fin (p + 1) I' hp ho h1 h4) (fun _ => And.intro hin (And.intro (show vp_in (nI (p + 1)) 10 from vp_in_nI (by omega) (by decide)) ?_))))
      have := ih (up2 I' 19 (nI (p + 1)).toNatClampNeg (I' 19 (nI (p + 1) - 1).toNatClampNeg)) (by omega) (fun k' hk' => by rw [up2_ne hk']; exact ho k' hk') (fun i hi => by rw [ecl, up2_nej (by omega)]; exact h1 i (by omega)) (fun i hi1 hi2 => ?_)
      · rw [← pk_m1 p] at this
        exact this
      · rw [ecl, ecm]
        by_cases e : i = p + 1
        · subst e
          rw [up2_at, h1 p (by omega)]
          rfl
        · rw [up2_nej e]; exact h4 i (by omega) hi2
  refine cl [15, 51] 80 0 _ _ _ _ _ _ ?_
  refine And.intro (fun (_ : I 18 2 < 10) => ?_) (fun (c : ¬ I 18 2 < 10) => absurd (by rw [h2]; exact nI_lt (b := 10) hl (by decide)) c)
  have := loop l.length I (Nat.le_refl _) (fun _ _ => rfl) h19 (fun i h1 h2 => by omega)
  rw [← h2] at this
  exact this
def twN (L : Nat → Nat) (j : Nat) : Nat → Bool
  | 0 => false
  | k + 1 => twN L j k || decide (L k = L j)
theorem twN_iff (L : Nat → Nat) (j : Nat) : ∀ n, twN L j n = true ↔ ∃ k, k < n ∧ L k = L j
  | 0 => ⟨fun h => (by cases h), fun ⟨k, h, _⟩ => by omega⟩
  | n + 1 => by
    have ih := twN_iff L j n
    unfold twN
    rw [Bool.or_eq_true, decide_eq_true_iff, ih]
    constructor
    · rintro (⟨k, h1, h2⟩ | h)
      · exact ⟨k, by omega, h2⟩
      · exact ⟨n, by omega, h⟩
    · rintro ⟨k, h1, h2⟩
      by_cases e : k = n
      · subst e; exact Or.inr h2
      · exact Or.inl ⟨k, by omega, h2⟩
def stpOK (I : hI) (L : Nat → Nat) (s : Nat) : Prop := ∀ j, j < s → I 20 j = nI (L j) ∧ L j < 1000000
abbrev x_tw : Type := Nat × Nat × (Nat → Nat)
abbrev e_tw : x_tw → List Value := fun x => [.ref 18, .int (nI x.1)]
theorem v_tw (n : Nat) (h : 2 ≤ n) (x : x_tw) : okv (e_tw x) ∧ (lvA (e_tw x)).length ≤ n := ⟨okv_ref (okv_int okv_nil), h⟩
def e_twin : ev := (2, 5, false, 0, 0, sf e_tw (fun x _ I _ _ => x.1 < x.2.1 ∧ x.2.1 ≤ 4 ∧ stpOK I x.2.2 x.2.1) (fun x _ _ _ _ => some (.int (bI (twN x.2.2 x.1 x.1)))))
set_option maxRecDepth 20000 in
theorem c_twin {l : Launch} : CX l cdX5_hasTwin e_twin := by
  refine cm_sf RX5 edX5_hasTwin [] true kX5_hasTwin cwX5_hasTwin okX5_hasTwin trivial (by decide) rfl (v_tw _ (by decide)) ?_
  intro um zm G Rt ⟨j, s, L⟩ a I J Q cl hb hp hR
  obtain ⟨hj, hs, hL⟩ := hp
  have hj : j < s := hj
  have hs : s ≤ 4 := hs
  have hL : stpOK I L s := hL
  have hR : ∀ v, v = some (Value.int (bI (twN L j j))) → Rt v a I J Q := hR
  have loop : ∀ d k, d + k = j → twN L j k = false → G 2 [some (.ref 18), some (.int (nI j)), some (.int (nI k))] [] a I J Q := by
    intro d
    induction d with
    | zero =>
      intro k hk hf
      obtain rfl : k = j := by omega
      refine cl [2] 60 2 _ _ _ _ _ _ ?_
      exact And.intro (fun _ => And.intro (Or.inl rfl) (hR _ (by rw [hf]; rfl))) (fun c => absurd (nI_le (Nat.le_refl _) (by omega)) c)
    | succ d ih =>
      intro k hk hf
      refine cl [2] 60 2 _ _ _ _ _ _ ?_
      have e1 : (nI k).toNatClampNeg = k := nI_clamp (by omega)
      have e2 : (nI j).toNatClampNeg = j := nI_clamp (by omega)
      have hk1 := hL k (by omega)
      have hj1 := hL j hj
      refine And.intro (fun c => absurd c (nI_ge (by omega) (by omega))) (fun _ => And.intro (show vp_in (nI k) 4 from vp_in_nI (by omega) (by decide)) (And.intro (show vp_in (nI j) 4 from vp_in_nI (by omega) (by decide)) (And.intro (fun (c : ¬ I 20 (nI k).toNatClampNeg = I 20 (nI j).toNatClampNeg) => ?_) (fun (c : I 20 (nI k).toNatClampNeg = I 20 (nI j).toNatClampNeg) => And.intro (Or.inr rfl) (hR _ ?_)))))
      · rw [e1, e2, hk1.1, hj1.1, nI_eq (by omega) (by omega)] at c
        have := ih (k + 1) (by omega) (by unfold twN; rw [hf, decide_eq_false c]; rfl)
        rw [← nI_1 k] at this
        exact this
      · rw [e1, e2, hk1.1, hj1.1, nI_eq (by omega) (by omega)] at c
        rw [(twN_iff L j j).mpr ⟨k, by omega, c⟩]
        rfl
  refine cl [2] 60 0 _ _ _ _ _ _ ?_
  exact loop j 0 (by omega) rfl
