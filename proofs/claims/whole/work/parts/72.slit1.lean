/-! REFERENCE: slit -/
def tabP (r : Nat → Int32) (P : Nat → Nat → Prop) (n : Nat) : Prop := ∀ j, j < n → (r j = nI 100000 ∧ ∀ c, ¬ P j c) ∨ ∃ c, r j = nI c ∧ c ≤ j ∧ P j c ∧ ∀ c', P j c' → c ≤ c'
def addP (w : Nat) (P : Nat → Nat → Prop) (j c : Nat) : Prop := ∃ k, (w = 0 → k = 0) ∧ k * w ≤ j ∧ k ≤ c ∧ P (j - k * w) (c - k)
def P00 (j c : Nat) : Prop := j = 0 ∧ c = 0
theorem addP_0 {w : Nat} {P : Nat → Nat → Prop} {j c : Nat} (h : P j c) : addP w P j c := ⟨0, fun _ => rfl, by omega, by omega, by rw [Nat.zero_mul]; exact h⟩
theorem addP_S {w : Nat} {P : Nat → Nat → Prop} {j c : Nat} (hw : w ≠ 0) (hj : w ≤ j) : addP w P j c ↔ P j c ∨ (1 ≤ c ∧ addP w P (j - w) (c - 1)) := by
  constructor
  · rintro ⟨k, h1, h2, h3, h4⟩
    cases k with
    | zero => left; rw [Nat.zero_mul] at h4; exact h4
    | succ k =>
      right
      rw [Nat.succ_mul] at h2 h4
      exact ⟨by omega, k, fun h => absurd h hw, by omega, by omega, by rw [show j - w - k * w = j - (k * w + w) by omega, show c - 1 - k = c - (k + 1) by omega]; exact h4⟩
  · rintro (h | ⟨h1, k, h2, h3, h4, h5⟩)
    · exact addP_0 h
    · refine ⟨k + 1, fun h => absurd h hw, by rw [Nat.succ_mul]; omega, by omega, ?_⟩
      rw [Nat.succ_mul, show j - (k * w + w) = j - w - k * w by omega, show c - (k + 1) = c - 1 - k by omega]
      exact h5
theorem addP_lt {w : Nat} {P : Nat → Nat → Prop} {j c : Nat} (hj : j < w) : addP w P j c ↔ P j c := by
  constructor
  · rintro ⟨k, h1, h2, h3, h4⟩
    cases k with
    | zero => rw [Nat.zero_mul] at h4; exact h4
    | succ k => rw [Nat.succ_mul] at h2; omega
  · exact addP_0
theorem addP_w0 {P : Nat → Nat → Prop} {j c : Nat} : addP 0 P j c ↔ P j c := by
  constructor
  · rintro ⟨k, h1, h2, h3, h4⟩
    rw [h1 rfl, Nat.zero_mul] at h4
    exact h4
  · exact addP_0
theorem tab_cong {r : Nat → Int32} {P P' : Nat → Nat → Prop} {n : Nat} (h : tabP r P n) (hp : ∀ j c, P j c ↔ P' j c) : tabP r P' n := fun j hj => by
  rcases h j hj with ⟨h1, h2⟩ | ⟨c, h1, h2, h3, h4⟩
  · exact Or.inl ⟨h1, fun c hc => h2 c ((hp j c).mpr hc)⟩
  · exact Or.inr ⟨c, h1, h2, (hp j c).mp h3, fun c' hc => h4 c' ((hp j c').mpr hc)⟩
def fwK (b : Bool) : Nat := match b with
  | true => 59
  | false => 58
abbrev e_bg : Bool × Nat → List Value := fun x => [.ref (fwK x.1), .int (nI x.2)]
theorem v_bg (n : Nat) (h : 2 ≤ n) (x : Bool × Nat) : okv (e_bg x) ∧ (lvA (e_bg x)).length ≤ n := ⟨okv_ref (okv_int okv_nil), h⟩
def e_begin : ev := (2, 99, false, 0, 0, sn e_bg (fun x _ _ _ _ => x.2 ≤ 2000) (fun x _ I J Q v I' J' Q' => v = none ∧ J' = J ∧ Q' = Q ∧ fr I I' [fwK x.1] ∧ tabP (I' (fwK x.1)) P00 (x.2 + 1)))
abbrev x_aw : Type := Bool × Nat × Nat × (Nat → Nat → Prop)
abbrev e_aw : x_aw → List Value := fun x => [.ref (fwK x.1), .int (nI x.2.1), .int (nI x.2.2.1)]
theorem v_aw (n : Nat) (h : 3 ≤ n) (x : x_aw) : okv (e_aw x) ∧ (lvA (e_aw x)).length ≤ n := ⟨okv_ref (okv_int (okv_int okv_nil)), h⟩
def e_addW : ev := (3, 99, false, 0, 0, sn e_aw (fun x _ I _ _ => x.2.1 ≤ 2000 ∧ x.2.2.1 ≤ 500 ∧ tabP (I (fwK x.1)) x.2.2.2 (x.2.1 + 1)) (fun x _ I J Q v I' J' Q' => v = none ∧ J' = J ∧ Q' = Q ∧ fr I I' [fwK x.1] ∧ tabP (I' (fwK x.1)) (addP x.2.2.1 x.2.2.2) (x.2.1 + 1)))
set_option maxRecDepth 20000 in
theorem begin_b58 {um zm : Nat} {G : hG} {Rt : hR} {width : Nat} {a : hA} {I : hI} {J : hJ} {Q : hQ} (cl : CL tX qX false 60 um zm [] false false kX10_begin G Rt) (hw : width ≤ 2000) (hR : ∀ I', fr I I' [58] → tabP (I' 58) P00 (width + 1) → Rt none a I' J Q) : G 0 [some (.ref 58), some (.int (nI width)), none] [] a I J Q := by
  have loop : ∀ d s I', d + s = width + 1 → fr I I' [58] → tabP (I' 58) P00 s → G 2 [some (.ref 58), some (.int (nI width)), some (.int (nI s))] [] a I' J Q := by
    intro d
    induction d with
    | zero =>
      intro s I' hd hf ht
      obtain rfl : s = width + 1 := by omega
      refine cl [2, 19] 60 2 _ _ _ _ _ _ ?_
      exact And.intro (fun _ => hR I' hf ht) (fun h => absurd (nI_lt (a := width) (by omega) (by omega)) h)
    | succ d ih =>
      intro s I' hd hf ht
      have ecs : (nI s).toNatClampNeg = s := nI_clamp (by omega)
      have g19 : ∀ v, ((v = nI 100000 ∧ ∀ c, ¬ P00 s c) ∨ ∃ c, v = nI c ∧ c ≤ s ∧ P00 s c ∧ ∀ c', P00 s c' → c ≤ c') → G 19 [some (.ref 58), some (.int (nI width)), some (.int (nI s))] [.int v, .int (nI s), .ref 58] a I' J Q := by
        intro v hv
        refine cl [2, 19] 60 19 _ _ _ _ _ _ ?_
        refine And.intro (show vp_in (nI s) 2001 from vp_in_nI (by omega) (by decide)) ?_
        have := ih (s + 1) (up2 I' 58 (nI s).toNatClampNeg v) (by omega) (fr_up hf (by decide)) (fun j hj => by
          rw [ecs]
          by_cases e : j = s
          · subst e; rw [up2_at]; exact hv
          · rw [up2_nej e]; exact ht j (by omega))
        rw [← nI_1 s] at this
        exact this
      refine cl [2, 19] 60 2 _ _ _ _ _ _ ?_
      refine And.intro (fun h => absurd h (nI_nlt (a := width) (b := s) (by omega) (by omega))) (fun _ => And.intro (fun (h : ¬ nI s = 0) => ?_) (fun (h : nI s = 0) => ?_))
      · exact g19 100000 (Or.inl ⟨rfl, fun c hc => h (by rw [hc.1]; rfl)⟩)
      · have h0 : s = 0 := (nI_eq (b := 0) (by omega) (by decide)).mp h
        exact g19 0 (Or.inr ⟨0, rfl, Nat.zero_le _, ⟨h0, rfl⟩, fun c' _ => Nat.zero_le _⟩)
  refine cl [2, 19] 60 0 _ _ _ _ _ _ ?_
  exact loop (width + 1) 0 I (by omega) (fr_refl _ _) (fun j hj => by omega)
set_option maxRecDepth 20000 in
theorem addW_b58 {um zm : Nat} {G : hG} {Rt : hR} {width w : Nat} {P : Nat → Nat → Prop} {a : hA} {I : hI} {J : hJ} {Q : hQ} (cl : CL tX qX false 60 um zm [] false false kX10_addWidth G Rt) (hw : width ≤ 2000) (hw5 : w ≤ 500) (htab : tabP (I 58) P (width + 1)) (hR : ∀ I', fr I I' [58] → tabP (I' 58) (addP w P) (width + 1) → Rt none a I' J Q) : G 0 [some (.ref 58), some (.int (nI width)), some (.int (nI w)), none] [] a I J Q := by
  have loop : ∀ d s I', d + s = max (width + 1) w → w ≠ 0 → w ≤ s → fr I I' [58] → (∀ j, j < s → j < width + 1 → (I' 58 j = nI 100000 ∧ ∀ c, ¬ addP w P j c) ∨ ∃ c, I' 58 j = nI c ∧ c ≤ j ∧ addP w P j c ∧ ∀ c', addP w P j c' → c ≤ c') → (∀ j, s ≤ j → I' 58 j = I 58 j) → G 2 [some (.ref 58), some (.int (nI width)), some (.int (nI w)), some (.int (nI s))] [] a I' J Q := by
    intro d
    induction d with
    | zero =>
      intro s I' hd h0 hws hf h1 h2
      refine cl [2, 39] 60 2 _ _ _ _ _ _ ?_
      exact And.intro (fun _ => hR I' hf (fun j hj => h1 j (by omega) hj)) (fun h => absurd (nI_lt (a := width) (by omega) (by omega)) h)
    | succ d ih =>
      intro s I' hd h0 hws hf h1 h2
      by_cases hsw : s ≤ width
      · have ecs : (nI s).toNatClampNeg = s := nI_clamp (by omega)
        have es : nI s - nI w = nI (s - w) := pk_sub hws
        have ecm : (nI s - nI w).toNatClampNeg = s - w := by rw [es]; exact nI_clamp (by omega)
        have hin : vp_in (nI s) 2001 := vp_in_nI (by omega) (by decide)
        have hinm : vp_in (nI s - nI w) 2001 := by rw [es]; exact vp_in_nI (by omega) (by decide)
        have g39 : ∀ v, ((v = nI 100000 ∧ ∀ c, ¬ addP w P s c) ∨ ∃ c, v = nI c ∧ c ≤ s ∧ addP w P s c ∧ ∀ c', addP w P s c' → c ≤ c') → G 39 [some (.ref 58), some (.int (nI width)), some (.int (nI w)), some (.int (nI s))] [.int v, .int (nI s), .ref 58] a I' J Q := by
          intro v hv
          refine cl [2, 39] 60 39 _ _ _ _ _ _ ?_
          refine And.intro hin ?_
          have := ih (s + 1) (up2 I' 58 (nI s).toNatClampNeg v) (by omega) h0 (by omega) (fr_up hf (by decide)) (fun j hj hj2 => by
            rw [ecs]
            by_cases e : j = s
            · subst e; rw [up2_at]; exact hv
            · rw [up2_nej e]; exact h1 j (by omega) hj2) (fun j hj => by rw [ecs, up2_nej (by omega)]; exact h2 j (by omega))
          rw [← nI_1 s] at this
          exact this
        have hA := h1 (s - w) (by omega) (by omega)
        have hO := htab s (by omega)
        rw [← h2 s (Nat.le_refl _)] at hO
        have key := fun c => addP_S (P := P) (c := c) h0 hws
        refine cl [2, 39] 60 2 _ _ _ _ _ _ ?_
        refine And.intro (fun h => absurd h (nI_nlt (a := width) (b := s) (by omega) (by omega))) (fun _ => And.intro (fun h => absurd h (nI_nle (by omega) (by omega))) (fun _ => And.intro hinm (And.intro hin (And.intro (fun (h : I' 58 (nI s).toNatClampNeg ≤ I' 58 (nI s - nI w).toNatClampNeg + 1) => And.intro hin ?_) (fun (h : ¬ I' 58 (nI s).toNatClampNeg ≤ I' 58 (nI s - nI w).toNatClampNeg + 1) => And.intro hinm ?_)))))
        · rw [ecs, ecm] at h
          refine g39 _ ?_
          rw [ecs]
          rcases hO with ⟨o1, o2⟩ | ⟨c0, o1, o2, o3, o4⟩
          · rcases hA with ⟨a1, a2⟩ | ⟨c1, a1, a2, a3, a4⟩
            · exact Or.inl ⟨o1, fun c hc => by
                rcases (key c).mp hc with hc | ⟨_, hc⟩
                · exact o2 c hc
                · exact a2 _ hc⟩
            · rw [o1, a1, nI_1, nI_leI (by omega) (by omega)] at h
              omega
          · refine Or.inr ⟨c0, o1, o2, addP_0 o3, fun c' hc => ?_⟩
            rcases (key c').mp hc with hc | ⟨hc1, hc⟩
            · exact o4 c' hc
            · rcases hA with ⟨a1, a2⟩ | ⟨c1, a1, a2, a3, a4⟩
              · exact absurd hc (a2 _)
              · rw [o1, a1, nI_1, nI_leI (by omega) (by omega)] at h
                have := a4 _ hc
                omega
        · rw [ecs, ecm] at h
          refine g39 _ ?_
          rw [ecm]
          rcases hA with ⟨a1, a2⟩ | ⟨c1, a1, a2, a3, a4⟩
          · rcases hO with ⟨o1, o2⟩ | ⟨c0, o1, o2, o3, o4⟩
            · rw [o1, a1, nI_1, nI_leI (by omega) (by omega)] at h
              omega
            · rw [o1, a1, nI_1, nI_leI (by omega) (by omega)] at h
              omega
          · refine Or.inr ⟨c1 + 1, by rw [a1, nI_1], by omega, (key (c1 + 1)).mpr (Or.inr ⟨by omega, by rw [Nat.add_sub_cancel]; exact a3⟩), fun c' hc => ?_⟩
            rcases (key c').mp hc with hc | ⟨hc1, hc⟩
            · rcases hO with ⟨o1, o2⟩ | ⟨c0, o1, o2, o3, o4⟩
              · exact absurd hc (o2 _)
              · rw [o1, a1, nI_1, nI_leI (by omega) (by omega)] at h
                have := o4 _ hc
                omega
            · have := a4 _ hc
              omega
      · refine cl [2, 39] 60 2 _ _ _ _ _ _ ?_
        exact And.intro (fun _ => hR I' hf (fun j hj => h1 j (by omega) hj)) (fun h => absurd (nI_lt (a := width) (b := s) (by omega) (by omega)) h)
  refine cl [2, 39] 60 0 _ _ _ _ _ _ ?_
  by_cases h0 : w = 0
  · subst h0
    refine cl [39] 60 2 _ _ _ _ _ _ ?_
    have hend := hR I (fr_refl _ _) (tab_cong htab (fun j c => addP_w0.symm))
    exact And.intro (fun _ => hend) (fun _ => And.intro (fun _ => hend) (fun h => absurd (by decide) h))
  · refine loop (max (width + 1) w - w) w I (by omega) h0 (Nat.le_refl _) (fr_refl _ _) (fun j hj hj2 => ?_) (fun _ _ => rfl)
    have key := fun c => addP_lt (P := P) (c := c) hj
    rcases htab j hj2 with ⟨o1, o2⟩ | ⟨c0, o1, o2, o3, o4⟩
    · exact Or.inl ⟨o1, fun c hc => o2 c ((key c).mp hc)⟩
    · exact Or.inr ⟨c0, o1, o2, (key c0).mpr o3, fun c' hc => o4 c' ((key c').mp hc)⟩
set_option maxRecDepth 20000 in
theorem begin_b59 {um zm : Nat} {G : hG} {Rt : hR} {width : Nat} {a : hA} {I : hI} {J : hJ} {Q : hQ} (cl : CL tX qX false 60 um zm [] false false kX10_begin G Rt) (hw : width ≤ 2000) (hR : ∀ I', fr I I' [59] → tabP (I' 59) P00 (width + 1) → Rt none a I' J Q) : G 0 [some (.ref 59), some (.int (nI width)), none] [] a I J Q := by
  have loop : ∀ d s I', d + s = width + 1 → fr I I' [59] → tabP (I' 59) P00 s → G 2 [some (.ref 59), some (.int (nI width)), some (.int (nI s))] [] a I' J Q := by
    intro d
    induction d with
    | zero =>
      intro s I' hd hf ht
      obtain rfl : s = width + 1 := by omega
      refine cl [2, 19] 60 2 _ _ _ _ _ _ ?_
      exact And.intro (fun _ => hR I' hf ht) (fun h => absurd (nI_lt (a := width) (by omega) (by omega)) h)
    | succ d ih =>
      intro s I' hd hf ht
      have ecs : (nI s).toNatClampNeg = s := nI_clamp (by omega)
      have g19 : ∀ v, ((v = nI 100000 ∧ ∀ c, ¬ P00 s c) ∨ ∃ c, v = nI c ∧ c ≤ s ∧ P00 s c ∧ ∀ c', P00 s c' → c ≤ c') → G 19 [some (.ref 59), some (.int (nI width)), some (.int (nI s))] [.int v, .int (nI s), .ref 59] a I' J Q := by
        intro v hv
        refine cl [2, 19] 60 19 _ _ _ _ _ _ ?_
        refine And.intro (show vp_in (nI s) 2001 from vp_in_nI (by omega) (by decide)) ?_
        have := ih (s + 1) (up2 I' 59 (nI s).toNatClampNeg v) (by omega) (fr_up hf (by decide)) (fun j hj => by
          rw [ecs]
          by_cases e : j = s
          · subst e; rw [up2_at]; exact hv
          · rw [up2_nej e]; exact ht j (by omega))
        rw [← nI_1 s] at this
        exact this
      refine cl [2, 19] 60 2 _ _ _ _ _ _ ?_
      refine And.intro (fun h => absurd h (nI_nlt (a := width) (b := s) (by omega) (by omega))) (fun _ => And.intro (fun (h : ¬ nI s = 0) => ?_) (fun (h : nI s = 0) => ?_))
      · exact g19 100000 (Or.inl ⟨rfl, fun c hc => h (by rw [hc.1]; rfl)⟩)
      · have h0 : s = 0 := (nI_eq (b := 0) (by omega) (by decide)).mp h
        exact g19 0 (Or.inr ⟨0, rfl, Nat.zero_le _, ⟨h0, rfl⟩, fun c' _ => Nat.zero_le _⟩)
  refine cl [2, 19] 60 0 _ _ _ _ _ _ ?_
  exact loop (width + 1) 0 I (by omega) (fr_refl _ _) (fun j hj => by omega)
set_option maxRecDepth 20000 in
theorem addW_b59 {um zm : Nat} {G : hG} {Rt : hR} {width w : Nat} {P : Nat → Nat → Prop} {a : hA} {I : hI} {J : hJ} {Q : hQ} (cl : CL tX qX false 60 um zm [] false false kX10_addWidth G Rt) (hw : width ≤ 2000) (hw5 : w ≤ 500) (htab : tabP (I 59) P (width + 1)) (hR : ∀ I', fr I I' [59] → tabP (I' 59) (addP w P) (width + 1) → Rt none a I' J Q) : G 0 [some (.ref 59), some (.int (nI width)), some (.int (nI w)), none] [] a I J Q := by
  have loop : ∀ d s I', d + s = max (width + 1) w → w ≠ 0 → w ≤ s → fr I I' [59] → (∀ j, j < s → j < width + 1 → (I' 59 j = nI 100000 ∧ ∀ c, ¬ addP w P j c) ∨ ∃ c, I' 59 j = nI c ∧ c ≤ j ∧ addP w P j c ∧ ∀ c', addP w P j c' → c ≤ c') → (∀ j, s ≤ j → I' 59 j = I 59 j) → G 2 [some (.ref 59), some (.int (nI width)), some (.int (nI w)), some (.int (nI s))] [] a I' J Q := by
    intro d
    induction d with
    | zero =>
      intro s I' hd h0 hws hf h1 h2
      refine cl [2, 39] 60 2 _ _ _ _ _ _ ?_
      exact And.intro (fun _ => hR I' hf (fun j hj => h1 j (by omega) hj)) (fun h => absurd (nI_lt (a := width) (by omega) (by omega)) h)
    | succ d ih =>
      intro s I' hd h0 hws hf h1 h2
      by_cases hsw : s ≤ width
      · have ecs : (nI s).toNatClampNeg = s := nI_clamp (by omega)
        have es : nI s - nI w = nI (s - w) := pk_sub hws
        have ecm : (nI s - nI w).toNatClampNeg = s - w := by rw [es]; exact nI_clamp (by omega)
        have hin : vp_in (nI s) 2001 := vp_in_nI (by omega) (by decide)
        have hinm : vp_in (nI s - nI w) 2001 := by rw [es]; exact vp_in_nI (by omega) (by decide)
        have g39 : ∀ v, ((v = nI 100000 ∧ ∀ c, ¬ addP w P s c) ∨ ∃ c, v = nI c ∧ c ≤ s ∧ addP w P s c ∧ ∀ c', addP w P s c' → c ≤ c') → G 39 [some (.ref 59), some (.int (nI width)), some (.int (nI w)), some (.int (nI s))] [.int v, .int (nI s), .ref 59] a I' J Q := by
          intro v hv
          refine cl [2, 39] 60 39 _ _ _ _ _ _ ?_
          refine And.intro hin ?_
          have := ih (s + 1) (up2 I' 59 (nI s).toNatClampNeg v) (by omega) h0 (by omega) (fr_up hf (by decide)) (fun j hj hj2 => by
            rw [ecs]
            by_cases e : j = s
            · subst e; rw [up2_at]; exact hv
            · rw [up2_nej e]; exact h1 j (by omega) hj2) (fun j hj => by rw [ecs, up2_nej (by omega)]; exact h2 j (by omega))
          rw [← nI_1 s] at this
          exact this
        have hA := h1 (s - w) (by omega) (by omega)
        have hO := htab s (by omega)
        rw [← h2 s (Nat.le_refl _)] at hO
        have key := fun c => addP_S (P := P) (c := c) h0 hws
        refine cl [2, 39] 60 2 _ _ _ _ _ _ ?_
        refine And.intro (fun h => absurd h (nI_nlt (a := width) (b := s) (by omega) (by omega))) (fun _ => And.intro (fun h => absurd h (nI_nle (by omega) (by omega))) (fun _ => And.intro hinm (And.intro hin (And.intro (fun (h : I' 59 (nI s).toNatClampNeg ≤ I' 59 (nI s - nI w).toNatClampNeg + 1) => And.intro hin ?_) (fun (h : ¬ I' 59 (nI s).toNatClampNeg ≤ I' 59 (nI s - nI w).toNatClampNeg + 1) => And.intro hinm ?_)))))
        · rw [ecs, ecm] at h
          refine g39 _ ?_
          rw [ecs]
          rcases hO with ⟨o1, o2⟩ | ⟨c0, o1, o2, o3, o4⟩
          · rcases hA with ⟨a1, a2⟩ | ⟨c1, a1, a2, a3, a4⟩
            · exact Or.inl ⟨o1, fun c hc => by
                rcases (key c).mp hc with hc | ⟨_, hc⟩
                · exact o2 c hc
                · exact a2 _ hc⟩
            · rw [o1, a1, nI_1, nI_leI (by omega) (by omega)] at h
              omega
          · refine Or.inr ⟨c0, o1, o2, addP_0 o3, fun c' hc => ?_⟩
            rcases (key c').mp hc with hc | ⟨hc1, hc⟩
            · exact o4 c' hc
            · rcases hA with ⟨a1, a2⟩ | ⟨c1, a1, a2, a3, a4⟩
              · exact absurd hc (a2 _)
              · rw [o1, a1, nI_1, nI_leI (by omega) (by omega)] at h
                have := a4 _ hc
                omega
        · rw [ecs, ecm] at h
          refine g39 _ ?_
          rw [ecm]
          rcases hA with ⟨a1, a2⟩ | ⟨c1, a1, a2, a3, a4⟩
          · rcases hO with ⟨o1, o2⟩ | ⟨c0, o1, o2, o3, o4⟩
            · rw [o1, a1, nI_1, nI_leI (by omega) (by omega)] at h
              omega
            · rw [o1, a1, nI_1, nI_leI (by omega) (by omega)] at h
              omega
          · refine Or.inr ⟨c1 + 1, by rw [a1, nI_1], by omega, (key (c1 + 1)).mpr (Or.inr ⟨by omega, by rw [Nat.add_sub_cancel]; exact a3⟩), fun c' hc => ?_⟩
            rcases (key c').mp hc with hc | ⟨hc1, hc⟩
            · rcases hO with ⟨o1, o2⟩ | ⟨c0, o1, o2, o3, o4⟩
              · exact absurd hc (o2 _)
              · rw [o1, a1, nI_1, nI_leI (by omega) (by omega)] at h
                have := o4 _ hc
                omega
            · have := a4 _ hc
              omega
      · refine cl [2, 39] 60 2 _ _ _ _ _ _ ?_
        exact And.intro (fun _ => hR I' hf (fun j hj => h1 j (by omega) hj)) (fun h => absurd (nI_lt (a := width) (b := s) (by omega) (by omega)) h)
  refine cl [2, 39] 60 0 _ _ _ _ _ _ ?_
  by_cases h0 : w = 0
  · subst h0
    refine cl [39] 60 2 _ _ _ _ _ _ ?_
    have hend := hR I (fr_refl _ _) (tab_cong htab (fun j c => addP_w0.symm))
    exact And.intro (fun _ => hend) (fun _ => And.intro (fun _ => hend) (fun h => absurd (by decide) h))
  · refine loop (max (width + 1) w - w) w I (by omega) h0 (Nat.le_refl _) (fr_refl _ _) (fun j hj hj2 => ?_) (fun _ _ => rfl)
    have key := fun c => addP_lt (P := P) (c := c) hj
    rcases htab j hj2 with ⟨o1, o2⟩ | ⟨c0, o1, o2, o3, o4⟩
    · exact Or.inl ⟨o1, fun c hc => o2 c ((key c).mp hc)⟩
    · exact Or.inr ⟨c0, o1, o2, (key c0).mpr o3, fun c' hc => o4 c' ((key c').mp hc)⟩
theorem c_begin {l : Launch} : CX l cdX10_begin e_begin := by
  refine cm_sn RX10 edX10_begin [] false kX10_begin cwX10_begin okX10_begin trivial (by decide) rfl (v_bg _ (by decide)) ?_
  intro um zm G Rt ⟨b, width⟩ a I J Q cl hb hp hR
  cases b with
  | true => exact begin_b59 cl hp (fun I' h1 h2 => hR _ _ _ _ ⟨rfl, rfl, rfl, h1, h2⟩)
  | false => exact begin_b58 cl hp (fun I' h1 h2 => hR _ _ _ _ ⟨rfl, rfl, rfl, h1, h2⟩)
theorem c_addW {l : Launch} : CX l cdX10_addWidth e_addW := by
  refine cm_sn RX10 edX10_addWidth [] false kX10_addWidth cwX10_addWidth okX10_addWidth trivial (by decide) rfl (v_aw _ (by decide)) ?_
  intro um zm G Rt ⟨b, width, w, P⟩ a I J Q cl hb hp hR
  cases b with
  | true => exact addW_b59 cl hp.1 hp.2.1 hp.2.2 (fun I' h1 h2 => hR _ _ _ _ ⟨rfl, rfl, rfl, h1, h2⟩)
  | false => exact addW_b58 cl hp.1 hp.2.1 hp.2.2 (fun I' h1 h2 => hR _ _ _ _ ⟨rfl, rfl, rfl, h1, h2⟩)
/-- isRest -/
abbrev x_ir : Type := Nat × Nat × Int
abbrev e_ir : x_ir → List Value := fun x => [.int (nI x.1), .int (nI x.2.1), .int (zI x.2.2)]
theorem v_ir (n : Nat) (h : 3 ≤ n) (x : x_ir) : okv (e_ir x) ∧ (lvA (e_ir x)).length ≤ n := ⟨okv_int (okv_int (okv_int okv_nil)), h⟩
def rstP (left w : Nat) (many : Int) : Prop := ∃ n2 : Nat, many = n2 ∧ left = n2 * w ∧ (w = 0 → n2 = 0)
def e_isRest : ev := (3, 99, false, 0, 0, sn e_ir (fun x _ _ _ _ => x.1 ≤ 2000 ∧ x.2.1 ≤ 500 ∧ (-5000 ≤ x.2.2 ∧ x.2.2 ≤ 5000)) (fun x _ I J Q v I' J' Q' => I' = I ∧ J' = J ∧ Q' = Q ∧ ∃ b, v = some (.int (bI b)) ∧ (b = true ↔ rstP x.1 x.2.1 x.2.2)))
set_option maxRecDepth 20000 in
theorem c_isRest {l : Launch} : CX l cdX10_isRest e_isRest := by
  refine cm_sn RX10 edX10_isRest [] true kX10_isRest cwX10_isRest okX10_isRest trivial (by decide) rfl (v_ir _ (by decide)) ?_
  intro um zm G Rt ⟨left, w, many⟩ a I J Q cl hb hp hR
  obtain ⟨h1, h2, h3, h4⟩ := hp
  have h1 : left ≤ 2000 := h1
  have h2 : w ≤ 500 := h2
  have h3 : -5000 ≤ many := h3
  have h4 : many ≤ 5000 := h4
  have hR : ∀ v I' J' Q', (I' = I ∧ J' = J ∧ Q' = Q ∧ ∃ b, v = some (Value.int (bI b)) ∧ (b = true ↔ rstP left w many)) → Rt v a I' J' Q' := hR
  have hT : rstP left w many → Rt (some (.int 1)) a I J Q := fun h => hR _ _ _ _ ⟨rfl, rfl, rfl, true, rfl, ⟨fun _ => h, fun _ => rfl⟩⟩
  have hF : ¬ rstP left w many → Rt (some (.int 0)) a I J Q := fun h => hR _ _ _ _ ⟨rfl, rfl, rfl, false, rfl, ⟨fun h => (by cases h), fun h' => absurd h' h⟩⟩
  have hz : ∀ z : Int, -5000 ≤ z ∧ z ≤ 5000 → (zI z = 0 ↔ z = 0) := fun z hz => by
    constructor
    · intro h
      have := congrArg Int32.toInt h
      rw [zI_toInt (by omega) (by omega)] at this
      exact this
    · intro h; rw [h]; rfl
  refine cl [] 60 0 _ _ _ _ _ _ ?_
  refine And.intro (fun (c : ¬ nI w = 0) => ?_) (fun (c : nI w = 0) => ?_)
  · have hw : w ≠ 0 := fun e => c (by rw [e]; rfl)
    have em : nI w * zI many = zI ((w : Int) * many) := by
      rw [zI_nat]
      exact (Int32.ofInt_mul _ _).symm
    have hbnd : -2500000 ≤ (w : Int) * many ∧ (w : Int) * many ≤ 2500000 := by
      have a1 : (w : Int) * many ≤ 500 * 5000 := by
        by_cases hm : 0 ≤ many
        · exact Int.mul_le_mul (by omega) h4 hm (by omega)
        · have : (w : Int) * many ≤ 0 := Int.mul_nonpos_of_nonneg_of_nonpos (by omega) (by omega)
          omega
      have a2 : -(500 * 5000) ≤ (w : Int) * many := by
        by_cases hm : 0 ≤ many
        · have : 0 ≤ (w : Int) * many := Int.mul_nonneg (by omega) hm
          omega
        · have h6 : (w : Int) * (-many) ≤ 500 * 5000 := Int.mul_le_mul (by omega) (by omega) (by omega) (by omega)
          rw [Int.mul_neg] at h6
          omega
      omega
    have hiff : nI left = nI w * zI many ↔ rstP left w many := by
      rw [em, zI_nat]
      constructor
      · intro h
        have := congrArg Int32.toInt h
        rw [zI_toInt (by omega) (by omega), zI_toInt (by omega) (by omega)] at this
        have hmn : 0 ≤ many := by
          rcases Int.lt_or_le many 0 with hm | hm
          · have : (w : Int) * many < 0 := Int.mul_neg_of_pos_of_neg (by omega) hm
            omega
          · exact hm
        obtain ⟨n2, rfl⟩ : ∃ n2 : Nat, many = n2 := ⟨many.toNat, by omega⟩
        refine ⟨n2, rfl, ?_, fun e => absurd e hw⟩
        have : (left : Int) = ((n2 * w : Nat) : Int) := by rw [this, Int.natCast_mul, Int.mul_comm]
        omega
      · rintro ⟨n2, rfl, rfl, _⟩
        rw [Int.natCast_mul, Int.mul_comm]
    exact And.intro (fun (c2 : ¬ nI left = nI w * zI many) => And.intro (Or.inl rfl) (hF (fun h => c2 (hiff.mpr h)))) (fun (c2 : nI left = nI w * zI many) => And.intro (Or.inr rfl) (hT (hiff.mp c2)))
  · have hw : w = 0 := (nI_eq (b := 0) (by omega) (by decide)).mp c
    refine And.intro (fun (c2 : ¬ nI left = 0) => And.intro (Or.inl rfl) (hF ?_)) (fun (c2 : nI left = 0) => And.intro (fun (c3 : ¬ zI many = 0) => And.intro (Or.inl rfl) (hF ?_)) (fun (c3 : zI many = 0) => And.intro (Or.inr rfl) (hT ?_)))
    · rintro ⟨n2, e1, e2, e3⟩
      rw [e3 hw, Nat.zero_mul] at e2
      exact c2 (by rw [e2]; rfl)
    · rintro ⟨n2, e1, e2, e3⟩
      exact c3 ((hz many ⟨h3, h4⟩).mpr (by rw [e1, e3 hw]; rfl))
    · have e0 : left = 0 := (nI_eq (b := 0) (by omega) (by decide)).mp c2
      have e1 := (hz many ⟨h3, h4⟩).mp c3
      exact ⟨0, by omega, by omega, fun _ => rfl⟩
