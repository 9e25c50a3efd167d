/-! Press.spread, leastPeak: the recursion, a contract a depth -/
def kX5_spread : List en := [(0, .iload_n 3, 1, 0, 0, 0, 0, []), (1, .aload_n 0, 1, 0, 0, 0, 0, []), (2, .getfield 41, 3, 5, 4, 0, 0, [(0, 172)]), (5, .if_icmp .ge 14, 3, 19, 0, 0, 0, []), (8, .aload_n 0, 1, 0, 0, 0, 0, []), (9, .getfield 41, 3, 5, 4, 0, 0, [(0, 172)]), (12, .aload_n 0, 1, 0, 0, 0, 0, []), (13, .getfield 35, 3, 5, 5, 0, 0, [(0, 173)]), (16, .if_icmp .ne 4, 3, 20, 0, 0, 0, []), (19, .return_, 1, 0, 0, 0, 0, []), (20, .iload_n 1, 1, 0, 0, 0, 0, []), (21, .aload_n 0, 1, 0, 0, 0, 0, []), (22, .getfield 18, 3, 5, 2, 0, 0, [(0, 170)]), (25, .if_icmp .lt 9, 3, 34, 0, 0, 0, []), (28, .aload_n 0, 1, 0, 0, 0, 0, []), (29, .iload_n 3, 1, 0, 0, 0, 0, []), (30, .putfield 41, 3, 5, 4, 0, 0, [(0, 172)]), (33, .return_, 1, 0, 0, 0, 0, []), (34, .iconst 0, 1, 0, 0, 0, 0, []), (35, .istore 4, 2, 0, 0, 0, 0, []), (37, .iload 4, 2, 0, 0, 0, 0, []), (39, .iload_n 2, 1, 0, 0, 0, 0, []), (40, .if_icmp .ge 69, 3, 109, 0, 0, 0, []), (43, .aload_n 0, 1, 0, 0, 0, 0, []), (44, .iload 4, 2, 0, 0, 0, 0, []), (46, .invokevirtual 48, 3, 0, 0, 0, 0, [(0, 651), (0, 63), (0, 653), (0, 21)]), (49, .ifCond .ne 54, 3, 103, 0, 0, 0, []), (52, .aload_n 0, 1, 0, 0, 0, 0, []), (53, .getfield 15, 3, 5, 1, 0, 0, [(0, 169)]), (56, .iload 4, 2, 0, 0, 0, 0, []), (58, .dup2, 1, 0, 0, 0, 0, []), (59, .iaload, 1, 0, 0, 0, 0, []), (60, .aload_n 0, 1, 0, 0, 0, 0, []), (61, .getfield 9, 3, 5, 0, 0, 0, [(0, 168)]), (64, .iload_n 1, 1, 0, 0, 0, 0, []), (65, .iaload, 1, 0, 0, 0, 0, []), (66, .iadd, 1, 0, 0, 0, 0, []), (67, .iastore, 1, 0, 0, 0, 0, []), (68, .aload_n 0, 1, 0, 0, 0, 0, []), (69, .iload_n 1, 1, 0, 0, 0, 0, []), (70, .iconst 1, 1, 0, 0, 1, 0, []), (71, .iadd, 1, 0, 0, 0, 0, []), (72, .iload_n 2, 1, 0, 0, 0, 0, []), (73, .iload_n 3, 1, 0, 0, 0, 0, []), (74, .aload_n 0, 1, 0, 0, 0, 0, []), (75, .getfield 15, 3, 5, 1, 0, 0, [(0, 169)]), (78, .iload 4, 2, 0, 0, 0, 0, []), (80, .iaload, 1, 0, 0, 0, 0, []), (81, .invokestatic 29, 3, 99998, 0, 0, 0, [(0, 645), (0, 454), (0, 69), (0, 455)]), (84, .invokevirtual 44, 3, 1, 0, 0, 0, [(0, 647), (0, 63), (0, 649), (0, 20)]), (87, .aload_n 0, 1, 0, 0, 0, 0, []), (88, .getfield 15, 3, 5, 1, 0, 0, [(0, 169)]), (91, .iload 4, 2, 0, 0, 0, 0, []), (93, .dup2, 1, 0, 0, 0, 0, []), (94, .iaload, 1, 0, 0, 0, 0, []), (95, .aload_n 0, 1, 0, 0, 0, 0, []), (96, .getfield 9, 3, 5, 0, 0, 0, [(0, 168)]), (99, .iload_n 1, 1, 0, 0, 0, 0, []), (100, .iaload, 1, 0, 0, 0, 0, []), (101, .isub, 1, 0, 0, 0, 0, []), (102, .iastore, 1, 0, 0, 0, 0, []), (103, .iinc 4 1, 3, 0, 0, 1, 0, []), (106, .goto (-69), 3, 37, 0, 0, 0, []), (109, .return_, 1, 0, 0, 0, 0, [])]
def cdSp (n : Nat) : cdT := (yX5_spread, cX5_spread, 5, none, n)
def edSp (n : Nat) : List edT := [(cdX5_hasTwin, 2, 5), (cdSp n, 4, 5)]
set_option maxRecDepth 100000 in
theorem cwSp (n : Nat) : Cond.code (cdSp n).1 (cdSp n).2.1 (cdSp n).2.2.1 (cdSp n).2.2.2.1 ∈ lw_g := List.mem_filter.mpr ⟨List.mem_of_getElem? (i := 650) rfl, rfl⟩
set_option maxRecDepth 100000 in
theorem okSp : ∀ n, n < 11 → okL RX5 cX5_spread (edSp n) (n + 1) none false kX5_spread = true := by decide +kernel
def kX5_leastPeak : List en := [(0, .iload_n 1, 1, 0, 0, 0, 0, []), (1, .iconst 1, 1, 0, 0, 1, 0, []), (2, .iconst 4, 1, 0, 0, 4, 0, []), (3, .invokestatic 25, 3, 0, 0, 0, 0, [(0, 644), (0, 58), (0, 272)]), (6, .ifCond .ne 8, 3, 14, 0, 0, 0, []), (9, .aload_n 0, 1, 0, 0, 0, 0, []), (10, .getfield 22, 3, 5, 3, 0, 0, [(0, 171)]), (13, .ireturn, 1, 0, 0, 0, 0, []), (14, .iconst 0, 1, 0, 0, 0, 0, []), (15, .istore_n 2, 1, 0, 0, 0, 0, []), (16, .iload_n 2, 1, 0, 0, 0, 0, []), (17, .iconst 4, 1, 0, 0, 4, 0, []), (18, .if_icmp .ge 16, 3, 34, 0, 0, 0, []), (21, .aload_n 0, 1, 0, 0, 0, 0, []), (22, .getfield 15, 3, 5, 1, 0, 0, [(0, 169)]), (25, .iload_n 2, 1, 0, 0, 0, 0, []), (26, .iconst 0, 1, 0, 0, 0, 0, []), (27, .iastore, 1, 0, 0, 0, 0, []), (28, .iinc 2 1, 3, 0, 0, 1, 0, []), (31, .goto (-15), 3, 16, 0, 0, 0, []), (34, .aload_n 0, 1, 0, 0, 0, 0, []), (35, .aload_n 0, 1, 0, 0, 0, 0, []), (36, .getfield 9, 3, 5, 0, 0, 0, [(0, 168)]), (39, .iconst 0, 1, 0, 0, 0, 0, []), (40, .iaload, 1, 0, 0, 0, 0, []), (41, .aload_n 0, 1, 0, 0, 0, 0, []), (42, .getfield 22, 3, 5, 3, 0, 0, [(0, 171)]), (45, .iload_n 1, 1, 0, 0, 0, 0, []), (46, .iadd, 1, 0, 0, 0, 0, []), (47, .iconst 1, 1, 0, 0, 1, 0, []), (48, .isub, 1, 0, 0, 0, 0, []), (49, .iload_n 1, 1, 0, 0, 0, 0, []), (50, .idiv, 1, 0, 0, 0, 0, []), (51, .invokestatic 29, 3, 99998, 0, 0, 0, [(0, 645), (0, 454), (0, 69), (0, 455)]), (54, .putfield 35, 3, 5, 5, 0, 0, [(0, 173)]), (57, .aload_n 0, 1, 0, 0, 0, 0, []), (58, .ldc 40, 2, 0, 0, 2147483647, 0, [(0, 646)]), (60, .putfield 41, 3, 5, 4, 0, 0, [(0, 172)]), (63, .aload_n 0, 1, 0, 0, 0, 0, []), (64, .iconst 0, 1, 0, 0, 0, 0, []), (65, .iload_n 1, 1, 0, 0, 0, 0, []), (66, .iconst 0, 1, 0, 0, 0, 0, []), (67, .invokevirtual 44, 3, 1, 0, 0, 0, [(0, 647), (0, 63), (0, 649), (0, 20)]), (70, .aload_n 0, 1, 0, 0, 0, 0, []), (71, .getfield 41, 3, 5, 4, 0, 0, [(0, 172)]), (74, .ireturn, 1, 0, 0, 0, 0, [])]
def cdX5_leastPeak : cdT := (yX5_leastPeak, cX5_leastPeak, 3, (some .int), 15)
def edX5_leastPeak : List edT := [(cdX9_isWithin, 3, 99), ((cdSp 11), 4, 5)]
set_option maxRecDepth 100000 in
theorem cwX5_leastPeak : Cond.code cdX5_leastPeak.1 cdX5_leastPeak.2.1 cdX5_leastPeak.2.2.1 cdX5_leastPeak.2.2.2.1 ∈ lw_g := List.mem_filter.mpr ⟨List.mem_of_getElem? (i := 643) rfl, rfl⟩
set_option maxRecDepth 100000 in
theorem okX5_leastPeak : okL RX5 cdX5_leastPeak.2.1 edX5_leastPeak cdX5_leastPeak.2.2.2.2 cdX5_leastPeak.2.2.2.1 false kX5_leastPeak = true := by decide +kernel

abbrev x_sp : Type := List Nat × Nat × Nat × Nat × (Nat → Nat) × Nat × Nat
abbrev e_sp : x_sp → List Value := fun x => [.ref 18, .int (nI x.2.1), .int (nI x.2.2.1), .int (nI x.2.2.2.1)]
theorem v_sp (n : Nat) (h : 4 ≤ n) (x : x_sp) : okv (e_sp x) ∧ (lvA (e_sp x)).length ≤ n := ⟨okv_ref (okv_int (okv_int (okv_int okv_nil))), h⟩
def spPre (r : Nat) (I : hI) (fs : List Nat) (i s high : Nat) (L : Nat → Nat) (M Fl : Nat) : Prop :=
  fs.length ≤ r ∧ i + fs.length ≤ 10 ∧ (1 ≤ s ∧ s ≤ 4) ∧ (∀ k, k < fs.length → I 19 (i + k) = nI (fs.getD k 0)) ∧ I 18 2 = nI (i + fs.length) ∧ (∀ j, j < s → I 20 j = nI (L j)) ∧ (∀ j, j < s → L j + fs.sum ≤ 200000) ∧ (I 18 4 = nI M ∧ M < 2 ^ 31) ∧ (I 18 5 = nI Fl ∧ Fl ≤ M) ∧ (∀ v, (∀ j, j < s → L j ≤ v) ↔ high ≤ v) ∧ ∀ w, canL s w fs L → Fl ≤ w
def spPost (I I' : hI) (fs : List Nat) (s : Nat) (L : Nat → Nat) (M : Nat) : Prop :=
  (∀ k', k' ≠ 18 → k' ≠ 20 → I' k' = I k') ∧ (∀ j, j ≠ 4 → I' 18 j = I 18 j) ∧ (∀ j, I' 20 j = I 20 j) ∧ ∃ M', I' 18 4 = nI M' ∧ M' ≤ M ∧ (M' = M ∨ canL s M' fs L) ∧ ∀ w, canL s w fs L → M' ≤ w
def e_spread (r : Nat) : ev := (4, 5, false, 0, 0, sn e_sp (fun x _ I _ _ => spPre r I x.1 x.2.1 x.2.2.1 x.2.2.2.1 x.2.2.2.2.1 x.2.2.2.2.2.1 x.2.2.2.2.2.2) (fun x _ I J Q v I' J' Q' => v = none ∧ J' = J ∧ Q' = Q ∧ spPost I I' x.1 x.2.2.1 x.2.2.2.2.1 x.2.2.2.2.2.1))
/-- a contract that is never used -/
def e_never : ev := (4, 5, false, 0, 0, sn e_sp (fun _ _ _ _ _ => False) (fun _ _ _ _ _ _ _ _ _ => True))
theorem c_never {l : Launch} (n : Nat) : CX l (cdSp n) e_never := ⟨⟨cwSp n, fun D cA q av a I J Q K sz _ _ _ h => by obtain ⟨x, _, h, _⟩ := h; exact h.elim⟩, sn_mono⟩
/-- the high mark of the steps is below 2^31 -/
theorem hi_lt {s high N : Nat} {L : Nat → Nat} (h : ∀ v, (∀ j, j < s → L j ≤ v) ↔ high ≤ v) (hL : ∀ j, j < s → L j ≤ N) : high ≤ N := (h N).mp hL
set_option maxRecDepth 20000 in
theorem spread_body {um zm : Nat} {G : hG} {Rt : hR} {r i s high M Fl : Nat} {fs : List Nat} {L : Nat → Nat} {a : hA} {I : hI} {J : hJ} {Q : hQ} {e1 : ev} (he1 : (r = 0 ∧ e1 = e_never) ∨ ∃ r', r = r' + 1 ∧ e1 = e_spread r') (cl : CL tX qX false 60 um zm [e_twin, e1] false false kX5_spread G Rt) (hp : spPre r I fs i s high L M Fl) (hR : ∀ I', spPost I I' fs s L M → Rt none a I' J Q) : G 0 [some (.ref 18), some (.int (nI i)), some (.int (nI s)), some (.int (nI high)), none] [] a I J Q := by
  obtain ⟨hr, hir, ⟨hs1, hs4⟩, h19, h2, h20, hsum, ⟨h4, hM⟩, ⟨h5, hFl⟩, hhi, hfl⟩ := hp
  have hhl : high ≤ 200000 := hi_lt hhi (fun j hj => by have := hsum j hj; omega)
  refine cl [37] 90 0 _ _ _ _ _ _ ?_
  refine And.intro (fun (c : I 18 4 ≤ nI high) => hR I ⟨fun _ _ _ => rfl, fun _ _ => rfl, fun _ => rfl, M, h4, Nat.le_refl _, Or.inl rfl, fun w hw => ?_⟩) (fun (c : ¬ I 18 4 ≤ nI high) => And.intro (fun (c1 : ¬ I 18 4 = I 18 5) => And.intro (fun (c2 : nI i < I 18 2) => ?_) (fun (c2 : ¬ nI i < I 18 2) => ?_)) (fun (c1 : I 18 4 = I 18 5) => hR I ⟨fun _ _ _ => rfl, fun _ _ => rfl, fun _ => rfl, M, h4, Nat.le_refl _, Or.inl rfl, fun w hw => ?_⟩))
  · rw [h4, nI_leI hM (by omega)] at c
    have := (hhi w).mp (canL_ge fs L hw)
    omega
  · rw [h2, nI_ltI (by omega) (by omega)] at c2
    rw [h4, nI_leI hM (by omega)] at c
    obtain ⟨f, ft, rfl⟩ : ∃ f ft, fs = f :: ft := by
      cases fs with
      | nil => simp at c2
      | cons f ft => exact ⟨f, ft, rfl⟩
    have hlen : (f :: ft).length = ft.length + 1 := List.length_cons
    rw [hlen] at hr hir h19 h2
    obtain ⟨r', rfl, rfl⟩ : ∃ r', r = r' + 1 ∧ e1 = e_spread r' := by
      rcases he1 with ⟨h0, _⟩ | h
      · omega
      · exact h
    have hft : ft.length ≤ r' := by omega
    have hf0 : I 19 i = nI f := by
      have := h19 0 (by omega)
      exact this
    have hfs : (f :: ft).sum = f + ft.sum := List.sum_cons
    have loop : ∀ d j I', d + j = s → (∀ k', k' ≠ 18 → k' ≠ 20 → I' k' = I k') → (∀ j, j ≠ 4 → I' 18 j = I 18 j) → (∀ j, I' 20 j = I 20 j) → (∃ M', I' 18 4 = nI M' ∧ M' ≤ M ∧ (M' = M ∨ canL s M' (f :: ft) L) ∧ ∀ w k, k < j → canL s w ft (ldU L k f) → M' ≤ w) → G 37 [some (.ref 18), some (.int (nI i)), some (.int (nI s)), some (.int (nI high)), some (.int (nI j))] [] a I' J Q := by
      intro d
      induction d with
      | zero =>
        intro j I' hd g1 g2 g3 ⟨M', m1, m2, m3, m4⟩
        obtain rfl : j = s := by omega
        refine cl [37] 90 37 _ _ _ _ _ _ ?_
        exact And.intro (fun _ => hR I' ⟨g1, g2, g3, M', m1, m2, m3, fun w ⟨k, hk, hw⟩ => m4 w k hk hw⟩) (fun c => absurd (nI_le (Nat.le_refl _) (by omega)) c)
      | succ d ih =>
        intro j I' hd g1 g2 g3 ⟨M', m1, m2, m3, m4⟩
        have hj : j < s := by omega
        have ecl : (nI j).toNatClampNeg = j := nI_clamp (by omega)
        have eci : (nI i).toNatClampNeg = i := nI_clamp (by omega)
        have hinj : vp_in (nI j) 4 := vp_in_nI (by omega) (by decide)
        have hini : vp_in (nI i) 10 := vp_in_nI (by omega) (by decide)
        have hLj := hsum j hj
        refine cl [37] 90 37 _ _ _ _ _ _ ?_
        refine And.intro (fun c => absurd c (nI_ge hj (by omega))) (fun _ => ?_)
        refine Exists.intro (j, s, L) (And.intro rfl (And.intro (show j < s ∧ s ≤ 4 ∧ stpOK I' L s from ⟨hj, hs4, fun k hk => ⟨by rw [g3 k]; exact h20 k hk, by have := hsum k hk; omega⟩⟩) ?_))
        refine bI_cases (twN L j j) (fun ht => ?_) (fun ht => ?_)
        · obtain ⟨k, hk, he⟩ := (twN_iff L j j).mp ht
          have := ih (j + 1) I' (by omega) g1 g2 g3 ⟨M', m1, m2, m3, fun w k' hk' hw => by
            by_cases e : k' = j
            · subst e
              exact m4 w k hk (canL_twin hj (by omega) he hw)
            · exact m4 w k' (by omega) hw⟩
          rw [← nI_1 j] at this
          exact this
        · refine And.intro hinj (And.intro hini (And.intro hinj ?_))
          refine And.intro hinj ?_
          have eU : I' 20 (nI j).toNatClampNeg + I' 19 (nI i).toNatClampNeg = nI (L j + f) := by
            rw [ecl, eci, g3 j, h20 j hj, g1 19 (by decide) (by decide), hf0, nI_add]
          have emx : (if nI high < up2 I' 20 (nI j).toNatClampNeg (I' 20 (nI j).toNatClampNeg + I' 19 (nI i).toNatClampNeg) 20 (nI j).toNatClampNeg then up2 I' 20 (nI j).toNatClampNeg (I' 20 (nI j).toNatClampNeg + I' 19 (nI i).toNatClampNeg) 20 (nI j).toNatClampNeg else nI high) = nI (max high (L j + f)) := by
            rw [up2_at, eU]
            rw [hfs] at hLj
            by_cases h : high < L j + f
            · rw [if_pos (nI_lt h (by omega)), Nat.max_eq_right (by omega)]
            · rw [if_neg (nI_nlt (by omega) (by omega)), Nat.max_eq_left (by omega)]
          refine Exists.intro (ft, i + 1, s, max high (L j + f), ldU L j f, M', Fl) (And.intro ?_ (And.intro (show spPre r' (up2 I' 20 (nI j).toNatClampNeg (I' 20 (nI j).toNatClampNeg + I' 19 (nI i).toNatClampNeg)) ft (i + 1) s (max high (L j + f)) (ldU L j f) M' Fl from ?_) ?_))
          · show [Value.ref 18, .int (nI i + 1), .int (nI s), .int (if nI high < up2 I' 20 (nI j).toNatClampNeg (I' 20 (nI j).toNatClampNeg + I' 19 (nI i).toNatClampNeg) 20 (nI j).toNatClampNeg then up2 I' 20 (nI j).toNatClampNeg (I' 20 (nI j).toNatClampNeg + I' 19 (nI i).toNatClampNeg) 20 (nI j).toNatClampNeg else nI high)] = [Value.ref 18, .int (nI (i + 1)), .int (nI s), .int (nI (max high (L j + f)))]
            rw [emx, nI_1]
          · refine ⟨hft, by omega, ⟨hs1, hs4⟩, fun k hk => ?_, ?_, fun k hk => ?_, fun k hk => ?_, ⟨?_, by omega⟩, ⟨?_, ?_⟩, fun v => ?_, fun w hw => hfl w ⟨j, hj, hw⟩⟩
            · rw [up2_ne (by decide), g1 19 (by decide) (by decide), show i + 1 + k = i + (k + 1) by omega, h19 (k + 1) (by omega)]
              rfl
            · rw [up2_ne (by decide), g2 2 (by decide), h2]
              exact congrArg nI (by omega)
            · show up2 I' 20 (nI j).toNatClampNeg _ 20 k = nI (ldU L j f k)
              rw [eU, ecl]
              unfold ldU
              by_cases e : k = j
              · subst e; rw [up2_at, if_pos rfl]
              · rw [up2_nej e, if_neg e, g3 k]; exact h20 k hk
            · have := hsum k hk
              rw [hfs] at this
              show ldU L j f k + ft.sum ≤ 200000
              unfold ldU
              split <;> omega
            · rw [up2_ne (by decide)]; exact m1
            · rw [up2_ne (by decide), g2 5 (by decide)]; exact h5
            · rcases m3 with h | h
              · rw [h]; exact hFl
              · exact hfl _ h
            · have := hhi v
              constructor
              · intro h
                have h1 : high ≤ v := (hhi v).mp (fun k hk => by
                  have := h k hk
                  unfold ldU at this
                  split at this <;> omega)
                have h2 := h j hj
                unfold ldU at h2
                rw [if_pos rfl] at h2
                exact Nat.max_le.mpr ⟨h1, h2⟩
              · intro h k hk
                have h1 := (hhi v).mpr (Nat.le_trans (Nat.le_max_left _ _) h) k hk
                have h2 := Nat.le_trans (Nat.le_max_right high (L j + f)) h
                unfold ldU
                split
                · rename_i e; rw [e]; exact h2
                · exact h1
          · rintro v I2 J2 Q2 ⟨rfl, rfl, rfl, p1, p2, p3, M2, q1, q2, q3, q4⟩
            refine And.intro hinj (And.intro hini (And.intro hinj ?_))
            have eB : I2 20 (nI j).toNatClampNeg - I2 19 (nI i).toNatClampNeg = I 20 j := by
              rw [p3, up2_at, eU, p1 19 (by decide) (by decide), up2_ne (by decide), eci, g1 19 (by decide) (by decide), hf0, pk_sub (by omega), h20 j hj]
              exact congrArg nI (by omega)
            have := ih (j + 1) (up2 I2 20 (nI j).toNatClampNeg (I2 20 (nI j).toNatClampNeg - I2 19 (nI i).toNatClampNeg)) (by omega) (fun k' k1 k2 => by rw [up2_ne k2, p1 k' k1 k2, up2_ne k2]; exact g1 k' k1 k2) (fun k' hk' => by rw [up2_ne (by decide), p2 k' hk', up2_ne (by decide)]; exact g2 k' hk') (fun k' => by
              rw [eB, ecl]
              by_cases e : k' = j
              · subst e; rw [up2_at]
              · rw [up2_nej e, p3 k', ecl, up2_nej e]; exact g3 k') ⟨M2, by rw [up2_ne (by decide)]; exact q1, Nat.le_trans q2 m2, ?_, fun w k' hk' hw => ?_⟩
            · rw [← nI_1 j] at this
              exact this
            · rcases q3 with h | h
              · rcases m3 with h' | h'
                · exact Or.inl (h.trans h')
                · right; rw [show M2 = M' from h]; exact h'
              · exact Or.inr ⟨j, hj, h⟩
            · by_cases e : k' = j
              · subst e; exact q4 w hw
              · exact Nat.le_trans q2 (m4 w k' (by omega) hw)
    exact loop s 0 I (by omega) (fun _ _ _ => rfl) (fun _ _ => rfl) (fun _ => rfl) ⟨M, h4, Nat.le_refl _, Or.inl rfl, fun w k hk => by omega⟩
  · rw [h2, nI_ltI (by omega) (by omega)] at c2
    rw [h4, nI_leI hM (by omega)] at c
    obtain rfl : fs = [] := List.eq_nil_of_length_eq_zero (by omega)
    refine hR (up2 I 18 4 (nI high)) ⟨fun k' k1 _ => up2_ne k1, fun j hj => up2_nej hj, fun j => by rw [up2_ne (by decide)], high, up2_at, by omega, Or.inr ((hhi high).mpr (Nat.le_refl _)), fun w hw => (hhi w).mp hw⟩
  · rw [h4, h5, nI_eq hM (by omega)] at c1
    have := hfl w hw
    omega
theorem c_spread {l : Launch} : ∀ r, r ≤ 10 → CX l (cdSp (r + 1)) (e_spread r)
  | 0, _ => by
    refine cm_sn RX5 (edSp 0) [e_twin, e_never] false kX5_spread (cwSp 1) (okSp 0 (by decide)) ⟨⟨_, rfl, c_twin⟩, ⟨_, rfl, c_never 0⟩, trivial⟩ (by decide) rfl (v_sp _ (by decide)) ?_
    intro um zm G Rt ⟨fs, i, s, high, L, M, Fl⟩ a I J Q cl hb hp hR
    exact spread_body (Or.inl ⟨rfl, rfl⟩) cl hp (fun I' h => hR _ _ _ _ ⟨rfl, rfl, rfl, h⟩)
  | r + 1, hr => by
    refine cm_sn RX5 (edSp (r + 1)) [e_twin, e_spread r] false kX5_spread (cwSp (r + 2)) (okSp (r + 1) (by omega)) ⟨⟨_, rfl, c_twin⟩, ⟨_, rfl, c_spread r (by omega)⟩, trivial⟩ (show plainName yX5_spread.cls = true by decide) rfl (v_sp _ (show 4 ≤ 5 by decide)) ?_
    intro um zm G Rt ⟨fs, i, s, high, L, M, Fl⟩ a I J Q cl hb hp hR
    exact spread_body (Or.inr ⟨r, rfl, rfl⟩) cl hp (fun I' h => hR _ _ _ _ ⟨rfl, rfl, rfl, h⟩)
abbrev x_lp : Type := List Nat × Nat
abbrev e_lp : x_lp → List Value := fun x => [.ref 18, .int (nI x.2)]
theorem v_lp (n : Nat) (h : 2 ≤ n) (x : x_lp) : okv (e_lp x) ∧ (lvA (e_lp x)).length ≤ n := ⟨okv_ref (okv_int okv_nil), h⟩
theorem sum_le_len {c : Nat} : ∀ (l : List Nat), (∀ x, x ∈ l → x ≤ c) → l.sum ≤ l.length * c
  | [], _ => by simp
  | x :: l, h => by
    have := sum_le_len l (fun y hy => h y (List.mem_cons_of_mem _ hy))
    have := h x List.mem_cons_self
    rw [List.sum_cons, List.length_cons, Nat.succ_mul]
    omega
/-- the least peak of the forces l with s steps -/
def lpN (l : List Nat) (s v : Nat) : Prop := canL s v l (fun _ => 0) ∧ ∀ w, canL s w l (fun _ => 0) → v ≤ w
def e_least : ev := (2, 5, false, 0, 0, sn e_lp (fun x _ I _ _ => prsOK I x.1 ∧ x.1 ≠ [] ∧ 1 ≤ x.2 ∧ x.2 ≤ 4) (fun x _ I J Q v I' J' Q' => J' = J ∧ Q' = Q ∧ (∀ k', k' ≠ 18 → k' ≠ 20 → I' k' = I k') ∧ ∃ p, v = some (.int (nI p)) ∧ p < 1000000 ∧ lpN x.1 x.2 p))
set_option maxRecDepth 20000 in
theorem c_least {l : Launch} : CX l cdX5_leastPeak e_least := by
  refine cm_sn RX5 edX5_leastPeak [e_within, e_spread 10] false kX5_leastPeak cwX5_leastPeak okX5_leastPeak ⟨⟨_, rfl, c_within⟩, ⟨_, rfl, c_spread 10 (by decide)⟩, trivial⟩ (by decide) rfl (v_lp _ (by decide)) ?_
  intro um zm G Rt ⟨l, s⟩ a I J Q cl hb hp hR
  obtain ⟨⟨h2, h19, h3, hl10, hx⟩, hne, hs1, hs4⟩ := hp
  have h2 : I 18 2 = nI l.length := h2
  have h19 : ∀ i, i < l.length → I 19 i = nI (l.getD i 0) := h19
  have h3 : I 18 3 = nI l.sum := h3
  have hl10 : l.length ≤ 10 := hl10
  have hx : ∀ x, x ∈ l → x ≤ 10000 := hx
  have hne : l ≠ [] := hne
  have hs1 : 1 ≤ s := hs1
  have hs4 : s ≤ 4 := hs4
  have hsum : l.sum ≤ 100000 := Nat.le_trans (sum_le_len l hx) (Nat.mul_le_mul_right 10000 hl10)
  obtain ⟨f, ft, hfl⟩ : ∃ f ft, l = f :: ft := by
    cases l with
    | nil => exact absurd rfl hne
    | cons f ft => exact ⟨f, ft, rfl⟩
  have hf10 : f ≤ 10000 := hx f (by rw [hfl]; exact List.mem_cons_self)
  have hex : canL s l.sum l (fun _ => 0) := by
    have := canL_ex (s := s) (by omega) l (fun _ => 0) 0 (fun j _ => Nat.le_refl _)
    rwa [Nat.zero_add] at this
  have fin : ∀ I', (∀ k', k' ≠ 20 → I' k' = I k') → (∀ j, j < 4 → I' 20 j = 0) → G 34 [some (.ref 18), some (.int (nI s)), some (.int (nI 4))] [] a I' J Q := by
    intro I' g1 g2
    have e0 : I' 19 0 = nI f := by
      rw [g1 19 (by decide), h19 0 (by rw [hfl]; simp), hfl]
      rfl
    have esum : (I' 18 3 + nI s - 1) / nI s = nI ((l.sum + s - 1) / s) := by
      rw [g1 18 (by decide), h3, nI_add, show (1 : Int32) = nI 1 from rfl, pk_sub (by omega), pk_div (by omega) (by omega) (by omega)]
    have hq : (l.sum + s - 1) / s ≤ 100003 := Nat.le_trans (Nat.div_le_self _ _) (by omega)
    have efl : (if I' 19 ((0 : Int32)).toNatClampNeg < (I' 18 3 + nI s - 1) / nI s then (I' 18 3 + nI s - 1) / nI s else I' 19 ((0 : Int32)).toNatClampNeg) = nI (max f ((l.sum + s - 1) / s)) := by
      rw [esum, show ((0 : Int32)).toNatClampNeg = 0 from rfl, e0]
      by_cases h : f < (l.sum + s - 1) / s
      · rw [if_pos (nI_lt h (by omega)), Nat.max_eq_right (by omega)]
      · rw [if_neg (nI_nlt (by omega) (by omega)), Nat.max_eq_left (by omega)]
    have hflo : ∀ w, canL s w l (fun _ => 0) → max f ((l.sum + s - 1) / s) ≤ w := fun w hw => by
      refine Nat.max_le.mpr ⟨canL_mem l _ hw f (by rw [hfl]; exact List.mem_cons_self), ?_⟩
      have h1 := canL_sum l _ hw
      have h0 : smN (fun _ => 0) s = 0 := by
        have := smN_le (L := fun _ => 0) (v := 0) s (fun _ _ => Nat.le_refl _)
        omega
      rw [h0, Nat.zero_add] at h1
      have h2 : l.sum + s - 1 < (w + 1) * s := by
        rw [Nat.succ_mul, Nat.mul_comm w s]
        omega
      exact Nat.le_of_lt_succ ((Nat.div_lt_iff_lt_mul (by omega)).mpr h2)
    refine cl [16, 34] 90 34 _ _ _ _ _ _ ?_
    refine And.intro (show vp_in 0 10 from vp_in_nI (n := 0) (by decide) (by decide)) (And.intro (nI_ne0 (by omega) (by omega)) ?_)
    refine Exists.intro (l, 0, s, 0, (fun _ => 0), 2147483647, max f ((l.sum + s - 1) / s)) (And.intro rfl (And.intro (show spPre 10 (up2 (up2 I' 18 5 (if I' 19 ((0 : Int32)).toNatClampNeg < (I' 18 3 + nI s - 1) / nI s then (I' 18 3 + nI s - 1) / nI s else I' 19 ((0 : Int32)).toNatClampNeg)) 18 4 2147483647) l 0 s 0 (fun _ => 0) 2147483647 (max f ((l.sum + s - 1) / s)) from ?_) ?_))
    · refine ⟨hl10, by omega, ⟨hs1, hs4⟩, fun k hk => ?_, ?_, fun j hj => ?_, fun j hj => ?_, ⟨up2_at, by decide⟩, ⟨?_, ?_⟩, fun v => ⟨fun _ => Nat.zero_le _, fun _ _ _ => Nat.zero_le _⟩, hflo⟩
      · rw [Nat.zero_add, up2_ne (by decide), up2_ne (by decide), g1 19 (by decide)]; exact h19 k hk
      · rw [Nat.zero_add, up2_nej (by decide), up2_nej (by decide), g1 18 (by decide)]; exact h2
      · rw [up2_ne (by decide), up2_ne (by decide)]; exact g2 j (by omega)
      · show 0 + l.sum ≤ 200000
        omega
      · rw [up2_nej (by decide), up2_at]; exact efl
      · exact Nat.max_le.mpr ⟨by omega, by omega⟩
    · rintro v I2 J2 Q2 ⟨rfl, rfl, rfl, p1, p2, p3, M2, q1, q2, q3, q4⟩
      have hM2 := q4 _ hex
      have := hR (some (.int (I2 18 4))) I2 J2 Q2 ⟨rfl, rfl, fun k' k1 k2 => by rw [p1 k' k1 k2, up2_ne k1, up2_ne k1]; exact g1 k' k2, M2, by rw [q1], by omega, ?_, q4⟩
      · exact this
      · rcases q3 with h | h
        · replace h : M2 = 2147483647 := h
          omega
        · exact h
  have loop : ∀ d j I', d + j = 4 → (∀ k', k' ≠ 20 → I' k' = I k') → (∀ i, i < j → I' 20 i = 0) → G 16 [some (.ref 18), some (.int (nI s)), some (.int (nI j))] [] a I' J Q := by
    intro d
    induction d with
    | zero =>
      intro j I' hd g1 g2
      obtain rfl : j = 4 := by omega
      refine cl [16, 34] 90 16 _ _ _ _ _ _ ?_
      exact And.intro (fun _ => fin I' g1 g2) (fun c => absurd (by decide) c)
    | succ d ih =>
      intro j I' hd g1 g2
      refine cl [16, 34] 90 16 _ _ _ _ _ _ ?_
      refine And.intro (fun c => absurd c (nI_ge (a := j) (b := 4) (by omega) (by decide))) (fun _ => And.intro (show vp_in (nI j) 4 from vp_in_nI (by omega) (by decide)) ?_)
      have := ih (j + 1) (up2 I' 20 (nI j).toNatClampNeg 0) (by omega) (fun k' hk' => by rw [up2_ne hk']; exact g1 k' hk') (fun i hi => ?_)
      · rw [← nI_1 j] at this
        exact this
      · rw [nI_clamp (by omega)]
        by_cases e : i = j
        · subst e; rw [up2_at]
        · rw [up2_nej e]; exact g2 i (by omega)
  refine cl [16, 34] 90 0 _ _ _ _ _ _ ?_
  refine Exists.intro (nI s, 1, 4) (And.intro rfl (And.intro trivial ?_))
  have hwi : wi (nI s) 1 4 = true := wi_in (nI_nlt (b := 1) hs1 (by omega)) (nI_nlt (a := 4) hs4 (by decide))
  refine And.intro (fun _ => ?_) (fun (c : bI (wi (nI s) 1 4) = 0) => absurd (by rw [hwi] at c; exact c) (by decide))
  exact loop 4 0 I rfl (fun _ _ => rfl) (fun i hi => by omega)
