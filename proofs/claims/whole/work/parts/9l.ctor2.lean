/-! the Layout's constructor -/
abbrev lyA (a : hA) : hA := hnew (hnew (hnew (hnew a 144 (11, 144)) 1 (3, 0)) 16 (11, 16)) 64 (12, 64)
abbrev lyI (I : hI) (n : Nat) : hI := zI0 (zI0 (zI0 (zI0 I n) (n + 1)) (n + 2)) (n + 3)
abbrev lyJ (J : hJ) (n : Nat) : hJ := zJ0 (zJ0 (zJ0 (zJ0 J n) (n + 1)) (n + 2)) (n + 3)
abbrev lyQ (Q : hQ) (k n : Nat) : hQ := up2 (zQ0 (up2 (up2 (zQ0 (zQ0 (up2 (zQ0 Q n) k 0 (some n)) (n + 1)) (n + 2)) (n + 1) 0 (some (n + 2))) k 1 (some (n + 1))) (n + 3)) k 2 (some (n + 3))
def e_layI : ev := (1, 99, true, 4, 225, sp e_ob (fun k a _ _ _ => isO0 a k 2) (fun k a I J Q v a' I' J' Q' => v = none ∧ a' = lyA a ∧ I' = lyI I a.1 ∧ Q' = lyQ Q k a.1 ∧ (∀ k', k' ≠ a.1 + 3 → J' k' = lyJ J a.1 k') ∧ ∀ p, 1 ≤ p → p < 64 → J' (a.1 + 3) p = lN (mulN p)))
set_option maxRecDepth 20000 in
theorem c_layI {l : Launch} : CM l tN qN 0 cdX2_init e_layI := by
  refine cm_spi RX2 edX2_init [e_nearI] false kX2_init cwX2_init okX2_init ⟨⟨_, rfl, c_nearI⟩, trivial⟩ (by decide) rfl rfl (v_ob _ (by decide)) ?_
  intro G Rt k a I J Q cl hb hp hR
  have ho : isO0 a k 2 := hp
  have ho1 := io_new (n := 144) (x := (11, 144)) ho
  have ho2 := io_new (n := 1) (x := (3, 0)) ho1
  have ho3 := io_new (n := 16) (x := (11, 16)) ho2
  have ho4 := io_new (n := 64) (x := (12, 64)) ho3
  have hk3 : k ≠ a.1 + 3 := by have := ho.1; omega
  have hm : isO0 (lyA a) (a.1 + 3) 12 := io_at (a := hnew (hnew (hnew a 144 (11, 144)) 1 (3, 0)) 16 (11, 16)) (n := 64) (y := 64)
  have hm64 : (tE tN (lyA a).2.2.2 (a.1 + 3)).2 = 64 := by
    show (va_up _ (a.1 + 3) (12, 64) (a.1 + 3)).2 = 64
    rw [vup_at]
  have hq : qE qN (lyQ Q k a.1) k 2 = some (a.1 + 3) := up2_at
  have hR : ∀ v a' I' J' Q', (v = none ∧ (a'.1, a.2.1 + 4, a.2.2.1 + 225, a'.2.2.2) = lyA a ∧ I' = lyI I a.1 ∧ Q' = lyQ Q k a.1 ∧ (∀ k', k' ≠ a.1 + 3 → J' k' = lyJ J a.1 k') ∧ ∀ p, 1 ≤ p → p < 64 → J' (a.1 + 3) p = lN (mulN p)) → Rt v a' I' J' Q' := hR
  have l2 : ∀ n d p (J' : hJ), 64 ≤ d + n → 1 ≤ p → p < 64 → d % p = 0 → p ≤ d → d < 64 + p → (∀ k', k' ≠ a.1 + 3 → J' k' = lyJ J a.1 k') → (∀ q, 1 ≤ q → q < p → J' (a.1 + 3) q = lN (mulN q)) → (∀ q, p < q → J' (a.1 + 3) q = 0) → J' (a.1 + 3) p = lN (mulL p d) → (∀ (v2 : Int32) (J' : hJ), (∀ k', k' ≠ a.1 + 3 → J' k' = lyJ J a.1 k') → (∀ q, 1 ≤ q → q < p + 1 → J' (a.1 + 3) q = lN (mulN q)) → (∀ q, p + 1 ≤ q → J' (a.1 + 3) q = 0) → G 34 [some (.ref k), some (.int (nI (p + 1))), some (.int v2)] [] (lyA a) (lyI I a.1) J' (lyQ Q k a.1)) → G 42 [some (.ref k), some (.int (nI p)), some (.int (nI d))] [] (lyA a) (lyI I a.1) J' (lyQ Q k a.1) := by
    intro n
    induction n with
    | zero =>
      intro d p J' hn hp1 hp2 hd hpd hdl h1 h2 h3 h4 hK
      refine cl [34, 42, 67] 90 42 _ _ _ _ _ _ ?_
      refine And.intro (fun _ => ?_) (fun (c : ¬ (63 : Int32) < nI d) => absurd (show (63 : Int32) < nI d from (nI_ltI (a := 63) (by decide) (by omega)).mpr (by omega)) c)
      refine cl [34, 42] 90 67 _ _ _ _ _ _ ?_
      have := hK (nI d) J' h1 (fun q q1 q2 => by
        by_cases e : q = p
        · subst e; rw [h4, mul_end hp1 hd hpd (by omega) hdl]
        · exact h2 q q1 (by omega)) (fun q q1 => h3 q (by omega))
      rw [← nI_1 p] at this
      exact this
    | succ n ih =>
      intro d p J' hn hp1 hp2 hd hpd hdl h1 h2 h3 h4 hK
      refine cl [34, 42, 67] 90 42 _ _ _ _ _ _ ?_
      refine And.intro (fun (c : (63 : Int32) < nI d) => ?_) (fun (c : ¬ (63 : Int32) < nI d) => ?_)
      · rw [show (63 : Int32) = nI 63 from rfl, nI_ltI (by decide) (by omega)] at c
        refine cl [34, 42] 90 67 _ _ _ _ _ _ ?_
        have := hK (nI d) J' h1 (fun q q1 q2 => by
          by_cases e : q = p
          · subst e; rw [h4, mul_end hp1 hd hpd (by omega) hdl]
          · exact h2 q q1 (by omega)) (fun q q1 => h3 q (by omega))
        rw [← nI_1 p] at this
        exact this
      · have c : d ≤ 63 := by
          rw [show (63 : Int32) = nI 63 from rfl, nI_ltI (by decide) (by omega)] at c
          omega
        have hin : vp_in (nI p) (tE tN (lyA a).2.2.2 (a.1 + 3)).2 := by rw [hm64]; exact vp_in_nI hp2 (by decide)
        have ecp : (nI p).toNatClampNeg = p := nI_clamp (by omega)
        refine gk0 ho4 ?_
        rw [hq]
        refine gk0 hm (And.intro hin (gk0 hm (And.intro hin ?_)))
        have hv : ∀ i, i = p → J' (a.1 + 3) i ||| ((1 : Int64) <<< ((nI d).toInt64 &&& 63)) = lN (mulL p (d + p)) := fun i hi => by
          rw [hi, h4, show (1 : Int64) = lN 1 from rfl, wb_shl 1 (by omega), Nat.one_mul, wb_or (mulL_lt p d (by omega)) (Nat.pow_lt_pow_right (by decide) (by omega)), mul_next hp1 hd hpd]
        have := ih (d + p) p (up2 J' (a.1 + 3) (nI p).toNatClampNeg (J' (a.1 + 3) (nI p).toNatClampNeg ||| ((1 : Int64) <<< ((nI d).toInt64 &&& 63)))) (by omega) hp1 hp2 (by rw [Nat.add_mod_right]; exact hd) (by omega) (by omega) (fun k' hk' => by rw [up2_ne hk']; exact h1 k' hk') (fun q q1 q2 => by rw [ecp, up2_nej (by omega)]; exact h2 q q1 q2) (fun q q1 => by rw [ecp, up2_nej (by omega)]; exact h3 q q1) (by rw [hv _ ecp, ecp, up2_at]) hK
        rw [← nI_add d p] at this
        exact this
  have l1 : ∀ n p (v2 : Option Value) (J' : hJ), n + p = 64 → 1 ≤ p → (∀ k', k' ≠ a.1 + 3 → J' k' = lyJ J a.1 k') → (∀ q, 1 ≤ q → q < p → J' (a.1 + 3) q = lN (mulN q)) → (∀ q, p ≤ q → J' (a.1 + 3) q = 0) → G 34 [some (.ref k), some (.int (nI p)), v2] [] (lyA a) (lyI I a.1) J' (lyQ Q k a.1) := by
    intro n
    induction n with
    | zero =>
      intro p v2 J' hn hp1 h1 h2 h3
      refine cl [34, 42, 67] 90 34 _ _ _ _ _ _ ?_
      obtain rfl : p = 64 := by omega
      refine And.intro (fun _ => ?_) (fun (c : ¬ (63 : Int32) < nI 64) => absurd (by decide) c)
      exact hR _ _ _ _ _ ⟨rfl, rfl, rfl, rfl, h1, h2⟩
    | succ n ih =>
      intro p v2 J' hn hp1 h1 h2 h3
      refine cl [34, 42, 67] 90 34 _ _ _ _ _ _ ?_
      refine And.intro (fun (c : (63 : Int32) < nI p) => absurd c (by rw [show (63 : Int32) = nI 63 from rfl, nI_ltI (by decide) (by omega)]; omega)) (fun _ => ?_)
      have := l2 64 p p J' (by omega) hp1 (by omega) (Nat.mod_self p) (Nat.le_refl _) (by omega) h1 h2 (fun q hq => h3 q (by omega)) (by rw [mul_first hp1, h3 p (Nat.le_refl _)]; rfl) (fun v2 J2 g1 g2 g3 => ih (p + 1) (some (.int v2)) J2 (by omega) (by omega) g1 g2 g3)
      exact this
  refine cl [34, 42, 67] 90 0 _ _ _ _ _ _ ?_
  refine And.intro ⟨rfl, fun _ => rfl⟩ (And.intro (rok_of ⟨ho.1, trivial⟩ (rs1 ho.1)) (And.intro ⟨(show a.2.1 + 1 ≤ a.2.1 + 4 by omega), (show a.2.2.1 + 144 ≤ a.2.2.1 + 225 by omega)⟩ ?_))
  refine pkr0 ho1 rfl rfl (Nat.lt_succ_self _) ?_
  refine And.intro ⟨rfl, fun _ => rfl⟩ (And.intro (rok_of ⟨ho1.1, trivial⟩ (rs1 ho1.1)) (And.intro ⟨(show a.2.1 + 1 + 1 ≤ a.2.1 + 4 by omega), (show a.2.2.1 + 144 + 1 ≤ a.2.2.1 + 225 by omega)⟩ ?_))
  refine msp rfl (show a.2.1 + 1 + 1 + 1 ≤ a.2.1 + 4 by omega) (show a.2.2.1 + 144 + 1 + 16 ≤ a.2.2.1 + 225 by omega) (And.intro (rok_of ⟨ho2.1, trivial⟩ (rs2 (Nat.lt_succ_self _) ho2.1)) ?_)
  refine Exists.intro (a.1 + 1) (And.intro rfl (And.intro io_at ?_))
  rintro v a' I' J' Q' ⟨rfl, rfl, rfl, rfl, rfl⟩
  refine pkr0 ho3 rfl rfl (show a.1 + 1 < a.1 + 1 + 1 + 1 by omega) ?_
  refine And.intro ⟨rfl, fun _ => rfl⟩ (And.intro (rok_of ⟨ho3.1, trivial⟩ (rs1 ho3.1)) (And.intro ⟨(show a.2.1 + 1 + 1 + 1 + 1 ≤ a.2.1 + 4 by omega), (show a.2.2.1 + 144 + 1 + 16 + 64 ≤ a.2.2.1 + 225 by omega)⟩ ?_))
  refine pkr0 ho4 rfl rfl (Nat.lt_succ_self _) ?_
  exact l1 63 1 none (lyJ J a.1) rfl (Nat.le_refl _) (fun _ _ => rfl) (fun q q1 q2 => by omega) (fun q _ => by rw [show lyJ J a.1 (a.1 + 3) = (fun _ => 0) from vup_at])
