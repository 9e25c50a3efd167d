/-! a shape or a punch comes: the relation -/
def upf (f : Nat → Nat) (n v : Nat) : Nat → Nat := fun s => if s = n then v else f s
theorem upf_at {f : Nat → Nat} {n v : Nat} : upf f n v n = v := if_pos rfl
theorem upf_lt {f : Nat → Nat} {n v s : Nat} (h : s < n) : upf f n v s = f s := if_neg (by omega)
theorem fitP_cong {F C C' X X' Y Y' : Nat → Nat} {m g : Nat} (h : fitP F m C X Y g) (e : ∀ p, p < m → C' p = C p ∧ X' p = X p ∧ Y' p = Y p) : fitP F m C' X' Y' g := by
  intro p hp
  refine ⟨(h p hp).1, fun q => ?_⟩
  rw [(h p hp).2 q]
  obtain ⟨e1, e2, e3⟩ := e p hp
  constructor
  · rintro ⟨h1, h2, h3⟩
    obtain ⟨f1, f2, f3⟩ := e q h1
    refine ⟨h1, h2, ?_⟩
    unfold wal at h3 ⊢
    rw [e1, e2, e3, f1, f2, f3]
    exact h3
  · rintro ⟨h1, h2, h3⟩
    obtain ⟨f1, f2, f3⟩ := e q h1
    refine ⟨h1, h2, ?_⟩
    unfold wal at h3 ⊢
    rw [e1, e2, e3, f1, f2, f3] at h3
    exact h3
theorem rel_shape {a a2 : hA} {I I2 : hI} {J J2 : hJ} {Q Q2 : hQ} {n m wb mg wl kk c w h : Nat} {ks C W H kp S X Y T Kd B : Nat → Nat} (ha : 60 ≤ a.1) (hT : rT I2) (hr : rel a I J Q n m wb mg wl ks C W H kp S X Y T Kd B) (hn : n < 12) (g1 : a.1 ≤ a2.1) (g2 : ∀ k, k < a.1 → a2.2.2.2 k = a.2.2.2 k) (gI : ∀ k, k < a.1 → k ∉ [0, 31, 32, 33, 34, 35, 36] → I2 k = I k) (g0 : ∀ j, j ≠ 9 → j ≠ 14 → j ≠ 15 → I2 0 j = I 0 j) (g31 : ∀ j, j = 19 ∨ j = 25 → I2 31 j = I 31 j) (g32 : ∀ i, i < 8 * n → I2 32 i = I 32 i) (g33 : ∀ i, i < n → I2 33 i = I 33 i) (g34 : ∀ i, i < n → I2 34 i = I 34 i) (gJ : ∀ k, k < a.1 → J2 k = J k) (gQ : ∀ k, k < a.1 → k ≠ 1 → Q2 k = Q k) (gQ1 : ∀ j, j < n → Q2 1 j = Q 1 j) (b1 : I2 0 9 = nI (n + 1)) (b2 : I2 31 2 = nI (n + 1)) (b3 : Q2 1 n = some kk) (b4 : shw a2 I2 J2 kk c w h) (b5 : rsh I2 n c w h) (b6 : exS c w h) : relE a2 I2 J2 Q2 := by
  obtain ⟨⟨a1, a2', a3, a4⟩, ⟨⟨p1, p2, p3⟩, p4, p5⟩, ⟨l1, l2, l3, l4⟩, ⟨⟨r1, r2, r3⟩, ⟨r4, r5, r6⟩, r7, r8, r9⟩, ⟨k1, k2⟩, s, ⟨n1, n2⟩, mu⟩ := hr
  have e : ∀ k, k < 60 → k ∉ [0, 31, 32, 33, 34, 35, 36] → I2 k = I k := fun k hk h9 => gI k (by omega) h9
  have big : ∀ k, k < a.1 → 60 ≤ k → I2 k = I k := fun k h1 h2 => gI k h1 (by simp; omega)
  refine ⟨by omega, hT, n + 1, m, wb, mg, wl, upf ks n kk, upf C n c, upf W n w, upf H n h, kp, S, X, Y, T, Kd, B, ⟨b1, b2, by omega, fun t ht => ?_⟩, ⟨⟨by rw [g0 10 (by decide) (by decide) (by decide)]; exact p1, p2, fun p hp => ?_⟩, by rw [g31 19 (Or.inl rfl)]; exact p4, fun p hp => ?_⟩, ⟨fun p hp => ?_, fun p hp => ?_, l3, by rw [g31 25 (Or.inr rfl)]; exact l4⟩, ⟨⟨by rw [g0 11 (by decide) (by decide) (by decide)]; exact r1, by rw [e 37 (by decide) (by decide)]; exact r2, r3⟩, ⟨by rw [g0 12 (by decide) (by decide) (by decide)]; exact r4, by rw [e 37 (by decide) (by decide)]; exact r5, r6⟩, by rw [g0 13 (by decide) (by decide) (by decide)]; exact r7, by rw [e 37 (by decide) (by decide)]; exact r8, r9⟩, ⟨fun s t h1 h2 => ?_, fun s t h1 h2 h3 => ?_⟩, fun b hb => ?_, ⟨?_, ?_⟩, fun p h1 h2 => ?_⟩
  · by_cases ht' : t = n
    · subst ht'
      rw [upf_at, upf_at, upf_at, upf_at]
      exact ⟨b3, b4, b5, b6⟩
    · have ht' : t < n := by omega
      rw [upf_lt ht', upf_lt ht', upf_lt ht', upf_lt ht']
      obtain ⟨q1, q2, q3, q4⟩ := a4 t ht'
      have hk := shw_lt ha q2
      have := ob7_big q2.1.1
      obtain ⟨s1, s2, s3, s4, s5, s6⟩ := q3
      exact ⟨by rw [gQ1 t ht']; exact q1, shw_g ha q2 g1 (g2 _ hk) (big _ hk this) (gJ _ hk), ⟨s1, s2, fun y hy => by rw [g32 _ (by omega)]; exact s3 y hy, by rw [g33 t ht']; exact s4, by rw [g34 t ht']; exact s5, s6⟩, q4⟩
  · have hS := (p5 p hp).1
    show Q2 2 p = some (kp p) ∧ pnc a2 I2 J2 Q2 (kp p) (Kd p) (S p) (X p) (Y p) (T p) (upf ks n kk (S p)) (upf C n c (S p)) (upf W n w (S p)) (upf H n h (S p))
    rw [upf_lt hS, upf_lt hS, upf_lt hS, upf_lt hS]
    exact ⟨by rw [gQ 2 (by omega) (by decide)]; exact (p3 p hp).1, pnc_g ha (p3 p hp).2 g1 g2 big (fun k k1 _ => gJ k k1) (fun k k1 k2 => gQ k k1 (by omega))⟩
  · rw [e 44 (by decide) (by decide), e 45 (by decide) (by decide), e 46 (by decide) (by decide), e 47 (by decide) (by decide), e 48 (by decide) (by decide)]
    obtain ⟨h1, h2⟩ := p5 p hp
    exact ⟨by omega, h2⟩
  · rw [e 5 (by decide) (by decide)]; exact l1 p hp
  · rw [e 49 (by decide) (by decide)]; exact l2 p hp
  · rw [e 7 (by decide) (by decide)]
    by_cases hc : s < n ∧ t < n
    · rw [upf_lt hc.1, upf_lt hc.1, upf_lt hc.1, upf_lt hc.2, upf_lt hc.2, upf_lt hc.2]
      exact k1 s t hc.1 hc.2
    · exact Or.inl (k2 s t (by omega) (by omega) (by omega))
  · rw [e 7 (by decide) (by decide)]; exact k2 s t h1 h2 (by omega)
  · have s0 : 23 ≤ shK b ∧ shK b + 1 < 31 := by unfold shK; omega
    exact rSb_i (s b hb) (e _ (by omega) (by simp; omega)) (e _ (by omega) (by simp; omega)) (e 38 (by decide) (by decide)) (e 39 (by decide) (by decide)) (e 40 (by decide) (by decide))
  · obtain ⟨b, b1, b2⟩ := n1
    exact ⟨b, by rw [gQ 13 (by omega) (by decide)]; exact b1, by rw [gQ 13 (by omega) (by decide)]; exact b2⟩
  · rw [e 13 (by decide) (by decide)]
    rcases n2 with n2 | ⟨n2, F, K, g, q1, q2, q3, q4, q5, q6⟩
    · exact Or.inl n2
    · exact Or.inr ⟨n2, F, K, g, fitP_cong q1 (fun p hp => ⟨upf_lt (p5 p hp).1, rfl, rfl⟩), q2, q3, by rw [e 13 (by decide) (by decide)]; exact q4, by rw [e 13 (by decide) (by decide)]; exact q5, by rw [gJ 13 (by omega)]; exact q6⟩
  · rw [gJ 10 (by omega)]; exact mu p h1 h2
theorem rel_punch {a a2 : hA} {I I2 : hI} {J J2 : hJ} {Q Q2 : hQ} {n m wb mg wl kk s x y th kd : Nat} {ks C W H kp S X Y T Kd B : Nat → Nat} (ha : 60 ≤ a.1) (hT : rT I2) (hr : rel a I J Q n m wb mg wl ks C W H kp S X Y T Kd B) (hm : m < 10) (hs : s < n) (g1 : a.1 ≤ a2.1) (g2 : ∀ k, k < a.1 → a2.2.2.2 k = a.2.2.2 k) (gI : ∀ k, k < a.1 → k ∉ [0, 13, 31, 44, 45, 46, 47, 48] → I2 k = I k) (g0 : ∀ j, j ≠ 10 → j ≠ 14 → j ≠ 15 → I2 0 j = I 0 j) (g31 : ∀ j, j = 2 ∨ j = 25 → I2 31 j = I 31 j) (g44 : ∀ k i, 44 ≤ k → k ≤ 48 → i < m → I2 k i = I k i) (h13 : I2 13 0 = 0) (gJ : ∀ k, k < a.1 → J2 k = J k) (gQ : ∀ k, k < a.1 → k ≠ 2 → Q2 k = Q k) (gQ1 : ∀ j, j < m → Q2 2 j = Q 2 j) (b1 : I2 0 10 = nI (m + 1)) (b2 : I2 31 19 = nI (m + 1)) (b3 : Q2 2 m = some kk) (b4 : pnc a2 I2 J2 Q2 kk kd s x y th (ks s) (C s) (W s) (H s)) (c1 : I2 44 m = nI kd) (c2 : I2 45 m = nI s) (c3 : I2 46 m = nI x) (c4 : I2 47 m = nI y) (c5 : I2 48 m = nI th) : relE a2 I2 J2 Q2 := by
  obtain ⟨⟨a1, a2', a3, a4⟩, ⟨⟨p1, p2, p3⟩, p4, p5⟩, ⟨l1, l2, l3, l4⟩, ⟨⟨r1, r2, r3⟩, ⟨r4, r5, r6⟩, r7, r8, r9⟩, ⟨k1, k2⟩, sh, ⟨n1, n2⟩, mu⟩ := hr
  have e : ∀ k, k < 60 → k ∉ [0, 13, 31, 44, 45, 46, 47, 48] → I2 k = I k := fun k hk h9 => gI k (by omega) h9
  have big : ∀ k, k < a.1 → 60 ≤ k → I2 k = I k := fun k h1 h2 => gI k h1 (by simp; omega)
  refine ⟨by omega, hT, n, m + 1, wb, mg, wl, ks, C, W, H, upf kp m kk, upf S m s, upf X m x, upf Y m y, upf T m th, upf Kd m kd, B, ⟨by rw [g0 9 (by decide) (by decide) (by decide)]; exact a1, by rw [g31 2 (Or.inl rfl)]; exact a2', a3, fun t ht => ?_⟩, ⟨⟨b1, by omega, fun p hp => ?_⟩, b2, fun p hp => ?_⟩, ⟨fun p hp => ?_, fun p hp => ?_, ⟨fun p hp => Nat.lt_of_lt_of_le (l3.1 p hp) (Nat.pow_le_pow_right (by decide) (by omega)), fun p h1 h2 => l3.2.1 p (by omega) h2, l3.2.2⟩, by rw [g31 25 (Or.inr rfl)]; exact l4⟩, ⟨⟨by rw [g0 11 (by decide) (by decide) (by decide)]; exact r1, by rw [e 37 (by decide) (by decide)]; exact r2, r3⟩, ⟨by rw [g0 12 (by decide) (by decide) (by decide)]; exact r4, by rw [e 37 (by decide) (by decide)]; exact r5, r6⟩, by rw [g0 13 (by decide) (by decide) (by decide)]; exact r7, by rw [e 37 (by decide) (by decide)]; exact r8, r9⟩, ⟨fun s t h1 h2 => ?_, fun s t h1 h2 h3 => ?_⟩, fun b hb => ?_, ⟨?_, Or.inl h13⟩, fun p h1 h2 => ?_⟩
  · obtain ⟨q1, q2, q3, q4⟩ := a4 t ht
    have hk := shw_lt ha q2
    have := ob7_big q2.1.1
    exact ⟨by rw [gQ 1 (by omega) (by decide)]; exact q1, shw_g ha q2 g1 (g2 _ hk) (big _ hk this) (gJ _ hk), rsh_of3 q3 (e 32 (by decide) (by decide)) (e 33 (by decide) (by decide)) (e 34 (by decide) (by decide)), q4⟩
  · show Q2 2 p = some (upf kp m kk p) ∧ pnc a2 I2 J2 Q2 (upf kp m kk p) (upf Kd m kd p) (upf S m s p) (upf X m x p) (upf Y m y p) (upf T m th p) (ks (upf S m s p)) (C (upf S m s p)) (W (upf S m s p)) (H (upf S m s p))
    by_cases hp' : p = m
    · subst hp'
      rw [upf_at, upf_at, upf_at, upf_at, upf_at, upf_at]
      exact ⟨b3, b4⟩
    · have hp' : p < m := by omega
      rw [upf_lt hp', upf_lt hp', upf_lt hp', upf_lt hp', upf_lt hp', upf_lt hp']
      exact ⟨by rw [gQ1 p hp']; exact (p3 p hp').1, pnc_g ha (p3 p hp').2 g1 g2 big (fun k k1 _ => gJ k k1) (fun k k1 k2 => gQ k k1 (by omega))⟩
  · by_cases hp' : p = m
    · subst hp'
      rw [upf_at, upf_at, upf_at, upf_at, upf_at]
      exact ⟨hs, c1, c2, c3, c4, c5⟩
    · have hp' : p < m := by omega
      rw [upf_lt hp', upf_lt hp', upf_lt hp', upf_lt hp', upf_lt hp', g44 44 p (by decide) (by decide) hp', g44 45 p (by decide) (by decide) hp', g44 46 p (by decide) (by decide) hp', g44 47 p (by decide) (by decide) hp', g44 48 p (by decide) (by decide) hp']
      exact p5 p hp'
  · rw [e 5 (by decide) (by decide)]; exact l1 p hp
  · rw [e 49 (by decide) (by decide)]; exact l2 p hp
  · rw [e 7 (by decide) (by decide)]; exact k1 s t h1 h2
  · rw [e 7 (by decide) (by decide)]; exact k2 s t h1 h2 h3
  · have s0 : 23 ≤ shK b ∧ shK b + 1 < 31 := by unfold shK; omega
    exact rSb_i (sh b hb) (e _ (by omega) (by simp; omega)) (e _ (by omega) (by simp; omega)) (e 38 (by decide) (by decide)) (e 39 (by decide) (by decide)) (e 40 (by decide) (by decide))
  · obtain ⟨b, b1, b2⟩ := n1
    exact ⟨b, by rw [gQ 13 (by omega) (by decide)]; exact b1, by rw [gQ 13 (by omega) (by decide)]; exact b2⟩
  · rw [gJ 10 (by omega)]; exact mu p h1 h2
