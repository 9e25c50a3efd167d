/-! the reference's constructor -/
def moP (a : hA) (I : hI) (J : hJ) (Q : hQ) (a' : hA) (I' : hI) (J' : hJ) (Q' : hQ) : Prop := a'.1 = 60 ∧ (∀ k, k < 32 → I' k = I k ∧ J' k = J k ∧ a'.2.2.2 k = a.2.2.2 k) ∧ (∀ k, k < 31 → Q' k = Q k) ∧ (∀ p, p < 3 → I' 37 p = 0) ∧ (∀ p, I' 49 p = 0) ∧ (∀ b, b < 4 → I' 38 b = -9) ∧ (∀ j x, qL q31 j = some x → Q' 31 j = some x) ∧ ∀ k, 32 ≤ k → k < 60 → some (a'.2.2.2 k) = tX k
def e_moI : ev := (1, 99, true, 28, 5625, sp (fun _ : Unit => [.ref 31]) (fun _ a _ _ _ => a.1 = 32 ∧ a.2.2.2 31 = (10, 0)) (fun _ a I J Q v a' I' J' Q' => v = none ∧ (a'.2.1 = a.2.1 + 28 ∧ a'.2.2.1 = a.2.2.1 + 5625) ∧ moP a I J Q a' I' J' Q'))
theorem v_un31 (n : Nat) (h : 1 ≤ n) (x : Unit) : okv ([.ref 31] : List Value) ∧ (lvA [.ref 31]).length ≤ n := ⟨okv_ref okv_nil, h⟩
set_option maxRecDepth 40000 in
set_option maxHeartbeats 4000000 in
theorem c_moI {l : Launch} : CM l tN qN 0 cdX10_init e_moI := by
  refine cm_spi RX10 edX10_init [] false kX10_init cwX10_init okX10_init trivial (by decide) rfl rfl (v_un31 _ (by decide)) ?_
  intro G Rt x a I J Q cl hb hp hR
  obtain ⟨a1, u, z, t⟩ := a
  obtain ⟨h1, ht⟩ := hp
  have h1 : a1 = 32 := h1
  subst h1
  have ht : t 31 = (10, 0) := ht
  have hR : ∀ v a' I' J' Q', (v = none ∧ (u + 28 = u + 28 ∧ z + 5625 = z + 5625) ∧ moP (32, u, z, t) I J Q (a'.1, u + 28, z + 5625, a'.2.2.2) I' J' Q') → Rt v a' I' J' Q' := hR
  have o0 : isO0 (32, u, z, t) 31 10 := ⟨(show 31 < 32 by decide), (show (t 31).1 = 10 by rw [ht])⟩
  have o1 := io_new (n := 96) (x := (11, 96)) o0
  have o2 := io_new (n := 12) (x := (11, 12)) o1
  have o3 := io_new (n := 12) (x := (11, 12)) o2
  have o4 := io_new (n := 8) (x := (11, 8)) o3
  have o5 := io_new (n := 8) (x := (11, 8)) o4
  have o6 := io_new (n := 3) (x := (11, 3)) o5
  have o7 := io_new (n := 4) (x := (11, 4)) o6
  have o8 := io_new (n := 4) (x := (11, 4)) o7
  have o9 := io_new (n := 256) (x := (11, 256)) o8
  have o10 := io_new (n := 24) (x := (12, 24)) o9
  have o11 := io_new (n := 24) (x := (12, 24)) o10
  have o12 := io_new (n := 24) (x := (12, 24)) o11
  have o13 := io_new (n := 10) (x := (11, 10)) o12
  have o14 := io_new (n := 10) (x := (11, 10)) o13
  have o15 := io_new (n := 10) (x := (11, 10)) o14
  have o16 := io_new (n := 10) (x := (11, 10)) o15
  have o17 := io_new (n := 10) (x := (11, 10)) o16
  have o18 := io_new (n := 10) (x := (11, 10)) o17
  have o19 := io_new (n := 10) (x := (11, 10)) o18
  have o20 := io_new (n := 1024) (x := (11, 1024)) o19
  have o21 := io_new (n := 10) (x := (11, 10)) o20
  have o22 := io_new (n := 10) (x := (11, 10)) o21
  have o23 := io_new (n := 10) (x := (11, 10)) o22
  have o24 := io_new (n := 10) (x := (11, 10)) o23
  have o25 := io_new (n := 4) (x := (11, 4)) o24
  have o26 := io_new (n := 10) (x := (11, 10)) o25
  have o27 := io_new (n := 2001) (x := (11, 2001)) o26
  have o28 := io_new (n := 2001) (x := (11, 2001)) o27
  refine cl [] 400 0 _ _ _ _ _ _ ?_
  refine And.intro ⟨rfl, fun _ => rfl⟩ (And.intro (rok_of ⟨o0.1, trivial⟩ (rs1 o0.1)) (And.intro ⟨(show u + 0 + 1 ≤ u + 28 by omega), (show z + 0 + 96 ≤ z + 5625 by omega)⟩ ?_))
  refine pkr0 o1 rfl rfl (show 32 < 33 by decide) ?_
  refine And.intro ⟨rfl, fun _ => rfl⟩ (And.intro (rok_of ⟨o1.1, trivial⟩ (rs1 o1.1)) (And.intro ⟨(show u + 1 + 1 ≤ u + 28 by omega), (show z + 96 + 12 ≤ z + 5625 by omega)⟩ ?_))
  refine pkr0 o2 rfl rfl (show 33 < 34 by decide) ?_
  refine And.intro ⟨rfl, fun _ => rfl⟩ (And.intro (rok_of ⟨o2.1, trivial⟩ (rs1 o2.1)) (And.intro ⟨(show u + 2 + 1 ≤ u + 28 by omega), (show z + 108 + 12 ≤ z + 5625 by omega)⟩ ?_))
  refine pkr0 o3 rfl rfl (show 34 < 35 by decide) ?_
  refine And.intro ⟨rfl, fun _ => rfl⟩ (And.intro (rok_of ⟨o3.1, trivial⟩ (rs1 o3.1)) (And.intro ⟨(show u + 3 + 1 ≤ u + 28 by omega), (show z + 120 + 8 ≤ z + 5625 by omega)⟩ ?_))
  refine pkr0 o4 rfl rfl (show 35 < 36 by decide) ?_
  refine And.intro ⟨rfl, fun _ => rfl⟩ (And.intro (rok_of ⟨o4.1, trivial⟩ (rs1 o4.1)) (And.intro ⟨(show u + 4 + 1 ≤ u + 28 by omega), (show z + 128 + 8 ≤ z + 5625 by omega)⟩ ?_))
  refine pkr0 o5 rfl rfl (show 36 < 37 by decide) ?_
  refine And.intro ⟨rfl, fun _ => rfl⟩ (And.intro (rok_of ⟨o5.1, trivial⟩ (rs1 o5.1)) (And.intro ⟨(show u + 5 + 1 ≤ u + 28 by omega), (show z + 136 + 3 ≤ z + 5625 by omega)⟩ ?_))
  refine And.intro (show vp_in (0 : Int32) 3 from vp_in_nI (n := 0) (by decide) (by decide)) ?_
  refine And.intro (show vp_in (1 : Int32) 3 from vp_in_nI (n := 1) (by decide) (by decide)) ?_
  refine And.intro (show vp_in (2 : Int32) 3 from vp_in_nI (n := 2) (by decide) (by decide)) ?_
  refine pkr0 o6 rfl rfl (show 37 < 38 by decide) ?_
  refine And.intro ⟨rfl, fun _ => rfl⟩ (And.intro (rok_of ⟨o6.1, trivial⟩ (rs1 o6.1)) (And.intro ⟨(show u + 6 + 1 ≤ u + 28 by omega), (show z + 139 + 4 ≤ z + 5625 by omega)⟩ ?_))
  refine And.intro (show vp_in (0 : Int32) 4 from vp_in_nI (n := 0) (by decide) (by decide)) ?_
  refine And.intro (show vp_in (1 : Int32) 4 from vp_in_nI (n := 1) (by decide) (by decide)) ?_
  refine And.intro (show vp_in (2 : Int32) 4 from vp_in_nI (n := 2) (by decide) (by decide)) ?_
  refine And.intro (show vp_in (3 : Int32) 4 from vp_in_nI (n := 3) (by decide) (by decide)) ?_
  refine pkr0 o7 rfl rfl (show 38 < 39 by decide) ?_
  refine And.intro ⟨rfl, fun _ => rfl⟩ (And.intro (rok_of ⟨o7.1, trivial⟩ (rs1 o7.1)) (And.intro ⟨(show u + 7 + 1 ≤ u + 28 by omega), (show z + 143 + 4 ≤ z + 5625 by omega)⟩ ?_))
  refine pkr0 o8 rfl rfl (show 39 < 40 by decide) ?_
  refine And.intro ⟨rfl, fun _ => rfl⟩ (And.intro (rok_of ⟨o8.1, trivial⟩ (rs1 o8.1)) (And.intro ⟨(show u + 8 + 1 ≤ u + 28 by omega), (show z + 147 + 256 ≤ z + 5625 by omega)⟩ ?_))
  refine pkr0 o9 rfl rfl (show 40 < 41 by decide) ?_
  refine And.intro ⟨rfl, fun _ => rfl⟩ (And.intro (rok_of ⟨o9.1, trivial⟩ (rs1 o9.1)) (And.intro ⟨(show u + 9 + 1 ≤ u + 28 by omega), (show z + 403 + 24 ≤ z + 5625 by omega)⟩ ?_))
  refine pkr0 o10 rfl rfl (show 41 < 42 by decide) ?_
  refine And.intro ⟨rfl, fun _ => rfl⟩ (And.intro (rok_of ⟨o10.1, trivial⟩ (rs1 o10.1)) (And.intro ⟨(show u + 10 + 1 ≤ u + 28 by omega), (show z + 427 + 24 ≤ z + 5625 by omega)⟩ ?_))
  refine pkr0 o11 rfl rfl (show 42 < 43 by decide) ?_
  refine And.intro ⟨rfl, fun _ => rfl⟩ (And.intro (rok_of ⟨o11.1, trivial⟩ (rs1 o11.1)) (And.intro ⟨(show u + 11 + 1 ≤ u + 28 by omega), (show z + 451 + 24 ≤ z + 5625 by omega)⟩ ?_))
  refine pkr0 o12 rfl rfl (show 43 < 44 by decide) ?_
  refine And.intro ⟨rfl, fun _ => rfl⟩ (And.intro (rok_of ⟨o12.1, trivial⟩ (rs1 o12.1)) (And.intro ⟨(show u + 12 + 1 ≤ u + 28 by omega), (show z + 475 + 10 ≤ z + 5625 by omega)⟩ ?_))
  refine pkr0 o13 rfl rfl (show 44 < 45 by decide) ?_
  refine And.intro ⟨rfl, fun _ => rfl⟩ (And.intro (rok_of ⟨o13.1, trivial⟩ (rs1 o13.1)) (And.intro ⟨(show u + 13 + 1 ≤ u + 28 by omega), (show z + 485 + 10 ≤ z + 5625 by omega)⟩ ?_))
  refine pkr0 o14 rfl rfl (show 45 < 46 by decide) ?_
  refine And.intro ⟨rfl, fun _ => rfl⟩ (And.intro (rok_of ⟨o14.1, trivial⟩ (rs1 o14.1)) (And.intro ⟨(show u + 14 + 1 ≤ u + 28 by omega), (show z + 495 + 10 ≤ z + 5625 by omega)⟩ ?_))
  refine pkr0 o15 rfl rfl (show 46 < 47 by decide) ?_
  refine And.intro ⟨rfl, fun _ => rfl⟩ (And.intro (rok_of ⟨o15.1, trivial⟩ (rs1 o15.1)) (And.intro ⟨(show u + 15 + 1 ≤ u + 28 by omega), (show z + 505 + 10 ≤ z + 5625 by omega)⟩ ?_))
  refine pkr0 o16 rfl rfl (show 47 < 48 by decide) ?_
  refine And.intro ⟨rfl, fun _ => rfl⟩ (And.intro (rok_of ⟨o16.1, trivial⟩ (rs1 o16.1)) (And.intro ⟨(show u + 16 + 1 ≤ u + 28 by omega), (show z + 515 + 10 ≤ z + 5625 by omega)⟩ ?_))
  refine pkr0 o17 rfl rfl (show 48 < 49 by decide) ?_
  refine And.intro ⟨rfl, fun _ => rfl⟩ (And.intro (rok_of ⟨o17.1, trivial⟩ (rs1 o17.1)) (And.intro ⟨(show u + 17 + 1 ≤ u + 28 by omega), (show z + 525 + 10 ≤ z + 5625 by omega)⟩ ?_))
  refine pkr0 o18 rfl rfl (show 49 < 50 by decide) ?_
  refine And.intro ⟨rfl, fun _ => rfl⟩ (And.intro (rok_of ⟨o18.1, trivial⟩ (rs1 o18.1)) (And.intro ⟨(show u + 18 + 1 ≤ u + 28 by omega), (show z + 535 + 10 ≤ z + 5625 by omega)⟩ ?_))
  refine pkr0 o19 rfl rfl (show 50 < 51 by decide) ?_
  refine And.intro ⟨rfl, fun _ => rfl⟩ (And.intro (rok_of ⟨o19.1, trivial⟩ (rs1 o19.1)) (And.intro ⟨(show u + 19 + 1 ≤ u + 28 by omega), (show z + 545 + 1024 ≤ z + 5625 by omega)⟩ ?_))
  refine pkr0 o20 rfl rfl (show 51 < 52 by decide) ?_
  refine And.intro ⟨rfl, fun _ => rfl⟩ (And.intro (rok_of ⟨o20.1, trivial⟩ (rs1 o20.1)) (And.intro ⟨(show u + 20 + 1 ≤ u + 28 by omega), (show z + 1569 + 10 ≤ z + 5625 by omega)⟩ ?_))
  refine pkr0 o21 rfl rfl (show 52 < 53 by decide) ?_
  refine And.intro ⟨rfl, fun _ => rfl⟩ (And.intro (rok_of ⟨o21.1, trivial⟩ (rs1 o21.1)) (And.intro ⟨(show u + 21 + 1 ≤ u + 28 by omega), (show z + 1579 + 10 ≤ z + 5625 by omega)⟩ ?_))
  refine pkr0 o22 rfl rfl (show 53 < 54 by decide) ?_
  refine And.intro ⟨rfl, fun _ => rfl⟩ (And.intro (rok_of ⟨o22.1, trivial⟩ (rs1 o22.1)) (And.intro ⟨(show u + 22 + 1 ≤ u + 28 by omega), (show z + 1589 + 10 ≤ z + 5625 by omega)⟩ ?_))
  refine pkr0 o23 rfl rfl (show 54 < 55 by decide) ?_
  refine And.intro ⟨rfl, fun _ => rfl⟩ (And.intro (rok_of ⟨o23.1, trivial⟩ (rs1 o23.1)) (And.intro ⟨(show u + 23 + 1 ≤ u + 28 by omega), (show z + 1599 + 10 ≤ z + 5625 by omega)⟩ ?_))
  refine pkr0 o24 rfl rfl (show 55 < 56 by decide) ?_
  refine And.intro ⟨rfl, fun _ => rfl⟩ (And.intro (rok_of ⟨o24.1, trivial⟩ (rs1 o24.1)) (And.intro ⟨(show u + 24 + 1 ≤ u + 28 by omega), (show z + 1609 + 4 ≤ z + 5625 by omega)⟩ ?_))
  refine pkr0 o25 rfl rfl (show 56 < 57 by decide) ?_
  refine And.intro ⟨rfl, fun _ => rfl⟩ (And.intro (rok_of ⟨o25.1, trivial⟩ (rs1 o25.1)) (And.intro ⟨(show u + 25 + 1 ≤ u + 28 by omega), (show z + 1613 + 10 ≤ z + 5625 by omega)⟩ ?_))
  refine pkr0 o26 rfl rfl (show 57 < 58 by decide) ?_
  refine And.intro ⟨rfl, fun _ => rfl⟩ (And.intro (rok_of ⟨o26.1, trivial⟩ (rs1 o26.1)) (And.intro ⟨(show u + 26 + 1 ≤ u + 28 by omega), (show z + 1623 + 2001 ≤ z + 5625 by omega)⟩ ?_))
  refine pkr0 o27 rfl rfl (show 58 < 59 by decide) ?_
  refine And.intro ⟨rfl, fun _ => rfl⟩ (And.intro (rok_of ⟨o27.1, trivial⟩ (rs1 o27.1)) (And.intro ⟨(show u + 27 + 1 ≤ u + 28 by omega), (show z + 3624 + 2001 ≤ z + 5625 by omega)⟩ ?_))
  refine pkr0 o28 rfl rfl (show 59 < 60 by decide) ?_
  refine hR _ _ _ _ _ ⟨rfl, ⟨rfl, rfl⟩, rfl, fun k hk => ?_, fun k hk => ?_, fun p hp => ?_, fun _ => rfl, fun b hb => ?_, fun j x hx => ?_, fun k hk1 hk2 => ?_⟩
  · match k, hk with
    | 0, _ => exact ⟨rfl, rfl, rfl⟩
    | 1, _ => exact ⟨rfl, rfl, rfl⟩
    | 2, _ => exact ⟨rfl, rfl, rfl⟩
    | 3, _ => exact ⟨rfl, rfl, rfl⟩
    | 4, _ => exact ⟨rfl, rfl, rfl⟩
    | 5, _ => exact ⟨rfl, rfl, rfl⟩
    | 6, _ => exact ⟨rfl, rfl, rfl⟩
    | 7, _ => exact ⟨rfl, rfl, rfl⟩
    | 8, _ => exact ⟨rfl, rfl, rfl⟩
    | 9, _ => exact ⟨rfl, rfl, rfl⟩
    | 10, _ => exact ⟨rfl, rfl, rfl⟩
    | 11, _ => exact ⟨rfl, rfl, rfl⟩
    | 12, _ => exact ⟨rfl, rfl, rfl⟩
    | 13, _ => exact ⟨rfl, rfl, rfl⟩
    | 14, _ => exact ⟨rfl, rfl, rfl⟩
    | 15, _ => exact ⟨rfl, rfl, rfl⟩
    | 16, _ => exact ⟨rfl, rfl, rfl⟩
    | 17, _ => exact ⟨rfl, rfl, rfl⟩
    | 18, _ => exact ⟨rfl, rfl, rfl⟩
    | 19, _ => exact ⟨rfl, rfl, rfl⟩
    | 20, _ => exact ⟨rfl, rfl, rfl⟩
    | 21, _ => exact ⟨rfl, rfl, rfl⟩
    | 22, _ => exact ⟨rfl, rfl, rfl⟩
    | 23, _ => exact ⟨rfl, rfl, rfl⟩
    | 24, _ => exact ⟨rfl, rfl, rfl⟩
    | 25, _ => exact ⟨rfl, rfl, rfl⟩
    | 26, _ => exact ⟨rfl, rfl, rfl⟩
    | 27, _ => exact ⟨rfl, rfl, rfl⟩
    | 28, _ => exact ⟨rfl, rfl, rfl⟩
    | 29, _ => exact ⟨rfl, rfl, rfl⟩
    | 30, _ => exact ⟨rfl, rfl, rfl⟩
    | 31, _ => exact ⟨rfl, rfl, rfl⟩
    | k + 32, hk => exact absurd hk (by omega)
  · match k, hk with
    | 0, _ => rfl
    | 1, _ => rfl
    | 2, _ => rfl
    | 3, _ => rfl
    | 4, _ => rfl
    | 5, _ => rfl
    | 6, _ => rfl
    | 7, _ => rfl
    | 8, _ => rfl
    | 9, _ => rfl
    | 10, _ => rfl
    | 11, _ => rfl
    | 12, _ => rfl
    | 13, _ => rfl
    | 14, _ => rfl
    | 15, _ => rfl
    | 16, _ => rfl
    | 17, _ => rfl
    | 18, _ => rfl
    | 19, _ => rfl
    | 20, _ => rfl
    | 21, _ => rfl
    | 22, _ => rfl
    | 23, _ => rfl
    | 24, _ => rfl
    | 25, _ => rfl
    | 26, _ => rfl
    | 27, _ => rfl
    | 28, _ => rfl
    | 29, _ => rfl
    | 30, _ => rfl
    | k + 31, hk => exact absurd hk (by omega)
  · rcases (show p = 0 ∨ p = 1 ∨ p = 2 by omega) with rfl | rfl | rfl <;> rfl
  · rcases (show b = 0 ∨ b = 1 ∨ b = 2 ∨ b = 3 by omega) with rfl | rfl | rfl | rfl <;> rfl
  · exact qL_of (l := q31) j (fun i (hi : i < 38) => by rcases (show i = 0 ∨ i = 1 ∨ i = 2 ∨ i = 3 ∨ i = 4 ∨ i = 5 ∨ i = 6 ∨ i = 7 ∨ i = 8 ∨ i = 9 ∨ i = 10 ∨ i = 11 ∨ i = 12 ∨ i = 13 ∨ i = 14 ∨ i = 15 ∨ i = 16 ∨ i = 17 ∨ i = 18 ∨ i = 19 ∨ i = 20 ∨ i = 21 ∨ i = 22 ∨ i = 23 ∨ i = 24 ∨ i = 25 ∨ i = 26 ∨ i = 27 ∨ i = 28 ∨ i = 29 ∨ i = 30 ∨ i = 31 ∨ i = 32 ∨ i = 33 ∨ i = 34 ∨ i = 35 ∨ i = 36 ∨ i = 37 by omega) with rfl | rfl | rfl | rfl | rfl | rfl | rfl | rfl | rfl | rfl | rfl | rfl | rfl | rfl | rfl | rfl | rfl | rfl | rfl | rfl | rfl | rfl | rfl | rfl | rfl | rfl | rfl | rfl | rfl | rfl | rfl | rfl | rfl | rfl | rfl | rfl | rfl | rfl <;> first | exact Or.inr rfl | exact Or.inl rfl) hx
  · obtain ⟨m, rfl⟩ : ∃ m, k = m + 32 := ⟨k - 32, by omega⟩
    match m, hk2 with
    | 0, _ => rfl
    | 1, _ => rfl
    | 2, _ => rfl
    | 3, _ => rfl
    | 4, _ => rfl
    | 5, _ => rfl
    | 6, _ => rfl
    | 7, _ => rfl
    | 8, _ => rfl
    | 9, _ => rfl
    | 10, _ => rfl
    | 11, _ => rfl
    | 12, _ => rfl
    | 13, _ => rfl
    | 14, _ => rfl
    | 15, _ => rfl
    | 16, _ => rfl
    | 17, _ => rfl
    | 18, _ => rfl
    | 19, _ => rfl
    | 20, _ => rfl
    | 21, _ => rfl
    | 22, _ => rfl
    | 23, _ => rfl
    | 24, _ => rfl
    | 25, _ => rfl
    | 26, _ => rfl
    | 27, _ => rfl
    | m + 28, hk2 => exact absurd hk2 (by omega)
