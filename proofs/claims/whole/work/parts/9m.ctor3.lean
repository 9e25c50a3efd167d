/-! the class's constructor -/
def sdP (a : hA) (I : hI) (a' : hA) (I' : hI) (J' : hJ) (Q' : hQ) : Prop := a'.1 = 31 ∧ I' 0 = I 0 ∧ (∀ p, I' 5 p = 0) ∧ (∀ p, I' 7 p = 0) ∧ (∀ p, I' 13 p = 0) ∧ (∀ b, b < 4 → I' (shK b) 1 = -1) ∧ (∀ p, 1 ≤ p → p < 64 → J' 10 p = lN (mulN p)) ∧ (Q' 13 4 = some 16 ∧ Q' 13 5 = some 17) ∧ (∀ k j x, k < 31 → qX k j = some x → Q' k j = some x) ∧ ∀ k, k < 31 → some (a'.2.2.2 k) = tX k
def e_sdI : ev := (1, 99, true, 30, 5662, sp (fun _ : Unit => [.ref 0]) (fun _ a _ _ _ => a.1 = 1 ∧ a.2.2.2 0 = (9, 0)) (fun _ a I J Q v a' I' J' Q' => v = none ∧ (a'.2.1 = a.2.1 + 30 ∧ a'.2.2.1 = a.2.2.1 + 5662) ∧ sdP a I a' I' J' Q'))
theorem v_un (n : Nat) (h : 1 ≤ n) (x : Unit) : okv ([.ref 0] : List Value) ∧ (lvA [.ref 0]).length ≤ n := ⟨okv_ref okv_nil, h⟩
theorem qL_of {l : List Nat} {f : Nat → Option Nat} {x : Nat} (j : Nat) (h : ∀ i, i < l.length → l.getD i 0 = 0 ∨ f i = some (l.getD i 0)) (hx : qL l j = some x) : f j = some x := by
  unfold qL at hx
  by_cases hj : j < l.length
  · have e : l[j]? = some (l.getD j 0) := by
      rw [List.getElem?_eq_getElem hj]
      simp [hj]
    rw [e] at hx
    rcases h j hj with h0 | h0
    · rw [h0] at hx; cases hx
    · cases hz : l.getD j 0 with
      | zero => rw [hz] at hx; cases hx
      | succ y =>
        rw [hz] at hx h0
        cases hx
        exact h0
  · rw [List.getElem?_eq_none (by omega)] at hx
    cases hx
set_option maxRecDepth 40000 in
set_option maxHeartbeats 4000000 in
theorem c_sdI {l : Launch} : CM l tN qN 0 cdX9_init e_sdI := by
  refine cm_spi RX9 edX9_init [e_lawsI, e_layI, e_nearI, e_planI, e_pressI, e_coilI, e_sheetI] false kX9_init cwX9_init okX9_init ⟨⟨_, rfl, c_lawsI⟩, ⟨_, rfl, c_layI⟩, ⟨_, rfl, c_nearI⟩, ⟨_, rfl, c_planI⟩, ⟨_, rfl, c_pressI⟩, ⟨_, rfl, c_coilI⟩, ⟨_, rfl, c_sheetI⟩, trivial⟩ (by decide) rfl rfl (v_un _ (by decide)) ?_
  intro G Rt x a I J Q cl hb hp hR
  obtain ⟨a1, u, z, t⟩ := a
  obtain ⟨h1, ht⟩ := hp
  have h1 : a1 = 1 := h1
  subst h1
  have ht : t 0 = (9, 0) := ht
  have hR : ∀ v a' I' J' Q', (v = none ∧ (u + 30 = u + 30 ∧ z + 5662 = z + 5662) ∧ sdP (1, u, z, t) I (a'.1, u + 30, z + 5662, a'.2.2.2) I' J' Q') → Rt v a' I' J' Q' := hR
  have o0 : isO0 (1, u, z, t) 0 9 := ⟨(show 0 < 1 by decide), (show (t 0).1 = 9 by rw [ht])⟩
  have o1 := io_new (n := 12) (x := (14, 12)) o0
  have o2 := io_new (n := 10) (x := (13, 10)) o1
  have o3 := io_new (n := 4) (x := (15, 4)) o2
  have o4 := io_new (n := 1) (x := (1, 0)) o3
  have o5 := io_new (n := 10) (x := (11, 10)) o4
  have o6 := io_new (n := 3) (x := (2, 0)) o5
  have o7 := io_new (n := 144) (x := (11, 144)) o6
  have o8 := io_new (n := 1) (x := (3, 0)) o7
  have o9 := io_new (n := 16) (x := (11, 16)) o8
  have o10 := io_new (n := 64) (x := (12, 64)) o9
  have o11 := io_new (n := 1) (x := (3, 0)) o10
  have o12 := io_new (n := 16) (x := (11, 16)) o11
  have o13 := io_new (n := 8) (x := (4, 0)) o12
  have o14 := io_new (n := 10) (x := (11, 10)) o13
  have o15 := io_new (n := 1024) (x := (11, 1024)) o14
  have o16 := io_new (n := 1024) (x := (12, 1024)) o15
  have o17 := io_new (n := 1024) (x := (12, 1024)) o16
  have o18 := io_new (n := 6) (x := (5, 0)) o17
  have o19 := io_new (n := 10) (x := (11, 10)) o18
  have o20 := io_new (n := 4) (x := (11, 4)) o19
  have o21 := io_new (n := 1) (x := (0, 0)) o20
  have o22 := io_new (n := 2001) (x := (12, 2001)) o21
  have o23 := io_new (n := 3) (x := (8, 0)) o22
  have o24 := io_new (n := 64) (x := (11, 64)) o23
  have o25 := io_new (n := 3) (x := (8, 0)) o24
  have o26 := io_new (n := 64) (x := (11, 64)) o25
  have o27 := io_new (n := 3) (x := (8, 0)) o26
  have o28 := io_new (n := 64) (x := (11, 64)) o27
  have o29 := io_new (n := 3) (x := (8, 0)) o28
  have o30 := io_new (n := 64) (x := (11, 64)) o29
  refine cl [98] 120 0 _ _ _ _ _ _ ?_
  refine And.intro ⟨rfl, fun _ => rfl⟩ (And.intro (rok_of ⟨o0.1, trivial⟩ (rs1 o0.1)) (And.intro ⟨(show u + 0 + 1 ≤ u + 30 by omega), (show z + 0 + 12 ≤ z + 5662 by omega)⟩ ?_))
  refine pkr0 o1 rfl rfl (show 1 < 2 by decide) ?_
  refine And.intro ⟨rfl, fun _ => rfl⟩ (And.intro (rok_of ⟨o1.1, trivial⟩ (rs1 o1.1)) (And.intro ⟨(show u + 1 + 1 ≤ u + 30 by omega), (show z + 12 + 10 ≤ z + 5662 by omega)⟩ ?_))
  refine pkr0 o2 rfl rfl (show 2 < 3 by decide) ?_
  refine And.intro ⟨rfl, fun _ => rfl⟩ (And.intro (rok_of ⟨o2.1, trivial⟩ (rs1 o2.1)) (And.intro ⟨(show u + 2 + 1 ≤ u + 30 by omega), (show z + 22 + 4 ≤ z + 5662 by omega)⟩ ?_))
  refine pkr0 o3 rfl rfl (show 3 < 4 by decide) ?_
  refine And.intro ⟨rfl, fun _ => rfl⟩ (And.intro (rok_of ⟨o3.1, trivial⟩ (rs1 o3.1)) (And.intro ⟨(show u + 3 + 1 ≤ u + 30 by omega), (show z + 26 + 1 ≤ z + 5662 by omega)⟩ ?_))
  refine msp rfl (show u + 4 + 1 ≤ u + 30 by omega) (show z + 27 + 10 ≤ z + 5662 by omega) (And.intro (rok_of ⟨o4.1, trivial⟩ (rs2 (show 4 < 5 by decide) o4.1)) ?_)
  refine Exists.intro 4 (And.intro rfl (And.intro io_at ?_))
  rintro v a2 I2 J2 Q2 ⟨rfl, rfl, rfl, rfl, rfl⟩
  refine pkr0 o5 rfl rfl (show 4 < 6 by decide) ?_
  refine And.intro ⟨rfl, fun _ => rfl⟩ (And.intro (rok_of ⟨o5.1, trivial⟩ (rs1 o5.1)) (And.intro ⟨(show u + 5 + 1 ≤ u + 30 by omega), (show z + 37 + 3 ≤ z + 5662 by omega)⟩ ?_))
  refine msp rfl (show u + 6 + 4 ≤ u + 30 by omega) (show z + 40 + 225 ≤ z + 5662 by omega) (And.intro (rok_of ⟨o6.1, trivial⟩ (rs2 (show 6 < 7 by decide) o6.1)) ?_)
  refine Exists.intro 6 (And.intro rfl (And.intro io_at ?_))
  rintro v a2 I2 J2 Q2 ⟨rfl, rfl, rfl, rfl, hj1, hj2⟩
  have hj2 : ∀ p, 1 ≤ p → p < 64 → J2 10 p = lN (mulN p) := hj2
  refine pkr0 o10 rfl rfl (show 6 < 11 by decide) ?_
  refine And.intro ⟨rfl, fun _ => rfl⟩ (And.intro (rok_of ⟨o10.1, trivial⟩ (rs1 o10.1)) (And.intro ⟨(show u + 10 + 1 ≤ u + 30 by omega), (show z + 265 + 1 ≤ z + 5662 by omega)⟩ ?_))
  refine msp rfl (show u + 11 + 1 ≤ u + 30 by omega) (show z + 266 + 16 ≤ z + 5662 by omega) (And.intro (rok_of ⟨o11.1, trivial⟩ (rs2 (show 11 < 12 by decide) o11.1)) ?_)
  refine Exists.intro 11 (And.intro rfl (And.intro io_at ?_))
  rintro v a2 I2 J2 Q2 ⟨rfl, rfl, rfl, rfl, rfl⟩
  refine pkr0 o12 rfl rfl (show 11 < 13 by decide) ?_
  refine And.intro ⟨rfl, fun _ => rfl⟩ (And.intro (rok_of ⟨o12.1, trivial⟩ (rs1 o12.1)) (And.intro ⟨(show u + 12 + 1 ≤ u + 30 by omega), (show z + 282 + 8 ≤ z + 5662 by omega)⟩ ?_))
  refine msp rfl (show u + 13 + 4 ≤ u + 30 by omega) (show z + 290 + 3082 ≤ z + 5662 by omega) (And.intro (rok_of ⟨o13.1, trivial⟩ (rs2 (show 13 < 14 by decide) o13.1)) ?_)
  refine Exists.intro 13 (And.intro rfl (And.intro io_at ?_))
  rintro v a2 I2 J2 Q2 ⟨rfl, rfl, rfl, rfl, rfl⟩
  refine pkr0 o17 rfl rfl (show 13 < 18 by decide) ?_
  refine And.intro ⟨rfl, fun _ => rfl⟩ (And.intro (rok_of ⟨o17.1, trivial⟩ (rs1 o17.1)) (And.intro ⟨(show u + 17 + 1 ≤ u + 30 by omega), (show z + 3372 + 6 ≤ z + 5662 by omega)⟩ ?_))
  refine msp rfl (show u + 18 + 2 ≤ u + 30 by omega) (show z + 3378 + 14 ≤ z + 5662 by omega) (And.intro (rok_of ⟨o18.1, trivial⟩ (rs2 (show 18 < 19 by decide) o18.1)) ?_)
  refine Exists.intro 18 (And.intro rfl (And.intro io_at ?_))
  rintro v a2 I2 J2 Q2 ⟨rfl, rfl, rfl, rfl, rfl⟩
  refine pkr0 o20 rfl rfl (show 18 < 21 by decide) ?_
  refine And.intro ⟨rfl, fun _ => rfl⟩ (And.intro (rok_of ⟨o20.1, trivial⟩ (rs1 o20.1)) (And.intro ⟨(show u + 20 + 1 ≤ u + 30 by omega), (show z + 3392 + 1 ≤ z + 5662 by omega)⟩ ?_))
  refine msp rfl (show u + 21 + 1 ≤ u + 30 by omega) (show z + 3393 + 2001 ≤ z + 5662 by omega) (And.intro (rok_of ⟨o21.1, trivial⟩ (rs2 (show 21 < 22 by decide) o21.1)) ?_)
  refine Exists.intro 21 (And.intro rfl (And.intro io_at ?_))
  rintro v a2 I2 J2 Q2 ⟨rfl, rfl, rfl, rfl, rfl⟩
  refine pkr0 o22 rfl rfl (show 21 < 23 by decide) ?_
  refine cl [98] 120 98 _ _ _ _ _ _ ?_
  refine And.intro (fun (c : (4 : Int32) ≤ 0) => absurd c (by decide)) (fun _ => ?_)
  refine gk0 o22 ?_
  refine And.intro ⟨rfl, fun _ => rfl⟩ (And.intro (rok_of ⟨o22.1, trivial, trivial⟩ (fun v hv => by (rcases List.mem_cons.mp hv with rfl | hv; trivial; exact rs1 (show 3 < 23 by decide) v hv))) (And.intro ⟨(show u + 22 + 1 ≤ u + 30 by omega), (show z + 5394 + 3 ≤ z + 5662 by omega)⟩ ?_))
  refine msp rfl (show u + 23 + 1 ≤ u + 30 by omega) (show z + 5397 + 64 ≤ z + 5662 by omega) (And.intro (rok_of ⟨o23.1, trivial, trivial⟩ (fun v hv => by (rcases List.mem_cons.mp hv with rfl | hv; exact (show 23 < 24 by decide); rcases List.mem_cons.mp hv with rfl | hv; trivial; exact rs1 (show 3 < 24 by decide) v hv))) ?_)
  refine Exists.intro 23 (And.intro rfl (And.intro io_at ?_))
  rintro v a2 I2 J2 Q2 ⟨rfl, rfl, rfl, rfl, rfl⟩
  refine And.intro (show vp_in (0 : Int32) 4 from vp_in_nI (n := 0) (by decide) (by decide)) (And.intro rfl ?_)
  refine cl [98] 120 98 _ _ _ _ _ _ ?_
  refine And.intro (fun (c : (4 : Int32) ≤ 0 + 1) => absurd c (by decide)) (fun _ => ?_)
  refine gk0 o24 ?_
  refine And.intro ⟨rfl, fun _ => rfl⟩ (And.intro (rok_of ⟨o24.1, trivial, trivial⟩ (fun v hv => by (rcases List.mem_cons.mp hv with rfl | hv; trivial; exact rs1 (show 3 < 25 by decide) v hv))) (And.intro ⟨(show u + 24 + 1 ≤ u + 30 by omega), (show z + 5461 + 3 ≤ z + 5662 by omega)⟩ ?_))
  refine msp rfl (show u + 25 + 1 ≤ u + 30 by omega) (show z + 5464 + 64 ≤ z + 5662 by omega) (And.intro (rok_of ⟨o25.1, trivial, trivial⟩ (fun v hv => by (rcases List.mem_cons.mp hv with rfl | hv; exact (show 25 < 26 by decide); rcases List.mem_cons.mp hv with rfl | hv; trivial; exact rs1 (show 3 < 26 by decide) v hv))) ?_)
  refine Exists.intro 25 (And.intro rfl (And.intro io_at ?_))
  rintro v a2 I2 J2 Q2 ⟨rfl, rfl, rfl, rfl, rfl⟩
  refine And.intro (show vp_in (0 + 1 : Int32) 4 from vp_in_nI (n := 1) (by decide) (by decide)) (And.intro rfl ?_)
  refine cl [98] 120 98 _ _ _ _ _ _ ?_
  refine And.intro (fun (c : (4 : Int32) ≤ 0 + 1 + 1) => absurd c (by decide)) (fun _ => ?_)
  refine gk0 o26 ?_
  refine And.intro ⟨rfl, fun _ => rfl⟩ (And.intro (rok_of ⟨o26.1, trivial, trivial⟩ (fun v hv => by (rcases List.mem_cons.mp hv with rfl | hv; trivial; exact rs1 (show 3 < 27 by decide) v hv))) (And.intro ⟨(show u + 26 + 1 ≤ u + 30 by omega), (show z + 5528 + 3 ≤ z + 5662 by omega)⟩ ?_))
  refine msp rfl (show u + 27 + 1 ≤ u + 30 by omega) (show z + 5531 + 64 ≤ z + 5662 by omega) (And.intro (rok_of ⟨o27.1, trivial, trivial⟩ (fun v hv => by (rcases List.mem_cons.mp hv with rfl | hv; exact (show 27 < 28 by decide); rcases List.mem_cons.mp hv with rfl | hv; trivial; exact rs1 (show 3 < 28 by decide) v hv))) ?_)
  refine Exists.intro 27 (And.intro rfl (And.intro io_at ?_))
  rintro v a2 I2 J2 Q2 ⟨rfl, rfl, rfl, rfl, rfl⟩
  refine And.intro (show vp_in (0 + 1 + 1 : Int32) 4 from vp_in_nI (n := 2) (by decide) (by decide)) (And.intro rfl ?_)
  refine cl [98] 120 98 _ _ _ _ _ _ ?_
  refine And.intro (fun (c : (4 : Int32) ≤ 0 + 1 + 1 + 1) => absurd c (by decide)) (fun _ => ?_)
  refine gk0 o28 ?_
  refine And.intro ⟨rfl, fun _ => rfl⟩ (And.intro (rok_of ⟨o28.1, trivial, trivial⟩ (fun v hv => by (rcases List.mem_cons.mp hv with rfl | hv; trivial; exact rs1 (show 3 < 29 by decide) v hv))) (And.intro ⟨(show u + 28 + 1 ≤ u + 30 by omega), (show z + 5595 + 3 ≤ z + 5662 by omega)⟩ ?_))
  refine msp rfl (show u + 29 + 1 ≤ u + 30 by omega) (show z + 5598 + 64 ≤ z + 5662 by omega) (And.intro (rok_of ⟨o29.1, trivial, trivial⟩ (fun v hv => by (rcases List.mem_cons.mp hv with rfl | hv; exact (show 29 < 30 by decide); rcases List.mem_cons.mp hv with rfl | hv; trivial; exact rs1 (show 3 < 30 by decide) v hv))) ?_)
  refine Exists.intro 29 (And.intro rfl (And.intro io_at ?_))
  rintro v a2 I2 J2 Q2 ⟨rfl, rfl, rfl, rfl, rfl⟩
  refine And.intro (show vp_in (0 + 1 + 1 + 1 : Int32) 4 from vp_in_nI (n := 3) (by decide) (by decide)) (And.intro rfl ?_)
  refine cl [] 120 98 _ _ _ _ _ _ ?_
  refine And.intro (fun _ => ?_) (fun (c : ¬ (4 : Int32) ≤ 0 + 1 + 1 + 1 + 1) => absurd (by decide) c)
  refine hR _ _ _ _ _ ⟨rfl, ⟨rfl, rfl⟩, rfl, rfl, fun _ => rfl, fun _ => rfl, fun _ => rfl, fun b hb => ?_, hj2, ⟨rfl, rfl⟩, fun k j x hk hx => ?_, fun k hk => ?_⟩
  · rcases (show b = 0 ∨ b = 1 ∨ b = 2 ∨ b = 3 by omega) with rfl | rfl | rfl | rfl <;> rfl
  · match k, hk, hx with
    | 0, _, hx => exact qL_of (l := [1, 2, 3, 4, 6, 11, 13, 18, 21]) j (fun i (hi : i < 9) => by rcases (show i = 0 ∨ i = 1 ∨ i = 2 ∨ i = 3 ∨ i = 4 ∨ i = 5 ∨ i = 6 ∨ i = 7 ∨ i = 8 by omega) with rfl | rfl | rfl | rfl | rfl | rfl | rfl | rfl | rfl <;> first | exact Or.inr rfl | exact Or.inl rfl) hx
    | 1, _, hx => cases hx
    | 2, _, hx => cases hx
    | 3, _, hx => exact qL_of (l := [23, 25, 27, 29]) j (fun i (hi : i < 4) => by rcases (show i = 0 ∨ i = 1 ∨ i = 2 ∨ i = 3 by omega) with rfl | rfl | rfl | rfl <;> first | exact Or.inr rfl | exact Or.inl rfl) hx
    | 4, _, hx => exact qL_of (l := [5]) j (fun i (hi : i < 1) => by (have e : i = 0 := (by omega)); subst e; exact Or.inr rfl) hx
    | 5, _, hx => cases hx
    | 6, _, hx => exact qL_of (l := [7, 8, 10]) j (fun i (hi : i < 3) => by rcases (show i = 0 ∨ i = 1 ∨ i = 2 by omega) with rfl | rfl | rfl <;> first | exact Or.inr rfl | exact Or.inl rfl) hx
    | 7, _, hx => cases hx
    | 8, _, hx => exact qL_of (l := [9]) j (fun i (hi : i < 1) => by (have e : i = 0 := (by omega)); subst e; exact Or.inr rfl) hx
    | 9, _, hx => cases hx
    | 10, _, hx => cases hx
    | 11, _, hx => exact qL_of (l := [12]) j (fun i (hi : i < 1) => by (have e : i = 0 := (by omega)); subst e; exact Or.inr rfl) hx
    | 12, _, hx => cases hx
    | 13, _, hx => exact qL_of (l := [0, 0, 14, 15]) j (fun i (hi : i < 4) => by rcases (show i = 0 ∨ i = 1 ∨ i = 2 ∨ i = 3 by omega) with rfl | rfl | rfl | rfl <;> first | exact Or.inr rfl | exact Or.inl rfl) hx
    | 14, _, hx => cases hx
    | 15, _, hx => cases hx
    | 16, _, hx => cases hx
    | 17, _, hx => cases hx
    | 18, _, hx => exact qL_of (l := [19, 20]) j (fun i (hi : i < 2) => by rcases (show i = 0 ∨ i = 1 by omega) with rfl | rfl <;> first | exact Or.inr rfl | exact Or.inl rfl) hx
    | 19, _, hx => cases hx
    | 20, _, hx => cases hx
    | 21, _, hx => exact qL_of (l := [22]) j (fun i (hi : i < 1) => by (have e : i = 0 := (by omega)); subst e; exact Or.inr rfl) hx
    | 22, _, hx => cases hx
    | 23, _, hx => exact qL_of (l := [24]) j (fun i (hi : i < 1) => by (have e : i = 0 := (by omega)); subst e; exact Or.inr rfl) hx
    | 24, _, hx => cases hx
    | 25, _, hx => exact qL_of (l := [26]) j (fun i (hi : i < 1) => by (have e : i = 0 := (by omega)); subst e; exact Or.inr rfl) hx
    | 26, _, hx => cases hx
    | 27, _, hx => exact qL_of (l := [28]) j (fun i (hi : i < 1) => by (have e : i = 0 := (by omega)); subst e; exact Or.inr rfl) hx
    | 28, _, hx => cases hx
    | 29, _, hx => exact qL_of (l := [30]) j (fun i (hi : i < 1) => by (have e : i = 0 := (by omega)); subst e; exact Or.inr rfl) hx
    | 30, _, hx => cases hx
    | k + 31, hk, _ => exact absurd hk (by omega)
  · match k, hk with
    | 0, _ => exact congrArg some ht
    | 1, _ => rfl
    | 2, _ => rfl
    | 3, _ => rfl
    | 4, _ => rfl
    | 5, _ => rfl
    | 6, _ => rfl
    | 7, _ => rfl
    | 8, _ => rfl
    | 9, _ => rfl
    | 10, _ => rfl
    | 11, _ => rfl
    | 12, _ => rfl
    | 13, _ => rfl
    | 14, _ => rfl
    | 15, _ => rfl
    | 16, _ => rfl
    | 17, _ => rfl
    | 18, _ => rfl
    | 19, _ => rfl
    | 20, _ => rfl
    | 21, _ => rfl
    | 22, _ => rfl
    | 23, _ => rfl
    | 24, _ => rfl
    | 25, _ => rfl
    | 26, _ => rfl
    | 27, _ => rfl
    | 28, _ => rfl
    | 29, _ => rfl
    | 30, _ => rfl
    | k + 31, hk => exact absurd hk (by omega)
