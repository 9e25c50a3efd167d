/-! Integer.bitCount of few bits; how many laws -/
def pop10 (n : Nat) : Nat := n % 2 + n / 2 % 2 + n / 4 % 2 + n / 8 % 2 + n / 16 % 2 + n / 32 % 2 + n / 64 % 2 + n / 128 % 2 + n / 256 % 2 + n / 512 % 2
def us (x s : Int32) : Int32 := (x.toUInt32 >>> (s.toUInt32 &&& Int32.toUInt32 31)).toInt32
def ib1 (x : Int32) : Int32 := x - (us x 1 &&& 1431655765)
def ib2 (x : Int32) : Int32 := (x &&& 858993459) + (us x 2 &&& 858993459)
def ib3 (x : Int32) : Int32 := (x + us x 4) &&& 252645135
def ib4 (s x : Int32) : Int32 := x + us x s
def ibc (x : Int32) : Int32 := ib4 16 (ib4 8 (ib3 (ib2 (ib1 x)))) &&& 63
set_option maxRecDepth 100000 in
theorem ibc_pop : ∀ n, n < 1024 → ibc (nI n) = nI (pop10 n) := by decide +kernel
abbrev e1n : Nat → List Value := fun n => [.int (nI n)]
theorem v1n (n : Nat) (h : 1 ≤ n) (x : Nat) : okv (e1n x) ∧ (lvA (e1n x)).length ≤ n := ⟨okv_int okv_nil, h⟩
def e_ibc : ev := (1, 99, false, 0, 0, sf e1n (fun n _ _ _ _ => n < 1024) (fun n _ _ _ _ => some (.int (nI (pop10 n)))))
set_option maxRecDepth 20000 in
theorem c_ibc {l : Launch} {tF : hTF} {qF : hQF} {base : Nat} : CM l tF qF base cdJ6_bitCount_0f7a4 e_ibc := by
  refine cm_sf RJ6 edJ6_bitCount_0f7a4 [] false kJ6_bitCount_0f7a4 cwJ6_bitCount_0f7a4 okJ6_bitCount_0f7a4 trivial pn_int rfl (v1n _ (by decide)) ?_
  intro um zm G Rt n a I J Q cl hb hp hR
  refine cl [] 60 0 _ _ _ _ _ _ ?_
  exact hR (some (.int (ibc (nI n)))) (by rw [ibc_pop n hp])
/-- how many laws -/
def lwc (B : Nat → Nat) : Nat → Nat
  | 0 => 0
  | b + 1 => lwc B b + pop10 (B b)
abbrev e_4 : (Nat → Nat) → List Value := fun _ => [.ref 4]
theorem v_4 (n : Nat) (h : 1 ≤ n) (x : Nat → Nat) : okv (e_4 x) ∧ (lvA (e_4 x)).length ≤ n := ⟨okv_ref okv_nil, h⟩
def e_count : ev := (1, 1, false, 0, 0, sf e_4 (fun B _ I _ _ => lawsOK I B) (fun B _ _ _ _ => some (.int (nI (lwc B 10)))))
set_option maxRecDepth 20000 in
theorem c_count {l : Launch} : CX l cdX1_count e_count := by
  refine cm_sf RX1 edX1_count [e_ibc] false kX1_count cwX1_count okX1_count ⟨⟨_, rfl, c_ibc⟩, trivial⟩ (by decide) rfl (v_4 _ (by decide)) ?_
  intro um zm G Rt B a I J Q cl hb hp hR
  have hp : lawsOK I B := hp
  have loop : ∀ j b, j + b = 10 → G 4 [some (.ref 4), some (.int (nI (lwc B b))), some (.int (nI b))] [] a I J Q := by
    intro j
    induction j with
    | zero =>
      intro b hj
      obtain rfl : b = 10 := by omega
      refine cl [4] 60 4 _ _ _ _ _ _ ?_
      exact And.intro (fun _ => hR _ rfl) (fun c => absurd (by decide) c)
    | succ j ih =>
      intro b hj
      refine cl [4] 60 4 _ _ _ _ _ _ ?_
      refine And.intro (fun c => absurd c (nI_ge (a := b) (b := 10) (by omega) (by decide))) (fun _ => And.intro (show vp_in (nI b) 10 from vp_in_nI (by omega) (by decide)) ?_)
      refine Exists.intro (B b) (And.intro (show [Value.int (I 5 (nI b).toNatClampNeg)] = [Value.int (nI (B b))] by rw [nI_clamp (by omega), (hp b (by omega)).1]) (And.intro (hp b (by omega)).2 ?_))
      have := ih (b + 1) (by omega)
      rw [← nI_1 b, show lwc B (b + 1) = lwc B b + pop10 (B b) from rfl, ← nI_add] at this
      exact this
  refine cl [4] 60 0 _ _ _ _ _ _ ?_
  exact loop 10 0 rfl
/-! Coil -/
theorem lg_lt0 {x y : Int64} : lg_cmp x y < 0 ↔ x < y := by
  unfold lg_cmp
  by_cases h1 : x > y
  · rw [if_pos h1]
    exact ⟨fun h => absurd h (by decide), fun h => absurd h (Int64.lt_asymm h1)⟩
  · rw [if_neg h1]
    by_cases h2 : x = y
    · rw [if_pos h2]
      exact ⟨fun h => absurd h (by decide), fun h => absurd h (by rw [h2]; exact Int64.lt_irrefl)⟩
    · rw [if_neg h2]
      refine ⟨fun _ => ?_, fun _ => by decide⟩
      rcases Int64.lt_or_le x y with h | h
      · exact h
      · exact absurd (Int64.le_antisymm (Int64.not_lt.mp h1) h) h2
/-- what of two prices is the lesser; none: there is none -/
def olt (a b : Option Nat) : Option Nat := match a, b with
  | none, b => b
  | a, none => a
  | some x, some y => if y < x then some y else some x
/-- a price as the class has it -/
def pI (a : Option Nat) : Int64 := match a with
  | none => -1
  | some x => lN x
theorem lN_ltI {x y : Nat} (hx : x < 2 ^ 62) (hy : y < 2 ^ 62) : lN x < lN y ↔ x < y := pk_lLT (by omega) (by omega)
theorem pI_neg : pI none < 0 := by decide
theorem lN_nn {x : Nat} (hx : x < 2 ^ 62) : ¬ lN x < 0 := by
  rw [show (0 : Int64) = lN 0 from rfl, lN_ltI hx (by decide)]
  omega
abbrev x_oo : Type := Option Nat × Option Nat
abbrev e_oo : x_oo → List Value := fun x => [.long (pI x.1), .long (pI x.2)]
theorem v_oo (n : Nat) (h : 4 ≤ n) (x : x_oo) : okv (e_oo x) ∧ (lvA (e_oo x)).length ≤ n := ⟨okv_long (okv_long okv_nil), h⟩
def ob (a : Option Nat) : Prop := ∀ x, a = some x → x < 2 ^ 62
def e_lesser : ev := (2, 99, false, 0, 0, sf e_oo (fun x _ _ _ _ => ob x.1 ∧ ob x.2) (fun x _ _ _ _ => some (.long (pI (olt x.1 x.2)))))
set_option maxRecDepth 20000 in
theorem c_lesser {l : Launch} {tF : hTF} {qF : hQF} {base : Nat} : CM l tF qF base cdX0_lesser e_lesser := by
  refine cm_sf RX0 edX0_lesser [] false kX0_lesser cwX0_lesser okX0_lesser trivial (by decide) rfl (v_oo _ (by decide)) ?_
  intro um zm G Rt ⟨u, v⟩ a I J Q cl hb hp hR
  obtain ⟨hu, hv⟩ := hp
  refine cl [] 60 0 _ _ _ _ _ _ ?_
  refine And.intro (fun (c : lg_cmp (pI u) 0 < 0) => ?_) (fun (c : ¬ lg_cmp (pI u) 0 < 0) => And.intro (fun (c2 : lg_cmp (pI v) 0 < 0) => ?_) (fun (c2 : ¬ lg_cmp (pI v) 0 < 0) => And.intro (fun (c3 : 0 ≤ lg_cmp (pI v) (pI u)) => ?_) (fun (c3 : ¬ 0 ≤ lg_cmp (pI v) (pI u)) => ?_)))
  · rw [lg_lt0] at c
    cases u with
    | none => exact hR _ (by cases v <;> rfl)
    | some x => exact absurd c (lN_nn (hu x rfl))
  · rw [lg_lt0] at c c2
    cases v with
    | none => exact hR _ (by cases u <;> rfl)
    | some y => exact absurd c2 (lN_nn (hv y rfl))
  · rw [lg_lt0] at c c2
    rw [lg_cmp_ge] at c3
    cases u with
    | none => exact absurd pI_neg c
    | some x =>
      cases v with
      | none => exact absurd pI_neg c2
      | some y =>
        have h3 : ¬ y < x := fun h => absurd ((lN_ltI (hv y rfl) (hu x rfl)).mpr h) (Int64.not_lt.mpr c3)
        refine hR _ ?_
        show some (Value.long (pI (some x))) = some (Value.long (pI (if y < x then some y else some x)))
        rw [if_neg h3]
  · rw [lg_lt0] at c c2
    rw [lg_cmp_ge, Int64.not_le] at c3
    cases u with
    | none => exact absurd pI_neg c
    | some x =>
      cases v with
      | none => exact absurd pI_neg c2
      | some y =>
        have h3 : y < x := (lN_ltI (hv y rfl) (hu x rfl)).mp c3
        refine hR _ ?_
        show some (Value.long (pI (some y))) = some (Value.long (pI (if y < x then some y else some x)))
        rw [if_pos h3]
