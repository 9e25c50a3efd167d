/-! rows put together; the reference's piecesOf -/
theorem cfN_bit {f : Nat → Nat} (hf : ∀ y, f y < 256) : ∀ j, j ≤ 8 → ∀ i, i < 8 * j → (cfN f j).testBit i = (f (8 - j + i / 8)).testBit (i % 8)
  | 0, _, i, hi => by omega
  | j + 1, hj, i, hi => by
    have ih := cfN_bit hf j (by omega)
    show (cfN f j * 2 ^ 8 ||| f (7 - j)).testBit i = _
    rw [Nat.testBit_or, Nat.testBit_mul_two_pow]
    by_cases h8 : i < 8
    · rw [decide_eq_false (by omega), Bool.false_and, Bool.false_or, show 8 - (j + 1) + i / 8 = 7 - j by omega, show i % 8 = i by omega]
    · rw [decide_eq_true (by omega), Bool.true_and, ih (i - 8) (by omega), Nat.testBit_lt_two_pow (show f (7 - j) < 2 ^ i from Nat.lt_of_lt_of_le (hf _) (Nat.pow_le_pow_right (n := 2) (by decide) (show 8 ≤ i by omega))), Bool.or_false, show 8 - j + (i - 8) / 8 = 8 - (j + 1) + i / 8 by omega, show (i - 8) % 8 = i % 8 by omega]
def ofR (f : Nat → Nat) : Nat := cfN (fun y => f y % 256) 8
theorem ofR_lt (f : Nat → Nat) : ofR f < 2 ^ 64 := cfN_lt (f := fun y => f y % 256) (fun y => Nat.mod_lt _ (by decide)) 8
theorem ofR_bit {f : Nat → Nat} (hf : ∀ y, f y < 256) (i : Nat) : (ofR f).testBit i = (decide (i < 64) && (f (i / 8)).testBit (i % 8)) := by
  by_cases hi : i < 64
  · have := cfN_bit (f := fun y => f y % 256) (fun y => Nat.mod_lt _ (by decide)) 8 (Nat.le_refl _) i (by omega)
    rw [decide_eq_true hi, Bool.true_and]
    rw [show 8 - 8 + i / 8 = i / 8 by omega] at this
    unfold ofR
    rw [this]
    exact congrArg (fun z => z.testBit (i % 8)) (Nat.mod_eq_of_lt (hf _))
  · rw [decide_eq_false hi, Bool.false_and]
    cases h : (ofR f).testBit i with
    | false => rfl
    | true => have := bit_lt (ofR_lt f) h; omega
theorem ofR_row {f : Nat → Nat} (hf : ∀ y, f y < 256) {y : Nat} (hy : y < 8) : rowN (ofR f) y = f y := by
  apply Nat.eq_of_testBit_eq
  intro x
  rw [rowN_bit, ofR_bit hf]
  by_cases hx : x < 8
  · rw [decide_eq_true hx, decide_eq_true (by omega), Bool.true_and, Bool.true_and, show (8 * y + x) / 8 = y by omega, show (8 * y + x) % 8 = x by omega]
  · rw [decide_eq_false hx, Bool.false_and, Nat.testBit_lt_two_pow (Nat.lt_of_lt_of_le (hf y) (Nat.pow_le_pow_right (n := 2) (by decide) (show 8 ≤ x by omega)))]
/-- one row of T taken anew -/
def upR (T k v : Nat) : Nat := ofR (fun y => if y = k then v else rowN T y)
theorem upR_f {T k v : Nat} (hv : v < 256) (y : Nat) : (fun y => if y = k then v else rowN T y) y < 256 := by
  show (if y = k then v else rowN T y) < 256
  split
  · exact hv
  · exact rowN_lt T y
theorem upR_rw {I : hI} {T k v : Nat} {j : Nat} (hv : v < 256) (hk : k < 8) (h : rwA I j 0 T) : rwA (up2 I j k (nI v)) j 0 (upR T k v) := by
  intro y hy
  have := h y hy
  unfold upR
  rw [Nat.zero_add] at this ⊢
  rw [ofR_row (upR_f hv) hy]
  by_cases e : y = k
  · subst e; rw [up2_at, if_pos rfl]
  · rw [up2_nej e, if_neg e]; exact this
theorem upR_bit {T k v : Nat} (hT : T < 2 ^ 64) (hv : v < 256) (b : Nat) : (upR T k v).testBit b = if b / 8 = k then (decide (b < 64) && v.testBit (b % 8)) else T.testBit b := by
  unfold upR
  rw [ofR_bit (upR_f hv)]
  by_cases hb : b < 64
  · rw [decide_eq_true hb, Bool.true_and]
    by_cases e : b / 8 = k
    · rw [if_pos e, if_pos e, Bool.true_and]
    · rw [if_neg e, if_neg e, rowN_bit, decide_eq_true (by omega), Bool.true_and, show 8 * (b / 8) + b % 8 = b by omega]
  · rw [decide_eq_false hb, Bool.false_and]
    split
    · rw [Bool.false_and]
    · cases h : T.testBit b with
      | false => rfl
      | true => have := bit_lt hT h; omega
/-- a row widened, as the reference does it -/
def wdR (p T k : Nat) : Nat := (((rowN T k ||| rowN T k * 2 ^ 1) ||| rowN T k / 2 ^ 1) ||| (if 0 < k then rowN T (k - 1) else 0) ||| rowN T (k + 1)) &&& rowN p k
theorem wdR_lt (p T k : Nat) : wdR p T k < 256 := Nat.lt_of_le_of_lt Nat.and_le_right (rowN_lt p k)
theorem wdR_bit {p T k x : Nat} (hT : T < 2 ^ 64) (hk : k < 8) (hx : x < 8) : (wdR p T k).testBit x = true ↔ p.testBit (8 * k + x) = true ∧ (T.testBit (8 * k + x) = true ∨ ∃ z, T.testBit z = true ∧ nbr z (8 * k + x)) := by
  unfold wdR
  rw [Nat.testBit_and, Bool.and_eq_true, Nat.testBit_or, Nat.testBit_or, Nat.testBit_or, Nat.testBit_or, Nat.testBit_mul_two_pow, Nat.testBit_div_two_pow, rowN_bit p, rowN_bit T (k + 1), rowN_bit T k x, rowN_bit T k (x + 1)]
  simp only [Bool.or_eq_true, Bool.and_eq_true, decide_eq_true_iff]
  constructor
  · rintro ⟨h, _, hp⟩
    refine ⟨hp, ?_⟩
    rcases h with (((⟨_, h⟩ | ⟨h1, h⟩) | ⟨h1, h⟩) | h) | ⟨_, h⟩
    · exact Or.inl h
    · rw [rowN_bit, Bool.and_eq_true] at h
      exact Or.inr ⟨8 * k + (x - 1), h.2, Or.inr (Or.inr (Or.inl ⟨by omega, by omega⟩))⟩
    · exact Or.inr ⟨8 * k + (x + 1), h, Or.inr (Or.inr (Or.inr ⟨by omega, by omega⟩))⟩
    · split at h
      · rw [rowN_bit, Bool.and_eq_true] at h
        exact Or.inr ⟨8 * (k - 1) + x, h.2, Or.inl (by omega)⟩
      · rw [Nat.zero_testBit] at h; cases h
    · exact Or.inr ⟨8 * (k + 1) + x, h, Or.inr (Or.inl (by omega))⟩
  · rintro ⟨hp, h⟩
    refine ⟨?_, hx, hp⟩
    rcases h with h | ⟨z, h, hn⟩
    · exact Or.inl (Or.inl (Or.inl (Or.inl ⟨hx, h⟩)))
    · rcases hn with hn | hn | ⟨hn, hm⟩ | ⟨hn, hm⟩
      · left
        right
        rw [if_pos (by omega), rowN_bit, Bool.and_eq_true, decide_eq_true_iff]
        exact ⟨hx, by rw [show 8 * (k - 1) + x = z by omega]; exact h⟩
      · right
        exact ⟨hx, by rw [show 8 * (k + 1) + x = z by omega]; exact h⟩
      · left; left; left; right
        refine ⟨by omega, ?_⟩
        rw [rowN_bit, Bool.and_eq_true, decide_eq_true_iff]
        exact ⟨by omega, by rw [show 8 * k + (x - 1) = z by omega]; exact h⟩
      · left; left; right
        exact ⟨by omega, by rw [show 8 * k + (x + 1) = z by omega]; exact h⟩
theorem wup_bit {p T k : Nat} (hp : p < 2 ^ 64) (hT : T < 2 ^ 64) (hk : k < 8) (b : Nat) : (upR T k (wdR p T k)).testBit b = true ↔ (b / 8 = k ∧ p.testBit b = true ∧ (T.testBit b = true ∨ ∃ z, T.testBit z = true ∧ nbr z b)) ∨ (b / 8 ≠ k ∧ T.testBit b = true) := by
  rw [upR_bit hT (wdR_lt p T k)]
  split
  · rename_i e
    have e2 : 8 * k + b % 8 = b := by omega
    rw [decide_eq_true (by omega), Bool.true_and, wdR_bit hT hk (by omega), e2]
    constructor
    · intro h; exact Or.inl ⟨e, h⟩
    · rintro (h | h)
      · exact h.2
      · exact absurd e h.1
  · rename_i e
    constructor
    · intro h; exact Or.inr ⟨e, h⟩
    · rintro (h | h)
      · exact absurd h.1 e
      · exact h.2
theorem low32 : ∀ v, v < 256 → ∀ x, x < 8 → v.testBit x = true → (∀ i, i < x → v.testBit i = false) → nI v &&& -(nI v) = nI (2 ^ x) := by decide +kernel
theorem not32 {t p : Nat} (ht : t < 256) (hp : p < 256) : nI p &&& (nI t ^^^ (-1)) = nI (p &&& (t ^^^ 255)) := by
  rw [show (-1 : Int32) = nI (2 ^ 32 - 1) from rfl, nx_xor, fa_and]
  apply congrArg nI
  apply Nat.eq_of_testBit_eq
  intro i
  rw [Nat.testBit_and, Nat.testBit_and, Nat.testBit_xor, Nat.testBit_xor, Nat.testBit_two_pow_sub_one, show (255 : Nat) = 2 ^ 8 - 1 from rfl, Nat.testBit_two_pow_sub_one]
  by_cases h : i < 8
  · rw [decide_eq_true h, decide_eq_true (by omega)]
  · rw [Nat.testBit_lt_two_pow (Nat.lt_of_lt_of_le hp (Nat.pow_le_pow_right (n := 2) (by decide) (show 8 ≤ i by omega))), Bool.false_and, Bool.false_and]
/-- p without T -/
def mnR (p T : Nat) : Nat := ofR (fun y => rowN p y &&& (rowN T y ^^^ 255))
theorem mnR_f (p T y : Nat) : (fun y => rowN p y &&& (rowN T y ^^^ 255)) y < 256 := Nat.lt_of_le_of_lt Nat.and_le_left (rowN_lt p y)
theorem mnR_bit {p T : Nat} (hp : p < 2 ^ 64) (i : Nat) : (mnR p T).testBit i = (p.testBit i && !T.testBit i) := by
  unfold mnR
  rw [ofR_bit (mnR_f p T)]
  by_cases hi : i < 64
  · rw [decide_eq_true hi, Bool.true_and, Nat.testBit_and, Nat.testBit_xor, show (255 : Nat) = 2 ^ 8 - 1 from rfl, Nat.testBit_two_pow_sub_one, decide_eq_true (show i % 8 < 8 by omega), rowN_bit, rowN_bit, decide_eq_true (show i % 8 < 8 by omega), Bool.true_and, Bool.true_and, show 8 * (i / 8) + i % 8 = i by omega, Bool.xor_true]
  · rw [decide_eq_false hi, Bool.false_and]
    cases h : p.testBit i with
    | false => rfl
    | true => have := bit_lt hp h; omega
theorem isPc_in {c p b T : Nat} (hs : sbs p c) (hcl : clM c p) (h : isPc p b T) : isPc c b T :=
  ⟨h.1, fun x hx => hs x (h.2.1 x hx), fun x y hx hy hn => h.2.2.1 x y hx (hcl x y (h.2.1 x hx) hy hn) hn, fun S s1 s2 => h.2.2.2 S s1 (fun x y hx hy hn => s2 x y hx (hs y hy) hn)⟩
theorem nbr_sym {x y : Nat} (h : nbr x y) : nbr y x := by unfold nbr at h ⊢; omega
def e_piecesOf : ev := (2, 10, false, 0, 0, sn e_s1 (fun x _ I _ _ => x.1 < 12 ∧ x.2 < 2 ^ 64 ∧ rwA I 32 (8 * x.1) x.2) (fun x _ I J Q v I' J' Q' => J' = J ∧ Q' = Q ∧ fr I I' [35, 36] ∧ ∃ n, v = some (.int (nI n)) ∧ nPcs x.2 n x.2))
set_option maxRecDepth 20000 in
theorem c_piecesOf {l : Launch} : CX l cdX10_piecesOf e_piecesOf := by
  refine cm_sn RX10 edX10_piecesOf [] false kX10_piecesOf cwX10_piecesOf okX10_piecesOf trivial (by decide) rfl (v_s1 _ (by decide)) ?_
  intro um zm G Rt ⟨s, c⟩ a I J Q cl hb hp hR
  obtain ⟨hs, hc, hr⟩ := hp
  have hs : s < 12 := hs
  have hc : c < 2 ^ 64 := hc
  have hr : rwA I 32 (8 * s) c := hr
  have hR : ∀ v I' J' Q', (J' = J ∧ Q' = Q ∧ fr I I' [35, 36] ∧ ∃ n, v = some (Value.int (nI n)) ∧ nPcs c n c) → Rt v a I' J' Q' := hR
  have z0 : ∀ {I' : hI} {j T : Nat}, rwA I' j 0 T → ∀ y, y < 8 → I' j y = nI (rowN T y) := fun h y hy => by have := h y hy; rwa [Nat.zero_add] at this
  -- one pass over the rows
  have pass : ∀ d k T m n y (v6 : Option Value) I' p T0, d + k = 8 → p < 2 ^ 64 → T < 2 ^ 64 → T0 < 2 ^ 64 → fr I I' [35, 36] → rwA I' 35 0 p → rwA I' 36 0 T → sbs T p → (m = 0 ∧ T = T0 ∧ (∀ b, b / 8 < k → p.testBit b = true → (∃ z, T0.testBit z = true ∧ nbr z b) → T0.testBit b = true) ∨ m = 1 ∧ sbs T0 T ∧ T ≠ T0) → (∀ S, clM p S → sbs T0 S → sbs T S) →
      (∀ T2 m2 v5 v6 I2, T2 < 2 ^ 64 → fr I I2 [35, 36] → rwA I2 35 0 p → rwA I2 36 0 T2 → sbs T2 p → (m2 = 0 ∧ T2 = T0 ∧ (∀ b, p.testBit b = true → (∃ z, T0.testBit z = true ∧ nbr z b) → T0.testBit b = true) ∨ m2 = 1 ∧ sbs T0 T2 ∧ T2 ≠ T0) → (∀ S, clM p S → sbs T0 S → sbs T2 S) → G 100 [some (.ref 31), some (.int (nI s)), some (.int (nI n)), some (.int (nI y)), some (.int (nI m2)), v5, v6] [] a I2 J Q) →
      G 111 [some (.ref 31), some (.int (nI s)), some (.int (nI n)), some (.int (nI y)), some (.int (nI m)), some (.int (nI k)), v6] [] a I' J Q := by
    intro d
    induction d with
    | zero =>
      intro k T m n y v6 I' p T0 hd hp hT hT0 hf h35 h36 hTp hm hmin hK
      obtain rfl : k = 8 := by omega
      refine cl [2, 35, 41, 56, 100, 111, 163, 184, 218, 239, 242] 90 111 _ _ _ _ _ _ ?_
      refine And.intro (fun _ => ?_) (fun h => absurd (by decide) h)
      refine hK T m _ v6 I' hT hf h35 h36 hTp ?_ hmin
      rcases hm with ⟨h1, h2, h3⟩ | h
      · exact Or.inl ⟨h1, h2, fun b hb hz => h3 b (by have := bit_lt hp hb; omega) hb hz⟩
      · exact Or.inr h
    | succ d ih =>
      intro k T m n y v6 I' p T0 hd hp hT hT0 hf h35 h36 hTp hm hmin hK
      have hk : k < 8 := by omega
      have eck : (nI k).toNatClampNeg = k := nI_clamp (by omega)
      have hin : vp_in (nI k) 8 := vp_in_nI hk (by decide)
      have tk := z0 h36 k hk
      have pk := z0 h35 k hk
      have hub := wup_bit hp hT hk
      have hsup : sbs T (upR T k (wdR p T k)) := fun b hb' => by
        by_cases e : b / 8 = k
        · exact (hub b).mpr (Or.inl ⟨e, hTp b hb', Or.inl hb'⟩)
        · exact (hub b).mpr (Or.inr ⟨e, hb'⟩)
      have hul : upR T k (wdR p T k) < 2 ^ 64 := ofR_lt _
      have hrow : rowN (upR T k (wdR p T k)) k = wdR p T k := by
        unfold upR
        rw [ofR_row (upR_f (wdR_lt p T k)) hk, if_pos rfl]
      have hxy : wdR p T k = rowN T k → upR T k (wdR p T k) = T := fun he => by
        apply Nat.eq_of_testBit_eq
        intro b
        rw [upR_bit hT (wdR_lt p T k)]
        split
        · rename_i e
          rw [he, rowN_bit, decide_eq_true (by omega), decide_eq_true (by omega), Bool.true_and, Bool.true_and, ← e, show 8 * (b / 8) + b % 8 = b by omega]
        · rfl
      -- behind the comparison
      have g218 : ∀ m2, (m2 = 0 ∧ wdR p T k = rowN T k ∨ m2 = 1 ∧ wdR p T k ≠ rowN T k) → G 218 [some (.ref 31), some (.int (nI s)), some (.int (nI n)), some (.int (nI y)), some (.int (nI m)), some (.int (nI k)), some (.int (nI (wdR p T k)))] [.int (nI m2), .int (nI m)] a I' J Q := by
        intro m2 hm2
        refine cl [2, 35, 41, 56, 100, 111, 163, 184, 218, 239, 242] 90 218 _ _ _ _ _ _ ?_
        refine And.intro hin ?_
        have := ih (k + 1) (upR T k (wdR p T k)) (m ||| m2) n y (some (.int (nI (wdR p T k)))) (up2 I' 36 (nI k).toNatClampNeg (nI (wdR p T k))) p T0 (by omega) hp hul hT0 (fr_up hf (by decide)) (fun y hy => by rw [up2_ne (by decide)]; exact h35 y hy) (by rw [eck]; exact upR_rw (wdR_lt p T k) hk h36) (fun b hb' => by
          rcases (hub b).mp hb' with h | h
          · exact h.2.1
          · exact hTp b h.2) ?_ (fun S s1 s2 b hb' => by
          have hTS := hmin S s1 s2
          rcases (hub b).mp hb' with ⟨_, h2, h3⟩ | h
          · rcases h3 with h3 | ⟨z, h3, h4⟩
            · exact hTS b h3
            · exact s1 z b (hTS z h3) h2 h4
          · exact hTS b h.2) hK
        · rw [← nI_1 k, ← fa_or] at this
          exact this
        · rcases hm with ⟨m0, hT', hcl⟩ | ⟨m1, h2, h3⟩
          · rcases hm2 with ⟨q0, he⟩ | ⟨q1, he⟩
            · left
              have hsame := hxy he
              refine ⟨by rw [m0, q0]; rfl, by rw [hsame, hT'], fun b hbk hpb hz => ?_⟩
              by_cases e : b / 8 = k
              · have := (hub b).mpr (Or.inl ⟨e, hpb, Or.inr (by rw [hT']; exact hz)⟩)
                rw [hsame, hT'] at this
                exact this
              · exact hcl b (by omega) hpb hz
            · right
              refine ⟨by rw [m0, q1]; rfl, by rw [← hT']; exact hsup, fun e => he ?_⟩
              rw [← hrow, e, hT']
          · right
            refine ⟨by rcases hm2 with ⟨q, _⟩ | ⟨q, _⟩ <;> rw [m1, q] <;> rfl, fun b hb' => hsup b (h2 b hb'), fun e => h3 (sbs_anti (fun b hb' => by rw [← e]; exact hsup b hb') h2)⟩
      have g184 : ∀ (A w : Nat), A ||| w = ((rowN T k ||| rowN T k * 2 ^ 1) ||| rowN T k / 2 ^ 1) ||| (if 0 < k then rowN T (k - 1) else 0) ||| rowN T (k + 1) → G 184 [some (.ref 31), some (.int (nI s)), some (.int (nI n)), some (.int (nI y)), some (.int (nI m)), some (.int (nI k)), v6] [.int (nI w), .int (nI A)] a I' J Q := by
        intro A w hA
        have ew : (nI A ||| nI w) &&& I' 35 (nI k).toNatClampNeg = nI (wdR p T k) := by
          rw [eck, pk, fa_or, fa_and, hA]
          rfl
        refine cl [2, 35, 41, 56, 100, 111, 163, 184, 218, 239, 242] 90 184 _ _ _ _ _ _ ?_
        refine And.intro hin (And.intro hin (And.intro (fun (h : (nI A ||| nI w) &&& I' 35 (nI k).toNatClampNeg = I' 36 (nI k).toNatClampNeg) => ?_) (fun (h : ¬ (nI A ||| nI w) &&& I' 35 (nI k).toNatClampNeg = I' 36 (nI k).toNatClampNeg) => ?_)))
        · rw [ew, eck, tk, nI_eq (Nat.lt_of_lt_of_le (wdR_lt p T k) (by decide)) rowN_small] at h
          have := g218 0 (Or.inl ⟨rfl, h⟩)
          rw [← ew] at this
          exact this
        · rw [ew, eck, tk, nI_eq (Nat.lt_of_lt_of_le (wdR_lt p T k) (by decide)) rowN_small] at h
          have := g218 1 (Or.inr ⟨rfl, h⟩)
          rw [← ew] at this
          exact this
      have g163 : ∀ (A u : Nat), A ||| u = ((rowN T k ||| rowN T k * 2 ^ 1) ||| rowN T k / 2 ^ 1) ||| (if 0 < k then rowN T (k - 1) else 0) → G 163 [some (.ref 31), some (.int (nI s)), some (.int (nI n)), some (.int (nI y)), some (.int (nI m)), some (.int (nI k)), v6] [.int (nI u), .int (nI A)] a I' J Q := by
        intro A u hA
        refine cl [2, 35, 41, 56, 100, 111, 163, 184, 218, 239, 242] 90 163 _ _ _ _ _ _ ?_
        refine And.intro (fun (h : 7 ≤ nI k) => ?_) (fun (h : ¬ 7 ≤ nI k) => ?_)
        · rw [show (7 : Int32) = nI 7 from rfl, nI_leI (by decide) (by omega)] at h
          have := g184 (A ||| u) 0 (by rw [hA, show rowN T (k + 1) = 0 from (row_zero hT).mpr (fun b hb' e => by have := bit_lt hT hb'; omega)])
          rw [← fa_or] at this
          exact this
        · rw [show (7 : Int32) = nI 7 from rfl, nI_leI (by decide) (by omega)] at h
          refine And.intro (show vp_in (nI k + 1) 8 from by rw [nI_1]; exact vp_in_nI (by omega) (by decide)) ?_
          have e1 : I' 36 (nI k + 1).toNatClampNeg = nI (rowN T (k + 1)) := by rw [nI_1, nI_clamp (by omega)]; exact z0 h36 (k + 1) (by omega)
          have := g184 (A ||| u) (rowN T (k + 1)) (by rw [hA])
          rw [← fa_or, ← e1] at this
          exact this
      have eA : (I' 36 (nI k).toNatClampNeg ||| (I' 36 (nI k).toNatClampNeg <<< ((1 : Int32) &&& 31))) ||| (I' 36 (nI k).toNatClampNeg >>> ((1 : Int32) &&& 31)) = nI ((rowN T k ||| rowN T k * 2 ^ 1) ||| rowN T k / 2 ^ 1) := by
        have := rowN_lt T k
        rw [eck, tk, show (1 : Int32) = nI 1 from rfl, shlN (by decide) (by omega), ishrN rowN_small (by decide), fa_or, fa_or]
      refine cl [2, 35, 41, 56, 100, 111, 163, 184, 218, 239, 242] 90 111 _ _ _ _ _ _ ?_
      refine And.intro (fun h => absurd h (nI_ge (a := k) (b := 8) (by omega) (by decide))) (fun _ => And.intro hin (And.intro hin (And.intro hin (And.intro (fun (h : nI k ≤ 0) => ?_) (fun (h : ¬ nI k ≤ 0) => ?_)))))
      · rw [show (0 : Int32) = nI 0 from rfl, nI_leI (by omega) (by decide)] at h
        have := g163 ((rowN T k ||| rowN T k * 2 ^ 1) ||| rowN T k / 2 ^ 1) 0 (by rw [if_neg (by omega)])
        rw [← eA] at this
        exact this
      · rw [show (0 : Int32) = nI 0 from rfl, nI_leI (by omega) (by decide)] at h
        have e1 : nI k - 1 = nI (k - 1) := pk_sub (b := 1) (by omega)
        refine And.intro (show vp_in (nI k - 1) 8 from by rw [e1]; exact vp_in_nI (by omega) (by decide)) ?_
        have e2 : I' 36 (nI k - 1).toNatClampNeg = nI (rowN T (k - 1)) := by rw [e1, nI_clamp (by omega)]; exact z0 h36 (k - 1) (by omega)
        have := g163 ((rowN T k ||| rowN T k * 2 ^ 1) ||| rowN T k / 2 ^ 1) (rowN T (k - 1)) (by rw [if_pos (by omega)])
        rw [← eA, ← e2] at this
        exact this
  -- the piece is grown until it stays
  have grow : ∀ d T n y (v5 v6 : Option Value) I' p b0, 64 ≤ d + fa_cnt (fun x => T.testBit x) 64 → p < 2 ^ 64 → T < 2 ^ 64 → fr I I' [35, 36] → rwA I' 35 0 p → rwA I' 36 0 T → sbs T p → T.testBit b0 = true → (∀ S, S.testBit b0 = true → clM p S → sbs T S) →
      (∀ T2 v4 v5 v6 I2, T2 < 2 ^ 64 → fr I I2 [35, 36] → rwA I2 35 0 p → rwA I2 36 0 T2 → isPc p b0 T2 → G 239 [some (.ref 31), some (.int (nI s)), some (.int (nI n)), some (.int (nI y)), some (.int v4), v5, v6] [] a I2 J Q) →
      G 100 [some (.ref 31), some (.int (nI s)), some (.int (nI n)), some (.int (nI y)), some (.int (nI 1)), v5, v6] [] a I' J Q := by
    intro d
    induction d with
    | zero =>
      intro T n y v5 v6 I' p b0 hd hp hT hf h35 h36 hTp hb0 hmin hK
      refine cl [2, 35, 41, 56, 100, 111, 163, 184, 218, 239, 242] 90 100 _ _ _ _ _ _ ?_
      refine And.intro (fun h => absurd h (by decide)) (fun _ => ?_)
      refine pass 8 0 T 0 n y v6 I' p T rfl hp hT hT hf h35 h36 hTp (Or.inl ⟨rfl, rfl, fun b hb' => by omega⟩) (fun S _ h => h) (fun T2 m2 v5 v6 I2 hT2 g1 g2 g3 g4 g5 g6 => ?_)
      rcases g5 with ⟨rfl, rfl, h3⟩ | ⟨rfl, h2, h3⟩
      · refine cl [2, 35, 41, 56, 100, 111, 163, 184, 218, 239, 242] 90 100 _ _ _ _ _ _ ?_
        refine And.intro (fun _ => ?_) (fun h => absurd (by decide) h)
        exact hK T2 _ v5 v6 I2 hT2 g1 g2 g3 ⟨hb0, g4, fun x y hx hy hn => h3 y hy ⟨x, hx, hn⟩, hmin⟩
      · exfalso
        refine h3 (sbs_anti (fun x hx => ?_) h2)
        exact cnt_full (p := fun x => T.testBit x) 64 (by omega) x (bit_lt hT2 hx)
    | succ d ih =>
      intro T n y v5 v6 I' p b0 hd hp hT hf h35 h36 hTp hb0 hmin hK
      refine cl [2, 35, 41, 56, 100, 111, 163, 184, 218, 239, 242] 90 100 _ _ _ _ _ _ ?_
      refine And.intro (fun h => absurd h (by decide)) (fun _ => ?_)
      refine pass 8 0 T 0 n y v6 I' p T rfl hp hT hT hf h35 h36 hTp (Or.inl ⟨rfl, rfl, fun b hb' => by omega⟩) (fun S _ h => h) (fun T2 m2 v5 v6 I2 hT2 g1 g2 g3 g4 g5 g6 => ?_)
      rcases g5 with ⟨rfl, rfl, h3⟩ | ⟨rfl, h2, h3⟩
      · refine cl [2, 35, 41, 56, 100, 111, 163, 184, 218, 239, 242] 90 100 _ _ _ _ _ _ ?_
        refine And.intro (fun _ => ?_) (fun h => absurd (by decide) h)
        exact hK T2 _ v5 v6 I2 hT2 g1 g2 g3 ⟨hb0, g4, fun x y hx hy hn => h3 y hy ⟨x, hx, hn⟩, hmin⟩
      · refine ih T2 n y v5 v6 I2 p b0 ?_ hp hT2 g1 g2 g3 g4 (h2 b0 hb0) (fun S s1 s2 => g6 S s2 (hmin S s1 s2)) hK
        have hex : ∃ i, i < 64 ∧ T.testBit i = false ∧ T2.testBit i = true := by
          apply Classical.byContradiction
          intro hn
          refine h3 (sbs_anti (fun x hx => ?_) h2)
          cases hq : T.testBit x with
          | true => rfl
          | false => exact absurd ⟨x, bit_lt hT2 hx, hq, hx⟩ hn
        have := cnt_strict (p := fun x => T.testBit x) (q := fun x => T2.testBit x) 64 (fun x _ hx => h2 x hx) hex
        omega
  -- what is left, without the piece
  have minus : ∀ d k n y (v4 : Int32) (v6 : Option Value) I' p T, d + k = 8 → p < 2 ^ 64 → T < 2 ^ 64 → fr I I' [35, 36] → rwA I' 36 0 T → (∀ j, j < k → I' 35 j = nI (rowN p j &&& (rowN T j ^^^ 255))) → (∀ j, k ≤ j → j < 8 → I' 35 j = nI (rowN p j)) → (∀ v5 v6 I2, fr I I2 [35, 36] → rwA I2 35 0 (mnR p T) → G 41 [some (.ref 31), some (.int (nI s)), some (.int (nI n)), some (.int (nI y)), some (.int v4), v5, v6] [] a I2 J Q) → G 242 [some (.ref 31), some (.int (nI s)), some (.int (nI n)), some (.int (nI y)), some (.int v4), some (.int (nI k)), v6] [] a I' J Q := by
    intro d
    induction d with
    | zero =>
      intro k n y v4 v6 I' p T hd hp hT hf h36 h1 h2 hK
      obtain rfl : k = 8 := by omega
      refine cl [2, 35, 41, 56, 100, 111, 163, 184, 218, 239, 242] 90 242 _ _ _ _ _ _ ?_
      refine And.intro (fun _ => ?_) (fun h => absurd (by decide) h)
      exact hK _ _ I' hf (fun y hy => by
        rw [Nat.zero_add, h1 y hy]
        unfold mnR
        rw [ofR_row (mnR_f p T) hy])
    | succ d ih =>
      intro k n y v4 v6 I' p T hd hp hT hf h36 h1 h2 hK
      have eck : (nI k).toNatClampNeg = k := nI_clamp (by omega)
      have hin : vp_in (nI k) 8 := vp_in_nI (by omega) (by decide)
      refine cl [2, 35, 41, 56, 100, 111, 163, 184, 218, 239, 242] 90 242 _ _ _ _ _ _ ?_
      refine And.intro (fun h => absurd h (nI_ge (a := k) (b := 8) (by omega) (by decide))) (fun _ => And.intro hin (And.intro hin (And.intro hin ?_)))
      have e1 : I' 35 (nI k).toNatClampNeg &&& (I' 36 (nI k).toNatClampNeg ^^^ (-1)) = nI (rowN p k &&& (rowN T k ^^^ 255)) := by
        rw [eck, h2 k (Nat.le_refl _) (by omega), z0 h36 k (by omega), not32 (rowN_lt T k) (rowN_lt p k)]
      have := ih (k + 1) n y v4 v6 (up2 I' 35 (nI k).toNatClampNeg (I' 35 (nI k).toNatClampNeg &&& (I' 36 (nI k).toNatClampNeg ^^^ (-1)))) p T (by omega) hp hT (fr_up hf (by decide)) (fun y hy => by rw [up2_ne (by decide)]; exact h36 y hy) (fun j hj => by
        rw [e1, eck]
        by_cases e : j = k
        · subst e; rw [up2_at]
        · rw [up2_nej e]; exact h1 j (by omega)) (fun j hj hj8 => by rw [eck, up2_nej (by omega)]; exact h2 j (by omega) hj8) hK
      rw [← nI_1 k] at this
      exact this
  have clear : ∀ d k n y (v5 v6 : Option Value) I' p, d + k = 8 → fr I I' [35, 36] → rwA I' 35 0 p → (∀ j, j < k → I' 36 j = 0) → (∀ v4 v5 v6 I2, fr I I2 [35, 36] → rwA I2 35 0 p → (∀ j, j < 8 → I2 36 j = 0) → G 77 [some (.ref 31), some (.int (nI s)), some (.int (nI n)), some (.int (nI y)), v4, v5, v6] [] a I2 J Q) → G 56 [some (.ref 31), some (.int (nI s)), some (.int (nI n)), some (.int (nI y)), some (.int (nI k)), v5, v6] [] a I' J Q := by
    intro d
    induction d with
    | zero =>
      intro k n y v5 v6 I' p hd hf h35 h36 hK
      obtain rfl : k = 8 := by omega
      refine cl [2, 35, 41, 56, 77, 100, 111, 163, 184, 218, 239, 242] 90 56 _ _ _ _ _ _ ?_
      exact And.intro (fun _ => hK _ _ _ I' hf h35 h36) (fun h => absurd (by decide) h)
    | succ d ih =>
      intro k n y v5 v6 I' p hd hf h35 h36 hK
      have eck : (nI k).toNatClampNeg = k := nI_clamp (by omega)
      refine cl [2, 35, 41, 56, 77, 100, 111, 163, 184, 218, 239, 242] 90 56 _ _ _ _ _ _ ?_
      refine And.intro (fun h => absurd h (nI_ge (a := k) (b := 8) (by omega) (by decide))) (fun _ => And.intro (show vp_in (nI k) 8 from vp_in_nI (by omega) (by decide)) ?_)
      have := ih (k + 1) n y v5 v6 (up2 I' 36 (nI k).toNatClampNeg 0) p (by omega) (fr_up hf (by decide)) (fun y hy => by rw [up2_ne (by decide)]; exact h35 y hy) (fun j hj => ?_) hK
      · rw [← nI_1 k] at this
        exact this
      · rw [eck]
        by_cases e : j = k
        · subst e; rw [up2_at]
        · rw [up2_nej e]; exact h36 j (by omega)
  -- all pieces
  have main : ∀ e n y (v4 v5 v6 : Option Value) I' p, e + y = 8 → p < 2 ^ 64 → fr I I' [35, 36] → rwA I' 35 0 p → sbs p c → clM c p → (∀ b, p.testBit b = true → y ≤ b / 8) → (∀ m, nPcs c m p → nPcs c (n + m) c) → G 35 [some (.ref 31), some (.int (nI s)), some (.int (nI n)), some (.int (nI y)), v4, v5, v6] [] a I' J Q := by
    intro e
    induction e with
    | zero =>
      intro n y v4 v5 v6 I' p he hp hf h35 hpc hcl hlow hK
      obtain rfl : y = 8 := by omega
      refine cl [2, 35, 41, 56, 77, 100, 111, 163, 184, 218, 239, 242] 90 35 _ _ _ _ _ _ ?_
      refine And.intro (fun _ => ?_) (fun h => absurd (by decide) h)
      refine hR _ _ _ _ ⟨rfl, rfl, hf, n, rfl, ?_⟩
      have := hK 0 (show p = 0 from Classical.byContradiction (fun hn => by
        obtain ⟨b, hb'⟩ := ex_bit hn
        have := hlow b hb'
        have := bit_lt hp hb'
        omega))
      rwa [Nat.add_zero] at this
    | succ e ihe =>
      have inner : ∀ d n y (v4 v5 v6 : Option Value) I' p, fa_cnt (fun x => p.testBit x) 64 ≤ d → e + 1 + y = 8 → p < 2 ^ 64 → fr I I' [35, 36] → rwA I' 35 0 p → sbs p c → clM c p → (∀ b, p.testBit b = true → y ≤ b / 8) → (∀ m, nPcs c m p → nPcs c (n + m) c) → G 41 [some (.ref 31), some (.int (nI s)), some (.int (nI n)), some (.int (nI y)), v4, v5, v6] [] a I' J Q := by
        intro d
        induction d with
        | zero =>
          intro n y v4 v5 v6 I' p hcnt he hp hf h35 hpc hcl hlow hK
          have hz : p = 0 := Classical.byContradiction (fun hn => by
            obtain ⟨b, hb'⟩ := ex_bit hn
            have := cnt_strict (p := fun _ => false) (q := fun x => p.testBit x) 64 (fun _ _ h => by cases h) ⟨b, bit_lt hp hb', rfl, hb'⟩
            omega)
          have e0 : I' 35 (nI y).toNatClampNeg = 0 := by
            rw [nI_clamp (by omega), z0 h35 y (by omega), (row_zero hp).mpr (fun b hb' => by rw [hz, Nat.zero_testBit] at hb'; cases hb')]
            rfl
          refine cl [2, 35, 56, 77, 100, 111, 163, 184, 218, 239, 242] 90 41 _ _ _ _ _ _ ?_
          refine And.intro (show vp_in (nI y) 8 from vp_in_nI (by omega) (by decide)) (And.intro (fun _ => ?_) (fun h => absurd e0 h))
          have := ihe n (y + 1) v4 v5 v6 I' p (by omega) hp hf h35 hpc hcl (fun b hb' => by rw [hz, Nat.zero_testBit] at hb'; cases hb') hK
          rw [← nI_1 y] at this
          exact this
        | succ d ihd =>
          intro n y v4 v5 v6 I' p hcnt he hp hf h35 hpc hcl hlow hK
          have hy : y < 8 := by omega
          have ecy : (nI y).toNatClampNeg = y := nI_clamp (by omega)
          have py := z0 h35 y hy
          have hin : vp_in (nI y) 8 := vp_in_nI hy (by decide)
          refine cl [2, 35, 56, 77, 100, 111, 163, 184, 218, 239, 242] 90 41 _ _ _ _ _ _ ?_
          refine And.intro hin (And.intro (fun (h : I' 35 (nI y).toNatClampNeg = 0) => ?_) (fun (h : ¬ I' 35 (nI y).toNatClampNeg = 0) => ?_))
          · rw [ecy, py, show (0 : Int32) = nI 0 from rfl, nI_eq rowN_small (by decide), row_zero hp] at h
            have := ihe n (y + 1) v4 v5 v6 I' p (by omega) hp hf h35 hpc hcl (fun b hb' => by have := h b hb'; have := hlow b hb'; omega) hK
            rw [← nI_1 y] at this
            exact this
          · rw [ecy, py, show (0 : Int32) = nI 0 from rfl, nI_eq rowN_small (by decide)] at h
            obtain ⟨x, hx1, hx2⟩ := pk_least (fun x => (rowN p y).testBit x = true) (ex_bit h)
            have hx8 : x < 8 := bit_lt (m := 8) (rowN_lt p y) hx1
            have hx2 : ∀ i, i < x → (rowN p y).testBit i = false := fun i hi => by
              cases hq : (rowN p y).testBit i with
              | false => rfl
              | true => exact absurd hq (hx2 i hi)
            have hb0 : p.testBit (8 * y + x) = true := by
              rw [rowN_bit, Bool.and_eq_true] at hx1
              exact hx1.2
            have hlow0 : ∀ i, i < 8 * y + x → p.testBit i = false := fun i hi => by
              cases hq : p.testBit i with
              | false => rfl
              | true =>
                have h1 := hlow i hq
                have h2 := hx2 (i - 8 * y) (by omega)
                rw [rowN_bit, decide_eq_true (by omega), Bool.true_and, show 8 * y + (i - 8 * y) = i by omega, hq] at h2
                cases h2
            have goal := clear 8 0 (n + 1) y v5 v6 I' p rfl hf h35 (fun j hj => by omega) (fun v4 v5 v6 I2 g1 g2 g3 => ?_)
            · rw [← nI_1 n] at goal
              exact goal
            have elow : I2 35 (nI y).toNatClampNeg &&& -(I2 35 (nI y).toNatClampNeg) = nI (2 ^ x) := by
              rw [ecy, z0 g2 y hy]
              exact low32 _ (rowN_lt p y) x hx8 hx1 hx2
            have h2x : (2 : Nat) ^ x < 256 := Nat.pow_lt_pow_right (a := 2) (n := 8) (by decide) hx8
            refine cl [2, 35, 56, 77, 100, 111, 163, 184, 218, 239, 242] 90 77 _ _ _ _ _ _ ?_
            refine And.intro hin (And.intro hin (And.intro hin ?_))
            have hTb : ∀ b, (upR 0 y (2 ^ x)).testBit b = true ↔ b = 8 * y + x := fun b => by
              rw [upR_bit (by decide) h2x, Nat.zero_testBit]
              split
              · rename_i eb
                rw [decide_eq_true (show b < 64 by omega), Bool.true_and, Nat.testBit_two_pow, decide_eq_true_iff]
                omega
              · exact ⟨fun h => (by cases h), fun h => by omega⟩
            have hTr : rwA (up2 I2 36 (nI y).toNatClampNeg (I2 35 (nI y).toNatClampNeg &&& -(I2 35 (nI y).toNatClampNeg))) 36 0 (upR 0 y (2 ^ x)) := by
              rw [elow, ecy]
              intro j hj
              rw [Nat.zero_add]
              unfold upR
              rw [ofR_row (upR_f h2x) hj]
              by_cases ej : j = y
              · subst ej; rw [up2_at, if_pos rfl]
              · rw [up2_nej ej, if_neg ej, g3 j hj, (row_zero (by decide)).mpr (fun b hb' => by rw [Nat.zero_testBit] at hb'; cases hb')]
                rfl
            have := grow 64 (upR 0 y (2 ^ x)) (n + 1) y v5 v6 (up2 I2 36 (nI y).toNatClampNeg (I2 35 (nI y).toNatClampNeg &&& -(I2 35 (nI y).toNatClampNeg))) p (8 * y + x) (by omega) hp (ofR_lt _) (fr_up g1 (by decide)) (fun y hy => by rw [up2_ne (by decide)]; exact g2 y hy) hTr (fun b hb' => by rw [(hTb b).mp hb']; exact hb0) ((hTb _).mpr rfl) (fun S s1 _ b hb' => by rw [(hTb b).mp hb']; exact s1) (fun T2 v4 v5 v6 I3 hT2 q1 q2 q3 q4 => ?_)
            · exact this
            · have hpc2 := isPc_in hpc hcl q4
              have hmb := mnR_bit (T := T2) hp
              refine cl [2, 35, 41, 56, 77, 100, 111, 163, 184, 218, 239, 242] 90 239 _ _ _ _ _ _ ?_
              refine minus 8 0 (n + 1) y v4 v6 I3 p T2 rfl hp hT2 q1 q3 (fun j hj => by omega) (fun j _ hj => z0 q2 j hj) (fun v5 v6 I4 r1 r2 => ?_)
              refine ihd (n + 1) y (some (.int v4)) v5 v6 I4 (mnR p T2) ?_ he (ofR_lt _) r1 r2 (fun z hz => ?_) (fun x' y' hx' hy' hn => ?_) (fun b hb' => ?_) (fun m hm => ?_)
              · have := cnt_strict (p := fun z => (mnR p T2).testBit z) (q := fun z => p.testBit z) 64 (fun z _ hz => by
                  simp only [hmb, Bool.and_eq_true] at hz
                  exact hz.1) ⟨8 * y + x, bit_lt hp hb0, by simp only [hmb, q4.1]; simp, hb0⟩
                omega
              · rw [hmb, Bool.and_eq_true] at hz
                exact hpc z hz.1
              · rw [hmb, Bool.and_eq_true, Bool.not_eq_true'] at hx'
                rw [hmb, Bool.and_eq_true, Bool.not_eq_true']
                refine ⟨hcl x' y' hx'.1 hy' hn, ?_⟩
                cases hT : T2.testBit y' with
                | false => rfl
                | true =>
                  have := q4.2.2.1 y' x' hT hx'.1 (nbr_sym hn)
                  rw [hx'.2] at this
                  cases this
              · rw [hmb, Bool.and_eq_true] at hb'
                exact hlow b hb'.1
              · have := hK (m + 1) ⟨8 * y + x, T2, mnR p T2, hb0, hlow0, hpc2, hmb, hm⟩
                rw [show n + 1 + m = n + (m + 1) by omega]
                exact this
      intro n y v4 v5 v6 I' p he hp hf h35 hpc hcl hlow hK
      refine cl [2, 35, 41, 56, 77, 100, 111, 163, 184, 218, 239, 242] 90 35 _ _ _ _ _ _ ?_
      refine And.intro (fun h => absurd h (nI_ge (a := y) (b := 8) (by omega) (by decide))) (fun _ => ?_)
      exact inner 64 n y v4 v5 v6 I' p (fa_cnt_le _ _) he hp hf h35 hpc hcl hlow hK
  have copy : ∀ d k I', d + k = 8 → fr I I' [35, 36] → (∀ j, j < k → I' 35 j = nI (rowN c j)) → G 2 [some (.ref 31), some (.int (nI s)), some (.int (nI k)), none, none, none, none] [] a I' J Q := by
    intro d
    induction d with
    | zero =>
      intro k I' hd hf h35
      obtain rfl : k = 8 := by omega
      refine cl [2, 35, 41, 56, 77, 100, 111, 163, 184, 218, 239, 242] 90 2 _ _ _ _ _ _ ?_
      refine And.intro (fun _ => ?_) (fun h => absurd (by decide) h)
      exact main 8 0 0 none none none I' c rfl hc hf (fun y hy => by rw [Nat.zero_add]; exact h35 y hy) (sbs_refl c) (fun _ y _ hy _ => hy) (fun b _ => Nat.zero_le _) (fun m hm => by rw [Nat.zero_add]; exact hm)
    | succ d ih =>
      intro k I' hd hf h35
      have eck : (nI k).toNatClampNeg = k := nI_clamp (by omega)
      have ei := rwIx (y := k) hs (by omega)
      have ev : I' 32 (8 * nI s + nI k).toNatClampNeg = nI (rowN c k) := by rw [ei, nI_clamp (by omega), hf 32 (by decide)]; exact hr k (by omega)
      refine cl [2, 35, 41, 56, 77, 100, 111, 163, 184, 218, 239, 242] 90 2 _ _ _ _ _ _ ?_
      refine And.intro (fun h => absurd h (nI_ge (a := k) (b := 8) (by omega) (by decide))) (fun _ => And.intro (show vp_in (8 * nI s + nI k) 96 from by rw [ei]; exact vp_in_nI (by omega) (by decide)) (And.intro (show vp_in (nI k) 8 from vp_in_nI (by omega) (by decide)) ?_))
      have := ih (k + 1) (up2 I' 35 (nI k).toNatClampNeg (I' 32 (8 * nI s + nI k).toNatClampNeg)) (by omega) (fr_up hf (by decide)) (fun j hj => ?_)
      · rw [← nI_1 k] at this
        exact this
      · rw [eck, ev]
        by_cases e : j = k
        · subst e; rw [up2_at]
        · rw [up2_nej e]; exact h35 j (by omega)
  refine cl [2, 35, 41, 56, 77, 100, 111, 163, 184, 218, 239, 242] 90 0 _ _ _ _ _ _ ?_
  exact copy 8 0 I rfl (fr_refl _ _) (fun j hj => by omega)
