/-! Int64 by its bits; PIECES -/
def lb (x : Int64) (i : Nat) : Bool := x.toBitVec.getLsbD i
theorem lb_ext {x y : Int64} (h : ∀ i, i < 64 → lb x i = lb y i) : x = y := Int64.toBitVec_inj.mp (BitVec.eq_of_getLsbD_eq (fun i hi => h i hi))
theorem lb_or (x y : Int64) (i : Nat) : lb (x ||| y) i = (lb x i || lb y i) := by unfold lb; rw [Int64.toBitVec_or, BitVec.getLsbD_or]
theorem lb_and (x y : Int64) (i : Nat) : lb (x &&& y) i = (lb x i && lb y i) := by unfold lb; rw [Int64.toBitVec_and, BitVec.getLsbD_and]
theorem lb_xor (x y : Int64) (i : Nat) : lb (x ^^^ y) i = (lb x i ^^ lb y i) := by unfold lb; rw [Int64.toBitVec_xor, BitVec.getLsbD_xor]
theorem lb_lN (n i : Nat) : lb (lN n) i = (decide (i < 64) && n.testBit i) := by
  show (BitVec.ofNat 64 n).getLsbD i = _
  rw [BitVec.getLsbD_ofNat]
theorem lb_uN (x : Int64) (i : Nat) : (uN x).testBit i = lb x i := rfl
theorem lb_big {x : Int64} {i : Nat} (h : 64 ≤ i) : lb x i = false := BitVec.getLsbD_of_ge _ _ h
theorem lN_uN (x : Int64) : lN (uN x) = x := lb_ext (fun i hi => by rw [lb_lN, lb_uN, decide_eq_true hi, Bool.true_and])
theorem uN_64 (x : Int64) : uN x < 2 ^ 64 := uN_lt x
theorem s_l64 : ∀ n, n < 64 → (((nI n).toInt64 &&& 63).toBitVec.smod 64).toNat = n := by decide +kernel
theorem lb_shl (n : Nat) (hn : n < 64) (x : Int64) {i : Nat} (hi : i < 64) : lb (x <<< ((nI n).toInt64 &&& 63)) i = (decide (n ≤ i) && lb x (i - n)) := by
  unfold lb
  rw [Int64.toBitVec_shiftLeft]
  show (x.toBitVec <<< (((nI n).toInt64 &&& 63).toBitVec.smod 64).toNat).getLsbD i = _
  rw [s_l64 n hn, BitVec.getLsbD_shiftLeft]
  rcases Nat.lt_or_ge i n with h | h
  · simp [h, Nat.not_le.mpr h]
  · simp [hi, h, Nat.not_lt.mpr h]
theorem lb_ushr (n : Nat) (hn : n < 64) (x : Int64) (i : Nat) : lb (x.toUInt64 >>> ((nI n).toInt64.toUInt64 &&& Int64.toUInt64 63)).toInt64 i = lb x (n + i) := by
  rw [← lb_uN, uN_sk x hn, Nat.testBit_div_two_pow, lb_uN]
  rw [Nat.add_comm]
theorem lb_m1 {i : Nat} (hi : i < 64) : lb (-1) i = true := (by decide +kernel : ∀ i, i < 64 → lb (-1) i = true) i hi
theorem lb_c7 {i : Nat} (hi : i < 64) : lb 9187201950435737471 i = decide (i % 8 ≠ 7) := (by decide +kernel : ∀ i, i < 64 → lb 9187201950435737471 i = decide (i % 8 ≠ 7)) i hi
theorem lb_c0 {i : Nat} (hi : i < 64) : lb (-72340172838076674) i = decide (i % 8 ≠ 0) := (by decide +kernel : ∀ i, i < 64 → lb (-72340172838076674) i = decide (i % 8 ≠ 0)) i hi
/-- the lowest bit, as Java has it -/
theorem low_bit {n b : Nat} (hn : n < 2 ^ 64) (hb : n.testBit b = true) (hl : ∀ i, i < b → n.testBit i = false) : lN n &&& -(lN n) = lN (2 ^ b) := by
  have hb64 : b < 64 := bit_lt hn hb
  have h0 : n % 2 ^ b = 0 := by
    apply Nat.eq_of_testBit_eq
    intro i
    rw [Nat.testBit_mod_two_pow, Nat.zero_testBit]
    by_cases h : i < b
    · rw [hl i h, Bool.and_false]
    · rw [decide_eq_false h, Bool.false_and]
  have h1 : n / 2 ^ b % 2 = 1 := by rw [bit_if, if_pos hb]
  have hpos : 0 < 2 ^ b := Nat.two_pow_pos b
  obtain ⟨q, hq⟩ : ∃ q, n / 2 ^ b = 2 * q + 1 := ⟨n / 2 ^ b / 2, by omega⟩
  have hn1 : n = 2 ^ (b + 1) * q + 2 ^ b := by
    have := Nat.div_add_mod n (2 ^ b)
    rw [h0, hq, Nat.add_zero] at this
    rw [← this, Nat.pow_succ, Nat.mul_add, Nat.mul_assoc, Nat.mul_one]
  have hlt : 2 ^ b < 2 ^ (b + 1) := Nat.pow_lt_pow_right (by decide) (by omega)
  have hneg : ∀ i, i < 64 → lb (-(lN n)) i = !(n - 1).testBit i := fun i hi => by
    have e : (-(lN n)).toBitVec.toNat = 2 ^ 64 - ((n - 1) + 1) := by
      rw [Int64.toBitVec_neg, BitVec.toNat_neg, lN_nat hn]
      have : 1 ≤ n := by omega
      rw [Nat.mod_eq_of_lt (by omega)]
      omega
    show (-(lN n)).toBitVec.toNat.testBit i = _
    rw [e, Nat.testBit_two_pow_sub_succ (by omega), decide_eq_true hi, Bool.true_and]
  have hm1 : n - 1 = 2 ^ (b + 1) * q + (2 ^ b - 1) := by omega
  apply lb_ext
  intro i hi
  rw [lb_and, lb_lN, hneg i hi, decide_eq_true hi, Bool.true_and, lb_lN, decide_eq_true hi, Bool.true_and, Nat.testBit_two_pow, hm1]
  rw [show n.testBit i = (2 ^ (b + 1) * q + 2 ^ b).testBit i by rw [← hn1]]
  rw [Nat.testBit_two_pow_mul_add q hlt, Nat.testBit_two_pow_mul_add q (show 2 ^ b - 1 < 2 ^ (b + 1) by omega)]
  by_cases hib : i < b + 1
  · rw [if_pos hib, if_pos hib, Nat.testBit_two_pow, Nat.testBit_two_pow_sub_one]
    by_cases e : b = i
    · subst e; simp
    · simp [e]
  · rw [if_neg hib, if_neg hib]
    have : ¬ b = i := by omega
    simp [this]
/-- cells side by side -/
def nbr (x y : Nat) : Prop := y = x + 8 ∨ x = y + 8 ∨ (y = x + 1 ∧ x % 8 ≠ 7) ∨ (x = y + 1 ∧ x % 8 ≠ 0)
/-- S takes in what of the mask is beside it -/
def clM (M S : Nat) : Prop := ∀ x y, S.testBit x = true → M.testBit y = true → nbr x y → S.testBit y = true
/-- the piece of b -/
def isPc (M b S : Nat) : Prop := S.testBit b = true ∧ sbs S M ∧ clM M S ∧ ∀ T, T.testBit b = true → clM M T → sbs S T
theorem isPc_one {M b S S' : Nat} (h : isPc M b S) (g : isPc M b S') : S = S' := sbs_anti (h.2.2.2 S' g.1 g.2.2.1) (g.2.2.2 S h.1 h.2.2.1)
/-- how many pieces are left -/
def nPcs (c : Nat) : Nat → Nat → Prop
  | 0, left => left = 0
  | n + 1, left => ∃ b S left', left.testBit b = true ∧ (∀ i, i < b → left.testBit i = false) ∧ isPc c b S ∧ (∀ i, left'.testBit i = (left.testBit i && !S.testBit i)) ∧ nPcs c n left'
theorem nPcs_one {c : Nat} : ∀ n m left, nPcs c n left → nPcs c m left → n = m
  | 0, 0, _, _, _ => rfl
  | 0, m + 1, left, h, ⟨b, _, _, hb, _⟩ => by
    rw [show left = 0 from h, Nat.zero_testBit] at hb
    cases hb
  | n + 1, 0, left, ⟨b, _, _, hb, _⟩, h => by
    rw [show left = 0 from h, Nat.zero_testBit] at hb
    cases hb
  | n + 1, m + 1, left, ⟨b, S, l, h1, h2, h3, h4, h5⟩, ⟨b', S', l', g1, g2, g3, g4, g5⟩ => by
    have e : b = b' := by
      rcases Nat.lt_trichotomy b b' with h | h | h
      · rw [g2 b h] at h1; cases h1
      · exact h
      · rw [h2 b' h] at g1; cases g1
    subst e
    have e2 := isPc_one h3 g3
    subst e2
    have e3 : l = l' := Nat.eq_of_testBit_eq (fun i => by rw [h4, g4])
    subst e3
    rw [nPcs_one n m l h5 g5]
/-- the class's widening -/
def wdr (p c : Int64) : Int64 := (p ||| (p <<< ((8 : Int32).toInt64 &&& 63)) ||| (p.toUInt64 >>> ((8 : Int32).toInt64.toUInt64 &&& Int64.toUInt64 63)).toInt64 ||| (((p &&& 9187201950435737471) <<< ((1 : Int32).toInt64 &&& 63)) ||| ((p &&& (-72340172838076674)).toUInt64 >>> ((1 : Int32).toInt64.toUInt64 &&& Int64.toUInt64 63)).toInt64)) &&& c
theorem wdr_bit (p c : Int64) {i : Nat} (hi : i < 64) : lb (wdr p c) i = true ↔ lb c i = true ∧ (lb p i = true ∨ ∃ x, lb p x = true ∧ nbr x i) := by
  have e8 : ∀ x : Int64, lb (x <<< ((8 : Int32).toInt64 &&& 63)) i = (decide (8 ≤ i) && lb x (i - 8)) := fun x => lb_shl 8 (by decide) x hi
  have e1 : ∀ x : Int64, lb (x <<< ((1 : Int32).toInt64 &&& 63)) i = (decide (1 ≤ i) && lb x (i - 1)) := fun x => lb_shl 1 (by decide) x hi
  have u8 : ∀ x : Int64, lb (x.toUInt64 >>> ((8 : Int32).toInt64.toUInt64 &&& Int64.toUInt64 63)).toInt64 i = lb x (8 + i) := fun x => lb_ushr 8 (by decide) x i
  have u1 : ∀ x : Int64, lb (x.toUInt64 >>> ((1 : Int32).toInt64.toUInt64 &&& Int64.toUInt64 63)).toInt64 i = lb x (1 + i) := fun x => lb_ushr 1 (by decide) x i
  unfold wdr
  simp only [lb_and, lb_or, e8, e1, u8, u1, Bool.and_eq_true, Bool.or_eq_true, decide_eq_true_iff]
  constructor
  · rintro ⟨h, hc⟩
    refine ⟨hc, ?_⟩
    rcases h with ((h | ⟨h1, h2⟩) | h) | (⟨h1, h2, h3⟩ | ⟨h1, h2⟩)
    · exact Or.inl h
    · exact Or.inr ⟨i - 8, h2, Or.inl (by omega)⟩
    · exact Or.inr ⟨8 + i, h, Or.inr (Or.inl (by omega))⟩
    · rw [lb_c7 (by omega), decide_eq_true_iff] at h3
      exact Or.inr ⟨i - 1, h2, Or.inr (Or.inr (Or.inl ⟨by omega, h3⟩))⟩
    · rcases Nat.lt_or_ge (1 + i) 64 with h | h
      · rw [lb_c0 h, decide_eq_true_iff] at h2
        exact Or.inr ⟨1 + i, h1, Or.inr (Or.inr (Or.inr ⟨by omega, h2⟩))⟩
      · rw [lb_big h] at h1; cases h1
  · rintro ⟨hc, h⟩
    refine ⟨?_, hc⟩
    rcases h with h | ⟨x, h, hn⟩
    · exact Or.inl (Or.inl (Or.inl h))
    · have hx : x < 64 := by
        rcases Nat.lt_or_ge x 64 with h' | h'
        · exact h'
        · rw [lb_big h'] at h; cases h
      rcases hn with rfl | rfl | ⟨rfl, hm⟩ | ⟨rfl, hm⟩
      · exact Or.inl (Or.inl (Or.inr ⟨by omega, by rw [Nat.add_sub_cancel]; exact h⟩))
      · exact Or.inl (Or.inr (by rw [Nat.add_comm]; exact h))
      · exact Or.inr (Or.inl ⟨by omega, by rw [Nat.add_sub_cancel]; exact h, by rw [Nat.add_sub_cancel, lb_c7 hx, decide_eq_true_iff]; exact hm⟩)
      · exact Or.inr (Or.inr ⟨by rw [Nat.add_comm]; exact h, by rw [Nat.add_comm, lb_c0 hx, decide_eq_true_iff]; exact hm⟩)
theorem wdrN {p c : Nat} (hp : p < 2 ^ 64) (hc : c < 2 ^ 64) (i : Nat) : (uN (wdr (lN p) (lN c))).testBit i = true ↔ c.testBit i = true ∧ (p.testBit i = true ∨ ∃ x, p.testBit x = true ∧ nbr x i) := by
  have hl : ∀ (n : Nat), n < 2 ^ 64 → ∀ x, lb (lN n) x = n.testBit x := fun n hn x => by
    rw [lb_lN]
    rcases Nat.lt_or_ge x 64 with h | h
    · rw [decide_eq_true h, Bool.true_and]
    · rw [decide_eq_false (by omega), Bool.false_and]
      cases ht : n.testBit x with
      | false => rfl
      | true => have := bit_lt hn ht; omega
  rw [lb_uN]
  rcases Nat.lt_or_ge i 64 with h | h
  · rw [wdr_bit _ _ h]
    simp only [hl p hp, hl c hc]
  · rw [lb_big h]
    constructor
    · intro h; cases h
    · rintro ⟨h1, _⟩
      have := bit_lt hc h1
      omega
abbrev x_pc : Type := Nat × Nat × Nat
abbrev e_pc : x_pc → List Value := fun x => [.ref x.1, .long (lN (2 ^ x.2.2))]
theorem v_pc (n : Nat) (h : 3 ≤ n) (x : x_pc) : okv (e_pc x) ∧ (lvA (e_pc x)).length ≤ n := ⟨okv_ref (okv_long okv_nil), h⟩
def e_piece : ev := (2, 7, false, 0, 0, sn e_pc (fun x a I J _ => shp a I J x.1 x.2.1 ∧ x.2.1.testBit x.2.2 = true) (fun x _ I J Q v I' J' Q' => I' = I ∧ J' = J ∧ Q' = Q ∧ ∃ S, v = some (.long (lN S)) ∧ S < 2 ^ 64 ∧ isPc x.2.1 x.2.2 S))
set_option maxRecDepth 20000 in
theorem c_piece {l : Launch} : CX l cdX7_pieceFrom e_piece := by
  refine cm_sn RX7 edX7_pieceFrom [] false kX7_pieceFrom cwX7_pieceFrom okX7_pieceFrom trivial (by decide) rfl (v_pc _ (by decide)) ?_
  intro um zm G Rt ⟨k, c, b⟩ a I J Q cl hb hp hR
  obtain ⟨⟨ho, hj, hc⟩, hbit⟩ := hp
  have hj : J k 0 = lN c := hj
  have hc : c < 2 ^ 64 := hc
  have hbit : c.testBit b = true := hbit
  have hb64 : b < 64 := bit_lt hc hbit
  have ho : isOb a k 7 := ho
  have fin : ∀ v5 v6 v8 p, p < 2 ^ 64 → isPc c b p → G 69 [some (.ref k), some (.long (lN (2 ^ b))), none, some (.long (lN p)), none, v5, v6, none, v8, none] [] a I J Q := by
    intro v5 v6 v8 p hp hpc
    refine cl [5, 69] 80 69 _ _ _ _ _ _ ?_
    exact hR _ _ _ _ ⟨rfl, rfl, rfl, p, rfl, hp, hpc⟩
  have loop : ∀ d i p v6 v8, d + i = 64 → p < 2 ^ 64 → p.testBit b = true → sbs p c → (∀ T, T.testBit b = true → clM c T → sbs p T) → i + 1 ≤ fa_cnt (fun x => p.testBit x) 64 → G 5 [some (.ref k), some (.long (lN (2 ^ b))), none, some (.long (lN p)), none, some (.int (nI i)), v6, none, v8, none] [] a I J Q := by
    intro d
    induction d with
    | zero =>
      intro i p v6 v8 hd hp h1 h2 h3 h4
      have := fa_cnt_le (fun x => p.testBit x) 64
      omega
    | succ d ih =>
      intro i p v6 v8 hd hp h1 h2 h3 h4
      have hq := wdrN hp hc
      have hqs : sbs p (uN (wdr (lN p) (lN c))) := fun x hx => (hq x).mpr ⟨h2 x hx, Or.inl hx⟩
      refine cl [5, 69] 80 5 _ _ _ _ _ _ ?_
      refine And.intro (fun c => absurd c (nI_ge (a := i) (b := 64) (by omega) (by decide))) (fun _ => cko (isOb_ck ho) ?_)
      refine And.intro (fun (c1 : ¬ lg_cmp (wdr (lN p) (J k 0)) (lN p) = 0) => ?_) (fun (c1 : lg_cmp (wdr (lN p) (J k 0)) (lN p) = 0) => ?_)
      · rw [hj] at c1
        have hne : uN (wdr (lN p) (lN c)) ≠ p := fun e => c1 (lgc0.mpr (by rw [← lN_uN (wdr (lN p) (lN c)), e]))
        have hex : ∃ x, x < 64 ∧ p.testBit x = false ∧ (uN (wdr (lN p) (lN c))).testBit x = true := by
          apply Classical.byContradiction
          intro hn
          apply hne
          refine sbs_anti (fun x hx => ?_) hqs
          cases hpx : p.testBit x with
          | true => rfl
          | false => exact absurd ⟨x, bit_lt (uN_64 _) hx, hpx, hx⟩ hn
        have hcnt := cnt_strict (p := fun x => p.testBit x) (q := fun x => (uN (wdr (lN p) (lN c))).testBit x) 64 (fun x _ hx => hqs x hx) hex
        have := ih (i + 1) (uN (wdr (lN p) (lN c))) (some (.long (((lN p &&& 9187201950435737471) <<< ((1 : Int32).toInt64 &&& 63)) ||| ((lN p &&& (-72340172838076674)).toUInt64 >>> ((1 : Int32).toInt64.toUInt64 &&& Int64.toUInt64 63)).toInt64))) (some (.long (wdr (lN p) (J k 0)))) (by omega) (uN_64 _) (hqs b h1) (fun x hx => ((hq x).mp hx).1) (fun T t1 t2 x hx => ?_) (by omega)
        · rw [lN_uN, ← nI_1 i, ← hj] at this
          exact this
        · obtain ⟨g1, g2⟩ := (hq x).mp hx
          rcases g2 with g2 | ⟨y, g2, g3⟩
          · exact h3 T t1 t2 x g2
          · exact t2 y x (h3 T t1 t2 y g2) g1 g3
      · rw [hj] at c1
        have he : uN (wdr (lN p) (lN c)) = p := by
          have := lgc0.mp c1
          rw [this]
          have e2 : lN (uN (lN p)) = lN p := lN_uN _
          exact (lN_inj (uN_64 _) hp).mp e2
        rw [he] at hq
        exact fin _ _ _ p hp ⟨h1, h2, fun x y hx hy hn => (hq y).mpr ⟨hy, Or.inr ⟨x, hx, hn⟩⟩, h3⟩
  refine cl [5, 69] 80 0 _ _ _ _ _ _ ?_
  have hb1 : (2 ^ b).testBit b = true := by rw [Nat.testBit_two_pow, decide_eq_true rfl]
  have hcnt := cnt_strict (p := fun _ => false) (q := fun x => (2 ^ b).testBit x) 64 (fun _ _ h => by cases h) ⟨b, hb64, rfl, hb1⟩
  refine loop 64 0 (2 ^ b) none none rfl (Nat.pow_lt_pow_right (by decide) hb64) hb1 (fun x hx => ?_) (fun T t1 _ x hx => ?_) (by omega)
  · rw [Nat.testBit_two_pow, decide_eq_true_iff] at hx
    subst hx; exact hbit
  · rw [Nat.testBit_two_pow, decide_eq_true_iff] at hx
    subst hx; exact t1
abbrev e_k1 : Nat × Nat → List Value := fun x => [.ref x.1]
theorem v_k1 (n : Nat) (h : 1 ≤ n) (x : Nat × Nat) : okv (e_k1 x) ∧ (lvA (e_k1 x)).length ≤ n := ⟨okv_ref okv_nil, h⟩
def e_pieces : ev := (1, 7, false, 0, 0, sn e_k1 (fun x a I J _ => shp a I J x.1 x.2) (fun x _ I J Q v I' J' Q' => I' = I ∧ J' = J ∧ Q' = Q ∧ ∃ n, v = some (.int (nI n)) ∧ n ≤ 64 ∧ nPcs x.2 n x.2))
set_option maxRecDepth 20000 in
theorem c_pieces {l : Launch} : CX l cdX7_pieces e_pieces := by
  refine cm_sn RX7 edX7_pieces [e_piece] false kX7_pieces cwX7_pieces okX7_pieces ⟨⟨_, rfl, c_piece⟩, trivial⟩ (by decide) rfl (v_k1 _ (by decide)) ?_
  intro um zm G Rt ⟨k, c⟩ a I J Q cl hb hp hR
  obtain ⟨ho, hj, hc⟩ := hp
  have hj : J k 0 = lN c := hj
  have hc : c < 2 ^ 64 := hc
  have ho : isOb a k 7 := ho
  have loop : ∀ d i p, d + i = 64 → p < 2 ^ 64 → sbs p c → clM c p → fa_cnt (fun x => p.testBit x) 64 ≤ d → (∀ n, nPcs c n p → nPcs c (i + n) c) → G 10 [some (.ref k), some (.long (lN p)), none, some (.int (nI i)), some (.int (nI i))] [] a I J Q := by
    intro d
    induction d with
    | zero =>
      intro i p hd hp h1 h2 h3 h4
      obtain rfl : i = 64 := by omega
      have h0 : p = 0 := by
        apply Classical.byContradiction
        intro hn
        obtain ⟨x, hx⟩ := ex_bit hn
        have := cnt_strict (p := fun _ => false) (q := fun x => p.testBit x) 64 (fun _ _ h => by cases h) ⟨x, bit_lt hp hx, rfl, hx⟩
        omega
      refine cl [10] 80 10 _ _ _ _ _ _ ?_
      exact And.intro (fun _ => hR _ _ _ _ ⟨rfl, rfl, rfl, 64, rfl, Nat.le_refl _, h4 0 h0⟩) (fun c => absurd (by decide) c)
    | succ d ih =>
      intro i p hd hp h1 h2 h3 h4
      refine cl [10] 80 10 _ _ _ _ _ _ ?_
      refine And.intro (fun c => absurd c (nI_ge (a := i) (b := 64) (by omega) (by decide))) (fun _ => And.intro (fun (c1 : lg_cmp (lN p) 0 = 0) => ?_) (fun (c1 : ¬ lg_cmp (lN p) 0 = 0) => ?_))
      · rw [lgN hp] at c1
        exact hR _ _ _ _ ⟨rfl, rfl, rfl, i, rfl, by omega, h4 0 c1⟩
      · rw [lgN hp] at c1
        obtain ⟨b, hb1, hb2⟩ := pk_least (fun x => p.testBit x = true) (ex_bit c1)
        have hb2 : ∀ x, x < b → p.testBit x = false := fun x hx => by
          cases h : p.testBit x with
          | false => rfl
          | true => exact absurd h (hb2 x hx)
        have elow := low_bit hp hb1 hb2
        refine vko ho rfl ?_
        refine Exists.intro (k, c, b) (And.intro (show [Value.ref k, .long (lN p &&& -(lN p))] = [Value.ref k, .long (lN (2 ^ b))] by rw [elow]) (And.intro ⟨⟨ho, hj, hc⟩, h1 b hb1⟩ ?_))
        rintro v I2 J2 Q2 ⟨rfl, rfl, rfl, S, rfl, hS, hpc⟩
        have hbit : ∀ x, (uN (lN p &&& (lN S ^^^ (-1)))).testBit x = (p.testBit x && !S.testBit x) := fun x => by
          rw [lb_uN, lb_and, lb_xor, lb_lN, lb_lN]
          rcases Nat.lt_or_ge x 64 with h | h
          · rw [lb_m1 h, decide_eq_true h, Bool.true_and, Bool.true_and, Bool.xor_true]
          · have e1 : p.testBit x = false := by
              cases ht : p.testBit x with
              | false => rfl
              | true => have := bit_lt hp ht; omega
            rw [e1, Bool.and_false, Bool.false_and, Bool.false_and]
        have := ih (i + 1) (uN (lN p &&& (lN S ^^^ (-1)))) (by omega) (uN_64 _) (fun x hx => ?_) (fun x y hx hy hn => ?_) ?_ (fun n hn => ?_)
        · rw [lN_uN, ← nI_1 i] at this
          exact this
        · rw [hbit, Bool.and_eq_true] at hx
          exact h1 x hx.1
        · rw [hbit, Bool.and_eq_true, Bool.not_eq_true'] at hx
          rw [hbit, Bool.and_eq_true, Bool.not_eq_true']
          refine ⟨h2 x y hx.1 hy hn, ?_⟩
          cases hSy : S.testBit y with
          | false => rfl
          | true =>
            have hn' : nbr y x := by unfold nbr at hn ⊢; omega
            have := hpc.2.2.1 y x hSy (h1 x hx.1) hn'
            rw [hx.2] at this
            cases this
        · have := cnt_strict (p := fun x => (uN (lN p &&& (lN S ^^^ (-1)))).testBit x) (q := fun x => p.testBit x) 64 (fun x _ hx => by
            simp only [hbit, Bool.and_eq_true] at hx
            exact hx.1) ⟨b, bit_lt hp hb1, by simp only [hbit, hpc.1]; simp, hb1⟩
          omega
        · have := h4 (n + 1) ⟨b, S, uN (lN p &&& (lN S ^^^ (-1))), hb1, hb2, hpc, hbit, hn⟩
          rw [show i + 1 + n = i + (n + 1) by omega]
          exact this
  refine cl [10] 80 0 _ _ _ _ _ _ ?_
  refine cko (isOb_ck ho) ?_
  have := loop 64 0 c rfl hc (sbs_refl c) (fun x y _ hy _ => hy) (fa_cnt_le _ _) (fun n hn => by rw [Nat.zero_add]; exact hn)
  rw [← hj] at this
  exact this
