/-! Layout: its small methods -/
theorem gst_lt (c : Nat) {gap : Nat} (hg : gap ≤ 4) : ∀ y r, gst c gap y r < 2 ^ 17
  | 0, _ => (show 0 < 2 ^ 17 by decide)
  | y + 1, r => by
    unfold gst
    split
    · exact Nat.or_lt_two_pow (gst_lt c hg y r) (wdN_lt (rowN_lt c y) _ (by omega))
    · exact gst_lt c hg y r
theorem ob_ne {a : hA} {k g : Nat} (h : isOb a k 7) (hg : ∃ n, tX g = some (11, n)) : k ≠ g := by
  rintro rfl
  obtain ⟨n, hn⟩ := hg
  have h2 := h.2
  unfold tE at h2
  rw [hn] at h2
  cases h2
theorem shw_of {a : hA} {I I' : hI} {J : hJ} {k c w h : Nat} (hs : shw a I J k c w h) (hk : I' k = I k) : shw a I' J k c w h := by
  obtain ⟨h1, h2, h3, h4⟩ := hs
  exact ⟨⟨h1.1, h1.2⟩, by rw [hk]; exact h2, by rw [hk]; exact h3, h4⟩
abbrev e_li : Nat × Nat → List Value := fun x => [.long (lN x.1), .int (nI x.2)]
theorem v_li (n : Nat) (h : 3 ≤ n) (x : Nat × Nat) : okv (e_li x) ∧ (lvA (e_li x)).length ≤ n := ⟨okv_long (okv_int okv_nil), h⟩
def e_apart : ev := (2, 99, false, 0, 0, sf e_li (fun x _ _ _ _ => x.1 < 2 ^ 64 ∧ x.2 ≤ 31) (fun x _ _ _ _ => some (.int (bI (!x.1.testBit (11 + x.2))))))
set_option maxRecDepth 20000 in
theorem c_apart {l : Launch} {tF : hTF} {qF : hQF} {base : Nat} : CM l tF qF base cdX2_isApart e_apart := by
  refine cm_sf RX2 edX2_isApart [] true kX2_isApart cwX2_isApart okX2_isApart trivial (by decide) rfl (v_li _ (by decide)) ?_
  intro um zm G Rt ⟨n, dx⟩ a I J Q cl hb hp hR
  have hn : n < 2 ^ 64 := hp.1
  have hdx : dx ≤ 31 := hp.2
  refine cl [] 50 0 _ _ _ _ _ _ ?_
  have e11 : (11 : Int32) + nI dx = nI (11 + dx) := nI_add 11 dx
  have hbit := bitN (n := n) (b := 11 + dx) hn (by omega)
  rw [← e11] at hbit
  refine And.intro (fun (c : ¬ lg_cmp (((lN n).toUInt64 >>> (((11 : Int32) + nI dx).toInt64.toUInt64 &&& Int64.toUInt64 63)).toInt64 &&& 1) 0 = 0) => And.intro (Or.inl rfl) (hR _ ?_)) (fun (c : lg_cmp (((lN n).toUInt64 >>> (((11 : Int32) + nI dx).toInt64.toUInt64 &&& Int64.toUInt64 63)).toInt64 &&& 1) 0 = 0) => And.intro (Or.inr rfl) (hR _ ?_))
  · rw [hbit, Bool.not_eq_false] at c
    simp only [c]; rfl
  · rw [hbit] at c
    simp only [c]; rfl
/-- the shifts the other way round -/
def mirN (n : Nat) : Nat → Nat
  | 0 => 0
  | i + 1 => mirN n i * 2 ^ 1 ||| n / 2 ^ i % 2
theorem mirN_lt (n : Nat) : ∀ i, mirN n i < 2 ^ i
  | 0 => (show 0 < 1 by decide)
  | i + 1 => by
    have := mirN_lt n i
    exact Nat.or_lt_two_pow (by rw [Nat.pow_succ]; omega) (Nat.lt_of_lt_of_le (Nat.mod_lt _ (by decide)) (show 2 ≤ 2 ^ (i + 1) from Nat.le_trans (show 2 ≤ 2 ^ 1 by decide) (Nat.pow_le_pow_right (by decide) (by omega))))
def e_mir : ev := (1, 99, false, 0, 0, sf e1l p64 (fun n _ _ _ _ => some (.long (lN (mirN n 23)))))
set_option maxRecDepth 20000 in
theorem c_mir {l : Launch} {tF : hTF} {qF : hQF} {base : Nat} : CM l tF qF base cdX2_mirrored e_mir := by
  refine cm_sf RX2 edX2_mirrored [] false kX2_mirrored cwX2_mirrored okX2_mirrored trivial (by decide) rfl (v1l _ (by decide)) ?_
  intro um zm G Rt n a I J Q cl hb hp hR
  have hp : n < 2 ^ 64 := hp
  have loop : ∀ j i, j + i = 23 → G 5 [some (.long (lN n)), none, some (.long (lN (mirN n i))), none, some (.int (nI i))] [] a I J Q := by
    intro j
    induction j with
    | zero =>
      intro i hi
      obtain rfl : i = 23 := by omega
      refine cl [5] 60 5 _ _ _ _ _ _ ?_
      exact And.intro (fun _ => hR _ rfl) (fun c => absurd (by decide) c)
    | succ j ih =>
      intro i hi
      refine cl [5] 60 5 _ _ _ _ _ _ ?_
      refine And.intro (fun c => absurd c (nI_nlt (a := 22) (b := i) (by omega) (by omega))) (fun _ => ?_)
      have hm := mirN_lt n i
      have hm2 : mirN n i < 2 ^ 22 := Nat.lt_of_lt_of_le hm (Nat.pow_le_pow_right (by decide) (by omega))
      have ew : (lN (mirN n i) <<< ((1 : Int32).toInt64 &&& 63)) ||| (((lN n).toUInt64 >>> ((nI i).toInt64.toUInt64 &&& Int64.toUInt64 63)).toInt64 &&& 1) = lN (mirN n (i + 1)) := by
        rw [show (1 : Int32) = nI 1 from rfl, wb_shl _ (by decide), wb_bit hp (by omega), wb_or (by omega) (by omega)]
        rfl
      have := ih (i + 1) (by omega)
      rw [← nI_1 i, ← ew] at this
      exact this
  refine cl [5] 60 0 _ _ _ _ _ _ ?_
  exact loop 23 0 rfl
abbrev e_lli : Nat × Nat × Nat → List Value := fun x => [.long (lN x.1), .long (lN x.2.1), .int (nI x.2.2)]
theorem v_lli (n : Nat) (h : 5 ≤ n) (x : Nat × Nat × Nat) : okv (e_lli x) ∧ (lvA (e_lli x)).length ≤ n := ⟨okv_long (okv_long (okv_int okv_nil)), h⟩
/-- clashes of a with the b's that follow it, and with those behind it -/
def acrN (s m dx : Nat) : Nat := s / 2 ^ (11 + dx) ||| (if dx < 11 then m / 2 ^ (11 - dx) else m * 2 ^ (dx - 11))
def e_across : ev := (3, 99, false, 0, 0, sf e_lli (fun x _ _ _ _ => x.1 < 2 ^ 24 ∧ x.2.1 < 2 ^ 24 ∧ x.2.2 ≤ 31) (fun x _ _ _ _ => some (.long (lN (acrN x.1 x.2.1 x.2.2)))))
set_option maxRecDepth 20000 in
theorem c_across {l : Launch} {tF : hTF} {qF : hQF} {base : Nat} : CM l tF qF base cdX2_clashesAcross e_across := by
  refine cm_sf RX2 edX2_clashesAcross [] false kX2_clashesAcross cwX2_clashesAcross okX2_clashesAcross trivial (by decide) rfl (v_lli _ (by decide)) ?_
  intro um zm G Rt ⟨s, m, dx⟩ a I J Q cl hb hp hR
  have hs : s < 2 ^ 24 := hp.1
  have hm : m < 2 ^ 24 := hp.2.1
  have hdx : dx ≤ 31 := hp.2.2
  have e1 : ((lN s).toUInt64 >>> (((11 : Int32) + nI dx).toInt64.toUInt64 &&& Int64.toUInt64 63)).toInt64 = lN (s / 2 ^ (11 + dx)) := by
    rw [show (11 : Int32) + nI dx = nI (11 + dx) from nI_add 11 dx, wb_shr (by omega) (by omega)]
  have hs2 : s / 2 ^ (11 + dx) < 2 ^ 64 := Nat.lt_of_le_of_lt (Nat.div_le_self _ _) (by omega)
  refine cl [] 60 0 _ _ _ _ _ _ ?_
  refine And.intro (fun (c : (11 : Int32) ≤ nI dx) => hR (some (.long (((lN s).toUInt64 >>> (((11 : Int32) + nI dx).toInt64.toUInt64 &&& Int64.toUInt64 63)).toInt64 ||| (lN m <<< ((nI dx - 11).toInt64 &&& 63))))) ?_) (fun (c : ¬ (11 : Int32) ≤ nI dx) => hR (some (.long (((lN s).toUInt64 >>> (((11 : Int32) + nI dx).toInt64.toUInt64 &&& Int64.toUInt64 63)).toInt64 ||| ((lN m).toUInt64 >>> (((11 : Int32) - nI dx).toInt64.toUInt64 &&& Int64.toUInt64 63)).toInt64))) ?_)
  · have h11 : ¬ dx < 11 := fun h9 => absurd c (nI_ge (b := 11) h9 (by decide))
    have hsh : m * 2 ^ (dx - 11) < 2 ^ 64 := Nat.lt_of_lt_of_le (Nat.mul_lt_mul_of_lt_of_le hm (Nat.pow_le_pow_right (by decide) (show dx - 11 ≤ 20 by omega)) (Nat.two_pow_pos _)) (by decide)
    rw [e1, show nI dx - 11 = nI (dx - 11) from pk_sub (b := 11) (by omega), wb_shl _ (by omega), wb_or hs2 hsh]
    show _ = some (Value.long (lN (acrN s m dx)))
    unfold acrN
    rw [if_neg h11]
  · have h11 : dx < 11 := by
      rcases Nat.lt_or_ge dx 11 with h | h
      · exact h
      · exact absurd (nI_le (a := 11) h (by omega)) c
    rw [e1, show (11 : Int32) - nI dx = nI (11 - dx) from pk_sub (a := 11) (by omega), wb_shr (by omega) (by omega), wb_or hs2 (Nat.lt_of_le_of_lt (Nat.div_le_self _ _) (by omega))]
    show _ = some (Value.long (lN (acrN s m dx)))
    unfold acrN
    rw [if_pos h11]
/-- the multiples of p, as bits -/
def mulL (p : Nat) : Nat → Nat
  | 0 => 0
  | d + 1 => if p ≤ d ∧ d % p = 0 then mulL p d ||| 2 ^ d else mulL p d
def mulN (p : Nat) : Nat := mulL p 64
theorem mulL_lt (p : Nat) : ∀ d, d ≤ 64 → mulL p d < 2 ^ 64
  | 0, _ => (show 0 < 2 ^ 64 by decide)
  | d + 1, h => by
    unfold mulL
    split
    · exact Nat.or_lt_two_pow (mulL_lt p d (by omega)) (Nat.pow_lt_pow_right (by decide) (by omega))
    · exact mulL_lt p d (by omega)
def mulOK (J : hJ) : Prop := ∀ p, 1 ≤ p → p < 63 → J 10 p = lN (mulN p)
/-- the least pitch from 63 - j on -/
def ptL (n : Nat) : Nat → Nat
  | 0 => 63
  | j + 1 => if n &&& mulN (62 - j) = 0 then 62 - j else ptL n j
def pitchN (n : Nat) : Nat := ptL n 62
abbrev e_6l : Nat → List Value := fun x => [.ref 6, .long (lN x)]
theorem v_6l (n : Nat) (h : 3 ≤ n) (x : Nat) : okv (e_6l x) ∧ (lvA (e_6l x)).length ≤ n := ⟨okv_ref (okv_long okv_nil), h⟩
def e_pitch : ev := (2, 2, false, 0, 0, sf e_6l (fun x _ _ J _ => x < 2 ^ 64 ∧ mulOK J) (fun x _ _ _ _ => some (.int (nI (pitchN x)))))
set_option maxRecDepth 20000 in
theorem c_pitch {l : Launch} : CX l cdX2_pitchOf e_pitch := by
  refine cm_sf RX2 edX2_pitchOf [] false kX2_pitchOf cwX2_pitchOf okX2_pitchOf trivial (by decide) rfl (v_6l _ (by decide)) ?_
  intro um zm G Rt n a I J Q cl hb hp hR
  have hn : n < 2 ^ 64 := hp.1
  have loop : ∀ j p, j + p = 63 → 1 ≤ p → ptL n j = pitchN n → G 2 [some (.ref 6), some (.long (lN n)), none, some (.int (nI p))] [] a I J Q := by
    intro j
    induction j with
    | zero =>
      intro p hj h1 he
      obtain rfl : p = 63 := by omega
      refine cl [2] 60 2 _ _ _ _ _ _ ?_
      exact And.intro (fun _ => hR _ (by rw [← he]; rfl)) (fun c => absurd (by decide) c)
    | succ j ih =>
      intro p hj h1 he
      have hp62 : 62 - j = p := by omega
      replace he : (if n &&& mulN (62 - j) = 0 then 62 - j else ptL n j) = pitchN n := he
      rw [hp62] at he
      have ecl : (nI p).toNatClampNeg = p := nI_clamp (by omega)
      have ea : lN n &&& J 10 (nI p).toNatClampNeg = lN (n &&& mulN p) := by rw [ecl, hp.2 p h1 (by omega), wb_and hn (show mulN p < 2 ^ 64 from mulL_lt p 64 (Nat.le_refl _))]
      have hlt : n &&& mulN p < 2 ^ 64 := Nat.lt_of_le_of_lt Nat.and_le_left hn
      refine cl [2] 60 2 _ _ _ _ _ _ ?_
      refine And.intro (fun c => absurd c (nI_ge (a := p) (b := 63) (by omega) (by decide))) (fun _ => And.intro (show vp_in (nI p) 64 from vp_in_nI (by omega) (by decide)) (And.intro (fun (c : ¬ lg_cmp (lN n &&& J 10 (nI p).toNatClampNeg) 0 = 0) => ?_) (fun (c : lg_cmp (lN n &&& J 10 (nI p).toNatClampNeg) 0 = 0) => hR _ ?_)))
      · rw [ea, lgN hlt] at c
        rw [if_neg c] at he
        have := ih (p + 1) (by omega) (by omega) he
        rw [← nI_1 p] at this
        exact this
      · rw [ea, lgN hlt] at c
        rw [if_pos c] at he
        rw [← he]
  refine cl [2] 60 0 _ _ _ _ _ _ ?_
  exact loop 62 1 rfl (by decide) rfl
