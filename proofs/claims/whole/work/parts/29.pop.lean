/-! Long.bitCount and Integer.bitCount -/
def pop8 (b : Nat) : Nat := b % 2 + b / 2 % 2 + b / 4 % 2 + b / 8 % 2 + b / 16 % 2 + b / 32 % 2 + b / 64 % 2 + b / 128 % 2
/-- how many bits n has, row by row -/
def popN (n : Nat) : Nat := pop8 (rowN n 0) + pop8 (rowN n 1) + pop8 (rowN n 2) + pop8 (rowN n 3) + pop8 (rowN n 4) + pop8 (rowN n 5) + pop8 (rowN n 6) + pop8 (rowN n 7)
theorem and256 {x y b c : Nat} (hb : b < 256) (hc : c < 256) : (256 * x + b) &&& (256 * y + c) = 256 * (x &&& y) + (b &&& c) := by
  have hb' : b < 2 ^ 8 := hb
  have hc' : c < 2 ^ 8 := hc
  have hbc : b &&& c < 2 ^ 8 := Nat.lt_of_le_of_lt Nat.and_le_left hb'
  apply Nat.eq_of_testBit_eq
  intro i
  rw [Nat.testBit_and, show 256 * x + b = 2 ^ 8 * x + b from rfl, show 256 * y + c = 2 ^ 8 * y + c from rfl, show 256 * (x &&& y) + (b &&& c) = 2 ^ 8 * (x &&& y) + (b &&& c) from rfl, Nat.testBit_two_pow_mul_add _ hb', Nat.testBit_two_pow_mul_add _ hc', Nat.testBit_two_pow_mul_add _ hbc]
  split <;> rw [Nat.testBit_and]
def m5 : Nat → Nat
  | 0 => 0
  | k + 1 => 256 * m5 k + 85
def m3 : Nat → Nat
  | 0 => 0
  | k + 1 => 256 * m3 k + 51
def mF : Nat → Nat
  | 0 => 0
  | k + 1 => 256 * mF k + 15
def sw1 (M n : Nat) : Nat := n - ((n / 2) &&& M)
def sw2 (M n : Nat) : Nat := (n &&& M) + ((n / 4) &&& M)
def sw3 (M n : Nat) : Nat := (n + n / 16) &&& M
theorem sw1_byte : ∀ e, e < 2 → ∀ b, b < 256 → (128 * e + b / 2) &&& 85 = (b / 2) &&& 85 := by decide +kernel
theorem sw2_byte : ∀ e, e < 4 → ∀ b, b < 256 → (64 * e + b / 4) &&& 51 = (b / 4) &&& 51 := by decide +kernel
theorem sw_pop : ∀ b, b < 256 → sw3 15 (sw2 51 (sw1 85 b)) = pop8 b ∧ sw2 51 (sw1 85 b) ≤ 68 ∧ sw2 51 (sw1 85 b) % 16 ≤ 4 ∧ sw1 85 b < 256 := by decide +kernel
theorem sw1_step {x b M : Nat} (hb : b < 256) : sw1 (256 * M + 85) (256 * x + b) = 256 * sw1 M x + sw1 85 b := by
  unfold sw1
  have e1 : (256 * x + b) / 2 = 256 * (x / 2) + (128 * (x % 2) + b / 2) := by omega
  rw [e1, and256 (by omega) (by decide), sw1_byte _ (Nat.mod_lt _ (by decide)) b hb]
  have h1 : x / 2 &&& M ≤ x / 2 := Nat.and_le_left
  have h2 : b / 2 &&& 85 ≤ b / 2 := Nat.and_le_left
  omega
theorem sw2_step {x b M : Nat} (hb : b < 256) : sw2 (256 * M + 51) (256 * x + b) = 256 * sw2 M x + sw2 51 b := by
  unfold sw2
  have e1 : (256 * x + b) / 4 = 256 * (x / 4) + (64 * (x % 4) + b / 4) := by omega
  rw [e1, and256 hb (by decide), and256 (by omega) (by decide), sw2_byte _ (Nat.mod_lt _ (by decide)) b hb]
  omega
theorem sw3_step {x b M : Nat} (hb : b ≤ 68) (hx : x % 16 ≤ 4) : sw3 (256 * M + 15) (256 * x + b) = 256 * sw3 M x + sw3 15 b := by
  unfold sw3
  have e1 : 256 * x + b + (256 * x + b) / 16 = 256 * (x + x / 16) + (b + 16 * (x % 16) + b / 16) := by omega
  rw [e1, and256 (by omega) (by decide), show (15 : Nat) = 2 ^ 4 - 1 from rfl, Nat.and_two_pow_sub_one_eq_mod, Nat.and_two_pow_sub_one_eq_mod]
  omega
def swS (k n : Nat) : Nat := sw3 (mF k) (sw2 (m3 k) (sw1 (m5 k) n))
theorem sw_low (k x : Nat) : sw2 (m3 k) (sw1 (m5 k) x) % 16 ≤ 4 := by
  cases k with
  | zero => simp [m3, sw2]
  | succ k =>
    have hb : x % 256 < 256 := Nat.mod_lt _ (by decide)
    have hs := sw_pop _ hb
    rw [show x = 256 * (x / 256) + x % 256 by omega]
    show sw2 (256 * m3 k + 51) (sw1 (256 * m5 k + 85) _) % 16 ≤ 4
    rw [sw1_step hb, sw2_step hs.2.2.2]
    omega
theorem swS_step (k x b : Nat) (hb : b < 256) : swS (k + 1) (256 * x + b) = 256 * swS k x + pop8 b := by
  have hs := sw_pop _ hb
  unfold swS
  show sw3 (256 * mF k + 15) (sw2 (256 * m3 k + 51) (sw1 (256 * m5 k + 85) _)) = _
  rw [sw1_step hb, sw2_step hs.2.2.2, sw3_step hs.2.1 (sw_low k x), hs.1]
theorem swS_div (k n : Nat) : swS (k + 1) n = 256 * swS k (n / 256) + pop8 (n % 256) := by
  have := swS_step k (n / 256) (n % 256) (Nat.mod_lt _ (by decide))
  rwa [show 256 * (n / 256) + n % 256 = n by omega] at this
theorem pop8_le : ∀ b, pop8 b ≤ 8 := by intro b; unfold pop8; omega
theorem swS_0 : swS 0 0 = 0 := by decide
theorem rowN_0 (n : Nat) : rowN n 0 = n % 256 := by unfold rowN; simp
theorem rowN_div (n y : Nat) : rowN (n / 256) y = rowN n (y + 1) := by
  unfold rowN
  rw [show (256 : Nat) = 2 ^ 8 from rfl, Nat.div_div_eq_div_mul, ← Nat.pow_add, show 8 + 8 * y = 8 * (y + 1) by omega]
theorem swS_8 {n : Nat} (hn : n < 2 ^ 64) : swS 8 n = pop8 (rowN n 0) + 256 * (pop8 (rowN n 1) + 256 * (pop8 (rowN n 2) + 256 * (pop8 (rowN n 3) + 256 * (pop8 (rowN n 4) + 256 * (pop8 (rowN n 5) + 256 * (pop8 (rowN n 6) + 256 * pop8 (rowN n 7))))))) := by
  rw [swS_div 7, swS_div 6, swS_div 5, swS_div 4, swS_div 3, swS_div 2, swS_div 1, swS_div 0]
  have e0 : n / 256 / 256 / 256 / 256 / 256 / 256 / 256 / 256 = 0 := by omega
  rw [e0, swS_0]
  simp only [← rowN_0, rowN_div, Nat.reduceAdd]
  omega
/-- the method's own sum -/
def bcN (n : Nat) : Nat := let a3 := swS 8 n; let a4 := a3 + a3 / 2 ^ 8; let a5 := a4 + a4 / 2 ^ 16; let a6 := a5 + a5 / 2 ^ 32; a6 % 128
theorem bc_sum (p0 p1 p2 p3 p4 p5 p6 p7 : Nat) (h0 : p0 ≤ 8) (h1 : p1 ≤ 8) (h2 : p2 ≤ 8) (h3 : p3 ≤ 8) (h4 : p4 ≤ 8) (h5 : p5 ≤ 8) (h6 : p6 ≤ 8) (h7 : p7 ≤ 8) :
    (let a3 := p0 + 256 * (p1 + 256 * (p2 + 256 * (p3 + 256 * (p4 + 256 * (p5 + 256 * (p6 + 256 * p7)))))); let a4 := a3 + a3 / 2 ^ 8; let a5 := a4 + a4 / 2 ^ 16; let a6 := a5 + a5 / 2 ^ 32; a6 % 128) = p0 + p1 + p2 + p3 + p4 + p5 + p6 + p7 := by
  obtain ⟨r6, e6⟩ : ∃ r, r = p6 + 256 * p7 := ⟨_, rfl⟩
  obtain ⟨r5, e5⟩ : ∃ r, r = p5 + 256 * r6 := ⟨_, rfl⟩
  obtain ⟨r4, e4⟩ : ∃ r, r = p4 + 256 * r5 := ⟨_, rfl⟩
  obtain ⟨r3, e3⟩ : ∃ r, r = p3 + 256 * r4 := ⟨_, rfl⟩
  obtain ⟨r2, e2⟩ : ∃ r, r = p2 + 256 * r3 := ⟨_, rfl⟩
  obtain ⟨r1, e1⟩ : ∃ r, r = p1 + 256 * r2 := ⟨_, rfl⟩
  obtain ⟨a3, e0⟩ : ∃ r, r = p0 + 256 * r1 := ⟨_, rfl⟩
  rw [← e6, ← e5, ← e4, ← e3, ← e2, ← e1, ← e0]
  have d3 : a3 / 2 ^ 8 = r1 := by omega
  have d4 : (a3 + r1) / 2 ^ 16 = r2 + r3 := by omega
  have d5 : (a3 + r1 + (r2 + r3)) / 2 ^ 32 = r4 + r5 + r6 + p7 := by omega
  simp only [d3, d4, d5]
  omega
theorem bcN_pop {n : Nat} (hn : n < 2 ^ 64) : bcN n = popN n := by
  unfold bcN popN
  rw [swS_8 hn]
  have h0 := pop8_le (rowN n 0)
  have h1 := pop8_le (rowN n 1)
  have h2 := pop8_le (rowN n 2)
  have h3 := pop8_le (rowN n 3)
  have h4 := pop8_le (rowN n 4)
  have h5 := pop8_le (rowN n 5)
  have h6 := pop8_le (rowN n 6)
  have h7 := pop8_le (rowN n 7)
  exact bc_sum _ _ _ _ _ _ _ _ h0 h1 h2 h3 h4 h5 h6 h7
def bc1 (x : Int64) : Int64 := x - ((x.toUInt64 >>> ((1 : Int32).toInt64.toUInt64 &&& Int64.toUInt64 63)).toInt64 &&& 6148914691236517205)
def bc2 (x : Int64) : Int64 := (x &&& 3689348814741910323) + ((x.toUInt64 >>> ((2 : Int32).toInt64.toUInt64 &&& Int64.toUInt64 63)).toInt64 &&& 3689348814741910323)
def bc3 (x : Int64) : Int64 := (x + (x.toUInt64 >>> ((4 : Int32).toInt64.toUInt64 &&& Int64.toUInt64 63)).toInt64) &&& 1085102592571150095
def bc4 (s : Int32) (x : Int64) : Int64 := x + (x.toUInt64 >>> (s.toInt64.toUInt64 &&& Int64.toUInt64 63)).toInt64
def bc (x : Int64) : Int32 := (bc4 32 (bc4 16 (bc4 8 (bc3 (bc2 (bc1 x)))))).toInt32 &&& 127
theorem m5_8 : m5 8 = 6148914691236517205 := by decide
theorem m3_8 : m3 8 = 3689348814741910323 := by decide
theorem mF_8 : mF 8 = 1085102592571150095 := by decide
theorem bc1N {n : Nat} (hn : n < 2 ^ 64) : bc1 (lN n) = lN (sw1 (m5 8) n) := by
  unfold bc1 sw1
  have h1 : n / 2 < 2 ^ 64 := by omega
  rw [show (1 : Int32) = nI 1 from rfl, wb_shr hn (by decide), m5_8, show (6148914691236517205 : Int64) = lN 6148914691236517205 from rfl, show n / 2 ^ 1 = n / 2 from rfl, wb_and h1 (by decide)]
  exact lN_sub (Nat.le_trans Nat.and_le_left (Nat.div_le_self _ _))
theorem bc2N {n : Nat} (hn : n < 2 ^ 64) : bc2 (lN n) = lN (sw2 (m3 8) n) := by
  unfold bc2 sw2
  have h1 : n / 4 < 2 ^ 64 := by omega
  rw [show (2 : Int32) = nI 2 from rfl, wb_shr hn (by decide), m3_8, show (3689348814741910323 : Int64) = lN 3689348814741910323 from rfl, show n / 2 ^ 2 = n / 4 from rfl, wb_and h1 (by decide), wb_and hn (by decide), lN_add]
theorem bc3N {n : Nat} (hn : n + n / 16 < 2 ^ 64) : bc3 (lN n) = lN (sw3 (mF 8) n) := by
  unfold bc3 sw3
  rw [show (4 : Int32) = nI 4 from rfl, wb_shr (by omega) (by decide), mF_8, show (1085102592571150095 : Int64) = lN 1085102592571150095 from rfl, show n / 2 ^ 4 = n / 16 from rfl, lN_add, wb_and hn (by decide)]
theorem bc4N {n k : Nat} (hn : n < 2 ^ 64) (hk : k < 64) : bc4 (nI k) (lN n) = lN (n + n / 2 ^ k) := by
  unfold bc4
  rw [wb_shr hn hk, lN_add]
theorem sw1_lt {M n : Nat} (hn : n < 2 ^ 64) : sw1 M n < 2 ^ 64 := Nat.lt_of_le_of_lt (Nat.sub_le _ _) hn
theorem sw2_lt (n : Nat) : sw2 (m3 8) n ≤ 2 * 3689348814741910323 := by
  unfold sw2
  rw [m3_8]
  have h1 : n &&& 3689348814741910323 ≤ 3689348814741910323 := Nat.and_le_right
  have h2 : n / 4 &&& 3689348814741910323 ≤ 3689348814741910323 := Nat.and_le_right
  omega
theorem bc_pop {n : Nat} (hn : n < 2 ^ 64) : bc (lN n) = nI (popN n) := by
  unfold bc
  have h2 := sw2_lt (sw1 (m5 8) n)
  have h3 : swS 8 n ≤ 1085102592571150095 := by unfold swS sw3; rw [mF_8]; exact Nat.and_le_right
  rw [bc1N hn, bc2N (sw1_lt hn), bc3N (by omega)]
  show (bc4 (nI 32) (bc4 (nI 16) (bc4 (nI 8) (lN (swS 8 n))))).toInt32 &&& 127 = _
  rw [bc4N (by omega) (by decide), bc4N (by omega) (by decide), bc4N (by omega) (by decide), lN_i, show (127 : Int32) = nI (2 ^ 7 - 1) from rfl, fa_mask, ← bcN_pop hn]
  rfl
def e_lbc : ev := (1, 99, false, 0, 0, sf e1l p64 (fun n _ _ _ _ => some (.int (nI (popN n)))))
set_option maxRecDepth 20000 in
theorem c_lbc {l : Launch} {tF : hTF} {qF : hQF} {base : Nat} : CM l tF qF base cdJ13_bitCount_95d88 e_lbc := by
  refine cm_sf RJ13 edJ13_bitCount_95d88 [] false kJ13_bitCount_95d88 cwJ13_bitCount_95d88 okJ13_bitCount_95d88 trivial pn_long rfl (v1l _ (by decide)) ?_
  intro um zm G Rt n a I J Q cl hb hp hR
  refine cl [] 60 0 _ _ _ _ _ _ ?_
  exact hR (some (.int (bc (lN n)))) (by rw [bc_pop hp])
