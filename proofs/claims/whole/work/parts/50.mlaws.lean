/-! LAWS, as numbers: who is ahead by laws one behind the other; ranks -/
def clsd (B : Nat → Nat) (c : Nat) : Prop := ∀ p, c.testBit p = true → ∀ q, (B p).testBit q = true → c.testBit q = true
def sbs (b c : Nat) : Prop := ∀ p, b.testBit p = true → c.testBit p = true
theorem sbs_refl (b : Nat) : sbs b b := fun _ h => h
theorem sbs_anti {b c : Nat} (h : sbs b c) (g : sbs c b) : b = c := by
  apply Nat.eq_of_testBit_eq
  intro p
  cases hb : b.testBit p with
  | true => rw [h p hb]
  | false =>
    cases hc : c.testBit p with
    | false => rfl
    | true => rw [g p hc] at hb; cases hb
def isCl (B : Nat → Nat) (b c : Nat) : Prop := sbs b c ∧ clsd B c ∧ ∀ d, sbs b d → clsd B d → sbs c d
theorem isCl_one {B : Nat → Nat} {b c d : Nat} (h : isCl B b c) (g : isCl B b d) : c = d := sbs_anti (h.2.2 d g.1 g.2.1) (g.2.2 c h.1 h.2.1)
theorem cnt_mono {p q : Nat → Bool} : ∀ n, (∀ i, i < n → p i = true → q i = true) → fa_cnt p n ≤ fa_cnt q n
  | 0, _ => Nat.le_refl _
  | n + 1, h => by
    have ih := cnt_mono n (fun i hi => h i (by omega))
    unfold fa_cnt
    cases hp : p n with
    | false => simp; split <;> omega
    | true => rw [h n (by omega) hp]; simp; exact ih
theorem cnt_strict {p q : Nat → Bool} : ∀ n, (∀ i, i < n → p i = true → q i = true) → (∃ i, i < n ∧ p i = false ∧ q i = true) → fa_cnt p n < fa_cnt q n
  | 0, _, ⟨i, hi, _⟩ => by omega
  | n + 1, h, ⟨i, hi, h1, h2⟩ => by
    by_cases e : i = n
    · subst e
      have := cnt_mono (p := p) (q := q) i (fun j hj => h j (by omega))
      unfold fa_cnt
      rw [h1, h2]
      simp
      omega
    · have := cnt_strict n (fun j hj => h j (by omega)) ⟨i, by omega, h1, h2⟩
      unfold fa_cnt
      cases hp : p n with
      | false => simp; split <;> omega
      | true => rw [h n (by omega) hp]; simp; exact this
theorem cnt_full {p : Nat → Bool} : ∀ n, n ≤ fa_cnt p n → ∀ i, i < n → p i = true
  | 0, _, i, hi => by omega
  | n + 1, h, i, hi => by
    have hl := fa_cnt_le p n
    unfold fa_cnt at h
    cases hp : p n with
    | false => rw [hp] at h; simp at h; omega
    | true =>
      rw [hp] at h
      by_cases e : i = n
      · subst e; exact hp
      · exact cnt_full n (by simp at h; omega) i (by omega)
theorem mlp_sup (B : Nat → Nat) (l : Nat) : ∀ p, sbs l (mlp B l p)
  | 0 => sbs_refl l
  | p + 1 => fun a ha => by
    have := mlp_sup B l p a ha
    unfold mlp
    split
    · rw [Nat.testBit_or, this, Bool.true_or]
    · exact this
theorem mlp_step (B : Nat → Nat) (l : Nat) (p : Nat) : sbs (mlp B l p) (mlp B l (p + 1)) := fun a ha => by
  show (if (mlp B l p).testBit p = true then mlp B l p ||| B p else mlp B l p).testBit a = true
  split
  · rw [Nat.testBit_or, ha, Bool.true_or]
  · exact ha
theorem mlp_up (B : Nat → Nat) (l : Nat) (p : Nat) : ∀ k, sbs (mlp B l p) (mlp B l (p + k))
  | 0 => sbs_refl _
  | k + 1 => fun a ha => mlp_step B l (p + k) a (mlp_up B l p k a ha)
theorem mlp_min {B : Nat → Nat} {l d : Nat} (hd : clsd B d) (h : sbs l d) : ∀ p, sbs (mlp B l p) d
  | 0 => h
  | p + 1 => fun a ha => by
    have ih := mlp_min hd h p
    unfold mlp at ha
    split at ha
    · rename_i hp
      rw [Nat.testBit_or, Bool.or_eq_true] at ha
      rcases ha with ha | ha
      · exact ih a ha
      · exact hd p (ih p hp) a ha
    · exact ih a ha
theorem mlp_fix {B : Nat → Nat} {l : Nat} (hl : l < 1024) (h : mlp B l 10 = l) : clsd B l := by
  intro p hp q hq
  have hp10 : p < 10 := bit_lt (m := 10) hl hp
  have h1 : (mlp B l p).testBit p = true := mlp_sup B l p p hp
  have h2 : (mlp B l (p + 1)).testBit q = true := by
    show (if (mlp B l p).testBit p = true then mlp B l p ||| B p else mlp B l p).testBit q = true
    rw [if_pos h1, Nat.testBit_or, hq, Bool.or_true]
  have h3 := mlp_up B l (p + 1) (10 - (p + 1)) q h2
  rw [show p + 1 + (10 - (p + 1)) = 10 by omega, h] at h3
  exact h3
theorem mlr_cl {B : Nat → Nat} (hB : ∀ p, p < 10 → B p < 1024) {b : Nat} (hb : b < 1024) : isCl B b (mlr B b 9) := by
  have hlt := mlr_lt hB hb
  have hsup : ∀ r, sbs b (mlr B b r) := fun r => by
    induction r with
    | zero => exact sbs_refl b
    | succ r ih => exact fun a ha => mlp_sup B (mlr B b r) 10 a (ih a ha)
  have hmin : ∀ r d, sbs b d → clsd B d → sbs (mlr B b r) d := fun r d h1 h2 => by
    induction r with
    | zero => exact h1
    | succ r ih => exact mlp_min h2 ih 10
  have key : ∀ r, clsd B (mlr B b r) ∨ r + 1 ≤ fa_cnt (fun i => (mlr B b r).testBit i) 10 := fun r => by
    induction r with
    | zero =>
      by_cases h0 : b = 0
      · left
        subst h0
        intro p hp
        replace hp : (0 : Nat).testBit p = true := hp
        rw [Nat.zero_testBit] at hp
        cases hp
      · right
        obtain ⟨p, hp⟩ := ex_bit h0
        have := cnt_strict (p := fun _ => false) (q := fun i => (mlr B b 0).testBit i) 10 (fun i _ h => by cases h) ⟨p, bit_lt (m := 10) hb hp, rfl, hp⟩
        omega
    | succ r ih =>
      by_cases he : mlp B (mlr B b r) 10 = mlr B b r
      · left
        show clsd B (mlp B (mlr B b r) 10)
        rw [he]
        exact mlp_fix (hlt r) he
      · rcases ih with ih | ih
        · exact absurd (sbs_anti (mlp_min ih (sbs_refl _) 10) (mlp_sup B _ 10)) he
        · right
          have hex : ∃ i, i < 10 ∧ (mlr B b r).testBit i = false ∧ (mlp B (mlr B b r) 10).testBit i = true := by
            apply Classical.byContradiction
            intro hn
            apply he
            refine sbs_anti (fun p hp => ?_) (mlp_sup B _ 10)
            cases hq : (mlr B b r).testBit p with
            | true => rfl
            | false => exact absurd ⟨p, bit_lt (m := 10) (hlt (r + 1)) hp, hq, hp⟩ hn
          have := cnt_strict (p := fun i => (mlr B b r).testBit i) (q := fun i => (mlp B (mlr B b r) 10).testBit i) 10 (fun i _ h => mlp_sup B _ 10 i h) hex
          show r + 1 + 1 ≤ fa_cnt (fun i => (mlp B (mlr B b r) 10).testBit i) 10
          omega
  refine ⟨hsup 9, ?_, hmin 9⟩
  rcases key 9 with h | h
  · exact h
  · intro p hp q hq
    exact cnt_full 10 h q (bit_lt (m := 10) (hB p (bit_lt (m := 10) (hlt 9) hp)) hq)
/-! ranks -/
def rkP (B : Nat → Nat) (f : Nat → Nat) : Prop := ∀ p q, p < 10 → (B p).testBit q = true → f q < f p
theorem rk_must {B f : Nat → Nat} (hB : ∀ p, p < 10 → B p < 1024) (h : rkP B f) {p q : Nat} (hq : q < 10) (hm : mustN B p q = true) : f p < f q := by
  have hc := mlr_cl hB (hB q hq)
  have := hc.2.2 (mskN (fun r => decide (f r < f q)) 10) (fun a ha => by
    rw [mskN_bit, decide_eq_true (bit_lt (m := 10) (hB q hq) ha), decide_eq_true (h q a hq ha)]
    rfl) (fun a ha r hr => by
    rw [mskN_bit, Bool.and_eq_true, decide_eq_true_iff, decide_eq_true_iff] at ha
    have := h a r ha.1 hr
    rw [mskN_bit, decide_eq_true (bit_lt (m := 10) (hB a ha.1) hr), decide_eq_true (show f r < f q by omega)]
    rfl) p hm
  rw [mskN_bit, Bool.and_eq_true, decide_eq_true_iff, decide_eq_true_iff] at this
  exact this.2
theorem must_law {B : Nat → Nat} (hB : ∀ p, p < 10 → B p < 1024) {p q : Nat} (hq : q < 10) (h : (B q).testBit p = true) : mustN B p q = true := (mlr_cl hB (hB q hq)).1 p h
theorem must_step {B : Nat → Nat} (hB : ∀ p, p < 10 → B p < 1024) {p q r : Nat} (hq : q < 10) (h : mustN B p q = true) (h2 : (B p).testBit r = true) : mustN B r q = true := (mlr_cl hB (hB q hq)).2.1 p h r h2
/-- a behind b by laws: then what is ahead of a is behind, too, wherever a is ahead -/
theorem must_front {B : Nat → Nat} (hB : ∀ p, p < 10 → B p < 1024) {b p q : Nat} (hq : q < 10) (hp : p < 10) (h : (B p).testBit q = true) (h2 : mustN B b q = true) : mustN B b p = true := by
  have hc := mlr_cl hB (hB q hq)
  have hcp := mlr_cl hB (hB p hp)
  exact hc.2.2 (mlr B (B p) 9) (fun a ha => hcp.2.1 q (hcp.1 q h) a ha) hcp.2.1 b h2
/-- one more law, where it makes no ring: there are still ranks -/
theorem rk_ahead {B B' f : Nat → Nat} {a b : Nat} (hB : ∀ p, p < 10 → B p < 1024) (ha : a < 10) (hb : b < 10) (hne : a ≠ b) (hm : mustN B b a = false) (h : rkP B f) (hB' : ∀ p q, p < 10 → (B' p).testBit q = true → (B p).testBit q = true ∨ (p = b ∧ q = a)) : ∃ g, rkP B' g := by
  refine ⟨fun p => if p = b ∨ mustN B b p = true then f p + (f a + 1) else f p, fun p q hp hq => ?_⟩
  show (if q = b ∨ mustN B b q = true then f q + (f a + 1) else f q) < (if p = b ∨ mustN B b p = true then f p + (f a + 1) else f p)
  rcases hB' p q hp hq with h1 | ⟨rfl, rfl⟩
  · have hlt := h p q hp h1
    by_cases c : q = b ∨ mustN B b q = true
    · have c2 : p = b ∨ mustN B b p = true := by
        right
        rcases c with rfl | c
        · exact must_law hB hp h1
        · exact must_front hB (bit_lt (m := 10) (hB p hp) h1) hp h1 c
      rw [if_pos c, if_pos c2]
      omega
    · rw [if_neg c]
      split <;> omega
  · rw [if_pos (Or.inl rfl), if_neg (by rw [hm]; intro h; rcases h with h | h; exact hne h; cases h)]
    omega
theorem rk_free {B B' f : Nat → Nat} (h : rkP B f) (hB' : ∀ p q, p < 10 → (B' p).testBit q = true → (B p).testBit q = true) : rkP B' f := fun p q hp hq => h p q hp (hB' p q hp hq)
/-- ranks give a plan in which each punch has a station of its own -/
theorem rk_plan {B F f : Nat → Nat} {m : Nat} (hm : m ≤ 10) (h : rkP B f) : ∃ g, valP m B F m g := by
  have key : ∀ p q, p < m → (f p < f q ∨ (f p = f q ∧ p < q)) → fa_cnt (fun r => decide (f r < f p) || (decide (f r = f p) && decide (r < p))) m < fa_cnt (fun r => decide (f r < f q) || (decide (f r = f q) && decide (r < q))) m := by
    intro p q hp hlt
    apply cnt_strict
    · intro i _ hi
      simp only [Bool.or_eq_true, Bool.and_eq_true, decide_eq_true_iff] at hi ⊢
      omega
    · refine ⟨p, hp, ?_, ?_⟩
      · simp
      · simp only [Bool.or_eq_true, Bool.and_eq_true, decide_eq_true_iff]
        exact hlt
  refine ⟨fun p => fa_cnt (fun r => decide (f r < f p) || (decide (f r = f p) && decide (r < p))) m, fun p hp => ?_, fun p q hp hq hb => ?_, fun p q hp hq hpq e => ?_⟩
  · have := cnt_strict (p := fun r => decide (f r < f p) || (decide (f r = f p) && decide (r < p))) (q := fun _ => true) m (fun _ _ _ => rfl) ⟨p, hp, by simp, rfl⟩
    have := fa_cnt_le (fun _ => true) m
    show fa_cnt _ m < m
    omega
  · exact key q p hq (Or.inl (h p q (by omega) hb))
  · exfalso
    rcases Nat.lt_trichotomy (f p) (f q) with c | c | c
    · have := key p q hp (Or.inl c)
      replace e : fa_cnt (fun r => decide (f r < f p) || (decide (f r = f p) && decide (r < p))) m = fa_cnt (fun r => decide (f r < f q) || (decide (f r = f q) && decide (r < q))) m := e
      omega
    · rcases Nat.lt_or_gt_of_ne hpq with d | d
      · have := key p q hp (Or.inr ⟨c, d⟩)
        replace e : fa_cnt (fun r => decide (f r < f p) || (decide (f r = f p) && decide (r < p))) m = fa_cnt (fun r => decide (f r < f q) || (decide (f r = f q) && decide (r < q))) m := e
        omega
      · have := key q p hq (Or.inr ⟨c.symm, d⟩)
        replace e : fa_cnt (fun r => decide (f r < f p) || (decide (f r = f p) && decide (r < p))) m = fa_cnt (fun r => decide (f r < f q) || (decide (f r = f q) && decide (r < q))) m := e
        omega
    · have := key q p hq (Or.inl c)
      replace e : fa_cnt (fun r => decide (f r < f p) || (decide (f r = f p) && decide (r < p))) m = fa_cnt (fun r => decide (f r < f q) || (decide (f r = f q) && decide (r < q))) m := e
      omega
