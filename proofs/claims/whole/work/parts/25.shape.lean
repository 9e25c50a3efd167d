/-! SHAPES of the class: its static methods over longs, as numbers -/
theorem lgc0 {x y : Int64} : lg_cmp x y = 0 ↔ x = y := by
  unfold lg_cmp
  constructor
  · intro h
    split at h
    · cases h
    · split at h
      · assumption
      · cases h
  · intro h
    subst h
    rw [if_neg (Int64.lt_irrefl)]
    simp
theorem lN_inj {a b : Nat} (ha : a < 2 ^ 64) (hb : b < 2 ^ 64) : lN a = lN b ↔ a = b := ⟨fun h => by have := congrArg (fun z => z.toBitVec.toNat) h; simp only [wb_tn ha, wb_tn hb] at this; exact this, fun h => by rw [h]⟩
theorem lN_z {a : Nat} (ha : a < 2 ^ 64) : lN a = 0 ↔ a = 0 := lN_inj (b := 0) ha (by decide)
theorem lgN {a : Nat} (ha : a < 2 ^ 64) : lg_cmp (lN a) 0 = 0 ↔ a = 0 := lgc0.trans (lN_z ha)
def COL : Nat := 72340172838076673
def rows0 : Nat → Nat → Nat
  | 0, n => n
  | f + 1, n => if n &&& 255 = 0 then rows0 f (n / 2 ^ 8) else n
def cols0 : Nat → Nat → Nat
  | 0, n => n
  | f + 1, n => if n &&& COL = 0 then cols0 f (n / 2 ^ 1) else n
def cornerN (n : Nat) : Nat := cols0 7 (rows0 7 n)
abbrev e1l : Nat → List Value := fun n => [.long (lN n)]
theorem v1l (n : Nat) (h : 2 ≤ n) (x : Nat) : okv (e1l x) ∧ (lvA (e1l x)).length ≤ n := ⟨okv_long okv_nil, h⟩
abbrev p64 : Nat → hA → hI → hJ → hQ → Prop := fun n _ _ _ _ => n < 2 ^ 64
def e_corner : ev := (1, 99, false, 0, 0, sf e1l p64 (fun n _ _ _ _ => some (.long (lN (cornerN n)))))
set_option maxRecDepth 20000 in
theorem c_corner {l : Launch} {tF : hTF} {qF : hQF} {base : Nat} : CM l tF qF base cdX7_toCorner e_corner := by
  refine cm_sf RX7 edX7_toCorner [] false kX7_toCorner cwX7_toCorner okX7_toCorner trivial (by decide) rfl (v1l _ (by decide)) ?_
  intro um zm G Rt n a I J Q cl hb hp hR
  have l2 : ∀ j k m, j + k = 8 → 1 ≤ k → m < 2 ^ 64 → cols0 j m = cornerN n → G 36 [some (.long (lN n)), none, some (.long (lN m)), none, some (.int (nI k))] [] a I J Q := by
    intro j
    induction j with
    | zero =>
      intro k m hk h1 hm he
      obtain rfl : k = 8 := by omega
      refine cl [5, 36] 50 36 _ _ _ _ _ _ ?_
      exact And.intro (fun _ => hR _ (by rw [← he]; rfl)) (fun c => absurd (by decide) c)
    | succ j ih =>
      intro k m hk h1 hm he
      refine cl [5, 36] 50 36 _ _ _ _ _ _ ?_
      refine And.intro (fun c => absurd c (nI_ge (a := k) (b := 8) (by omega) (by decide))) (fun c => ?_)
      have ea : lN m &&& 72340172838076673 = lN (m &&& COL) := wb_and hm (by decide)
      have hlt : m &&& COL < 2 ^ 64 := Nat.lt_of_le_of_lt Nat.and_le_left hm
      have es : ((lN m).toUInt64 >>> ((1 : Int32).toInt64.toUInt64 &&& Int64.toUInt64 63)).toInt64 = lN (m / 2 ^ 1) := wb_shr hm (k := 1) (by decide)
      replace he : (if m &&& COL = 0 then cols0 j (m / 2 ^ 1) else m) = cornerN n := he
      refine And.intro (fun (c2 : ¬ lg_cmp (lN m &&& 72340172838076673) 0 = 0) => hR _ ?_) (fun (c2 : lg_cmp (lN m &&& 72340172838076673) 0 = 0) => ?_)
      · rw [ea, lgN hlt] at c2
        rw [if_neg c2] at he
        rw [← he]
      · rw [ea, lgN hlt] at c2
        rw [if_pos c2] at he
        have := ih (k + 1) (m / 2 ^ 1) (by omega) (by omega) (by omega) he
        rw [← nI_1, ← es] at this
        exact this
  have l1 : ∀ j k m, j + k = 8 → 1 ≤ k → m < 2 ^ 64 → rows0 j m = rows0 7 n → G 5 [some (.long (lN n)), none, some (.long (lN m)), none, some (.int (nI k))] [] a I J Q := by
    intro j
    induction j with
    | zero =>
      intro k m hk h1 hm he
      obtain rfl : k = 8 := by omega
      refine cl [5, 36] 50 5 _ _ _ _ _ _ ?_
      exact And.intro (fun _ => l2 7 1 m rfl (by decide) hm (by unfold cornerN; rw [← he]; rfl)) (fun c => absurd (by decide) c)
    | succ j ih =>
      intro k m hk h1 hm he
      refine cl [5, 36] 50 5 _ _ _ _ _ _ ?_
      refine And.intro (fun c => absurd c (nI_ge (a := k) (b := 8) (by omega) (by decide))) (fun c => ?_)
      have ea : lN m &&& 255 = lN (m &&& 255) := wb_and hm (by decide)
      have hlt : m &&& 255 < 2 ^ 64 := Nat.lt_of_le_of_lt Nat.and_le_left hm
      have es : ((lN m).toUInt64 >>> ((8 : Int32).toInt64.toUInt64 &&& Int64.toUInt64 63)).toInt64 = lN (m / 2 ^ 8) := wb_shr hm (k := 8) (by decide)
      replace he : (if m &&& 255 = 0 then rows0 j (m / 2 ^ 8) else m) = rows0 7 n := he
      refine And.intro (fun (c2 : ¬ lg_cmp (lN m &&& 255) 0 = 0) => ?_) (fun (c2 : lg_cmp (lN m &&& 255) 0 = 0) => ?_)
      · rw [ea, lgN hlt] at c2
        rw [if_neg c2] at he
        exact l2 7 1 m rfl (by decide) hm (by unfold cornerN; rw [he])
      · rw [ea, lgN hlt] at c2
        rw [if_pos c2] at he
        have := ih (k + 1) (m / 2 ^ 8) (by omega) (by omega) (by omega) he
        rw [← nI_1, ← es] at this
        exact this
  refine cl [5, 36] 50 0 _ _ _ _ _ _ ?_
  exact l1 7 1 n rfl (by decide) hp rfl
