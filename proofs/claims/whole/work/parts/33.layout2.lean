/-! Layout, on -/
theorem gw_9 : ∃ n, tX 9 = some (11, n) := ⟨16, rfl⟩
theorem gw_12 : ∃ n, tX 12 = some (11, n) := ⟨16, rfl⟩
theorem grown_f {g : Nat} {I I' : hI} {c gap : Nat} (h : grown g I I' c gap) (hg : gap ≤ 4) : ∀ r, r < 16 → I' g r = nI (grN c gap r) ∧ grN c gap r < 2 ^ 17 := fun r hr => ⟨h.2 r hr, gst_lt c hg 8 r⟩
theorem grown_tr {g : Nat} {I I' I2 : hI} {c gap c' gap' : Nat} (h : grown g I I' c gap) (h2 : grown g I' I2 c' gap') : grown g I I2 c' gap' := ⟨fun k hk => (h2.1 k hk).trans (h.1 k hk), h2.2⟩
/-- clashes of a shape with its own copies -/
def selfN (c w h web : Nat) : Nat := shN (grN c web) c w 0 h / 2 ^ 11
abbrev x_self : Type := Nat × Nat × Nat × Nat × Nat
abbrev e_sf : x_self → List Value := fun x => [.ref 6, .ref x.1, .int (nI x.2.2.2.2)]
theorem v_sf (n : Nat) (h : 3 ≤ n) (x : x_self) : okv (e_sf x) ∧ (lvA (e_sf x)).length ≤ n := ⟨okv_ref (okv_ref (okv_int okv_nil)), h⟩
def e_self : ev := (3, 2, false, 0, 0, sn e_sf (fun x a I J _ => shw a I J x.1 x.2.1 x.2.2.1 x.2.2.2.1 ∧ x.2.2.2.2 ≤ 4) (fun x _ I J Q v I' J' Q' => v = some (.long (lN (selfN x.2.1 x.2.2.1 x.2.2.2.1 x.2.2.2.2))) ∧ J' = J ∧ Q' = Q ∧ grown 9 I I' x.2.1 x.2.2.2.2))
set_option maxRecDepth 20000 in
theorem c_self {l : Launch} : CX l cdX2_clashesWithItself e_self := by
  refine cm_sn RX2 edX2_clashesWithItself [e_grow, e_shifts] false kX2_clashesWithItself cwX2_clashesWithItself okX2_clashesWithItself ⟨⟨_, rfl, c_grow⟩, ⟨_, rfl, c_shifts⟩, trivial⟩ (by decide) rfl (v_sf _ (by decide)) ?_
  intro um zm G Rt ⟨k, c, w, h, web⟩ a I J Q cl hb hp hR
  have hs : shw a I J k c w h := hp.1
  have hw : web ≤ 4 := hp.2
  refine cl [] 60 0 _ _ _ _ _ _ ?_
  refine Exists.intro (false, k, c, web) (And.intro rfl (And.intro ⟨hs.1, hw⟩ ?_))
  rintro v I' J' Q' ⟨rfl, rfl, rfl, hg⟩
  have hg : grown 9 I I' c web := hg
  have hs' := shw_of hs (hg.1 k (ob_ne hs.1.1 gw_9))
  refine Exists.intro (false, k, c, w, h, 0, grN c web) (And.intro rfl (And.intro ⟨hs', (show (-1000 : Int) ≤ 0 ∧ (0 : Int) ≤ 1000 by decide), grown_f hg hw⟩ ?_))
  have hlt : shN (grN c web) c w 0 h < 2 ^ 24 := shN_lt (fun r _ => gst_lt c hw 8 r) h
  have e11 : ((lN (shN (grN c web) c w 0 h)).toUInt64 >>> ((11 : Int32).toInt64.toUInt64 &&& Int64.toUInt64 63)).toInt64 = lN (selfN c w h web) := wb_shr (k := 11) (by omega) (by decide)
  have := hR (some (.long (((lN (shN (grN c web) c w 0 h)).toUInt64 >>> ((11 : Int32).toInt64.toUInt64 &&& Int64.toUInt64 63)).toInt64))) I' J' Q' ⟨by rw [e11], rfl, rfl, hg⟩
  exact this
abbrev e_6 : Unit → List Value := fun _ => [.ref 6]
theorem v_6 (n : Nat) (h : 1 ≤ n) (x : Unit) : okv (e_6 x) ∧ (lvA (e_6 x)).length ≤ n := ⟨okv_ref okv_nil, h⟩
def e_forget : ev := (1, 2, false, 0, 0, sn e_6 (fun _ _ _ _ _ => True) (fun _ _ I J Q v I' J' Q' => v = none ∧ J' = J ∧ Q' = Q ∧ (∀ k', k' ≠ 7 → I' k' = I k') ∧ ∀ r, r < 144 → I' 7 r = 0))
set_option maxRecDepth 20000 in
theorem c_forget {l : Launch} : CX l cdX2_forget e_forget := by
  refine cm_sn RX2 edX2_forget [] false kX2_forget cwX2_forget okX2_forget trivial (by decide) rfl (v_6 _ (by decide)) ?_
  intro um zm G Rt x a I J Q cl hb hp hR
  have l1 : ∀ j r I', j + r = 144 → (∀ k', k' ≠ 7 → I' k' = I k') → (∀ r', r' < r → I' 7 r' = 0) → G 2 [some (.ref 6), some (.int (nI r))] [] a I' J Q := by
    intro j
    induction j with
    | zero =>
      intro r I' hj ho hr
      obtain rfl : r = 144 := by omega
      refine cl [2] 60 2 _ _ _ _ _ _ ?_
      exact And.intro (fun _ => hR _ _ _ _ ⟨rfl, rfl, rfl, ho, hr⟩) (fun c => absurd (show nI 144 ≤ nI 144 from nI_le (Nat.le_refl _) (by decide)) c)
    | succ j ih =>
      intro r I' hj ho hr
      refine cl [2] 60 2 _ _ _ _ _ _ ?_
      refine And.intro (fun c => absurd c (nI_ge (a := r) (b := 144) (by omega) (by decide))) (fun _ => And.intro (show vp_in (nI r) 144 from vp_in_nI (by omega) (by decide)) ?_)
      have := ih (r + 1) (up2 I' 7 (nI r).toNatClampNeg 0) (by omega) (fun k' hk' => by rw [up2_ne hk']; exact ho k' hk') (fun r' h' => ?_)
      · rw [← nI_1 r] at this
        exact this
      · rw [nI_clamp (by omega)]
        by_cases he : r' = r
        · subst he; rw [up2_at]
        · rw [up2_nej he]; exact hr r' (by omega)
  refine cl [2] 60 0 _ _ _ _ _ _ ?_
  exact l1 144 0 I rfl (fun _ _ => rfl) (fun r h => by omega)
/-- the strip's height -/
def stripZ (ha hb m : Nat) (d : Int) : Int := max (ha : Int) (d + hb) - min 0 d + 2 * m
abbrev x_st : Type := Nat × Nat × Nat × Nat × Int × Nat
abbrev e_st : x_st → List Value := fun x => [.ref x.1, .ref x.2.1, .int (zI x.2.2.2.2.1), .int (nI x.2.2.2.2.2)]
theorem v_st (n : Nat) (h : 4 ≤ n) (x : x_st) : okv (e_st x) ∧ (lvA (e_st x)).length ≤ n := ⟨okv_ref (okv_ref (okv_int (okv_int okv_nil))), h⟩
def e_strip : ev := (4, 99, false, 0, 0, sf e_st (fun x a I _ _ => (isOb a x.1 7 ∧ I x.1 2 = nI x.2.2.1 ∧ x.2.2.1 ≤ 8) ∧ (isOb a x.2.1 7 ∧ I x.2.1 2 = nI x.2.2.2.1 ∧ x.2.2.2.1 ≤ 8) ∧ (-8 ≤ x.2.2.2.2.1 ∧ x.2.2.2.2.1 ≤ 8) ∧ x.2.2.2.2.2 ≤ 3) (fun x _ _ _ _ => some (.int (zI (stripZ x.2.2.1 x.2.2.2.1 x.2.2.2.2.2 x.2.2.2.2.1)))))
theorem strip_eq {ha hb m : Nat} {d : Int} (h1 : ha ≤ 8) (h2 : hb ≤ 8) (hd : -8 ≤ d ∧ d ≤ 8) (hm : m ≤ 3) : (if nI ha < zI d + nI hb then zI d + nI hb else nI ha) - (if zI d < 0 then zI d else 0) + 2 * nI m = zI (stripZ ha hb m d) := by
  unfold stripZ
  rw [zI_nat hb, zI_add, zI_nat ha, show (0 : Int32) = zI 0 from rfl, show (2 : Int32) = nI 2 from rfl, pk_mul, zI_nat (2 * m)]
  simp only [zI_lt (show (-2147483648 : Int) ≤ (ha : Int) by omega) (show (ha : Int) < 2147483648 by omega) (show (-2147483648 : Int) ≤ d + (hb : Int) by omega) (show d + (hb : Int) < 2147483648 by omega), zI_lt (show (-2147483648 : Int) ≤ d by omega) (show d < 2147483648 by omega) (show (-2147483648 : Int) ≤ 0 by decide) (show (0 : Int) < 2147483648 by decide)]
  have hsub : ∀ x y : Int, zI x - zI y = zI (x - y) := fun x y => (Int32.ofInt_sub x y).symm
  split <;> split <;> rw [hsub, zI_add] <;> congr 1 <;> omega
set_option maxRecDepth 20000 in
theorem c_strip {l : Launch} : CX l cdX2_stripOf e_strip := by
  refine cm_sf RX2 edX2_stripOf [] false kX2_stripOf cwX2_stripOf okX2_stripOf trivial (by decide) rfl (v_st _ (by decide)) ?_
  intro um zm G Rt ⟨ka, kb, ha, hb', d, m⟩ a I J Q cl hb hp hR
  obtain ⟨⟨o1, i1, b1⟩, ⟨o2, i2, b2⟩, hd, hm⟩ := hp
  have i1 : I ka 2 = nI ha := i1
  have i2 : I kb 2 = nI hb' := i2
  refine cl [] 60 0 _ _ _ _ _ _ ?_
  refine cko (isOb_ck o1) (cko (isOb_ck o2) ?_)
  have := hR (some (.int ((if I ka 2 < zI d + I kb 2 then zI d + I kb 2 else I ka 2) - (if zI d < 0 then zI d else 0) + 2 * nI m))) (by rw [i1, i2, strip_eq b1 b2 hd hm])
  exact this
