/-! the class's punches: walls between them -/
theorem qE_big {Q : hQ} {k j : Nat} (h : 60 ≤ k) : qE qX Q k j = Q k j := by
  unfold qE
  rw [qX_big h]
abbrev x_nr : Type := (Nat × Nat × Nat × Nat) × Int × Int × (Nat → Nat)
abbrev e_nr : x_nr → List Value := fun x => [.ref 11, .ref x.1.1, .int (zI x.2.1), .int (zI x.2.2.1)]
theorem v_nr (n : Nat) (h : 4 ≤ n) (x : x_nr) : okv (e_nr x) ∧ (lvA (e_nr x)).length ≤ n := ⟨okv_ref (okv_ref (okv_int (okv_int okv_nil))), h⟩
def nearB (f : Nat → Nat) (c w h : Nat) (dx dy : Int) : Bool := decide (-11 ≤ dx) && decide (dx ≤ 11) && (shN f c w dy h).testBit (11 + dx).toNat
def e_isNear : ev := (4, 3, false, 0, 0, sf e_nr (fun x a I J _ => shw a I J x.1.1 x.1.2.1 x.1.2.2.1 x.1.2.2.2 ∧ (-100 ≤ x.2.1 ∧ x.2.1 ≤ 100) ∧ (-100 ≤ x.2.2.1 ∧ x.2.2.1 ≤ 100) ∧ ∀ r, r < 16 → I 12 r = nI (x.2.2.2 r) ∧ x.2.2.2 r < 2 ^ 17) (fun x _ _ _ _ => some (.int (bI (nearB x.2.2.2 x.1.2.1 x.1.2.2.1 x.1.2.2.2 x.2.1 x.2.2.1)))))
set_option maxRecDepth 20000 in
theorem c_isNear {l : Launch} : CX l cdX3_isNear e_isNear := by
  refine cm_sf RX3 edX3_isNear [e_within, e_shifts] true kX3_isNear cwX3_isNear okX3_isNear ⟨⟨_, rfl, c_within⟩, ⟨_, rfl, c_shifts⟩, trivial⟩ (by decide) rfl (v_nr _ (by decide)) ?_
  intro um zm G Rt ⟨⟨k, c, w, h⟩, dx, dy, f⟩ a I J Q cl hb hp hR
  obtain ⟨hs, hdx, hdy, hf⟩ := hp
  have hs : shw a I J k c w h := hs
  have hdx : -100 ≤ dx ∧ dx ≤ 100 := hdx
  have hdy : -100 ≤ dy ∧ dy ≤ 100 := hdy
  have hf : ∀ r, r < 16 → I 12 r = nI (f r) ∧ f r < 2 ^ 17 := hf
  have hR : ∀ v, v = some (Value.int (bI (nearB f c w h dx dy))) → Rt v a I J Q := hR
  have hwi : wi (zI dx) (-11) 11 = (decide (-11 ≤ dx) && decide (dx ≤ 11)) := by
    unfold wi
    have e1 : ((-11 : Int32) ≤ zI dx) = (-11 ≤ dx) := by
      rw [show (-11 : Int32) = zI (-11) from rfl]
      exact propext (zI_le (by omega) (by omega) (by omega) (by omega))
    have e2 : (zI dx ≤ (11 : Int32)) = (dx ≤ 11) := by
      rw [show (11 : Int32) = zI 11 from rfl]
      exact propext (zI_le (by omega) (by omega) (by omega) (by omega))
    simp only [e1, e2]
  refine cl [] 60 0 _ _ _ _ _ _ ?_
  refine Exists.intro (zI dx, -11, 11) (And.intro rfl (And.intro trivial ?_))
  refine bI_cases' (wi (zI dx) (-11) 11) (fun hw => ?_) (fun hw => And.intro (Or.inl rfl) (hR _ ?_))
  · have hrange : -11 ≤ dx ∧ dx ≤ 11 := by
      rw [hwi, Bool.and_eq_true, decide_eq_true_iff, decide_eq_true_iff] at hw
      exact hw
    have hlt : shN f c w dy h < 2 ^ 24 := shN_lt (fun r hr => (hf r hr).2) h
    have en : nearB f c w h dx dy = (shN f c w dy h).testBit (11 + dx).toNat := by
      unfold nearB
      rw [decide_eq_true hrange.1, decide_eq_true hrange.2]
      rfl
    refine Exists.intro (true, k, c, w, h, dy, f) (And.intro rfl (And.intro ⟨hs, ⟨(show -1000 ≤ dy by omega), (show dy ≤ 1000 by omega)⟩, hf⟩ ?_))
    have e11 : (11 : Int32) + zI dx = nI (11 + dx).toNat := by
      rw [show (11 : Int32) = zI 11 from rfl, zI_add, zI_nat]
      exact congrArg zI (by omega)
    have hbit := bitN (n := shN f c w dy h) (b := (11 + dx).toNat) (by omega) (by omega)
    rw [← e11] at hbit
    refine And.intro (fun (c1 : lg_cmp (((lN (shN f c w dy h)).toUInt64 >>> ((11 + zI dx).toInt64.toUInt64 &&& Int64.toUInt64 63)).toInt64 &&& 1) 0 = 0) => And.intro (Or.inl rfl) (hR _ ?_)) (fun (c1 : ¬ lg_cmp (((lN (shN f c w dy h)).toUInt64 >>> ((11 + zI dx).toInt64.toUInt64 &&& Int64.toUInt64 63)).toInt64 &&& 1) 0 = 0) => And.intro (Or.inr rfl) (hR _ ?_))
    · rw [hbit] at c1
      rw [en, c1]
      rfl
    · rw [hbit] at c1
      rw [en]
      cases hq : (shN f c w dy h).testBit (11 + dx).toNat with
      | true => rfl
      | false => exact absurd hq c1
  · rw [hwi] at hw
    unfold nearB
    rw [hw]
    rfl
/-- a punch of the class -/
def pnc (a : hA) (I : hI) (J : hJ) (Q : hQ) (k kind s x y th kf c w h : Nat) : Prop := isOb a k 6 ∧ 60 ≤ k ∧ (I k 0 = nI kind ∧ kind ≤ 2) ∧ (I k 1 = nI s ∧ s < 12) ∧ (I k 2 = nI x ∧ x ≤ 60) ∧ (I k 3 = nI y ∧ y ≤ 20) ∧ (I k 4 = nI th ∧ 1 ≤ th ∧ th ≤ 20) ∧ Q k 5 = some kf ∧ shw a I J kf c w h
abbrev x_awl : Type := (Nat × Nat × Nat × Nat × Nat × Nat × Nat × Nat × Nat × Nat) × (Nat × Nat × Nat × Nat × Nat × Nat × Nat × Nat × Nat × Nat) × Nat
abbrev e_awl : x_awl → List Value := fun x => [.ref 0, .ref x.1.1, .ref x.2.1.1]
theorem v_awl (n : Nat) (h : 3 ≤ n) (x : x_awl) : okv (e_awl x) ∧ (lvA (e_awl x)).length ≤ n := ⟨okv_ref (okv_ref (okv_ref okv_nil)), h⟩
abbrev pnT (a : hA) (I : hI) (J : hJ) (Q : hQ) (x : Nat × Nat × Nat × Nat × Nat × Nat × Nat × Nat × Nat × Nat) : Prop := pnc a I J Q x.1 x.2.1 x.2.2.1 x.2.2.2.1 x.2.2.2.2.1 x.2.2.2.2.2.1 x.2.2.2.2.2.2.1 x.2.2.2.2.2.2.2.1 x.2.2.2.2.2.2.2.2.1 x.2.2.2.2.2.2.2.2.2
def e_walled9 : ev := (3, 9, false, 0, 0, sf e_awl (fun x a I J Q => pnT a I J Q x.1 ∧ pnT a I J Q x.2.1 ∧ x.2.2 ≤ 4 ∧ ∀ r, r < 16 → I 12 r = nI (grN x.1.2.2.2.2.2.2.2.1 x.2.2 r)) (fun x _ _ _ _ => some (.int (bI (!nearB (grN x.1.2.2.2.2.2.2.2.1 x.2.2) x.2.1.2.2.2.2.2.2.2.1 x.2.1.2.2.2.2.2.2.2.2.1 x.2.1.2.2.2.2.2.2.2.2.2 ((x.2.1.2.2.2.1 : Int) - x.1.2.2.2.1) ((x.2.1.2.2.2.2.1 : Int) - x.1.2.2.2.2.1))))))
set_option maxRecDepth 20000 in
theorem c_walled9 {l : Launch} : CX l cdX9_areWalled e_walled9 := by
  refine cm_sf RX9 edX9_areWalled [e_isNear] true kX9_areWalled cwX9_areWalled okX9_areWalled ⟨⟨_, rfl, c_isNear⟩, trivial⟩ (by decide) rfl (v_awl _ (by decide)) ?_
  intro um zm G Rt ⟨⟨k1, kd1, s1, x1, y1, th1, kf1, c1, w1, h1⟩, ⟨k2, kd2, s2, x2, y2, th2, kf2, c2, w2, h2⟩, g⟩ a I J Q cl hb hp hR
  obtain ⟨hp1, hp2, hg, hgr⟩ := hp
  have hp1 : pnc a I J Q k1 kd1 s1 x1 y1 th1 kf1 c1 w1 h1 := hp1
  have hp2 : pnc a I J Q k2 kd2 s2 x2 y2 th2 kf2 c2 w2 h2 := hp2
  have hg : g ≤ 4 := hg
  have hgr : ∀ r, r < 16 → I 12 r = nI (grN c1 g r) := hgr
  have hR : ∀ v, v = some (Value.int (bI (!nearB (grN c1 g) c2 w2 h2 ((x2 : Int) - x1) ((y2 : Int) - y1)))) → Rt v a I J Q := hR
  obtain ⟨o1, b1, -, -, ⟨X1, X1'⟩, ⟨Y1, Y1'⟩, -, -, -⟩ := hp1
  obtain ⟨o2, b2, -, -, ⟨X2, X2'⟩, ⟨Y2, Y2'⟩, -, F2, S2⟩ := hp2
  have hq : qE qX Q k2 5 = some kf2 := by rw [qE_big b2]; exact F2
  refine cl [] 60 0 _ _ _ _ _ _ ?_
  refine cko (isOb_ck o2) ?_
  rw [hq]
  refine cko (isOb_ck o2) (cko (isOb_ck o1) (cko (isOb_ck o2) (cko (isOb_ck o1) ?_)))
  have ex : I k2 2 - I k1 2 = zI ((x2 : Int) - x1) := by rw [X1, X2, zI_nat, zI_nat, zI_sub]
  have ey : I k2 3 - I k1 3 = zI ((y2 : Int) - y1) := by rw [Y1, Y2, zI_nat, zI_nat, zI_sub]
  refine Exists.intro ((kf2, c2, w2, h2), (x2 : Int) - x1, (y2 : Int) - y1, grN c1 g) (And.intro (show [Value.ref 11, .ref kf2, .int (I k2 2 - I k1 2), .int (I k2 3 - I k1 3)] = [Value.ref 11, .ref kf2, .int (zI ((x2 : Int) - x1)), .int (zI ((y2 : Int) - y1))] by rw [ex, ey]) (And.intro ⟨S2, ⟨(show -100 ≤ (x2 : Int) - x1 by omega), (show (x2 : Int) - x1 ≤ 100 by omega)⟩, ⟨(show -100 ≤ (y2 : Int) - y1 by omega), (show (y2 : Int) - y1 ≤ 100 by omega)⟩, fun r hr => ⟨hgr r hr, gst_lt c1 hg 8 r⟩⟩ ?_))
  refine bI_cases (nearB (grN c1 g) c2 w2 h2 ((x2 : Int) - x1) ((y2 : Int) - y1)) (fun hn => And.intro (Or.inl rfl) (hR _ (by rw [hn]; rfl))) (fun hn => And.intro (Or.inr rfl) (hR _ (by rw [hn]; rfl)))
