/-! the class's bestPair: a method that makes cells -/
theorem cm_sp {l : Launch} {tF : hTF} {qF : hQF} {base : Nat} {dd : cdT} {X : Type} {enc : X → List Value} {Pre : X → hA → hI → hJ → hQ → Prop} {Post : X → hA → hI → hJ → hQ → Option Value → hA → hI → hJ → hQ → Prop} {n rc mc ms : Nat} (own : String) (ed : List edT) (env : List ev) (rz : Bool) (code : List en) (hcw : Cond.code dd.1 dd.2.1 dd.2.2.1 dd.2.2.2.1 ∈ lw_g) (hcode : okL own dd.2.1 ed dd.2.2.2.2 dd.2.2.2.1 rz code = true) (henv : EO l tF qF base ed env) (hy : plainName dd.1.cls = true) (hown : dd.1.cls = own) (hv : ∀ x, okv (enc x) ∧ (lvA (enc x)).length ≤ dd.2.2.1)
    (body : ∀ (G : hG) (Rt : hR) (x : X) (a : hA) (I : hI) (J : hJ) (Q : hQ), CL tF qF true base (a.2.1 + mc) (a.2.2.1 + ms) env false rz code G Rt → base ≤ a.1 → Pre x a I J Q → (∀ v a' I' J' Q', Post x a I J Q v (a'.1, a.2.1 + mc, a.2.2.1 + ms, a'.2.2.2) I' J' Q' → Rt v a' I' J' Q') → G 0 (lvIn dd.2.2.1 (enc x)) [] a I J Q) : CM l tF qF base dd (n, rc, true, mc, ms, sp enc Pre Post) := by
  refine cm_of own ed env false rz code hcw hcode henv sp_mono hy hown (fun h => Bool.noConfusion h) ?_
  intro G K av a I J Q cl hb hlen hS
  obtain ⟨x, hx, hp, hK⟩ := hS
  subst hx
  exact ⟨hv x, body G _ x a I J Q cl hb hp (fun v a' I' J' Q' h => hK v _ I' J' Q' h)⟩
/-- references among locals are of cells that are there -/
def rkL (N : Nat) : lL → Prop
  | [] => True
  | none :: r => rkL N r
  | some v :: r => rlt N v ∧ rkL N r
theorem rkL_get {N : Nat} : ∀ {lv : lL}, rkL N lv → ∀ (i : Nat) (v : Value), lv[i]? = some (some v) → rlt N v
  | [], _, i, v, h => by simp at h
  | none :: r, hr, i, v, h => by
    cases i with
    | zero => simp at h
    | succ i => exact rkL_get (lv := r) hr i v (by simpa using h)
  | some w :: r, hr, i, v, h => by
    cases i with
    | zero => simp at h; subst h; exact hr.1
    | succ i => exact rkL_get (lv := r) hr.2 i v (by simpa using h)
theorem rok_of {N : Nat} {lv : lL} {st : List Value} (h : rkL N lv) (hs : ∀ v, v ∈ st → rlt N v) : rok N lv st := ⟨rkL_get h, hs⟩
/-- cells are made, those that were there stay, but for the ints of some -/
def grw (l : List Nat) (n z : Nat) (a a' : hA) (I I' : hI) (J J' : hJ) (Q Q' : hQ) : Prop := a'.1 = a.1 + n ∧ a'.2.1 = a.2.1 + n ∧ a'.2.2.1 = a.2.2.1 + z ∧ (∀ k, k < a.1 → a'.2.2.2 k = a.2.2.2 k) ∧ (∀ k, k < a.1 → k ∉ l → I' k = I k) ∧ (∀ k, k < a.1 → J' k = J k) ∧ ∀ k, k < a.1 → Q' k = Q k
theorem isOb_lt {a : hA} {k ci : Nat} (ha : 60 ≤ a.1) (h : isOb a k ci) : k < a.1 := by
  have := h.1
  unfold cin at this
  rw [Bool.or_eq_true] at this
  rcases this with h | h
  · exact Nat.lt_of_lt_of_le (Nat.le_of_ble_eq_true h) ha
  · exact Nat.le_of_ble_eq_true h
theorem isOb_of {a a' : hA} {k ci : Nat} (ha : 60 ≤ a.1) (h : isOb a k ci) (h1 : a.1 ≤ a'.1) (h2 : a'.2.2.2 k = a.2.2.2 k) : isOb a' k ci := by
  have hk := isOb_lt ha h
  refine ⟨?_, ?_⟩
  · unfold cin
    rw [Bool.or_eq_true]
    exact Or.inr (Nat.ble_eq_true_of_le (Nat.lt_of_lt_of_le hk h1))
  · have := h.2
    unfold tE at this ⊢
    rw [h2]
    exact this
theorem isOb_new {a : hA} {ci n z : Nat} (ha : 60 ≤ a.1) : isOb (hnew a n (ci, z)) a.1 ci := by
  refine ⟨?_, ?_⟩
  · unfold cin hnew
    rw [Bool.or_eq_true]
    exact Or.inr (Nat.ble_eq_true_of_le (Nat.le_refl _))
  · unfold tE hnew
    rw [tX_big ha]
    show (va_up a.2.2.2 a.1 (ci, z) a.1).1 = ci
    unfold va_up
    rw [if_pos rfl]
theorem vup_ne {α : Type} {f : Nat → α} {k j : Nat} {x : α} (h : j ≠ k) : va_up f k x j = f j := by
  unfold va_up
  rw [if_neg h]
theorem vup_at {α : Type} {f : Nat → α} {k : Nat} {x : α} : va_up f k x k = x := by
  unfold va_up
  rw [if_pos rfl]
theorem shw_g {a a' : hA} {I I' : hI} {J J' : hJ} {k c w h : Nat} (ha : 60 ≤ a.1) (hs : shw a I J k c w h) (h1 : a.1 ≤ a'.1) (h2 : a'.2.2.2 k = a.2.2.2 k) (hI : I' k = I k) (hJ : J' k = J k) : shw a' I' J' k c w h := by
  obtain ⟨⟨p1, p2, p3⟩, p4, p5, p6⟩ := hs
  exact ⟨⟨isOb_of ha p1 h1 h2, by rw [hJ]; exact p2, p3⟩, by rw [hI]; exact p4, by rw [hI]; exact p5, p6⟩
abbrev x_bp : Type := (Nat × Nat × Nat × Nat) × (Nat × Nat × Nat × Nat) × Nat × Nat
abbrev e_bp : x_bp → List Value := fun x => [.ref 6, .ref x.1.1, .ref x.2.1.1, .int (nI x.2.2.1), .int (nI x.2.2.2)]
theorem v_bp (n : Nat) (h : 5 ≤ n) (x : x_bp) : okv (e_bp x) ∧ (lvA (e_bp x)).length ≤ n := ⟨okv_ref (okv_ref (okv_ref (okv_int (okv_int okv_nil)))), h⟩
def e_bestP : ev := (5, 2, true, 8, 24, sp e_bp (fun x a I J _ => (shw a I J x.1.1 x.1.2.1 x.1.2.2.1 x.1.2.2.2 ∧ exS x.1.2.1 x.1.2.2.1 x.1.2.2.2) ∧ (shw a I J x.2.1.1 x.2.1.2.1 x.2.1.2.2.1 x.2.1.2.2.2 ∧ exS x.2.1.2.1 x.2.1.2.2.1 x.2.1.2.2.2) ∧ x.2.2.1 ≤ 3 ∧ x.2.2.2 ≤ 3 ∧ mulOK J)
  (fun x a I J Q v a' I' J' Q' => v = some (.int (nI (bpT x.1.2.1 x.1.2.2.1 x.1.2.2.2 x.2.1.2.1 x.2.1.2.2.1 x.2.1.2.2.2 x.2.2.1 x.2.2.2 8))) ∧ grw [9] 8 24 a a' I I' J J' Q Q'))
set_option maxRecDepth 20000 in
theorem c_bestP {l : Launch} : CX l cdX2_bestPair e_bestP := by
  refine cm_sp RX2 edX2_bestPair [e_self, e_turned, e_shInit, e_grow, e_strip, e_shifts, e_bshift] false kX2_bestPair cwX2_bestPair okX2_bestPair ⟨⟨_, rfl, c_self⟩, ⟨_, rfl, c_turned⟩, ⟨_, rfl, c_shInit⟩, ⟨_, rfl, c_grow⟩, ⟨_, rfl, c_strip⟩, ⟨_, rfl, c_shifts⟩, ⟨_, rfl, c_bshift⟩, trivial⟩ (by decide) rfl (v_bp _ (by decide)) ?_
  intro G Rt ⟨⟨ka, ca, wa, ha⟩, ⟨kb, cb, wb, hb⟩, web, mg⟩ a I J Q cl hbase hp hR
  obtain ⟨⟨hsa, ea⟩, ⟨hsb, eb⟩, hweb, hmg, hmul⟩ := hp
  have hsa : shw a I J ka ca wa ha := hsa
  have ea : exS ca wa ha := ea
  have hsb : shw a I J kb cb wb hb := hsb
  have eb : exS cb wb hb := eb
  have hweb : web ≤ 3 := hweb
  have hmg : mg ≤ 3 := hmg
  have hmul : mulOK J := hmul
  have hR : ∀ v a' I' J' Q', (v = some (Value.int (nI (bpT ca wa ha cb wb hb web mg 8))) ∧ grw [9] 8 24 a (a'.1, a.2.1 + 8, a.2.2.1 + 24, a'.2.2.2) I I' J J' Q Q') → Rt v a' I' J' Q' := hR
  have hka : ka < a.1 := isOb_lt hbase hsa.1.1
  have hkb : kb < a.1 := isOb_lt hbase hsb.1.1
  have hka9 : ka ≠ 9 := ob_ne hsa.1.1 gw_9
  have hkb9 : kb ≠ 9 := ob_ne hsb.1.1 gw_9
  have hle : ∀ t n, t ≤ 8 → n ≤ 17 → bpD ca wa ha cb wb hb web mg t (bpT ca wa ha cb wb hb web mg t) n ≤ 2147483647 := fun t n ht hn => by
    have h1 : ∀ t, bpT ca wa ha cb wb hb web mg t ≤ 2147483647 := fun t => by
      induction t with
      | zero => exact Nat.le_refl _
      | succ t ih => exact Nat.le_trans (bpD_min ca wa ha cb wb hb web mg t _ 17).2.1 ih
    exact Nat.le_trans (bpD_min ca wa ha cb wb hb web mg t _ n).2.1 (h1 t)
  have hleT : ∀ t, bpT ca wa ha cb wb hb web mg t ≤ 2147483647 := fun t => by
    induction t with
    | zero => exact Nat.le_refl _
    | succ t ih => exact Nat.le_trans (bpD_min ca wa ha cb wb hb web mg t _ 17).2.1 ih
  have hself : selfN ca wa ha web < 2 ^ 24 := selfN_lt (by omega)
  -- the loop over dy
  have l2 : ∀ d j t k (v13 v14 : Option Value) a' I' J' Q', d + j = 17 → t < 8 → k < a'.1 → a.1 ≤ k → grw [9] (t + 1) (3 * (t + 1)) a a' I I' J J' Q Q' → shw a' I' J' k (trn cb wb hb t) (widthN (trn cb wb hb t)) (heightN (trn cb wb hb t)) → (∀ r, r < 16 → I' 9 r = nI (grN ca web r)) → rkL a'.1 [v13, v14] → (∀ v9 v10 v12 v13 v14 a' I' J' Q', grw [9] (t + 1) (3 * (t + 1)) a a' I I' J J' Q Q' → rkL a'.1 [v9, some (.long v10), none, some (.int v12), v13, v14] → G 15 [some (.ref 6), some (.ref ka), some (.ref kb), some (.int (nI web)), some (.int (nI mg)), some (.int (nI (bpT ca wa ha cb wb hb web mg (t + 1)))), some (.long (lN (selfN ca wa ha web))), none, some (.int (nI (t + 1))), v9, some (.long v10), none, some (.int v12), v13, v14] [] a' I' J' Q') → G 62 [some (.ref 6), some (.ref ka), some (.ref kb), some (.int (nI web)), some (.int (nI mg)), some (.int (nI (bpD ca wa ha cb wb hb web mg t (bpT ca wa ha cb wb hb web mg t) j))), some (.long (lN (selfN ca wa ha web))), none, some (.int (nI t)), some (.ref k), some (.long (lN (selfN ca wa ha web ||| selfN (trn cb wb hb t) (widthN (trn cb wb hb t)) (heightN (trn cb wb hb t)) web))), none, some (.int (zI ((j : Int) - 8))), v13, v14] [] a' I' J' Q' := by
    intro d
    induction d with
    | zero =>
      intro j t k v13 v14 a' I' J' Q' hd ht hk hk2 hg hsk h9 hrk hK
      obtain rfl : j = 17 := by omega
      refine cl [15, 62] 90 62 _ _ _ _ _ _ ?_
      refine And.intro (fun _ => ?_) (fun h => absurd (by decide) h)
      have := hK (some (.ref k)) (lN (selfN ca wa ha web ||| selfN (trn cb wb hb t) (widthN (trn cb wb hb t)) (heightN (trn cb wb hb t)) web)) (zI (((17 : Nat) : Int) - 8)) v13 v14 a' I' J' Q' hg ⟨hk, trivial, trivial, hrk⟩
      rw [← nI_1 t] at this
      exact this
    | succ d ih =>
      intro j t k v13 v14 a' I' J' Q' hd ht hk hk2 hg hsk h9 hrk hK
      have hj : j < 17 := by omega
      obtain ⟨g1, g2, g3, g4, g5, g6, g7⟩ := id hg
      have hsa' : shw a' I' J' ka ca wa ha := shw_g hbase hsa (by omega) (g4 ka hka) (g5 ka hka (by simp; exact hka9)) (g6 ka hka)
      have hmul' : mulOK J' := fun p h1 h2 => by rw [g6 10 (by omega)]; exact hmul p h1 h2
      have htk := trn_ok eb t
      have hhs := height_spec htk.1
      have hws := width_spec htk.1
      have hst1 := strip_bnd (d := (j : Int) - 8) ea.2.2.2.1.1 ea.2.2.2.1.2 hhs.1.1 hhs.1.2 hmg (by omega)
      have hself2 : selfN (trn cb wb hb t) (widthN (trn cb wb hb t)) (heightN (trn cb wb hb t)) web < 2 ^ 24 := selfN_lt (by omega)
      have hps : pairS ca (widthN (trn cb wb hb t)) (heightN (trn cb wb hb t)) (trn cb wb hb t) web ((j : Int) - 8) < 2 ^ 24 := shN_lt (fun r _ => gst_lt ca (by omega) 8 r) _
      refine cl [15, 62] 90 62 _ _ _ _ _ _ ?_
      refine And.intro (fun (h : (8 : Int32) < zI ((j : Int) - 8)) => ?_) (fun _ => ?_)
      · rw [show (8 : Int32) = zI 8 from rfl, zI_lt (by omega) (by omega) (by omega) (by omega)] at h
        omega
      refine Exists.intro (ka, k, ha, heightN (trn cb wb hb t), (j : Int) - 8, mg) (And.intro rfl (And.intro ⟨⟨hsa'.1.1, hsa'.2.2.1, ea.2.2.2.1.2⟩, ⟨hsk.1.1, hsk.2.2.1, hhs.1.2⟩, ⟨(show -8 ≤ (j : Int) - 8 by omega), (show (j : Int) - 8 ≤ 8 by omega)⟩, hmg⟩ ?_))
      refine Exists.intro (false, k, trn cb wb hb t, widthN (trn cb wb hb t), heightN (trn cb wb hb t), (j : Int) - 8, grN ca web) (And.intro rfl (And.intro ⟨hsk, ⟨(show -1000 ≤ (j : Int) - 8 by omega), (show (j : Int) - 8 ≤ 1000 by omega)⟩, fun r hr => ⟨h9 r hr, gst_lt ca (by omega) 8 r⟩⟩ ?_))
      have epl : nI t * 16 * 17 + zI ((j : Int) - 8) + 8 = nI (t * 272 + j) := by
        rw [show (16 : Int32) = nI 16 from rfl, pk_mul, show (17 : Int32) = nI 17 from rfl, pk_mul, zI_nat, zI_add, show (8 : Int32) = zI 8 from rfl, zI_add, zI_nat]
        exact congrArg zI (by omega)
      have est : zI (stripZ ha (heightN (trn cb wb hb t)) mg ((j : Int) - 8)) = nI (stripZ ha (heightN (trn cb wb hb t)) mg ((j : Int) - 8)).toNat := by
        rw [zI_nat]
        exact congrArg zI (by omega)
      refine Exists.intro (selfN ca wa ha web ||| selfN (trn cb wb hb t) (widthN (trn cb wb hb t)) (heightN (trn cb wb hb t)) web, pairS ca (widthN (trn cb wb hb t)) (heightN (trn cb wb hb t)) (trn cb wb hb t) web ((j : Int) - 8), (stripZ ha (heightN (trn cb wb hb t)) mg ((j : Int) - 8)).toNat, t * 272 + j) (And.intro ?_ (And.intro (show selfN ca wa ha web ||| selfN (trn cb wb hb t) (widthN (trn cb wb hb t)) (heightN (trn cb wb hb t)) web < 2 ^ 44 ∧ pairS ca (widthN (trn cb wb hb t)) (heightN (trn cb wb hb t)) (trn cb wb hb t) web ((j : Int) - 8) < 2 ^ 24 ∧ (stripZ ha (heightN (trn cb wb hb t)) mg ((j : Int) - 8)).toNat ≤ 40 ∧ t * 272 + j ≤ 10000 ∧ mulOK J' from ⟨or_bnd (by omega) (by omega), hps, by omega, by omega, hmul'⟩) ?_))
      · show [Value.ref 6, .long (lN (selfN ca wa ha web ||| selfN (trn cb wb hb t) (widthN (trn cb wb hb t)) (heightN (trn cb wb hb t)) web)), .long (lN (shN (grN ca web) (trn cb wb hb t) (widthN (trn cb wb hb t)) ((j : Int) - 8) (heightN (trn cb wb hb t)))), .int (zI (stripZ ha (heightN (trn cb wb hb t)) mg ((j : Int) - 8))), .int (nI t * 16 * 17 + zI ((j : Int) - 8) + 8)] = [Value.ref 6, .long (lN (selfN ca wa ha web ||| selfN (trn cb wb hb t) (widthN (trn cb wb hb t)) (heightN (trn cb wb hb t)) web)), .long (lN (pairS ca (widthN (trn cb wb hb t)) (heightN (trn cb wb hb t)) (trn cb wb hb t) web ((j : Int) - 8))), .int (nI (stripZ ha (heightN (trn cb wb hb t)) mg ((j : Int) - 8)).toNat), .int (nI (t * 272 + j))]
        rw [epl, est]
        rfl
      · have hbl := bsL_le (selfN ca wa ha web ||| selfN (trn cb wb hb t) (widthN (trn cb wb hb t)) (heightN (trn cb wb hb t)) web) (pairS ca (widthN (trn cb wb hb t)) (heightN (trn cb wb hb t)) (trn cb wb hb t) web ((j : Int) - 8)) (stripZ ha (heightN (trn cb wb hb t)) mg ((j : Int) - 8)).toNat (t * 272 + j) 16
        have hlj := hle t j (by omega) (by omega)
        have emin : (if nI (bsL (selfN ca wa ha web ||| selfN (trn cb wb hb t) (widthN (trn cb wb hb t)) (heightN (trn cb wb hb t)) web) (pairS ca (widthN (trn cb wb hb t)) (heightN (trn cb wb hb t)) (trn cb wb hb t) web ((j : Int) - 8)) (stripZ ha (heightN (trn cb wb hb t)) mg ((j : Int) - 8)).toNat (t * 272 + j) 16) < nI (bpD ca wa ha cb wb hb web mg t (bpT ca wa ha cb wb hb web mg t) j) then nI (bsL (selfN ca wa ha web ||| selfN (trn cb wb hb t) (widthN (trn cb wb hb t)) (heightN (trn cb wb hb t)) web) (pairS ca (widthN (trn cb wb hb t)) (heightN (trn cb wb hb t)) (trn cb wb hb t) web ((j : Int) - 8)) (stripZ ha (heightN (trn cb wb hb t)) mg ((j : Int) - 8)).toNat (t * 272 + j) 16) else nI (bpD ca wa ha cb wb hb web mg t (bpT ca wa ha cb wb hb web mg t) j)) = nI (bpD ca wa ha cb wb hb web mg t (bpT ca wa ha cb wb hb web mg t) (j + 1)) := by
          show _ = nI (min (bpD ca wa ha cb wb hb web mg t (bpT ca wa ha cb wb hb web mg t) j) _)
          generalize bsL _ _ _ _ 16 = X at *
          generalize bpD ca wa ha cb wb hb web mg t (bpT ca wa ha cb wb hb web mg t) j = Y at *
          by_cases h : X < Y
          · rw [if_pos (nI_lt h (by omega)), Nat.min_eq_right (by omega)]
          · rw [if_neg (nI_nlt (by omega) (by omega)), Nat.min_eq_left (by omega)]
        have := ih (j + 1) t k (some (.int (zI (stripZ ha (heightN (trn cb wb hb t)) mg ((j : Int) - 8))))) (some (.int (nI t * 16 * 17 + zI ((j : Int) - 8) + 8))) a' I' J' Q' (by omega) ht hk hk2 hg hsk h9 ⟨trivial, trivial, trivial⟩ hK
        rw [← emin, show (((j + 1 : Nat) : Int) - 8) = ((j : Int) - 8) + 1 by omega, ← zI_add] at this
        exact this
  have l1 : ∀ d t (v9 : Option Value) (w10 w12 v13 v14 : Option Value) a' I' J' Q', d + t = 8 → grw [9] t (3 * t) a a' I I' J J' Q Q' → rkL a'.1 [v9, w10, none, w12, v13, v14] → G 15 [some (.ref 6), some (.ref ka), some (.ref kb), some (.int (nI web)), some (.int (nI mg)), some (.int (nI (bpT ca wa ha cb wb hb web mg t))), some (.long (lN (selfN ca wa ha web))), none, some (.int (nI t)), v9, w10, none, w12, v13, v14] [] a' I' J' Q' := by
    intro d
    induction d with
    | zero =>
      intro t v9 w10 w12 v13 v14 a' I' J' Q' hd hg hrk
      obtain rfl : t = 8 := by omega
      refine cl [15, 62] 90 15 _ _ _ _ _ _ ?_
      refine And.intro (fun _ => ?_) (fun h => absurd (by decide) h)
      obtain ⟨g1, g2, g3, g4⟩ := hg
      exact hR _ _ _ _ _ ⟨rfl, g1, rfl, rfl, g4⟩
    | succ d ih =>
      intro t v9 w10 w12 v13 v14 a' I' J' Q' hd hg hrk
      obtain ⟨g1, g2, g3, g4, g5, g6, g7⟩ := id hg
      have hb' : 60 ≤ a'.1 := by omega
      have htk := trn_ok eb t
      have hhs := height_spec htk.1
      have hws := width_spec htk.1
      have hsb' : shw a' I' J' kb cb wb hb := shw_g hbase hsb (by omega) (g4 kb hkb) (g5 kb hkb (by simp; exact hkb9)) (g6 kb hkb)
      refine cl [15, 62] 90 15 _ _ _ _ _ _ ?_
      refine And.intro (fun h => absurd h (nI_ge (a := t) (b := 8) (by omega) (by decide))) (fun _ => ?_)
      refine And.intro ⟨tX_big hb', fun j => qX_big hb' j⟩ (And.intro (rok_of ⟨(show 6 < a'.1 by omega), (show ka < a'.1 by omega), (show kb < a'.1 by omega), trivial, trivial, trivial, trivial, trivial, hrk⟩ (fun v hv => by cases hv)) (And.intro ⟨(show a'.2.1 + 1 ≤ a.2.1 + 8 by omega), (show a'.2.2.1 + 3 ≤ a.2.2.1 + 24 by omega)⟩ ?_))
      -- the new cell
      have hob : isOb (hnew a' 3 (7, 0)) a'.1 7 := isOb_new hb'
      have hnA : ∀ k, k < a'.1 → (hnew a' 3 (7, 0)).2.2.2 k = a'.2.2.2 k := fun k hk => vup_ne (by omega)
      have hsbn : shw (hnew a' 3 (7, 0)) (va_up I' a'.1 (fun _ => 0)) (va_up J' a'.1 (fun _ => 0)) kb cb wb hb := shw_g hb' hsb' (Nat.le_succ _) (hnA kb (by omega)) (vup_ne (by omega)) (vup_ne (by omega))
      refine vko hsbn.1.1 rfl ?_
      refine Exists.intro (kb, cb, wb, hb, t) (And.intro rfl (And.intro ⟨hsbn, (show t < 8 by omega)⟩ ?_))
      refine Exists.intro (a'.1, trn cb wb hb t) (And.intro rfl (And.intro ⟨hob, htk.1⟩ ?_))
      rintro v I2 J2 Q2 ⟨rfl, rfl, rfl, rfl⟩
      have hcn := trn_corner eb t
      have hsk : shw (hnew a' 3 (7, 0)) (up2 (up2 (va_up I' a'.1 (fun _ => 0)) a'.1 1 (nI (widthN (cornerN (trn cb wb hb t))))) a'.1 2 (nI (heightN (cornerN (trn cb wb hb t))))) (up2 (va_up J' a'.1 (fun _ => 0)) a'.1 0 (lN (cornerN (trn cb wb hb t)))) a'.1 (trn cb wb hb t) (widthN (trn cb wb hb t)) (heightN (trn cb wb hb t)) :=
        ⟨⟨hob, by rw [up2_at, hcn], htk.1⟩, by rw [up2_nej (by decide), up2_at, hcn], by rw [up2_at, hcn], fit_own htk.1, hws.1.1, hws.1.2, hhs.1.1, hhs.1.2⟩
      refine Exists.intro (a'.1, trn cb wb hb t, widthN (trn cb wb hb t), heightN (trn cb wb hb t), web) (And.intro rfl (And.intro ⟨hsk, (show web ≤ 4 by omega)⟩ ?_))
      rintro v I3 J3 Q3 ⟨rfl, rfl, rfl, hgr⟩
      have hgr : grown 9 (up2 (up2 (va_up I' a'.1 (fun _ => 0)) a'.1 1 (nI (widthN (cornerN (trn cb wb hb t))))) a'.1 2 (nI (heightN (cornerN (trn cb wb hb t))))) I3 (trn cb wb hb t) web := hgr
      have hJa : ∀ k, k < a'.1 → up2 (va_up J' a'.1 (fun _ => 0)) a'.1 0 (lN (cornerN (trn cb wb hb t))) k = J' k := fun k hk => by rw [up2_ne (by omega)]; exact vup_ne (by omega)
      have hIa : ∀ k, k < a'.1 → k ≠ 9 → I3 k = I' k := fun k hk h9 => by rw [hgr.1 k h9, up2_ne (by omega), up2_ne (by omega)]; exact vup_ne (by omega)
      have hsa3 : shw (hnew a' 3 (7, 0)) I3 (up2 (va_up J' a'.1 (fun _ => 0)) a'.1 0 (lN (cornerN (trn cb wb hb t)))) ka ca wa ha := shw_g hbase hsa (show a.1 ≤ a'.1 + 1 by omega) ((hnA ka (by omega)).trans (g4 ka hka)) ((hIa ka (by omega) hka9).trans (g5 ka hka (by simp; exact hka9))) ((hJa ka (by omega)).trans (g6 ka hka))
      refine Exists.intro (false, ka, ca, web) (And.intro rfl (And.intro ⟨hsa3.1, (show web ≤ 4 by omega)⟩ ?_))
      rintro v I4 J4 Q4 ⟨rfl, rfl, rfl, hgr2⟩
      have hgr2 : grown 9 I3 I4 ca web := hgr2
      have hself2 : selfN (trn cb wb hb t) (widthN (trn cb wb hb t)) (heightN (trn cb wb hb t)) web < 2 ^ 24 := selfN_lt (by omega)
      have h9n : a'.1 ≠ 9 := by omega
      have := l2 17 0 t a'.1 v13 v14 (hnew a' 3 (7, 0)) I4 (up2 (va_up J' a'.1 (fun _ => 0)) a'.1 0 (lN (cornerN (trn cb wb hb t)))) (va_up Q' a'.1 (fun _ => none)) rfl (by omega) (Nat.lt_succ_self _) (by omega)
        ⟨(show a'.1 + 1 = a.1 + (t + 1) by omega), (show a'.2.1 + 1 = a.2.1 + (t + 1) by omega), (show a'.2.2.1 + 3 = a.2.2.1 + 3 * (t + 1) by omega), fun k hk => (hnA k (by omega)).trans (g4 k hk), fun k hk h9 => by
          have h9' : k ≠ 9 := fun e => h9 (by rw [e]; exact List.mem_singleton.mpr rfl)
          rw [hgr2.1 k h9', hIa k (by omega) h9']
          exact g5 k hk h9, fun k hk => (hJa k (by omega)).trans (g6 k hk), fun k hk => (vup_ne (by omega)).trans (g7 k hk)⟩
        (shw_of (shw_of hsk (hgr.1 a'.1 h9n)) (hgr2.1 a'.1 h9n)) hgr2.2 ?_ (fun v9 v10 v12 v13 v14 a'' I'' J'' Q'' q1 q2 => ih (t + 1) v9 (some (.long v10)) (some (.int v12)) v13 v14 a'' I'' J'' Q'' (by omega) q1 q2)
      · rw [← wb_or (by omega) (by omega)] at this
        exact this
      · have hmono : ∀ (N M : Nat), N ≤ M → ∀ (v : Value), rlt N v → rlt M v := fun N M h v hv => by
          cases v with
          | ref k => exact Nat.lt_of_lt_of_le hv h
          | _ => trivial
        have hall := rkL_get hrk
        have mk : ∀ (x : Option Value), (∀ v, x = some v → rlt a'.1 v) → ∀ (y : lL), rkL (a'.1 + 1) y → rkL (a'.1 + 1) (x :: y) := fun x hx y hy => by
          cases x with
          | none => exact hy
          | some v => exact ⟨hmono _ _ (Nat.le_succ _) v (hx v rfl), hy⟩
        exact mk v13 (fun v hv => hall 4 v (by rw [hv]; rfl)) _ (mk v14 (fun v hv => hall 5 v (by rw [hv]; rfl)) [] trivial)
  refine cl [15, 62] 90 0 _ _ _ _ _ _ ?_
  refine Exists.intro (ka, ca, wa, ha, web) (And.intro rfl (And.intro ⟨hsa, (show web ≤ 4 by omega)⟩ ?_))
  rintro v I3 J3 Q3 ⟨rfl, rfl, rfl, hgr⟩
  have hgr : grown 9 I I3 ca web := hgr
  exact l1 8 0 none none none none none a I3 J3 Q3 rfl ⟨rfl, rfl, rfl, fun _ _ => rfl, fun k hk h9 => hgr.1 k (fun e => h9 (by rw [e]; exact List.mem_singleton.mpr rfl)), fun _ _ => rfl, fun _ _ => rfl⟩ trivial
