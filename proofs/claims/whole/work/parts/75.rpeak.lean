/-! REFERENCE: peak -/
theorem canR_ge {s v : Nat} (k : Nat) (fs : List Nat) (L : Nat → Nat) (h : canR s v k fs L) : ∀ j, j < s → L j ≤ v := canL_ge fs L (canR_L k fs L h)
def fsl (f w : Nat → Nat) (st : Nat) : Nat → List Nat
  | 0 => []
  | p + 1 => if f p = st then fsl f w st p ++ [w p] else fsl f w st p
theorem fsl_len (f w : Nat → Nat) (st : Nat) : ∀ p, (fsl f w st p).length ≤ p
  | 0 => Nat.le_refl _
  | p + 1 => by
    have := fsl_len f w st p
    unfold fsl
    split
    · rw [List.length_append]; simp; omega
    · omega
theorem fsl_mem {f w : Nat → Nat} {st c : Nat} : ∀ p, (∀ q, q < p → w q ≤ c) → ∀ x, x ∈ fsl f w st p → x ≤ c
  | 0, _, x, hx => by cases hx
  | p + 1, h, x, hx => by
    have ih := fsl_mem (f := f) (w := w) (st := st) p (fun q hq => h q (by omega))
    unfold fsl at hx
    split at hx
    · rw [List.mem_append] at hx
      rcases hx with hx | hx
      · exact ih x hx
      · simp at hx; rw [hx]; exact h p (by omega)
    · exact ih x hx
theorem fsl_ne {f w : Nat → Nat} {st : Nat} : ∀ p q, q < p → f q = st → fsl f w st p ≠ []
  | 0, q, h, _ => by omega
  | p + 1, q, h, hq => by
    unfold fsl
    split
    · simp
    · rename_i hn
      by_cases e : q = p
      · subst e; exact absurd hq hn
      · exact fsl_ne p q (by omega) hq
theorem getD_app {l : List Nat} {x i : Nat} : (l ++ [x]).getD i 0 = if i < l.length then l.getD i 0 else if i = l.length then x else 0 := by
  rw [List.getD_eq_getElem?_getD, List.getD_eq_getElem?_getD]
  by_cases h : i < l.length
  · rw [if_pos h, List.getElem?_append_left h]
  · rw [if_neg h, List.getElem?_append_right (by omega)]
    by_cases e : i = l.length
    · rw [if_pos e, e, Nat.sub_self]; rfl
    · rw [if_neg e]
      obtain ⟨k, hk⟩ : ∃ k, i - l.length = k + 1 := ⟨i - l.length - 1, by omega⟩
      rw [hk]; rfl
/-- the answer of peak, by the plan that was found -/
def pkP (K : Nat) (l : Nat → List Nat) (st s : Int32) (v : Option Value) : Prop := (wi st 0 (nI K - 1) = false → v = some (.int (-1))) ∧ (wi st 0 (nI K - 1) = true → wi s 1 4 = false → v = some (.int (-2))) ∧ (wi st 0 (nI K - 1) = true → wi s 1 4 = true → ∃ p, v = some (.int (nI p)) ∧ lpN (l st.toNatClampNeg) s.toNatClampNeg p)
def e_rpeak : ev := (3, 10, false, 0, 0, sn e_fc p_fc (fun x _ I J Q v I' J' Q' => J' = J ∧ Q' = Q ∧ pfr I I' ∧ ∃ K f, K ≤ x.2.1.1 ∧ plnP x.2.1.1 x.2.2.1.1 x.2.2.1.2.2.2.2.2 K f ∧ pkP K (fun st => fsl f (frc x.2.2.1.2.2.2.2.1 x.2.2.2.1 x.2.2.2.2.1) st x.2.1.1) x.1.1 x.1.2 v))

set_option maxRecDepth 20000 in
theorem rpeak_search {um zm : Nat} {env : List ev} {G : hG} {Rt : hR} {a : hA} {J : hJ} {Q : hQ} (cl : CL tX qX false 60 um zm env false false kX10_peak G Rt) (I0 : hI) (l : List Nat) (s : Nat) (st : Int32) (hl10 : l.length ≤ 10) (hs1 : 1 ≤ s) (hs4 : s ≤ 4) (hx : ∀ x, x ∈ l → x ≤ 10000) (h55 : ∀ k, k < l.length → I0 55 k = nI (l.getD k 0)) :
    ∀ d k (fs : List Nat) (L : Nat → Nat) (M0 : Nat) (c M : Nat) (v6 v7 : Option Value) (I' : hI), d + k = l.length → 1 ≤ d → fs = l.drop k → (∀ j, j < s → L j + fs.sum ≤ 200000) → M0 ≤ 1000000 → c ≤ min s (k + 1) → fr I0 I' [56, 57] → (∀ j, j < s → I' 56 j = nI (if c = 0 then L j else ldU L (c - 1) (l.getD k 0) j)) → I' 57 k = zI ((c : Int) - 1) → M ≤ M0 → (∀ j, j < s → L j ≤ M0) → (M = M0 ∨ canR s M k fs L) → (∀ w j, j < c → canR s w (k + 1) (l.drop (k + 1)) (ldU L j (l.getD k 0)) → M ≤ w) →
      (∀ I2 M2 (v6 v7 : Option Value), fr I0 I2 [56, 57] → (∀ j, j < s → I2 56 j = nI (L j)) → (∀ q, q < k → I2 57 q = I' 57 q) → M2 ≤ M0 → (M2 = M0 ∨ canR s M2 k fs L) → (∀ w, canR s w k fs L → M2 ≤ w) → G 115 [some (.ref 31), some (.int st), some (.int (nI s)), some (.int (nI l.length)), some (.int (nI M2)), some (.int (zI ((k : Int) - 1))), v6, v7] [] a I2 J Q) →
      G 115 [some (.ref 31), some (.int st), some (.int (nI s)), some (.int (nI l.length)), some (.int (nI M)), some (.int (nI k)), v6, v7] [] a I' J Q := by
  intro d
  induction d with
  | zero => intro k fs L M0 c M v6 v7 I' hd h1; omega
  | succ d ih =>
    intro k fs L M0 c M v6 v7 I' hd _ hfs hsum hM0 hc hf hld hch hM hLM hMa hMb hK
    have hk : k < l.length := by omega
    have hfk : fs = l.getD k 0 :: l.drop (k + 1) := by
      rw [hfs, List.drop_eq_getElem_cons hk]
      congr 1
      rw [List.getD_eq_getElem?_getD, List.getElem?_eq_getElem hk]
      rfl
    generalize hf0 : l.getD k 0 = f0 at *
    have hfsum : fs.sum = f0 + (l.drop (k + 1)).sum := by rw [hfk, List.sum_cons]
    have eck : (nI k).toNatClampNeg = k := nI_clamp (by omega)
    have hink : vp_in (nI k) 10 := vp_in_nI (by omega) (by decide)
    -- the candidate c, with the loads as they were
    have step : ∀ e c M (v6 v7 : Option Value) I', e + c = min s (k + 1) → fr I0 I' [56, 57] → (∀ j, j < s → I' 56 j = nI (L j)) → (∀ q, q < k → I' 57 q = I' 57 q) → I' 57 k = zI ((c : Int) - 1) → M ≤ M0 → (M = M0 ∨ canR s M k fs L) → (∀ w j, j < c → canR s w (k + 1) (l.drop (k + 1)) (ldU L j f0) → M ≤ w) → (∀ I2 M2 (v6 v7 : Option Value), fr I0 I2 [56, 57] → (∀ j, j < s → I2 56 j = nI (L j)) → (∀ q, q < k → I2 57 q = I' 57 q) → M2 ≤ M0 → (M2 = M0 ∨ canR s M2 k fs L) → (∀ w, canR s w k fs L → M2 ≤ w) → G 115 [some (.ref 31), some (.int st), some (.int (nI s)), some (.int (nI l.length)), some (.int (nI M2)), some (.int (zI ((k : Int) - 1))), v6, v7] [] a I2 J Q) → G 152 [some (.ref 31), some (.int st), some (.int (nI s)), some (.int (nI l.length)), some (.int (nI M)), some (.int (nI k)), v6, v7] [] a I' J Q := by
      intro e
      induction e with
      | zero =>
        intro c M v6 v7 I' he hf hld _ hch hM hMa hMb hK
        have ec : I' 57 (nI k).toNatClampNeg + 1 = nI c := by
          rw [eck, hch, show (1 : Int32) = zI 1 from rfl, zI_add, zI_nat]
          exact congrArg zI (by omega)
        have ecu : up2 I' 57 (nI k).toNatClampNeg (I' 57 (nI k).toNatClampNeg + 1) 57 (nI k).toNatClampNeg = nI c := by rw [up2_at, ec]
        -- the level ends
        have g191 : G 191 [some (.ref 31), some (.int st), some (.int (nI s)), some (.int (nI l.length)), some (.int (nI M)), some (.int (nI k)), v6, v7] [.int 1] a (up2 I' 57 (nI k).toNatClampNeg (I' 57 (nI k).toNatClampNeg + 1)) J Q := by
          refine cl [115, 152] 120 191 _ _ _ _ _ _ ?_
          refine And.intro (fun h => absurd h (by decide)) (fun _ => ?_)
          have := hK (up2 I' 57 (nI k).toNatClampNeg (I' 57 (nI k).toNatClampNeg + 1)) M (some (.int 1)) v7 (fr_up hf (by decide)) (fun j hj => by rw [up2_ne (by decide)]; exact hld j hj) (fun q hq => by rw [eck, up2_nej (by omega)]) hM hMa (fun w hw => by
            rw [hfk] at hw
            obtain ⟨j, j1, j2, j3⟩ := hw
            exact hMb w j (by omega) j3)
          rw [show ((k : Int) - 1) = (k : Int) + (-1) by omega, ← zI_add, ← zI_nat] at this
          exact this
        refine cl [115, 191] 120 152 _ _ _ _ _ _ ?_
        refine And.intro hink (And.intro hink (And.intro hink (And.intro (fun _ => g191) (fun (h : ¬ nI s ≤ up2 I' 57 (nI k).toNatClampNeg (I' 57 (nI k).toNatClampNeg + 1) 57 (nI k).toNatClampNeg) => And.intro hink (And.intro (fun (h2 : up2 I' 57 (nI k).toNatClampNeg (I' 57 (nI k).toNatClampNeg + 1) 57 (nI k).toNatClampNeg ≤ nI k) => ?_) (fun _ => g191))))))
        rw [ecu, nI_leI (by omega) (by omega)] at h
        rw [ecu, nI_leI (by omega) (by omega)] at h2
        omega
      | succ e ihe =>
        intro c M v6 v7 I' he hf hld _ hch hM hMa hMb hK
        have hcs : c < s := by omega
        have hck : c ≤ k := by omega
        have ec : I' 57 (nI k).toNatClampNeg + 1 = nI c := by
          rw [eck, hch, show (1 : Int32) = zI 1 from rfl, zI_add, zI_nat]
          exact congrArg zI (by omega)
        have ecu : up2 I' 57 (nI k).toNatClampNeg (I' 57 (nI k).toNatClampNeg + 1) 57 (nI k).toNatClampNeg = nI c := by rw [up2_at, ec]
        have ecc : (nI c).toNatClampNeg = c := nI_clamp (by omega)
        have hinc : vp_in (nI c) 4 := vp_in_nI (by omega) (by decide)
        obtain ⟨I1, hI1⟩ : ∃ I1, I1 = up2 I' 57 (nI k).toNatClampNeg (I' 57 (nI k).toNatClampNeg + 1) := ⟨_, rfl⟩
        have hf1 : fr I0 I1 [56, 57] := by rw [hI1]; exact fr_up hf (by decide)
        have h57 : I1 57 (nI k).toNatClampNeg = nI c := by rw [hI1]; exact ecu
        have h56 : ∀ j, j < s → I1 56 j = nI (L j) := fun j hj => by rw [hI1, up2_ne (by decide)]; exact hld j hj
        have hqk : ∀ q, q < k → I1 57 q = I' 57 q := fun q hq => by rw [hI1, eck, up2_nej (by omega)]
        have hLc := hsum c hcs
        have h550 : I1 55 (nI k).toNatClampNeg = nI f0 := by rw [eck, hf1 55 (by decide), h55 k hk, hf0]
        have eadd : I1 56 (I1 57 (nI k).toNatClampNeg).toNatClampNeg + I1 55 (nI k).toNatClampNeg = nI (L c + f0) := by rw [h57, ecc, h56 c hcs, h550, nI_add]
        obtain ⟨I2, hI2⟩ : ∃ I2, I2 = up2 I1 56 (I1 57 (nI k).toNatClampNeg).toNatClampNeg (I1 56 (I1 57 (nI k).toNatClampNeg).toNatClampNeg + I1 55 (nI k).toNatClampNeg) := ⟨_, rfl⟩
        have hf2 : fr I0 I2 [56, 57] := by rw [hI2]; exact fr_up hf1 (by decide)
        have h562 : ∀ j, j < s → I2 56 j = nI (ldU L c f0 j) := fun j hj => by
          rw [hI2, eadd, h57, ecc]
          unfold ldU
          by_cases ej : j = c
          · subst ej; rw [up2_at, if_pos rfl]
          · rw [up2_nej ej, if_neg ej]; exact h56 j hj
        have h572 : ∀ q, I2 57 q = I1 57 q := fun q => by rw [hI2, up2_ne (by decide)]
        have h57k : I2 57 (nI k).toNatClampNeg = nI c := by rw [h572]; exact h57
        have hloads : ∀ j, j < s → ldU L c f0 j + (l.drop (k + 1)).sum ≤ 200000 := fun j hj => by
          have := hsum j hj
          unfold ldU
          split <;> omega
        -- candidate c is through: the next one
        have next : ∀ M2 (v6 v7 : Option Value) (I3 : hI), fr I0 I3 [56, 57] → (∀ j, j < s → I3 56 j = nI (ldU L c f0 j)) → (∀ q, q < k → I3 57 q = I' 57 q) → I3 57 k = nI c → M2 ≤ M → (M2 = M0 ∨ canR s M2 k fs L) → (∀ w, canR s w (k + 1) (l.drop (k + 1)) (ldU L c f0) → M2 ≤ w) → G 115 [some (.ref 31), some (.int st), some (.int (nI s)), some (.int (nI l.length)), some (.int (nI M2)), some (.int (nI k)), v6, v7] [] a I3 J Q := by
          intro M2 v6 v7 I3 r1 r2 r3 r4 r5 r6 r7
          have e57 : I3 57 (nI k).toNatClampNeg = nI c := by rw [eck]; exact r4
          have e55 : I3 55 (nI k).toNatClampNeg = nI f0 := by rw [eck, r1 55 (by decide), h55 k hk, hf0]
          have esub : I3 56 (I3 57 (nI k).toNatClampNeg).toNatClampNeg - I3 55 (nI k).toNatClampNeg = nI (L c) := by
            rw [e57, ecc, r2 c hcs, e55]
            unfold ldU
            rw [if_pos rfl, pk_sub (by omega)]
            exact congrArg nI (by omega)
          refine cl [152] 120 115 _ _ _ _ _ _ ?_
          refine And.intro (fun (h : nI k < 0) => absurd h (nI_pos (by omega))) (fun _ => And.intro hink (And.intro (fun (h : I3 57 (nI k).toNatClampNeg < 0) => absurd h (by rw [e57]; exact nI_pos (by omega))) (fun _ => And.intro hink ?_)))
          have hin3 : vp_in (I3 57 (nI k).toNatClampNeg) 4 := by rw [e57]; exact hinc
          refine And.intro hin3 (And.intro hink (And.intro hin3 ?_))
          refine ihe (c + 1) M2 v6 v7 (up2 I3 56 (I3 57 (nI k).toNatClampNeg).toNatClampNeg (I3 56 (I3 57 (nI k).toNatClampNeg).toNatClampNeg - I3 55 (nI k).toNatClampNeg)) (by omega) (fr_up r1 (by decide)) (fun j hj => ?_) (fun _ _ => rfl) ?_ (by omega) r6 (fun w j hj hw => ?_) (fun I4 M4 v6 v7 q1 q2 q3 q4 q5 q6 => hK I4 M4 v6 v7 q1 q2 (fun q hq => by rw [q3 q hq, up2_ne (by decide)]; exact r3 q hq) q4 q5 q6)
          · rw [esub, e57, ecc]
            by_cases ej : j = c
            · subst ej; rw [up2_at]
            · rw [up2_nej ej, r2 j hj]
              unfold ldU
              rw [if_neg ej]
          · rw [up2_ne (by decide), r4, zI_nat]
            exact congrArg zI (by omega)
          · by_cases ej : j = c
            · subst ej; exact r7 w hw
            · exact Nat.le_trans r5 (hMb w j (by omega) hw)
        refine cl [115, 191] 120 152 _ _ _ _ _ _ ?_
        -- not at the end
        have g191 : G 191 [some (.ref 31), some (.int st), some (.int (nI s)), some (.int (nI l.length)), some (.int (nI M)), some (.int (nI k)), v6, v7] [.int 0] a (up2 I' 57 (nI k).toNatClampNeg (I' 57 (nI k).toNatClampNeg + 1)) J Q := by
          rw [← hI1]
          refine cl [115, 246] 120 191 _ _ _ _ _ _ ?_
          refine And.intro (fun _ => ?_) (fun h => absurd (by decide) h)
          have hin1 : vp_in (I1 57 (nI k).toNatClampNeg) 4 := by rw [h57]; exact hinc
          refine And.intro hink (And.intro hin1 (And.intro hink (And.intro hin1 (And.intro hink ?_))))
          have hin2 : vp_in (up2 I1 56 (I1 57 (nI k).toNatClampNeg).toNatClampNeg (I1 56 (I1 57 (nI k).toNatClampNeg).toNatClampNeg + I1 55 (nI k).toNatClampNeg) 57 (nI k).toNatClampNeg) 4 := by rw [← hI2, h57k]; exact hinc
          refine And.intro hin2 ?_
          rw [← hI2]
          have el2 : I2 56 (I2 57 (nI k).toNatClampNeg).toNatClampNeg = nI (L c + f0) := by
            rw [h57k, ecc, h562 c hcs]
            unfold ldU
            rw [if_pos rfl]
          refine And.intro (fun (h : I2 56 (I2 57 (nI k).toNatClampNeg).toNatClampNeg < nI M) => ?_) (fun (h : ¬ I2 56 (I2 57 (nI k).toNatClampNeg).toNatClampNeg < nI M) => ?_)
          · rw [el2, nI_ltI (by omega) (by omega)] at h
            have hLM2 : ∀ j, j < s → L j ≤ M := fun j hj => by
              rcases hMa with e | e
              · rw [e]; exact hLM j hj
              · exact canR_ge k fs L e j hj
            have hLM3 : ∀ j, j < s → ldU L c f0 j ≤ M := fun j hj => by
              have := hLM2 j hj
              unfold ldU
              split
              · rename_i ej; rw [ej]; omega
              · exact this
            refine cl [115, 274] 120 246 _ _ _ _ _ _ ?_
            refine And.intro (fun (h2 : nI l.length ≤ nI k + 1) => ?_) (fun (h2 : ¬ nI l.length ≤ nI k + 1) => ?_)
            · rw [nI_1, nI_leI (by omega) (by omega)] at h2
              have hlast : k + 1 = l.length := by omega
              have hdrop : l.drop (k + 1) = [] := List.drop_of_length_le (by omega)
              -- the greatest load
              have mx : ∀ dd i bm (v6 v7 : Option Value), dd + i = s → bm ≤ M → (∀ j, j < i → ldU L c f0 j ≤ bm) → (bm = 0 ∨ ∃ j, j < s ∧ ldU L c f0 j = bm) → G 274 [some (.ref 31), some (.int st), some (.int (nI s)), some (.int (nI l.length)), some (.int (nI bm)), some (.int (nI k)), some (.int 0), some (.int (nI i))] [] a I2 J Q := by
                intro dd
                induction dd with
                | zero =>
                  intro i bm v6 v7 hdd hbm hle hat
                  obtain rfl : i = s := by omega
                  refine cl [115] 120 274 _ _ _ _ _ _ ?_
                  refine And.intro (fun _ => ?_) (fun h => absurd (nI_le (Nat.le_refl _) (by omega)) h)
                  have hcan : canR i bm k fs L := by
                    rw [hfk, hdrop]
                    exact ⟨c, hcs, hck, hle⟩
                  refine next bm _ _ I2 hf2 h562 (fun q hq => by rw [h572]; exact hqk q hq) (by rw [← h57k, eck]) hbm (Or.inr hcan) (fun w hw => ?_)
                  rw [hdrop] at hw
                  rcases hat with e | ⟨j, j1, j2⟩
                  · omega
                  · rw [← j2]; exact hw j j1
                | succ dd ihd =>
                  intro i bm v6 v7 hdd hbm hle hat
                  have eci : (nI i).toNatClampNeg = i := nI_clamp (by omega)
                  have hini : vp_in (nI i) 4 := vp_in_nI (by omega) (by decide)
                  have e56 : I2 56 (nI i).toNatClampNeg = nI (ldU L c f0 i) := by rw [eci]; exact h562 i (by omega)
                  have hli := hLM3 i (by omega)
                  refine cl [115, 274] 120 274 _ _ _ _ _ _ ?_
                  refine And.intro (fun h => absurd h (nI_ge (by omega) (by omega))) (fun _ => And.intro hini (And.intro (fun (h3 : I2 56 (nI i).toNatClampNeg ≤ nI bm) => ?_) (fun (h3 : ¬ I2 56 (nI i).toNatClampNeg ≤ nI bm) => And.intro hini ?_)))
                  · rw [e56, nI_leI (by omega) (by omega)] at h3
                    have := ihd (i + 1) bm v6 v7 (by omega) hbm (fun j hj => by
                      by_cases ej : j = i
                      · rw [ej]; exact h3
                      · exact hle j (by omega)) hat
                    rw [← nI_1 i] at this
                    exact this
                  · rw [e56, nI_leI (by omega) (by omega)] at h3
                    have := ihd (i + 1) (ldU L c f0 i) v6 v7 (by omega) hli (fun j hj => by
                      by_cases ej : j = i
                      · rw [ej]; exact Nat.le_refl _
                      · have := hle j (by omega); omega) (Or.inr ⟨i, by omega, rfl⟩)
                    rw [← nI_1 i, ← e56] at this
                    exact this
              exact mx s 0 0 none none (by omega) (Nat.zero_le _) (fun j hj => by omega) (Or.inl rfl)
            · rw [nI_1, nI_leI (by omega) (by omega)] at h2
              have eck1 : (nI k + 1).toNatClampNeg = k + 1 := by rw [nI_1]; exact nI_clamp (by omega)
              refine And.intro (show vp_in (nI k + 1) 10 from by rw [nI_1]; exact vp_in_nI (by omega) (by decide)) ?_
              have := ih (k + 1) (l.drop (k + 1)) (ldU L c f0) M 0 M (some (.int 0)) v7 (up2 I2 57 (nI k + 1).toNatClampNeg (-1)) (by omega) (by omega) rfl hloads (by omega) (by omega) (fr_up hf2 (by decide)) (fun j hj => by rw [up2_ne (by decide), if_pos rfl]; exact h562 j hj) (by rw [eck1, up2_at]; rfl) (Nat.le_refl _) hLM3 (Or.inl rfl) (fun w j hj => by omega) (fun I3 M3 v6 v7 q1 q2 q3 q4 q5 q6 => ?_)
              · rw [← nI_1 k] at this
                exact this
              · have := next M3 v6 v7 I3 q1 q2 (fun q hq => by rw [q3 q (by omega), eck1, up2_nej (by omega), h572]; exact hqk q hq) (by rw [q3 k (by omega), eck1, up2_nej (by omega)]; rw [← h57k, eck]) q4 (by
                  rcases q5 with e | e
                  · rw [e]; exact hMa
                  · right; rw [hfk]; exact ⟨c, hcs, hck, e⟩) q6
                rw [zI_nat k, show (k : Int) = ((k + 1 : Nat) : Int) - 1 by omega] at this
                exact this
          · rw [el2, nI_ltI (by omega) (by omega)] at h
            exact next M _ _ I2 hf2 h562 (fun q hq => by rw [h572]; exact hqk q hq) (by rw [← h57k, eck]) (Nat.le_refl _) hMa (fun w hw => by
              have := canR_ge (k + 1) _ _ hw c hcs
              unfold ldU at this
              rw [if_pos rfl] at this
              omega)
        refine And.intro hink (And.intro hink (And.intro hink (And.intro (fun (h : nI s ≤ up2 I' 57 (nI k).toNatClampNeg (I' 57 (nI k).toNatClampNeg + 1) 57 (nI k).toNatClampNeg) => ?_) (fun _ => And.intro hink (And.intro (fun _ => g191) (fun (h2 : ¬ up2 I' 57 (nI k).toNatClampNeg (I' 57 (nI k).toNatClampNeg + 1) 57 (nI k).toNatClampNeg ≤ nI k) => ?_))))))
        · rw [ecu, nI_leI (by omega) (by omega)] at h
          omega
        · rw [ecu, nI_leI (by omega) (by omega)] at h2
          omega
    refine cl [152] 120 115 _ _ _ _ _ _ ?_
    refine And.intro (fun (h : nI k < 0) => absurd h (nI_pos (by omega))) (fun _ => And.intro hink (And.intro (fun (h : I' 57 (nI k).toNatClampNeg < 0) => ?_) (fun (h : ¬ I' 57 (nI k).toNatClampNeg < 0) => And.intro hink ?_)))
    · rw [eck, hch, show (0 : Int32) = zI 0 from rfl, zI_lt (by omega) (by omega) (by omega) (by omega)] at h
      obtain rfl : c = 0 := by omega
      exact step (min s (k + 1)) 0 M v6 v7 I' (by omega) hf (fun j hj => by rw [hld j hj, if_pos rfl]) (fun _ _ => rfl) hch hM hMa hMb hK
    · rw [eck, hch, show (0 : Int32) = zI 0 from rfl, zI_lt (by omega) (by omega) (by omega) (by omega)] at h
      have e57 : I' 57 (nI k).toNatClampNeg = nI (c - 1) := by
        rw [eck, hch, zI_nat]
        exact congrArg zI (by omega)
      have ecc : (nI (c - 1)).toNatClampNeg = c - 1 := nI_clamp (by omega)
      have e55 : I' 55 (nI k).toNatClampNeg = nI f0 := by rw [eck, hf 55 (by decide), h55 k hk, hf0]
      have hin3 : vp_in (I' 57 (nI k).toNatClampNeg) 4 := by rw [e57]; exact vp_in_nI (by omega) (by decide)
      have hLc := hsum (c - 1) (by omega)
      have esub : I' 56 (I' 57 (nI k).toNatClampNeg).toNatClampNeg - I' 55 (nI k).toNatClampNeg = nI (L (c - 1)) := by
        rw [e57, ecc, hld (c - 1) (by omega), if_neg (by omega), e55]
        unfold ldU
        rw [if_pos rfl, pk_sub (by omega)]
        exact congrArg nI (by omega)
      refine And.intro hin3 (And.intro hink (And.intro hin3 ?_))
      refine step (min s (k + 1) - c) c M v6 v7 (up2 I' 56 (I' 57 (nI k).toNatClampNeg).toNatClampNeg (I' 56 (I' 57 (nI k).toNatClampNeg).toNatClampNeg - I' 55 (nI k).toNatClampNeg)) (by omega) (fr_up hf (by decide)) (fun j hj => ?_) (fun _ _ => rfl) (by rw [up2_ne (by decide)]; exact hch) hM hMa hMb (fun I4 M4 v6 v7 q1 q2 q3 q4 q5 q6 => hK I4 M4 v6 v7 q1 q2 (fun q hq => by rw [q3 q hq, up2_ne (by decide)]) q4 q5 q6)
      rw [esub, e57, ecc]
      by_cases ej : j = c - 1
      · subst ej; rw [up2_at]
      · rw [up2_nej ej, hld j hj, if_neg (by omega)]
        unfold ldU
        rw [if_neg ej]
