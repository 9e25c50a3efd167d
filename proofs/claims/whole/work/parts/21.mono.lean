/-! a stretch's proposition grows with what comes behind it; a method taken as its own code -/
theorem ck_mono {b : Bool} {P P' : Prop} (h : ck b P) (f : P → P') : ck b P' := by
  cases b with
  | true => exact f h
  | false => exact h
theorem ca_mono {b : Bool} {P S S' : Prop} (h : ca b P S) (f : S → S') : ca b P S' := by
  cases b with
  | true => exact ⟨h.1, f h.2⟩
  | false => exact f h
set_option maxHeartbeats 4000000 in
theorem wpx_mono {tF : hTF} {qF : hQF} {al : Bool} {base um zm : Nat} {env : List ev} {ini rz : Bool} {code : List en} {Rt Rt' : hR} {k k' : List en → lL → List Value → hA → hI → hJ → hQ → Prop} {cs : List en} {lv : lL} {st : List Value} {a : hA} {I : hI} {J : hJ} {Q : hQ}
    (menv : ∀ (x : Nat) (ee : ev), env[x]? = some ee → Mono ee.2.2.2.2.2) (hR : ∀ v a I J Q, Rt v a I J Q → Rt' v a I J Q) (hk : ∀ cs lv st a I J Q, k cs lv st a I J Q → k' cs lv st a I J Q)
    (h : wpx tF qF al base um zm env ini rz code Rt k cs lv st a I J Q) : wpx tF qF al base um zm env ini rz code Rt' k' cs lv st a I J Q := by
  cases cs with
  | nil => exact h
  | cons w cs =>
    obtain ⟨pc, i, len, x, y, ci, dj, L⟩ := w
    unfold wpx at h ⊢
    simp only at h ⊢
    cases hz : sm i len ci dj lv st with
    | some z =>
      obtain ⟨z1, z2⟩ := z
      simp only [hz] at h ⊢
      exact hk _ _ _ _ _ _ _ h
    | none =>
      simp only [hz] at h ⊢
      clear hz
      cases i with
      | goto _ => exact hk _ _ _ _ _ _ _ h
      | ifCond cd _ =>
        simp only at h ⊢
        split at h
        · exact ifc_mono h (hk _ _ _ _ _ _ _) (hk _ _ _ _ _ _ _)
        · exact h.elim
      | if_icmp cd _ =>
        simp only at h ⊢
        split at h
        · exact ifc_mono h (hk _ _ _ _ _ _ _) (hk _ _ _ _ _ _ _)
        · exact h.elim
      | ifnull _ =>
        simp only at h ⊢
        split at h
        · exact hk _ _ _ _ _ _ _ h
        · exact hk _ _ _ _ _ _ _ h
        · exact h.elim
      | ifnonnull _ =>
        simp only at h ⊢
        split at h
        · exact hk _ _ _ _ _ _ _ h
        · exact hk _ _ _ _ _ _ _ h
        · exact h.elim
      | tableswitch _ _ _ _ =>
        simp only at h ⊢
        split at h
        · exact swx_mono h (fun t => hk _ _ _ _ _ _ _) (hk _ _ _ _ _ _ _)
        · exact h.elim
      | lookupswitch _ _ =>
        simp only at h ⊢
        split at h
        · exact swx_mono h (fun t => hk _ _ _ _ _ _ _) (hk _ _ _ _ _ _ _)
        · exact h.elim
      | idiv =>
        simp only at h ⊢
        split at h
        · exact ⟨h.1, hk _ _ _ _ _ _ _ h.2⟩
        · exact h.elim
      | irem =>
        simp only at h ⊢
        split at h
        · exact ⟨h.1, hk _ _ _ _ _ _ _ h.2⟩
        · exact h.elim
      | getfield _ =>
        simp only at h ⊢
        split at h
        · refine ck_mono h (fun h => ?_)
          split at h
          · exact hk _ _ _ _ _ _ _ h
          · exact hk _ _ _ _ _ _ _ h
          · exact hk _ _ _ _ _ _ _ h
          · exact h.elim
        · exact h.elim
      | putfield _ =>
        simp only at h ⊢
        split at h
        · refine ck_mono h (fun h => ?_)
          split at h
          · exact hk _ _ _ _ _ _ _ h
          · exact ⟨h.1, hk _ _ _ _ _ _ _ h.2⟩
          · exact h.elim
        · refine ck_mono h (fun h => ?_)
          split at h
          · exact hk _ _ _ _ _ _ _ h
          · exact h.elim
        · refine ck_mono h (fun h => ?_)
          split at h
          · exact hk _ _ _ _ _ _ _ h
          · exact h.elim
        · exact h.elim
      | iaload =>
        simp only at h ⊢
        split at h
        · exact ck_mono h (fun h => ⟨h.1, hk _ _ _ _ _ _ _ h.2⟩)
        · exact h.elim
      | laload =>
        simp only at h ⊢
        split at h
        · exact ck_mono h (fun h => ⟨h.1, hk _ _ _ _ _ _ _ h.2⟩)
        · exact h.elim
      | aaload =>
        simp only at h ⊢
        split at h
        · exact ck_mono h (fun h => ⟨h.1, hk _ _ _ _ _ _ _ h.2⟩)
        · exact h.elim
      | iastore =>
        simp only at h ⊢
        split at h
        · exact ck_mono h (fun h => ⟨h.1, hk _ _ _ _ _ _ _ h.2⟩)
        · exact h.elim
      | lastore =>
        simp only at h ⊢
        split at h
        · exact ck_mono h (fun h => ⟨h.1, hk _ _ _ _ _ _ _ h.2⟩)
        · exact h.elim
      | aastore =>
        simp only at h ⊢
        split at h
        · exact ck_mono h (fun h => ⟨h.1, h.2.1, hk _ _ _ _ _ _ _ h.2.2⟩)
        · exact h.elim
      | arraylength =>
        simp only at h ⊢
        split at h
        · exact ck_mono h (fun h => hk _ _ _ _ _ _ _ h)
        · exact h.elim
      | new _ => exact ck_mono h (fun h => ⟨h.1, h.2.1, h.2.2.1, hk _ _ _ _ _ _ _ h.2.2.2⟩)
      | newarray _ =>
        simp only at h ⊢
        split at h
        · exact ck_mono h (fun h => ⟨h.1, h.2.1, h.2.2.1, hk _ _ _ _ _ _ _ h.2.2.2⟩)
        · exact h.elim
      | anewarray _ =>
        simp only at h ⊢
        split at h
        · exact ck_mono h (fun h => ⟨h.1, h.2.1, h.2.2.1, hk _ _ _ _ _ _ _ h.2.2.2⟩)
        · exact h.elim
      | invokespecial _ =>
        simp only at h ⊢
        split at h
        · split at h
          · exact ck_mono h (fun h => hk _ _ _ _ _ _ _ h)
          · exact h.elim
        · split at h
          · rename_i ee he
            split at h
            · rename_i e2
              exact ck_mono h (fun h => ca_mono h (fun h => menv _ ee he _ _ _ _ _ _ _ (fun v a' I' J' Q' h => hk _ _ _ _ _ _ _ h) h))
            · exact h.elim
          · exact h.elim
      | invokestatic _ =>
        simp only at h ⊢
        split at h
        · split at h
          · exact ck_mono h (fun h => hk _ _ _ _ _ _ _ h)
          · exact h.elim
        · split at h
          · split at h
            · exact ck_mono h (fun h => hk _ _ _ _ _ _ _ h)
            · exact h.elim
          · split at h
            · rename_i ee he
              exact ck_mono h (fun h => ca_mono h (fun h => menv _ ee he _ _ _ _ _ _ _ (fun v a' I' J' Q' h => hk _ _ _ _ _ _ _ h) h))
            · exact h.elim
      | invokevirtual _ =>
        simp only at h ⊢
        split at h
        · rename_i ee he
          split at h
          · exact ck_mono h (fun h => ca_mono h (fun h => menv _ ee he _ _ _ _ _ _ _ (fun v a' I' J' Q' h => hk _ _ _ _ _ _ _ h) h))
          · exact h.elim
        · exact h.elim
      | ireturn =>
        simp only at h ⊢
        split at h
        · split at h
          · exact ⟨h.1, hR _ _ _ _ _ h.2⟩
          · exact hR _ _ _ _ _ h
        · exact h.elim
      | lreturn =>
        simp only at h ⊢
        split at h
        · exact hR _ _ _ _ _ h
        · exact h.elim
      | areturn =>
        simp only at h ⊢
        split at h
        · exact hR _ _ _ _ _ h
        · exact hR _ _ _ _ _ h
        · exact h.elim
      | return_ =>
        simp only at h ⊢
        split at h
        · exact hR _ _ _ _ _ h
        · exact h.elim
      | _ => exact h
theorem wpc_mono {tF : hTF} {qF : hQF} {al : Bool} {base um zm : Nat} {env : List ev} {ini rz : Bool} {code : List en} {stops : List Nat} {G G' : hG} {Rt Rt' : hR} (menv : ∀ (x : Nat) (ee : ev), env[x]? = some ee → Mono ee.2.2.2.2.2) (hR : ∀ v a I J Q, Rt v a I J Q → Rt' v a I J Q) (hG : ∀ pc lv st a I J Q, G pc lv st a I J Q → G' pc lv st a I J Q) :
    ∀ (n : Nat) (cs : List en) (lv : lL) (st : List Value) (a : hA) (I : hI) (J : hJ) (Q : hQ), wpc tF qF al base um zm env ini rz code stops G Rt n cs lv st a I J Q → wpc tF qF al base um zm env ini rz code stops G' Rt' n cs lv st a I J Q
  | 0, _, _, _, _, _, _, _, h => h
  | n + 1, cs, lv, st, a, I, J, Q, h => by
    refine wpx_mono menv hR (fun cs' lv' st' a' I' J' Q' hk => ?_) h
    split at hk
    · split at hk
      · exact hk
      · exact hG _ _ _ _ _ _ _ hk
    · exact wpc_mono menv hR hG n cs' lv' st' a' I' J' Q' hk
def okv1 (v : Value) : Bool := match v with
  | .int _ => true
  | .ref _ => true
  | .null => true
  | .long _ => true
  | _ => false
def okB (nL : Nat) (av : List Value) : Bool := av.all okv1 && Nat.ble (lvA av).length nL
theorem okB_ok {nL : Nat} {av : List Value} (h : okB nL av = true) : okv av ∧ (lvA av).length ≤ nL := by
  unfold okB at h
  rw [Bool.and_eq_true, List.all_eq_true] at h
  refine ⟨fun v hv => ?_, Nat.le_of_ble_eq_true h.2⟩
  have := h.1 v hv
  cases v <;> first | exact Or.inl rfl | exact Or.inr ⟨_, rfl⟩ | cases this
/-- a method taken as its own code -/
def inl (al : Bool) (mc ms : Nat) (env : List ev) (ini rz : Bool) (code : List en) (nL : Nat) : hS := fun av a I J Q K =>
  ck (okB nL av) (wpc tX qX al 60 (a.2.1 + mc) (a.2.2.1 + ms) env ini rz code [] (fun _ _ _ _ _ _ _ => False) (rtK K a.2.1 a.2.2.1 mc ms) 600 (sk code 0) (lvIn nL av) [] a I J Q)
theorem inl_mono {al : Bool} {mc ms : Nat} {env : List ev} {ini rz : Bool} {code : List en} {nL : Nat} (menv : ∀ (x : Nat) (ee : ev), env[x]? = some ee → Mono ee.2.2.2.2.2) : Mono (inl al mc ms env ini rz code nL) := by
  intro av a I J Q K1 K2 h hS
  exact ck_mono hS (fun hS => wpc_mono menv (fun v a' I' J' Q' hk => h _ _ _ _ _ hk) (fun _ _ _ _ _ _ _ hk => hk) _ _ _ _ _ _ _ _ hS)
theorem cm_inl {l : Launch} {dd : cdT} {n rc : Nat} {al : Bool} {mc ms : Nat} (own : String) (ed : List edT) (env : List ev) (ini rz : Bool) (code : List en) (hcw : Cond.code dd.1 dd.2.1 dd.2.2.1 dd.2.2.2.1 ∈ lw_g) (hcode : okL own dd.2.1 ed dd.2.2.2.2 dd.2.2.2.1 rz code = true) (henv : EO l tX qX 60 ed env) (hy : plainName dd.1.cls = true) (hown : dd.1.cls = own) (hini : ini = true → dd.1.name = "<init>") : CX l dd (n, rc, al, mc, ms, inl al mc ms env ini rz code dd.2.2.1) := by
  have menv : ∀ (x : Nat) (ee : ev), env[x]? = some ee → Mono ee.2.2.2.2.2 := fun x ee h => by obtain ⟨dd, h1, h2⟩ := eo_env henv x ee h; exact h2.2
  refine cm_of own ed env ini rz code hcw hcode henv (inl_mono menv) hy hown hini ?_
  intro G K av a I J Q cl hb hlen hS
  rw [show (n, rc, al, mc, ms, inl al mc ms env ini rz code dd.2.2.1).2.2.2.2.2 av a I J Q K = ck (okB dd.2.2.1 av) (wpc tX qX al 60 (a.2.1 + mc) (a.2.2.1 + ms) env ini rz code [] (fun _ _ _ _ _ _ _ => False) (rtK K a.2.1 a.2.2.1 mc ms) 600 (sk code 0) (lvIn dd.2.2.1 av) [] a I J Q) from rfl, ck_iff] at hS
  exact ⟨okB_ok hS.1, cl [] 600 0 _ _ _ _ _ _ (wpc_mono menv (fun _ _ _ _ _ h => h) (fun _ _ _ _ _ _ _ h => h.elim) _ _ _ _ _ _ _ _ hS.2)⟩
