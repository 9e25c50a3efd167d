/-! SPECS: what a method asks and gives; contracts with their monotony -/
/-- a method that changes nothing: out of x (its arguments' numbers), where Pre holds, the answer f -/
def sf {X : Type} (enc : X → List Value) (Pre : X → hA → hI → hJ → hQ → Prop) (f : X → hA → hI → hJ → hQ → Option Value) : hS := fun av a I J Q K => ∃ x, av = enc x ∧ Pre x a I J Q ∧ K (f x a I J Q) a I J Q
/-- a method in general -/
def sp {X : Type} (enc : X → List Value) (Pre : X → hA → hI → hJ → hQ → Prop) (Post : X → hA → hI → hJ → hQ → Option Value → hA → hI → hJ → hQ → Prop) : hS := fun av a I J Q K => ∃ x, av = enc x ∧ Pre x a I J Q ∧ ∀ v a' I' J' Q', Post x a I J Q v a' I' J' Q' → K v a' I' J' Q'
def Mono (S : hS) : Prop := ∀ av a I J Q (K1 K2 : hR), (∀ v a' I' J' Q', K1 v a' I' J' Q' → K2 v a' I' J' Q') → S av a I J Q K1 → S av a I J Q K2
theorem sf_mono {X : Type} {enc : X → List Value} {Pre : X → hA → hI → hJ → hQ → Prop} {f : X → hA → hI → hJ → hQ → Option Value} : Mono (sf enc Pre f) := fun _ _ _ _ _ _ _ h ⟨x, h1, h2, h3⟩ => ⟨x, h1, h2, h _ _ _ _ _ h3⟩
theorem sp_mono {X : Type} {enc : X → List Value} {Pre : X → hA → hI → hJ → hQ → Prop} {Post : X → hA → hI → hJ → hQ → Option Value → hA → hI → hJ → hQ → Prop} : Mono (sp enc Pre Post) := fun _ _ _ _ _ _ _ h ⟨x, h1, h2, h3⟩ => ⟨x, h1, h2, fun _ _ _ _ _ h4 => h _ _ _ _ _ (h3 _ _ _ _ _ h4)⟩
theorem sf_use {X : Type} {enc : X → List Value} {Pre : X → hA → hI → hJ → hQ → Prop} {f : X → hA → hI → hJ → hQ → Option Value} {av : List Value} {a : hA} {I : hI} {J : hJ} {Q : hQ} {K : hR} (x : X) (h1 : av = enc x) (h2 : Pre x a I J Q) (h3 : K (f x a I J Q) a I J Q) : sf enc Pre f av a I J Q K := ⟨x, h1, h2, h3⟩
theorem sp_use {X : Type} {enc : X → List Value} {Pre : X → hA → hI → hJ → hQ → Prop} {Post : X → hA → hI → hJ → hQ → Option Value → hA → hI → hJ → hQ → Prop} {av : List Value} {a : hA} {I : hI} {J : hJ} {Q : hQ} {K : hR} (x : X) (h1 : av = enc x) (h2 : Pre x a I J Q) (h3 : ∀ v a' I' J' Q', Post x a I J Q v a' I' J' Q' → K v a' I' J' Q') : sp enc Pre Post av a I J Q K := ⟨x, h1, h2, h3⟩
/-- a contract, and its monotony -/
def CM (l : Launch) (tF : hTF) (qF : hQF) (base : Nat) (dd : cdT) (e : ev) : Prop := Con l tF qF base dd e ∧ Mono e.2.2.2.2.2
/-- the callees of a method, one by one -/
def EO (l : Launch) (tF : hTF) (qF : hQF) (base : Nat) : List edT → List ev → Prop
  | [], [] => True
  | d :: ds, e :: es => (∃ dd, d = (dd, e.1, e.2.1) ∧ CM l tF qF base dd e) ∧ EO l tF qF base ds es
  | _, _ => False
theorem eo_env {l : Launch} {tF : hTF} {qF : hQF} {base : Nat} : ∀ {ed : List edT} {env : List ev}, EO l tF qF base ed env → ∀ (x : Nat) (ee : ev), env[x]? = some ee → ∃ dd, ed[x]? = some (dd, ee.1, ee.2.1) ∧ CM l tF qF base dd ee
  | [], [], _, x, ee, h => by simp at h
  | d :: ds, e :: es, ⟨⟨dd, h1, h2⟩, h3⟩, x, ee, h => by
    cases x with
    | zero => cases h; exact ⟨dd, by rw [h1]; rfl, h2⟩
    | succ x => exact eo_env h3 x ee h
  | [], _ :: _, h, _, _, _ => h.elim
  | _ :: _, [], h, _, _, _ => h.elim
theorem cm_of {l : Launch} {tF : hTF} {qF : hQF} {base : Nat} {dd : cdT} {ee : ev} (own : String) (ed : List edT) (env : List ev) (ini rz : Bool) (code : List en) (hcw : Cond.code dd.1 dd.2.1 dd.2.2.1 dd.2.2.2.1 ∈ lw_g) (hcode : okL own dd.2.1 ed dd.2.2.2.2 dd.2.2.2.1 rz code = true) (henv : EO l tF qF base ed env) (hm : Mono ee.2.2.2.2.2) (hy : plainName dd.1.cls = true) (hown : dd.1.cls = own) (hini : ini = true → dd.1.name = "<init>")
    (body : ∀ (G : hG) (K : hR) (av : List Value) (a : hA) (I : hI) (J : hJ) (Q : hQ), (∀ (stops : List Nat) (n pc : Nat) (lv : lL) (st : List Value) (a' : hA) (I' : hI) (J' : hJ) (Q' : hQ), wpc tF qF ee.2.2.1 base (a.2.1 + ee.2.2.2.1) (a.2.2.1 + ee.2.2.2.2.1) env ini rz code stops G (rtK K a.2.1 a.2.2.1 ee.2.2.2.1 ee.2.2.2.2.1) n (sk code pc) lv st a' I' J' Q' → G pc lv st a' I' J' Q') → base ≤ a.1 → av.length = ee.1 → ee.2.2.2.2.2 av a I J Q K → (okv av ∧ (lvA av).length ≤ dd.2.2.1) ∧ G 0 (lvIn dd.2.2.1 av) [] a I J Q) : CM l tF qF base dd ee :=
  ⟨con_of own ed env ini rz code hcw hy hown hcode hini (fun x ee h => by obtain ⟨dd, h1, h2⟩ := eo_env henv x ee h; exact ⟨dd, h1, h2.1⟩) (fun x ee h => by obtain ⟨dd, h1, h2⟩ := eo_env henv x ee h; exact h2.2) body, hm⟩
theorem okv_nil : okv [] := fun _ h => by cases h
theorem okv_int {x : Int32} {av : List Value} (h : okv av) : okv (.int x :: av) := fun v hv => by
  rcases List.mem_cons.mp hv with rfl | hv
  · exact Or.inl rfl
  · exact h v hv
theorem okv_ref {x : Nat} {av : List Value} (h : okv av) : okv (.ref x :: av) := fun v hv => by
  rcases List.mem_cons.mp hv with rfl | hv
  · exact Or.inl rfl
  · exact h v hv
theorem okv_long {x : Int64} {av : List Value} (h : okv av) : okv (.long x :: av) := fun v hv => by
  rcases List.mem_cons.mp hv with rfl | hv
  · exact Or.inr ⟨x, rfl⟩
  · exact h v hv
def bI (b : Bool) : Int32 := match b with
  | true => 1
  | false => 0
theorem bI_01 (b : Bool) : bI b = 0 ∨ bI b = 1 := by cases b <;> simp [bI]
theorem cko {b : Bool} {P : Prop} (h : b = true) (p : P) : ck b P := by rw [h]; exact p
/-- a method that makes no cells -/
def sn {X : Type} (enc : X → List Value) (Pre : X → hA → hI → hJ → hQ → Prop) (Post : X → hA → hI → hJ → hQ → Option Value → hI → hJ → hQ → Prop) : hS := fun av a I J Q K => ∃ x, av = enc x ∧ Pre x a I J Q ∧ ∀ v I' J' Q', Post x a I J Q v I' J' Q' → K v a I' J' Q'
theorem sn_mono {X : Type} {enc : X → List Value} {Pre : X → hA → hI → hJ → hQ → Prop} {Post : X → hA → hI → hJ → hQ → Option Value → hI → hJ → hQ → Prop} : Mono (sn enc Pre Post) := fun _ _ _ _ _ _ _ h ⟨x, h1, h2, h3⟩ => ⟨x, h1, h2, fun _ _ _ _ h4 => h _ _ _ _ _ (h3 _ _ _ _ h4)⟩
theorem sn_use {X : Type} {enc : X → List Value} {Pre : X → hA → hI → hJ → hQ → Prop} {Post : X → hA → hI → hJ → hQ → Option Value → hI → hJ → hQ → Prop} {av : List Value} {a : hA} {I : hI} {J : hJ} {Q : hQ} {K : hR} (x : X) (h1 : av = enc x) (h2 : Pre x a I J Q) (h3 : ∀ v I' J' Q', Post x a I J Q v I' J' Q' → K v a I' J' Q') : sn enc Pre Post av a I J Q K := ⟨x, h1, h2, h3⟩
/-- what a method's stretches give of G -/
def CL (tF : hTF) (qF : hQF) (al : Bool) (base um zm : Nat) (env : List ev) (ini rz : Bool) (code : List en) (G : hG) (Rt : hR) : Prop := ∀ (stops : List Nat) (n pc : Nat) (lv : lL) (st : List Value) (a : hA) (I : hI) (J : hJ) (Q : hQ), wpc tF qF al base um zm env ini rz code stops G Rt n (sk code pc) lv st a I J Q → G pc lv st a I J Q
theorem cm_sf {l : Launch} {tF : hTF} {qF : hQF} {base : Nat} {dd : cdT} {X : Type} {enc : X → List Value} {Pre : X → hA → hI → hJ → hQ → Prop} {f : X → hA → hI → hJ → hQ → Option Value} {n rc : Nat} (own : String) (ed : List edT) (env : List ev) (rz : Bool) (code : List en) (hcw : Cond.code dd.1 dd.2.1 dd.2.2.1 dd.2.2.2.1 ∈ lw_g) (hcode : okL own dd.2.1 ed dd.2.2.2.2 dd.2.2.2.1 rz code = true) (henv : EO l tF qF base ed env) (hy : plainName dd.1.cls = true) (hown : dd.1.cls = own) (hv : ∀ x, okv (enc x) ∧ (lvA (enc x)).length ≤ dd.2.2.1)
    (body : ∀ (um zm : Nat) (G : hG) (Rt : hR) (x : X) (a : hA) (I : hI) (J : hJ) (Q : hQ), CL tF qF false base um zm env false rz code G Rt → base ≤ a.1 → Pre x a I J Q → (∀ v, v = f x a I J Q → Rt v a I J Q) → G 0 (lvIn dd.2.2.1 (enc x)) [] a I J Q) : CM l tF qF base dd (n, rc, false, 0, 0, sf enc Pre f) := by
  refine cm_of own ed env false rz code hcw hcode henv sf_mono hy hown (fun h => Bool.noConfusion h) ?_
  intro G K av a I J Q cl hb hlen hS
  obtain ⟨x, hx, hp, hK⟩ := hS
  subst hx
  exact ⟨hv x, body _ _ G _ x a I J Q cl hb hp (fun v h => by rw [h]; exact hK)⟩
theorem cm_sn {l : Launch} {tF : hTF} {qF : hQF} {base : Nat} {dd : cdT} {X : Type} {enc : X → List Value} {Pre : X → hA → hI → hJ → hQ → Prop} {Post : X → hA → hI → hJ → hQ → Option Value → hI → hJ → hQ → Prop} {n rc : Nat} (own : String) (ed : List edT) (env : List ev) (rz : Bool) (code : List en) (hcw : Cond.code dd.1 dd.2.1 dd.2.2.1 dd.2.2.2.1 ∈ lw_g) (hcode : okL own dd.2.1 ed dd.2.2.2.2 dd.2.2.2.1 rz code = true) (henv : EO l tF qF base ed env) (hy : plainName dd.1.cls = true) (hown : dd.1.cls = own) (hv : ∀ x, okv (enc x) ∧ (lvA (enc x)).length ≤ dd.2.2.1)
    (body : ∀ (um zm : Nat) (G : hG) (Rt : hR) (x : X) (a : hA) (I : hI) (J : hJ) (Q : hQ), CL tF qF false base um zm env false rz code G Rt → base ≤ a.1 → Pre x a I J Q → (∀ v I' J' Q', Post x a I J Q v I' J' Q' → Rt v a I' J' Q') → G 0 (lvIn dd.2.2.1 (enc x)) [] a I J Q) : CM l tF qF base dd (n, rc, false, 0, 0, sn enc Pre Post) := by
  refine cm_of own ed env false rz code hcw hcode henv sn_mono hy hown (fun h => Bool.noConfusion h) ?_
  intro G K av a I J Q cl hb hlen hS
  obtain ⟨x, hx, hp, hK⟩ := hS
  subst hx
  exact ⟨hv x, body _ _ G _ x a I J Q cl hb hp (fun v I' J' Q' h => hK v I' J' Q' h)⟩
