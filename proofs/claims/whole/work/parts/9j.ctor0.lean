/-! constructors, over heaps of which nothing is fixed -/
def tN : hTF := fun _ => none
def qN : hQF := fun _ _ => none
def isO0 (a : hA) (k ci : Nat) : Prop := k < a.1 ∧ (a.2.2.2 k).1 = ci
theorem cin0 {a : hA} {k : Nat} (h : k < a.1) : cin 0 a k = true := by
  unfold cin
  rw [Bool.or_eq_true]
  exact Or.inr (Nat.ble_eq_true_of_le h)
theorem pk0 {a : hA} {k ci : Nat} {b : Bool} {P : Prop} (h1 : isO0 a k ci) (hb : b = true) (p : P) : ck (cin 0 a k && Nat.beq (tE tN a.2.2.2 k).1 ci && b) P := by
  rw [hb, cin0 h1.1, show (tE tN a.2.2.2 k).1 = ci from h1.2, Nat.beq_refl]
  exact p
theorem pkr0 {a : hA} {k ci kf : Nat} {b b2 : Bool} {P : Prop} (h1 : isO0 a k ci) (hb : b = true) (hq : b2 = true) (hv : kf < a.1) (p : P) : ck (cin 0 a k && Nat.beq (tE tN a.2.2.2 k).1 ci && b && b2 && cin 0 a kf) P := by
  rw [hb, hq, cin0 h1.1, cin0 hv, show (tE tN a.2.2.2 k).1 = ci from h1.2, Nat.beq_refl]
  exact p
theorem gk0 {a : hA} {k ci : Nat} {P : Prop} (h1 : isO0 a k ci) (p : P) : ck (cin 0 a k && Nat.beq (tE tN a.2.2.2 k).1 ci) P := by
  rw [cin0 h1.1, show (tE tN a.2.2.2 k).1 = ci from h1.2, Nat.beq_refl]
  exact p
theorem io_new {a : hA} {k ci n : Nat} {x : Nat × Nat} (h : isO0 a k ci) : isO0 (hnew a n x) k ci := ⟨Nat.lt_succ_of_lt h.1, by
  show (va_up a.2.2.2 a.1 x k).1 = ci
  rw [vup_ne (Nat.ne_of_lt h.1)]
  exact h.2⟩
/-- a constructor that makes cells -/
theorem cm_spi {l : Launch} {tF : hTF} {qF : hQF} {base : Nat} {dd : cdT} {X : Type} {enc : X → List Value} {Pre : X → hA → hI → hJ → hQ → Prop} {Post : X → hA → hI → hJ → hQ → Option Value → hA → hI → hJ → hQ → Prop} {n rc mc ms : Nat} (own : String) (ed : List edT) (env : List ev) (rz : Bool) (code : List en) (hcw : Cond.code dd.1 dd.2.1 dd.2.2.1 dd.2.2.2.1 ∈ lw_g) (hcode : okL own dd.2.1 ed dd.2.2.2.2 dd.2.2.2.1 rz code = true) (henv : EO l tF qF base ed env) (hy : plainName dd.1.cls = true) (hown : dd.1.cls = own) (hnm : dd.1.name = "<init>") (hv : ∀ x, okv (enc x) ∧ (lvA (enc x)).length ≤ dd.2.2.1)
    (body : ∀ (G : hG) (Rt : hR) (x : X) (a : hA) (I : hI) (J : hJ) (Q : hQ), CL tF qF true base (a.2.1 + mc) (a.2.2.1 + ms) env true rz code G Rt → base ≤ a.1 → Pre x a I J Q → (∀ v a' I' J' Q', Post x a I J Q v (a'.1, a.2.1 + mc, a.2.2.1 + ms, a'.2.2.2) I' J' Q' → Rt v a' I' J' Q') → G 0 (lvIn dd.2.2.1 (enc x)) [] a I J Q) : CM l tF qF base dd (n, rc, true, mc, ms, sp enc Pre Post) := by
  refine cm_of own ed env true rz code hcw hcode henv sp_mono hy hown (fun _ => hnm) ?_
  intro G K av a I J Q cl hb hlen hS
  obtain ⟨x, hx, hp, hK⟩ := hS
  subst hx
  exact ⟨hv x, body G _ x a I J Q cl hb hp (fun v a' I' J' Q' h => hK v _ I' J' Q' h)⟩
abbrev e_ob : Nat → List Value := fun k => [.ref k]
theorem v_ob (n : Nat) (h : 1 ≤ n) (x : Nat) : okv (e_ob x) ∧ (lvA (e_ob x)).length ≤ n := ⟨okv_ref okv_nil, h⟩
abbrev zI0 (I : hI) (k : Nat) : hI := va_up I k (fun _ => 0)
abbrev zJ0 (J : hJ) (k : Nat) : hJ := va_up J k (fun _ => 0)
abbrev zQ0 (Q : hQ) (k : Nat) : hQ := va_up Q k (fun _ => none)
def e_lawsI : ev := (1, 99, true, 1, 10, sp e_ob (fun k a _ _ _ => isO0 a k 1) (fun k a I J Q v a' I' J' Q' => v = none ∧ a' = hnew a 10 (11, 10) ∧ I' = zI0 I a.1 ∧ J' = zJ0 J a.1 ∧ Q' = up2 (zQ0 Q a.1) k 0 (some a.1)))
set_option maxRecDepth 20000 in
theorem c_lawsI {l : Launch} : CM l tN qN 0 cdX1_init e_lawsI := by
  refine cm_spi RX1 edX1_init [] false kX1_init cwX1_init okX1_init trivial (by decide) rfl rfl (v_ob _ (by decide)) ?_
  intro G Rt k a I J Q cl hb hp hR
  have ho : isO0 a k 1 := hp
  refine cl [] 60 0 _ _ _ _ _ _ ?_
  refine And.intro ⟨rfl, fun _ => rfl⟩ (And.intro (rok_of ⟨ho.1, trivial⟩ (fun v hv => by rcases List.mem_cons.mp hv with rfl | hv; exact ho.1; cases hv)) (And.intro ⟨Nat.le_refl _, Nat.le_refl _⟩ ?_))
  refine pkr0 (io_new ho) rfl rfl (Nat.lt_succ_self _) ?_
  exact hR _ _ _ _ _ ⟨rfl, rfl, rfl, rfl, rfl⟩
