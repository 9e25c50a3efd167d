/-! constructors of one object -/
theorem cm_sni {l : Launch} {tF : hTF} {qF : hQF} {base : Nat} {dd : cdT} {X : Type} {enc : X → List Value} {Pre : X → hA → hI → hJ → hQ → Prop} {Post : X → hA → hI → hJ → hQ → Option Value → hI → hJ → hQ → Prop} {n rc : Nat} (own : String) (ed : List edT) (env : List ev) (rz : Bool) (code : List en) (hcw : Cond.code dd.1 dd.2.1 dd.2.2.1 dd.2.2.2.1 ∈ lw_g) (hcode : okL own dd.2.1 ed dd.2.2.2.2 dd.2.2.2.1 rz code = true) (henv : EO l tF qF base ed env) (hy : plainName dd.1.cls = true) (hown : dd.1.cls = own) (hnm : dd.1.name = "<init>") (hv : ∀ x, okv (enc x) ∧ (lvA (enc x)).length ≤ dd.2.2.1)
    (body : ∀ (um zm : Nat) (G : hG) (Rt : hR) (x : X) (a : hA) (I : hI) (J : hJ) (Q : hQ), CL tF qF false base um zm env true rz code G Rt → base ≤ a.1 → Pre x a I J Q → (∀ v I' J' Q', Post x a I J Q v I' J' Q' → Rt v a I' J' Q') → G 0 (lvIn dd.2.2.1 (enc x)) [] a I J Q) : CM l tF qF base dd (n, rc, false, 0, 0, sn enc Pre Post) := by
  refine cm_of own ed env true rz code hcw hcode henv sn_mono hy hown (fun _ => hnm) ?_
  intro G K av a I J Q cl hb hlen hS
  obtain ⟨x, hx, hp, hK⟩ := hS
  subst hx
  exact ⟨hv x, body _ _ G _ x a I J Q cl hb hp (fun v I' J' Q' h => hK v I' J' Q' h)⟩
theorem pko {a : hA} {k ci : Nat} {b : Bool} {P : Prop} (ho : isOb a k ci) (hb : b = true) (p : P) : ck (cin 60 a k && Nat.beq (tE tX a.2.2.2 k).1 ci && b) P := by
  rw [hb, ho.1, ho.2, Nat.beq_refl]
  exact p
abbrev e_kl : Nat × Nat → List Value := fun x => [.ref x.1, .long (lN x.2)]
theorem v_kl (n : Nat) (h : 3 ≤ n) (x : Nat × Nat) : okv (e_kl x) ∧ (lvA (e_kl x)).length ≤ n := ⟨okv_ref (okv_long okv_nil), h⟩
theorem rows0_lt {n : Nat} (hn : n < 2 ^ 64) : ∀ f m, m ≤ n → rows0 f m < 2 ^ 64
  | 0, m, h => (show m < 2 ^ 64 by omega)
  | f + 1, m, h => by
    unfold rows0
    split
    · exact rows0_lt hn f _ (Nat.le_trans (Nat.div_le_self _ _) h)
    · omega
theorem cols0_lt {n : Nat} (hn : n < 2 ^ 64) : ∀ f m, m ≤ n → cols0 f m < 2 ^ 64
  | 0, m, h => (show m < 2 ^ 64 by omega)
  | f + 1, m, h => by
    unfold cols0
    split
    · exact cols0_lt hn f _ (Nat.le_trans (Nat.div_le_self _ _) h)
    · omega
theorem corner_lt {n : Nat} (hn : n < 2 ^ 64) : cornerN n < 2 ^ 64 := cols0_lt (rows0_lt hn 7 n (Nat.le_refl _)) 7 _ (Nat.le_refl _)
def e_shInit : ev := (2, 99, false, 0, 0, sn e_kl (fun x a _ _ _ => isOb a x.1 7 ∧ x.2 < 2 ^ 64) (fun x _ I J Q v I' J' Q' => v = none ∧ J' = up2 J x.1 0 (lN (cornerN x.2)) ∧ I' = up2 (up2 I x.1 1 (nI (widthN (cornerN x.2)))) x.1 2 (nI (heightN (cornerN x.2))) ∧ Q' = Q))
set_option maxRecDepth 20000 in
theorem c_shInit {l : Launch} : CX l cdX7_init e_shInit := by
  refine cm_sni RX7 edX7_init [e_corner, e_width, e_height] false kX7_init cwX7_init okX7_init ⟨⟨_, rfl, c_corner⟩, ⟨_, rfl, c_width⟩, ⟨_, rfl, c_height⟩, trivial⟩ (by decide) rfl rfl (v_kl _ (by decide)) ?_
  intro um zm G Rt ⟨k, n⟩ a I J Q cl hb hp hR
  have ho : isOb a k 7 := hp.1
  have hn : n < 2 ^ 64 := hp.2
  refine cl [] 80 0 _ _ _ _ _ _ ?_
  refine Exists.intro n (And.intro rfl (And.intro hn ?_))
  refine pko ho rfl (cko (isOb_ck ho) ?_)
  refine Exists.intro (cornerN n) (And.intro (show [Value.long (up2 J k 0 (lN (cornerN n)) k 0)] = [Value.long (lN (cornerN n))] by rw [up2_at]) (And.intro (corner_lt hn) ?_))
  refine pko ho rfl (cko (isOb_ck ho) ?_)
  refine Exists.intro (cornerN n) (And.intro (show [Value.long (up2 J k 0 (lN (cornerN n)) k 0)] = [Value.long (lN (cornerN n))] by rw [up2_at]) (And.intro (corner_lt hn) ?_))
  refine pko ho rfl ?_
  exact hR _ _ _ _ ⟨rfl, rfl, rfl, rfl⟩
