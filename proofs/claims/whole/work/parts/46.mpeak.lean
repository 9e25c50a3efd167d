/-! PEAK: forces laid on steps, as numbers -/
def ldU (L : Nat → Nat) (j f : Nat) : Nat → Nat := fun i => if i = j then L i + f else L i
/-- the forces can be laid on s steps that bear L so that none bears more than v -/
def canL (s v : Nat) : List Nat → (Nat → Nat) → Prop
  | [], L => ∀ j, j < s → L j ≤ v
  | f :: fs, L => ∃ j, j < s ∧ canL s v fs (ldU L j f)
theorem canL_mono {s v w : Nat} (h : v ≤ w) : ∀ (fs : List Nat) (L : Nat → Nat), canL s v fs L → canL s w fs L
  | [], _, h1 => fun j hj => Nat.le_trans (h1 j hj) h
  | _ :: fs, _, ⟨j, hj, h1⟩ => ⟨j, hj, canL_mono h fs _ h1⟩
theorem canL_cong {s v : Nat} : ∀ (fs : List Nat) (L M : Nat → Nat), (∀ i, i < s → L i = M i) → canL s v fs L → canL s v fs M
  | [], _, _, h, h1 => fun j hj => by rw [← h j hj]; exact h1 j hj
  | _ :: fs, _, _, h, ⟨j, hj, h1⟩ => ⟨j, hj, canL_cong fs _ _ (fun i hi => by unfold ldU; rw [h i hi]) h1⟩
def swp (a b i : Nat) : Nat := if i = a then b else if i = b then a else i
theorem swp_swp (a b i : Nat) : swp a b (swp a b i) = i := by unfold swp; grind
theorem swp_lt {a b i s : Nat} (ha : a < s) (hb : b < s) (hi : i < s) : swp a b i < s := by unfold swp; grind
theorem canL_swp {s v a b : Nat} (ha : a < s) (hb : b < s) : ∀ (fs : List Nat) (L : Nat → Nat), canL s v fs L → canL s v fs (fun i => L (swp a b i))
  | [], _, h => fun _ hj => h _ (swp_lt ha hb hj)
  | f :: fs, L, ⟨j, hj, h⟩ => ⟨swp a b j, swp_lt ha hb hj, canL_cong fs _ _ (fun i _ => by
      unfold ldU
      by_cases e : swp a b i = j
      · have e2 : i = swp a b j := by rw [← e, swp_swp]
        rw [if_pos e, if_pos e2]
      · have e2 : i ≠ swp a b j := fun e2 => e (by rw [e2, swp_swp])
        rw [if_neg e, if_neg e2]) (canL_swp ha hb fs _ h)⟩
theorem canL_two {s v f g : Nat} {fs : List Nat} {L : Nat → Nat} (h : canL s v (f :: g :: fs) L) : canL s v (g :: f :: fs) L := by
  obtain ⟨j, hj, k, hk, h⟩ := h
  exact ⟨k, hk, j, hj, canL_cong fs _ _ (fun i _ => by unfold ldU; grind) h⟩
theorem canL_perm {s v : Nat} {l l' : List Nat} (h : l.Perm l') : ∀ L, canL s v l L → canL s v l' L := by
  induction h with
  | nil => exact fun L h => h
  | cons x _ ih => exact fun L ⟨j, hj, h⟩ => ⟨j, hj, ih _ h⟩
  | swap x y l => exact fun L h => canL_two h
  | trans _ _ ih1 ih2 => exact fun L h => ih2 L (ih1 L h)
theorem canL_ge {s v : Nat} : ∀ (fs : List Nat) (L : Nat → Nat), canL s v fs L → ∀ j, j < s → L j ≤ v
  | [], _, h, j, hj => h j hj
  | f :: fs, L, ⟨k, _, h⟩, j, hj => Nat.le_trans (by unfold ldU; split <;> omega) (canL_ge fs _ h j hj)
theorem canL_mem {s v : Nat} : ∀ (fs : List Nat) (L : Nat → Nat), canL s v fs L → ∀ f, f ∈ fs → f ≤ v
  | [], _, _, f, hf => by cases hf
  | g :: fs, L, ⟨k, hk, h⟩, f, hf => by
    rcases List.mem_cons.mp hf with rfl | hf
    · have := canL_ge fs _ h k hk
      unfold ldU at this
      rw [if_pos rfl] at this
      omega
    · exact canL_mem fs _ h f hf
def smN (L : Nat → Nat) : Nat → Nat
  | 0 => 0
  | n + 1 => smN L n + L n
theorem smN_ldU (L : Nat → Nat) (j f : Nat) : ∀ n, smN (ldU L j f) n = smN L n + if j < n then f else 0
  | 0 => rfl
  | n + 1 => by
    have ih := smN_ldU L j f n
    show smN (ldU L j f) n + ldU L j f n = smN L n + L n + _
    rw [ih]
    unfold ldU
    split <;> split <;> split <;> omega
theorem smN_le {L : Nat → Nat} {v : Nat} : ∀ n, (∀ j, j < n → L j ≤ v) → smN L n ≤ n * v
  | 0, _ => Nat.zero_le _
  | n + 1, h => by
    have ih := smN_le n (fun j hj => h j (by omega))
    have := h n (by omega)
    rw [Nat.succ_mul]
    show smN L n + L n ≤ _
    omega
theorem canL_sum {s v : Nat} : ∀ (fs : List Nat) (L : Nat → Nat), canL s v fs L → smN L s + fs.sum ≤ s * v
  | [], L, h => by rw [List.sum_nil, Nat.add_zero]; exact smN_le s h
  | f :: fs, L, ⟨k, hk, h⟩ => by
    have := canL_sum fs _ h
    rw [smN_ldU, if_pos hk] at this
    rw [List.sum_cons]
    omega
theorem canL_ex {s : Nat} (hs : 0 < s) : ∀ (fs : List Nat) (L : Nat → Nat) (M : Nat), (∀ j, j < s → L j ≤ M) → canL s (M + fs.sum) fs L
  | [], L, M, h => fun j hj => by rw [List.sum_nil]; exact h j hj
  | f :: fs, L, M, h => ⟨0, hs, by
    have := canL_ex hs fs (ldU L 0 f) (M + f) (fun j hj => by
      have := h j hj
      unfold ldU
      split <;> omega)
    rw [List.sum_cons, ← Nat.add_assoc]
    exact this⟩
/-- steps that bear the same are alike -/
theorem canL_twin {s v j k f : Nat} {fs : List Nat} {L : Nat → Nat} (hj : j < s) (hk : k < s) (he : L k = L j) (h : canL s v fs (ldU L j f)) : canL s v fs (ldU L k f) :=
  canL_cong fs _ _ (fun i _ => by unfold ldU swp; grind) (canL_swp hj hk fs _ h)
/-- item k goes to one of the steps 0 .. k alone -/
def canR (s v : Nat) : Nat → List Nat → (Nat → Nat) → Prop
  | _, [], L => ∀ j, j < s → L j ≤ v
  | k, f :: fs, L => ∃ j, j < s ∧ j ≤ k ∧ canR s v (k + 1) fs (ldU L j f)
theorem canR_L {s v : Nat} : ∀ (k : Nat) (fs : List Nat) (L : Nat → Nat), canR s v k fs L → canL s v fs L
  | _, [], _, h => h
  | k, _ :: fs, _, ⟨j, hj, _, h⟩ => ⟨j, hj, canR_L (k + 1) fs _ h⟩
theorem canL_R {s v : Nat} : ∀ (fs : List Nat) (k : Nat) (L : Nat → Nat), (∀ j, k ≤ j → j < s → L j = 0) → canL s v fs L → canR s v k fs L
  | [], _, _, _, h => h
  | f :: fs, k, L, hz, ⟨j, hj, h⟩ => by
    by_cases hjk : j ≤ k
    · exact ⟨j, hj, hjk, canL_R fs (k + 1) _ (fun i h1 h2 => by unfold ldU; rw [if_neg (by omega)]; exact hz i (by omega) h2) h⟩
    · exact ⟨k, by omega, Nat.le_refl _, canL_R fs (k + 1) _ (fun i h1 h2 => by unfold ldU; rw [if_neg (by omega)]; exact hz i (by omega) h2) (canL_twin hj (by omega) (by rw [hz k (Nat.le_refl _) (by omega), hz j (by omega) hj]) h)⟩
theorem canL_nil {s v : Nat} {L : Nat → Nat} : canL s v [] L ↔ ∀ j, j < s → L j ≤ v := Iff.rfl
