/-! ABSTRACT HEAPS: cells are numbered as they come; q gives the address of each. A cell has a shape (tag, length): tag below 11 an object of that class number (vwCl), 11 an int array, 12 a long array, 13 .. 15 arrays of Punch, Shape, Sheet. I, J, Q: what the cells hold, ints, longs, references (as cell numbers). -/
abbrev hI : Type := Nat → Nat → Int32
abbrev hJ : Type := Nat → Nat → Int64
abbrev hQ : Type := Nat → Nat → Option Nat
/-- how many cells there are, cells used, slots used, their shapes -/
abbrev hA : Type := Nat × Nat × Nat × (Nat → Nat × Nat)
abbrev hTF : Type := Nat → Option (Nat × Nat)
abbrev hQF : Type := Nat → Nat → Option Nat
def tE (tF : hTF) (t : Nat → Nat × Nat) (k : Nat) : Nat × Nat := match tF k with
  | some x => x
  | none => t k
def qE (qF : hQF) (Q : hQ) (k j : Nat) : Option Nat := match qF k j with
  | some x => some x
  | none => Q k j
/-- the kinds of a class's fields: 0 int, 1 long, 2 reference, 3 boolean -/
def kd (ci : Nat) : List Nat := match ci with
  | 0 => [2]
  | 1 => [2]
  | 2 => [2, 2, 2]
  | 3 => [2]
  | 4 => [3, 0, 2, 2, 2, 2, 1, 0]
  | 5 => [2, 2, 0, 0, 0, 0]
  | 6 => [0, 0, 0, 0, 0, 2]
  | 7 => [1, 0, 0]
  | 8 => [2, 0, 0]
  | 9 => [2, 2, 2, 2, 2, 2, 2, 2, 2, 0, 0, 0, 0, 0, 0, 0]
  | 10 => [0, 0, 0, 2, 2, 2, 2, 2, 2, 2, 2, 2, 2, 2, 2, 0, 0, 0, 0, 0, 2, 2, 2, 2, 2, 0, 2, 2, 2, 2, 0, 2, 2, 2, 2, 2, 2, 2]
  | _ => []
def up2 {α : Type} (f : Nat → Nat → α) (k j : Nat) (v : α) : Nat → Nat → α := fun k' j' => if k' = k then (if j' = j then v else f k' j') else f k' j'
theorem up2_ne {α : Type} {f : Nat → Nat → α} {k j k' : Nat} {v : α} (h : k' ≠ k) : up2 f k j v k' = f k' := by
  funext j'
  simp [up2, h]
theorem up2_at {α : Type} {f : Nat → Nat → α} {k j : Nat} {v : α} : up2 f k j v k j = v := by simp [up2]
theorem up2_nej {α : Type} {f : Nat → Nat → α} {k k' j j' : Nat} {v : α} (h : j' ≠ j) : up2 f k j v k' j' = f k' j' := by simp [up2, h]
def hV (q : Nat → Nat) (qF : hQF) (I : hI) (J : hJ) (Q : hQ) (k j x : Nat) : Value := if x = 1 then .long (J k j) else if x = 2 then va_rf ((qE qF Q k j).map q) else .int (I k j)
def hE (cA : Nat → ClassId) (q : Nat → Nat) (tF : hTF) (qF : hQF) (t : Nat → Nat × Nat) (I : hI) (J : hJ) (Q : hQ) (k : Nat) : va_E :=
  if (tE tF t k).1 < 11 then .inr ((tE tF t k).1, (kd (tE tF t k).1).mapIdx (fun j x => hV q qF I J Q k j x))
  else if (tE tF t k).1 = 11 then .inl (cA 11, (tE tF t k).2, .inl (I k))
  else if (tE tF t k).1 = 12 then .inl (cA 12, (tE tF t k).2, .inr (.inl (J k)))
  else .inl (cA (tE tF t k).1, (tE tF t k).2, .inr (.inr (.inr (.inr (fun j => (qE qF Q k j).map q)))))
def hW (cA : Nat → ClassId) (q : Nat → Nat) (tF : hTF) (qF : hQF) (a : hA) (I : hI) (J : hJ) (Q : hQ) : va_W := (List.range a.1).map (fun k => (q k, hE cA q tF qF a.2.2.2 I J Q k))
theorem hW_len {cA : Nat → ClassId} {q : Nat → Nat} {tF : hTF} {qF : hQF} {a : hA} {I : hI} {J : hJ} {Q : hQ} : (hW cA q tF qF a I J Q).length = a.1 := by simp [hW]
theorem hW_get {cA : Nat → ClassId} {q : Nat → Nat} {tF : hTF} {qF : hQF} {a : hA} {I : hI} {J : hJ} {Q : hQ} {k : Nat} (h : k < a.1) : (hW cA q tF qF a I J Q)[k]? = some (q k, hE cA q tF qF a.2.2.2 I J Q k) := by
  simp [hW, List.getElem?_range h]
theorem hW_lt {cA : Nat → ClassId} {q : Nat → Nat} {tF : hTF} {qF : hQF} {a : hA} {I : hI} {J : hJ} {Q : hQ} {k : Nat} {x : Nat × va_E} (h : (hW cA q tF qF a I J Q)[k]? = some x) : k < a.1 := by
  have h1 := (List.getElem?_eq_some_iff.mp h).1
  rwa [hW_len] at h1
theorem hW_set {cA : Nat → ClassId} {q : Nat → Nat} {tF : hTF} {qF : hQF} {a : hA} {I I' : hI} {J J' : hJ} {Q Q' : hQ} {k : Nat} {e : va_E} (hk : k < a.1) (h1 : hE cA q tF qF a.2.2.2 I' J' Q' k = e) (h2 : ∀ k', k' ≠ k → hE cA q tF qF a.2.2.2 I' J' Q' k' = hE cA q tF qF a.2.2.2 I J Q k') : (hW cA q tF qF a I J Q).set k (q k, e) = hW cA q tF qF a I' J' Q' := by
  apply List.ext_getElem?
  intro n
  by_cases hn : n < a.1
  · rw [hW_get hn]
    by_cases he : n = k
    · subst he
      rw [List.getElem?_set_self (by rw [hW_len]; exact hn), h1]
    · rw [List.getElem?_set_ne (Ne.symm he), hW_get hn, h2 n he]
  · rw [List.getElem?_eq_none (by rw [List.length_set, hW_len]; omega), List.getElem?_eq_none (by rw [hW_len]; omega)]
theorem hE_obj {cA : Nat → ClassId} {q : Nat → Nat} {tF : hTF} {qF : hQF} {t : Nat → Nat × Nat} {I : hI} {J : hJ} {Q : hQ} {k ci : Nat} (h : (tE tF t k).1 = ci) (hc : ci < 11) : hE cA q tF qF t I J Q k = .inr (ci, (kd ci).mapIdx (fun j x => hV q qF I J Q k j x)) := by
  subst h
  unfold hE
  rw [if_pos hc]
theorem hE_int {cA : Nat → ClassId} {q : Nat → Nat} {tF : hTF} {qF : hQF} {t : Nat → Nat × Nat} {I : hI} {J : hJ} {Q : hQ} {k : Nat} (h : (tE tF t k).1 = 11) : hE cA q tF qF t I J Q k = .inl (cA 11, (tE tF t k).2, .inl (I k)) := by
  unfold hE
  rw [h, if_neg (by decide), if_pos rfl]
theorem hE_long {cA : Nat → ClassId} {q : Nat → Nat} {tF : hTF} {qF : hQF} {t : Nat → Nat × Nat} {I : hI} {J : hJ} {Q : hQ} {k : Nat} (h : (tE tF t k).1 = 12) : hE cA q tF qF t I J Q k = .inl (cA 12, (tE tF t k).2, .inr (.inl (J k))) := by
  unfold hE
  rw [h, if_neg (by decide), if_neg (by decide), if_pos rfl]
theorem hE_ref {cA : Nat → ClassId} {q : Nat → Nat} {tF : hTF} {qF : hQF} {t : Nat → Nat × Nat} {I : hI} {J : hJ} {Q : hQ} {k x : Nat} (h : (tE tF t k).1 = x) (h2 : 12 < x) : hE cA q tF qF t I J Q k = .inl (cA x, (tE tF t k).2, .inr (.inr (.inr (.inr (fun j => (qE qF Q k j).map q))))) := by
  unfold hE
  rw [h, if_neg (by omega), if_neg (by omega), if_neg (by omega)]
/-- what a cell holds is of its own numbers alone -/
theorem hE_cong {cA : Nat → ClassId} {q : Nat → Nat} {tF : hTF} {qF : hQF} {t t' : Nat → Nat × Nat} {I I' : hI} {J J' : hJ} {Q Q' : hQ} {k : Nat} (ht : tE tF t' k = tE tF t k) (h1 : I' k = I k) (h2 : J' k = J k) (h3 : qE qF Q' k = qE qF Q k) : hE cA q tF qF t' I' J' Q' k = hE cA q tF qF t I J Q k := by
  unfold hE hV
  rw [ht, h1, h2, h3]
theorem mapIdx_set {α β : Type} (l : List α) (f g : Nat → α → β) (j : Nat) (v : β) (h1 : ∀ x, l[j]? = some x → g j x = v) (h2 : ∀ i x, i ≠ j → g i x = f i x) : (l.mapIdx f).set j v = l.mapIdx g := by
  apply List.ext_getElem?
  intro n
  by_cases hn : n = j
  · subst hn
    by_cases hl : n < l.length
    · rw [List.getElem?_set_self (by simpa using hl), List.getElem?_mapIdx, List.getElem?_eq_getElem hl]
      simp [h1 _ (List.getElem?_eq_getElem hl)]
    · rw [List.getElem?_eq_none (by simp; omega), List.getElem?_eq_none (by simp; omega)]
  · rw [List.getElem?_set_ne (Ne.symm hn), List.getElem?_mapIdx, List.getElem?_mapIdx]
    cases l[n]? with
    | none => rfl
    | some x => simp [h2 n x hn]
theorem up2_row (I : hI) (k j : Nat) (x : Int32) : up2 I k j x k = upd (I k) j x := by
  funext i
  simp [up2, upd]
theorem up2_rowL (J : hJ) (k j : Nat) (x : Int64) : up2 J k j x k = vp_updL (J k) j x := by
  funext i
  simp [up2, vp_updL]
