/-! THE MACHINE AT A STATE OF THE ABSTRACT HEAP: gw; and that a stretch's proposition brings the machine there: instructions on locals and the stack -/
def cv (q : Nat → Nat) (v : Value) : Value := match v with
  | .ref k => .ref (q k)
  | v => v
def hLs (ls : Array Slot) (n : Nat) (q : Nat → Nat) (lv : lL) : Prop := lv.length = n ∧ ∃ l, lv_has ls n l ∧ ∀ (i : Nat) (v : Value), lv[i]? = some (some v) → (i, cv q v) ∈ l
theorem cv_cat (q : Nat → Nat) (v : Value) : (cv q v).category = v.category := by cases v <;> rfl
theorem is1_cat {v : Value} (h : is1 v = true) : v.category = 1 := by cases v <;> first | rfl | cases h
theorem lg_at {ls : Array Slot} {n : Nat} {q : Nat → Nat} {lv : lL} {i : Nat} {v : Value} (h : hLs ls n q lv) (hg : lg lv i = some v) : ls[i]? = some (.val (cv q v)) := by
  obtain ⟨-, l, h1, h2⟩ := h
  refine h1.2.2 _ (h2 i v ?_)
  unfold lg at hg
  split at hg
  · rename_i o ho
    rw [ho, hg]
  · cases hg
theorem lc_len (lv : lL) (i : Nat) : (lc lv i).length = lv.length := by
  unfold lc
  split
  · rfl
  · split <;> simp
theorem lc_get {lv : lL} {i j : Nat} {w : Value} (h : (lc lv i)[j]? = some (some w)) : lv[j]? = some (some w) ∧ ¬ (j + 1 = i ∧ w.category = 2) := by
  unfold lc at h
  split at h
  · exact ⟨h, by omega⟩
  · rename_i i
    split at h
    · rename_i hw
      by_cases hj : i = j
      · subst hj
        by_cases hl : i < lv.length
        · rw [List.getElem?_set_self hl] at h
          cases h
        · rw [List.getElem?_eq_none (by simp; omega)] at h
          cases h
      · rw [List.getElem?_set_ne hj] at h
        exact ⟨h, by omega⟩
    · rename_i hw
      refine ⟨h, fun ⟨e1, e2⟩ => ?_⟩
      have e : j = i := by omega
      subst e
      simp only [lg, h] at hw
      cases w <;> first | (simp [isW] at hw; done) | (simp [Value.category] at e2; done)
theorem s1_ok {lv lv' : lL} {i : Nat} {v : Value} {r r' : List Value} (h : s1 lv i v r = some (lv', r')) : i < lv.length ∧ lv' = (lc lv i).set i (some v) ∧ r' = r := by
  unfold s1 at h
  split at h
  · rename_i hb
    have hb' : i < lv.length := by simpa [Nat.blt_eq] using hb
    refine ⟨hb', ?_⟩
    split at h
    · cases h
      exact ⟨rfl, rfl⟩
    · split at h
      · rename_i hw
        cases h
        exact ⟨by simp only [lc, hw], rfl⟩
      · rename_i hw
        cases h
        exact ⟨by simp only [lc, hw], rfl⟩
  · cases h
theorem s2_ok {lv lv' : lL} {i : Nat} {v : Value} {r r' : List Value} (h : s2 lv i v r = some (lv', r')) : i + 1 < lv.length ∧ lv' = ((lc lv i).set i (some v)).set (i + 1) none ∧ r' = r := by
  unfold s2 at h
  split at h
  · rename_i hb
    have hb' : i + 1 < lv.length := by simpa [Nat.blt_eq] using hb
    refine ⟨hb', ?_⟩
    split at h
    · cases h
      exact ⟨rfl, rfl⟩
    · split at h
      · rename_i hw
        cases h
        exact ⟨by simp only [lc, hw], rfl⟩
      · rename_i hw
        cases h
        exact ⟨by simp only [lc, hw], rfl⟩
  · cases h
theorem hLs_s1 {ls : Array Slot} {n : Nat} {q : Nat → Nat} {lv : lL} {i : Nat} {v : Value} {l : List (Nat × Value)} (hn : lv.length = n) (hi : i < n) (h2 : ∀ (j : Nat) (w : Value), lv[j]? = some (some w) → (j, cv q w) ∈ l) (h : lv_has ls n ((i, cv q v) :: l.filter (fun q => !(q.1 == i) && !(q.1 + 1 == i && q.2.category == 2)))) : hLs ls n q ((lc lv i).set i (some v)) := by
  refine ⟨by rw [List.length_set, lc_len, hn], _, h, fun j w hj => ?_⟩
  by_cases he : i = j
  · subst he
    rw [List.getElem?_set_self (by rw [lc_len, hn]; exact hi)] at hj
    cases hj
    exact List.mem_cons_self
  · rw [List.getElem?_set_ne he] at hj
    obtain ⟨a, b⟩ := lc_get hj
    refine List.mem_cons_of_mem _ (List.mem_filter.mpr ⟨h2 j w a, ?_⟩)
    have e1 : (j == i) = false := by simpa using Ne.symm he
    simp only [e1, Bool.not_false, Bool.true_and, cv_cat]
    rw [Bool.not_eq_true']
    simpa using fun x => by intro y; exact b ⟨x, y⟩
theorem hLs_s2 {ls : Array Slot} {n : Nat} {q : Nat → Nat} {lv : lL} {i : Nat} {v : Value} {l : List (Nat × Value)} (hn : lv.length = n) (hi : i + 1 < n) (h2 : ∀ (j : Nat) (w : Value), lv[j]? = some (some w) → (j, cv q w) ∈ l) (h : lv_has ls n ((i, cv q v) :: l.filter (fun q => !(q.1 == i) && (!(q.1 == i + 1) && !(q.1 + 1 == i && q.2.category == 2))))) : hLs ls n q (((lc lv i).set i (some v)).set (i + 1) none) := by
  refine ⟨by rw [List.length_set, List.length_set, lc_len, hn], _, h, fun j w hj => ?_⟩
  by_cases he1 : i + 1 = j
  · subst he1
    rw [List.getElem?_set_self (by rw [List.length_set, lc_len, hn]; exact hi)] at hj
    cases hj
  · rw [List.getElem?_set_ne he1] at hj
    by_cases he : i = j
    · subst he
      rw [List.getElem?_set_self (by rw [lc_len, hn]; omega)] at hj
      cases hj
      exact List.mem_cons_self
    · rw [List.getElem?_set_ne he] at hj
      obtain ⟨a, b⟩ := lc_get hj
      refine List.mem_cons_of_mem _ (List.mem_filter.mpr ⟨h2 j w a, ?_⟩)
      have e1 : (j == i) = false := by simpa using Ne.symm he
      have e2 : (j == i + 1) = false := by simpa using Ne.symm he1
      simp only [e1, e2, Bool.not_false, Bool.true_and, cv_cat]
      rw [Bool.not_eq_true']
      simpa using fun x => by intro y; exact b ⟨x, y⟩
def lw_g : List Cond := lw_tbl.filter goodWord
def isNest (w : Cond) : Bool := match w with
  | .methodLinkNest _ _ _ _ => true
  | _ => false
def lw_n : List Cond := lw_tbl.filter isNest
def tysA (cA : Nat → ClassId) : List (ClassId × FieldType) := [(cA 11, .int), (cA 12, .long), (cA 13, .object RX6), (cA 14, .object RX7), (cA 15, .object RX8)]
/-- what the tables say of the classes -/
def kk (D : va_G) (cA : Nat → ClassId) (U : State) : Prop := va_K D vwCl (tysA cA) U ∧ (∀ w ∈ lw_n, va_Nw w U) ∧ va_AO RX6 U ∧ va_AO RX7 U ∧ va_AO RX8 U
/-- what holds all through a method: the machine, the code, the words, its room -/
def cx (p : Program) (R : Room) (s : State) (m : MethodId) (args : Array Value) (meth : Method) (c : Code) (A : Nat → Prop) (D : va_G) (cA : Nat → ClassId) (cc : ByteArray) (own : String) (nL : Nat) (ret : Option FieldType) (ini : Bool) (d N0 base u0 z0 um zm : Nat) : Prop :=
  p.tables.exec = Jvm.exec ∧ c.code = cc ∧ c.maxLocals = nL ∧ meth.sig.returnType = ret ∧ meth.locks = false ∧ s.vm.findClass own = some m.cls ∧ (∀ w ∈ lw_g, w.before args s = true) ∧ kk D cA s ∧ (∀ q, s.heap.size ≤ q → A q) ∧ (ini = true → meth.name = "<init>") ∧ um = u0 + R.cells ∧ zm = z0 + R.slots ∧ R.frames = d ∧ R.locals = 64 * d ∧ base ≤ N0
def wfQ (qF : hQF) (a : hA) (Q : hQ) : Prop := ∀ k j x, k < a.1 → qE qF Q k j = some x → x < a.1
/-- the machine at pc, with these locals, this stack, this heap, comes to its end Qx -/
def gw (p : Program) (l : Launch) (e : Env) (R : Room) (s : State) (m : MethodId) (args : Array Value) (below : List Frame) (meth : Method) (c : Code) (Qx : State → Prop) (A : Nat → Prop) (D : va_G) (cA : Nat → ClassId) (q0 : Nat → Nat) (tF : hTF) (qF : hQF) (al : Bool) (N0 u0 z0 um zm : Nat) (pc : Nat) (lv : lL) (st : List Value) (a : hA) (I : hI) (J : hJ) (Q : hQ) : Prop :=
  ∀ (q : Nat → Nat) (H : Heap) (locs : List Loc) (ls : Array Slot), ((∀ k, k < N0 → q k = q0 k) ∧ (al = false → q = q0)) → (N0 ≤ a.1 ∧ u0 ≤ a.2.1 ∧ a.2.1 ≤ um ∧ z0 ≤ a.2.2.1 ∧ a.2.2.1 ≤ zm ∧ wfQ qF a Q) → va_P D vwCl (hW cA q tF qF a I J Q) H → va_D A (hW cA q tF qF a I J Q) → va_S A s.heap H locs → hLs ls c.maxLocals q lv → W p l e R s m args below meth c H locs (a.2.1 - u0) (a.2.2.1 - z0) Qx (F0 m pc ls (st.map (cv q)))
def ilen (i : Instr) : Nat := match i with
  | .bipush _ => 2
  | .sipush _ => 3
  | .ldc _ => 2
  | .ldc_w _ => 3
  | .ldc2_w _ => 3
  | .iload _ => 2
  | .lload _ => 2
  | .aload _ => 2
  | .istore _ => 2
  | .lstore _ => 2
  | .astore _ => 2
  | .iinc _ _ => 3
  | .goto _ => 3
  | .ifCond _ _ => 3
  | .if_icmp _ _ => 3
  | .ifnull _ => 3
  | .ifnonnull _ => 3
  | .getfield _ => 3
  | .putfield _ => 3
  | .invokespecial _ => 3
  | .invokestatic _ => 3
  | .invokevirtual _ => 3
  | .new _ => 3
  | .newarray _ => 2
  | .anewarray _ => 3
  | _ => 1
/-- a word of the tables at its place -/
def memH (n : Nat) (w : Cond) : Bool := decide (lw_tbl[n]? = some w) && goodWord w
def memN (n : Nat) (w : Cond) : Bool := decide (lw_tbl[n]? = some w) && isNest w
theorem memH_ok {n : Nat} {w : Cond} (h : memH n w = true) : w ∈ lw_g := by
  unfold memH at h
  rw [Bool.and_eq_true, decide_eq_true_eq] at h
  exact List.mem_filter.mpr ⟨List.mem_of_getElem? h.1, h.2⟩
theorem memN_ok {n : Nat} {w : Cond} (h : memN n w = true) : w ∈ lw_n := by
  unfold memN at h
  rw [Bool.and_eq_true, decide_eq_true_eq] at h
  exact List.mem_filter.mpr ⟨List.mem_of_getElem? h.1, h.2⟩
/-- the places of an instruction's words stand in its row -/
def hn (L : List (Int32 × Nat)) (i : Nat) : Nat := match L[i]? with
  | some y => y.2
  | none => 0
/-- the row's own constants are the instruction's -/
def okC (own : String) (i : Instr) (c : Int32) (d : Int64) (L : List (Int32 × Nat)) : Bool := match i with
  | .iconst n => decide (Int32.ofInt n = c)
  | .bipush n => decide ((Int8.ofInt n).toInt32 = c)
  | .sipush n => decide ((Int16.ofInt n).toInt32 = c)
  | .ldc x => memH (hn L 0) (Cond.constant own x c)
  | .ldc_w x => memH (hn L 0) (Cond.constant own x c)
  | .lconst n => decide (Int64.ofNat (n : Nat) = d)
  | .ldc2_w x => memH (hn L 0) (Cond.constantLong own x d)
  | .iinc _ n => decide (Int32.ofInt n = c)
  | _ => true
section GW1
variable {p : Program} {l : Launch} {e : Env} {R : Room} {s : State} {m : MethodId} {args : Array Value} {below : List Frame} {meth : Method} {c : Code} {Qx : State → Prop} {A : Nat → Prop} {D : va_G} {cA : Nat → ClassId} {q0 : Nat → Nat} {tF : hTF} {qF : hQF} {al : Bool} {N0 u0 z0 um zm base nL d : Nat} {cc : ByteArray} {own : String} {ret : Option FieldType} {ini : Bool} {pc : Nat} {lv lv' : lL} {st st' : List Value} {a : hA} {I : hI} {J : hJ} {Q : hQ}
theorem li_ok {i : Nat} (h : li lv i st = some (lv', st')) : ∃ x, lg lv i = some (.int x) ∧ lv' = lv ∧ st' = .int x :: st := by
  unfold li at h
  split at h
  · rename_i x hx
    cases h
    exact ⟨x, hx, rfl, rfl⟩
  · cases h
theorem ll_ok {i : Nat} (h : ll lv i st = some (lv', st')) : ∃ x, lg lv i = some (.long x) ∧ lv' = lv ∧ st' = .long x :: st := by
  unfold ll at h
  split at h
  · rename_i x hx
    cases h
    exact ⟨x, hx, rfl, rfl⟩
  · cases h
theorem la_ok {i : Nat} (h : la lv i st = some (lv', st')) : (∃ x, lg lv i = some (.ref x) ∧ lv' = lv ∧ st' = .ref x :: st) ∨ (lg lv i = some .null ∧ lv' = lv ∧ st' = .null :: st) := by
  unfold la at h
  split at h
  · rename_i x hx
    cases h
    exact Or.inl ⟨x, hx, rfl, rfl⟩
  · rename_i hx
    cases h
    exact Or.inr ⟨hx, rfl, rfl⟩
  · cases h
theorem si_ok {i : Nat} (h : si lv i st = some (lv', st')) : ∃ x, st = .int x :: st' ∧ i < lv.length ∧ lv' = (lc lv i).set i (some (.int x)) := by
  unfold si at h
  split at h
  · rename_i x r
    obtain ⟨h1, h2, h3⟩ := s1_ok h
    exact ⟨x, by rw [h3], h1, h2⟩
  · cases h
theorem sl_ok {i : Nat} (h : sl lv i st = some (lv', st')) : ∃ x, st = .long x :: st' ∧ i + 1 < lv.length ∧ lv' = ((lc lv i).set i (some (.long x))).set (i + 1) none := by
  unfold sl at h
  split at h
  · rename_i x r
    obtain ⟨h1, h2, h3⟩ := s2_ok h
    exact ⟨x, by rw [h3], h1, h2⟩
  · cases h
theorem sa_ok {i : Nat} (h : sa lv i st = some (lv', st')) : (∃ x, st = .ref x :: st' ∧ i < lv.length ∧ lv' = (lc lv i).set i (some (.ref x))) ∨ (st = .null :: st' ∧ i < lv.length ∧ lv' = (lc lv i).set i (some .null)) := by
  unfold sa at h
  split at h
  · rename_i x r
    obtain ⟨h1, h2, h3⟩ := s1_ok h
    exact Or.inl ⟨x, by rw [h3], h1, h2⟩
  · obtain ⟨h1, h2, h3⟩ := s1_ok h
    exact Or.inr ⟨by rw [h3], h1, h2⟩
  · cases h
theorem bi_ok {f : Int32 → Int32 → Int32} (h : bi lv st f = some (lv', st')) : ∃ x y r, st = .int y :: .int x :: r ∧ lv' = lv ∧ st' = .int (f x y) :: r := by
  unfold bi at h
  split at h
  · rename_i y x r
    cases h
    exact ⟨x, y, r, rfl, rfl, rfl⟩
  · cases h
theorem bl_ok {f : Int64 → Int64 → Int64} (h : bl lv st f = some (lv', st')) : ∃ x y r, st = .long y :: .long x :: r ∧ lv' = lv ∧ st' = .long (f x y) :: r := by
  unfold bl at h
  split at h
  · rename_i y x r
    cases h
    exact ⟨x, y, r, rfl, rfl, rfl⟩
  · cases h
theorem bs_ok {f : Int64 → Int32 → Int64} (h : bs lv st f = some (lv', st')) : ∃ x y r, st = .int y :: .long x :: r ∧ lv' = lv ∧ st' = .long (f x y) :: r := by
  unfold bs at h
  split at h
  · rename_i y x r
    cases h
    exact ⟨x, y, r, rfl, rfl, rfl⟩
  · cases h
end GW1
