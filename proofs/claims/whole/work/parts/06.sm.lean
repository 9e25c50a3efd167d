/-! soundness of the instructions on locals and the stack -/
theorem lg_get {lv : lL} {i : Nat} {v : Value} (hg : lg lv i = some v) : lv[i]? = some (some v) := by
  unfold lg at hg
  split at hg
  · rename_i o ho
    rw [ho, hg]
  · cases hg
section SM
variable {p : Program} {l : Launch} {e : Env} {R : Room} {s : State} {m : MethodId} {args : Array Value} {below : List Frame} {meth : Method} {c : Code} {Qx : State → Prop} {A : Nat → Prop} {D : va_G} {cA : Nat → ClassId} {q0 : Nat → Nat} {tF : hTF} {qF : hQF} {al : Bool} {N0 u0 z0 um zm base nL d : Nat} {cc : ByteArray} {own : String} {ret : Option FieldType} {ini : Bool} {pc : Nat} {lv lv' : lL} {st st' : List Value} {a : hA} {I : hI} {J : hJ} {Q : hQ}
set_option maxHeartbeats 4000000 in
theorem sm_sound {i : Instr} {len : Nat} {cI : Int32} {dJ : Int64} (C : cx p R s m args meth c A D cA cc own nL ret ini d N0 base u0 z0 um zm) (hd : decode cc pc = .ok (i, ilen i)) {L : List (Int32 × Nat)} (ho : okC own i cI dJ L = true) (h : sm i len cI dJ lv st = some (lv', st'))
    (k : gw p l e R s m args below meth c Qx A D cA q0 tF qF al N0 u0 z0 um zm (pc + ilen i) lv' st' a I J Q) : gw p l e R s m args below meth c Qx A D cA q0 tF qF al N0 u0 z0 um zm pc lv st a I J Q := by
  obtain ⟨hx, hb, hml, -, -, hown, hts, -⟩ := C
  intro q H locs ls h1 h2 hP hD hS hl
  have k := k q H locs
  have kz := k ls h1 h2 hP hD hS
  have hlen := hl.1
  unfold sm at h
  split at h
  · cases h; exact lv_null hx hb hd (kz hl)
  · cases h; exact lv_iconst hx hb hd (by simpa [okC] using ho) (kz hl)
  · cases h; exact lv_bipush hx hb hd (by simpa [okC] using ho) (kz hl)
  · cases h; exact lv_sipush hx hb hd (by simpa [okC] using ho) (kz hl)
  · cases h; exact lv_ldc hx hb hown (hts _ (memH_ok ho)) hd (kz hl)
  · cases h; exact lv_ldcw hx hb hown (hts _ (memH_ok ho)) hd (kz hl)
  · cases h; exact lv_lconst hx hb hd (by simpa [okC] using ho) (kz hl)
  · cases h; exact lv_ldc2 hx hb hown (hts _ (memH_ok ho)) hd (kz hl)
  · obtain ⟨x, g, rfl, rfl⟩ := li_ok h; exact lv_iload hx hb hd (lg_at hl g) (kz hl)
  · obtain ⟨x, g, rfl, rfl⟩ := li_ok h; exact lv_iload_n hx hb hd rfl (lg_at hl g) (kz hl)
  · obtain ⟨x, g, rfl, rfl⟩ := ll_ok h; exact lv_lload hx hb hd (lg_at hl g) (kz hl)
  · obtain ⟨x, g, rfl, rfl⟩ := ll_ok h; exact lv_lload_n hx hb hd rfl (lg_at hl g) (kz hl)
  · rcases la_ok h with ⟨x, g, rfl, rfl⟩ | ⟨g, rfl, rfl⟩
    · exact lv_aload hx hb hd (lg_at hl g) (kz hl)
    · exact lv_aloadN hx hb hd (lg_at hl g) (kz hl)
  · rcases la_ok h with ⟨x, g, rfl, rfl⟩ | ⟨g, rfl, rfl⟩
    · exact lv_aload_n hx hb hd rfl (lg_at hl g) (kz hl)
    · exact lv_aload_nN hx hb hd rfl (lg_at hl g) (kz hl)
  · obtain ⟨x, rfl, g, rfl⟩ := si_ok h
    obtain ⟨-, l0, h8, h9⟩ := hl
    exact lv_istore hx hb hd h8 (by omega) rfl (fun ls1 hl1 => k ls1 h1 h2 hP hD hS (hLs_s1 hlen (by omega) h9 hl1))
  · obtain ⟨x, rfl, g, rfl⟩ := si_ok h
    obtain ⟨-, l0, h8, h9⟩ := hl
    exact lv_istore_n hx hb hd rfl h8 (by omega) rfl (fun ls1 hl1 => k ls1 h1 h2 hP hD hS (hLs_s1 hlen (by omega) h9 hl1))
  · obtain ⟨x, rfl, g, rfl⟩ := sl_ok h
    obtain ⟨-, l0, h8, h9⟩ := hl
    exact lv_lstore hx hb hd h8 (by omega) rfl (fun ls1 hl1 => k ls1 h1 h2 hP hD hS (hLs_s2 hlen (by omega) h9 hl1))
  · obtain ⟨x, rfl, g, rfl⟩ := sl_ok h
    obtain ⟨-, l0, h8, h9⟩ := hl
    exact lv_lstore_n hx hb hd rfl h8 (by omega) rfl (fun ls1 hl1 => k ls1 h1 h2 hP hD hS (hLs_s2 hlen (by omega) h9 hl1))
  · rcases sa_ok h with ⟨x, rfl, g, rfl⟩ | ⟨rfl, g, rfl⟩
    · obtain ⟨-, l0, h8, h9⟩ := hl
      exact lv_astore hx hb hd h8 (by omega) rfl (fun ls1 hl1 => k ls1 h1 h2 hP hD hS (hLs_s1 hlen (by omega) h9 hl1))
    · obtain ⟨-, l0, h8, h9⟩ := hl
      exact lv_astoreN hx hb hd h8 (by omega) rfl (fun ls1 hl1 => k ls1 h1 h2 hP hD hS (hLs_s1 hlen (by omega) h9 hl1))
  · rcases sa_ok h with ⟨x, rfl, g, rfl⟩ | ⟨rfl, g, rfl⟩
    · obtain ⟨-, l0, h8, h9⟩ := hl
      exact lv_astore_n hx hb hd rfl h8 (by omega) rfl (fun ls1 hl1 => k ls1 h1 h2 hP hD hS (hLs_s1 hlen (by omega) h9 hl1))
    · obtain ⟨-, l0, h8, h9⟩ := hl
      exact lv_astore_nN hx hb hd rfl h8 (by omega) rfl (fun ls1 hl1 => k ls1 h1 h2 hP hD hS (hLs_s1 hlen (by omega) h9 hl1))
  · split at h
    · rename_i x g
      obtain ⟨g1, rfl, rfl⟩ := s1_ok h
      have ga := g
      obtain ⟨-, l0, h8, h9⟩ := hl
      have hm := h9 _ (.int x) (lg_get g)
      obtain ⟨j, hj⟩ := List.getElem?_of_mem hm
      exact lv_iinc hx hb hd h8 hj (by have := ho; simp [okC] at this; rw [this]) (by omega) rfl (fun ls1 hl1 => k ls1 h1 h2 hP hD hS (hLs_s1 hlen (by omega) h9 hl1))
    · cases h
  · split at h
    · cases h; exact lv_iadd hx hb hd (kz hl)
    · cases h
  · split at h
    · cases h; exact lv_isub hx hb hd (kz hl)
    · cases h
  · split at h
    · cases h; exact lv_imul hx hb hd (kz hl)
    · cases h
  · split at h
    · cases h; exact lv_iand hx hb hd (kz hl)
    · cases h
  · split at h
    · cases h; exact lv_ior hx hb hd (kz hl)
    · cases h
  · split at h
    · cases h; exact lv_ixor hx hb hd (kz hl)
    · cases h
  · split at h
    · cases h; exact lv_ishl hx hb hd (kz hl)
    · cases h
  · split at h
    · cases h; exact lv_ishr hx hb hd (kz hl)
    · cases h
  · split at h
    · cases h; exact lv_iushr hx hb hd rfl (kz hl)
    · cases h
  · split at h
    · cases h; exact lv_ladd hx hb hd (kz hl)
    · cases h
  · split at h
    · cases h; exact lv_lsub hx hb hd (kz hl)
    · cases h
  · split at h
    · cases h; exact lv_lmul hx hb hd (kz hl)
    · cases h
  · split at h
    · cases h; exact lv_land hx hb hd (kz hl)
    · cases h
  · split at h
    · cases h; exact lv_lor hx hb hd (kz hl)
    · cases h
  · split at h
    · cases h; exact lv_lxor hx hb hd (kz hl)
    · cases h
  · split at h
    · cases h; exact lv_lshl hx hb hd rfl (kz hl)
    · cases h
  · split at h
    · cases h; exact lv_lshr hx hb hd rfl (kz hl)
    · cases h
  · split at h
    · cases h; exact lv_lushr hx hb hd rfl (kz hl)
    · cases h
  · split at h
    · cases h; exact lv_ineg hx hb hd (kz hl)
    · cases h
  · split at h
    · cases h; exact lv_lneg hx hb hd (kz hl)
    · cases h
  · split at h
    · cases h; exact lv_i2l hx hb hd rfl (kz hl)
    · cases h
  · split at h
    · cases h; exact lv_l2i hx hb hd rfl (kz hl)
    · cases h
  · split at h
    · cases h; exact lv_i2b hx hb hd rfl (kz hl)
    · cases h
  · split at h
    · cases h; exact lv_i2s hx hb hd rfl (kz hl)
    · cases h
  · split at h
    · cases h; exact W.lcmp hx hb hd (kz hl)
    · cases h
  · split at h
    · split at h
      · rename_i v r hv
        cases h; exact lv_dup hx hb hd (by rw [cv_cat]; exact is1_cat hv) (kz hl)
      · cases h
    · cases h
  · split at h
    · split at h
      · rename_i v w r hv
        cases h
        rw [Bool.and_eq_true] at hv
        exact lv_dup_x1 hx hb hd (by rw [cv_cat]; exact is1_cat hv.1) (by rw [cv_cat]; exact is1_cat hv.2) (kz hl)
      · cases h
    · cases h
  · split at h
    · cases h; exact lv_dup2_2 hx hb hd rfl (kz hl)
    · split at h
      · rename_i v w r _ hv
        cases h
        rw [Bool.and_eq_true] at hv
        exact lv_dup2_11 hx hb hd (by rw [cv_cat]; exact is1_cat hv.1) (by rw [cv_cat]; exact is1_cat hv.2) (kz hl)
      · cases h
    · cases h
  · cases h
end SM
