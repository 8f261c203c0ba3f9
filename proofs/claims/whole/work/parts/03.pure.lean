/-! THE ABSTRACT MACHINE, 2: the pure instructions are the machine's -/
section AmPure
variable {p : Program} {l : Launch} {e : Env} {R : Room} {s : State} {m : MethodId} {args : Array Value} {below : List Frame} {meth : Method} {c : Code} {H : Heap} {locs : List Loc} {cells slots : Nat} {Q : State → Prop}
variable {cc : ByteArray} {pc : Nat} {ls ls' : Array Slot} {rest : List Value}
theorem am_w_istore (hexec : p.tables.exec = Jvm.exec) (hb : c.code = cc) {i : Nat} {x : Int32} (hdg : decode cc pc = .ok (.istore i, 2)) (e' : storeLocals ls i (.int x) = some ls') (k : W p l e R s m args below meth c H locs cells slots Q (F0 m (pc + 2) ls' rest)) : W p l e R s m args below meth c H locs cells slots Q (F0 m pc ls (.int x :: rest)) := by
  intro T hT X
  obtain ⟨t, a, b⟩ := k T hT X
  refine ⟨t, ?_, b⟩
  jvm_step X.here [X.here.top, ↓top_set X.here.top, hexec, hb, hdg, e']
  exact a
theorem am_w_istore_n (hexec : p.tables.exec = Jvm.exec) (hb : c.code = cc) {i : Fin 4} {x : Int32} (hdg : decode cc pc = .ok (.istore_n i, 1)) (e' : storeLocals ls i (.int x) = some ls') (k : W p l e R s m args below meth c H locs cells slots Q (F0 m (pc + 1) ls' rest)) : W p l e R s m args below meth c H locs cells slots Q (F0 m pc ls (.int x :: rest)) := by
  intro T hT X
  obtain ⟨t, a, b⟩ := k T hT X
  refine ⟨t, ?_, b⟩
  jvm_step X.here [X.here.top, ↓top_set X.here.top, hexec, hb, hdg, e']
  exact a
theorem am_w_lstore (hexec : p.tables.exec = Jvm.exec) (hb : c.code = cc) {i : Nat} {x : Int64} (hdg : decode cc pc = .ok (.lstore i, 2)) (e' : storeLocals ls i (.long x) = some ls') (k : W p l e R s m args below meth c H locs cells slots Q (F0 m (pc + 2) ls' rest)) : W p l e R s m args below meth c H locs cells slots Q (F0 m pc ls (.long x :: rest)) := by
  intro T hT X
  obtain ⟨t, a, b⟩ := k T hT X
  refine ⟨t, ?_, b⟩
  jvm_step X.here [X.here.top, ↓top_set X.here.top, hexec, hb, hdg, e']
  exact a
theorem am_w_lstore_n (hexec : p.tables.exec = Jvm.exec) (hb : c.code = cc) {i : Fin 4} {x : Int64} (hdg : decode cc pc = .ok (.lstore_n i, 1)) (e' : storeLocals ls i (.long x) = some ls') (k : W p l e R s m args below meth c H locs cells slots Q (F0 m (pc + 1) ls' rest)) : W p l e R s m args below meth c H locs cells slots Q (F0 m pc ls (.long x :: rest)) := by
  intro T hT X
  obtain ⟨t, a, b⟩ := k T hT X
  refine ⟨t, ?_, b⟩
  jvm_step X.here [X.here.top, ↓top_set X.here.top, hexec, hb, hdg, e']
  exact a
theorem am_w_dstore (hexec : p.tables.exec = Jvm.exec) (hb : c.code = cc) {i : Nat} {x : UInt64} (hdg : decode cc pc = .ok (.dstore i, 2)) (e' : storeLocals ls i (.double x) = some ls') (k : W p l e R s m args below meth c H locs cells slots Q (F0 m (pc + 2) ls' rest)) : W p l e R s m args below meth c H locs cells slots Q (F0 m pc ls (.double x :: rest)) := by
  intro T hT X
  obtain ⟨t, a, b⟩ := k T hT X
  refine ⟨t, ?_, b⟩
  jvm_step X.here [X.here.top, ↓top_set X.here.top, hexec, hb, hdg, e']
  exact a
theorem am_w_dstore_n (hexec : p.tables.exec = Jvm.exec) (hb : c.code = cc) {i : Fin 4} {x : UInt64} (hdg : decode cc pc = .ok (.dstore_n i, 1)) (e' : storeLocals ls i (.double x) = some ls') (k : W p l e R s m args below meth c H locs cells slots Q (F0 m (pc + 1) ls' rest)) : W p l e R s m args below meth c H locs cells slots Q (F0 m pc ls (.double x :: rest)) := by
  intro T hT X
  obtain ⟨t, a, b⟩ := k T hT X
  refine ⟨t, ?_, b⟩
  jvm_step X.here [X.here.top, ↓top_set X.here.top, hexec, hb, hdg, e']
  exact a
theorem am_w_astore (hexec : p.tables.exec = Jvm.exec) (hb : c.code = cc) {i : Nat} {v : Value} (hv : v = .null ∨ ∃ a, v = .ref a) (hdg : decode cc pc = .ok (.astore i, 2)) (e' : storeLocals ls i v = some ls') (k : W p l e R s m args below meth c H locs cells slots Q (F0 m (pc + 2) ls' rest)) : W p l e R s m args below meth c H locs cells slots Q (F0 m pc ls (v :: rest)) := by
  intro T hT X
  obtain ⟨t, a, b⟩ := k T hT X
  refine ⟨t, ?_, b⟩
  rcases hv with rfl | ⟨y, rfl⟩
  · jvm_step X.here [X.here.top, ↓top_set X.here.top, hexec, hb, hdg, e']
    exact a
  · jvm_step X.here [X.here.top, ↓top_set X.here.top, hexec, hb, hdg, e']
    exact a
theorem am_w_astore_n (hexec : p.tables.exec = Jvm.exec) (hb : c.code = cc) {i : Fin 4} {v : Value} (hv : v = .null ∨ ∃ a, v = .ref a) (hdg : decode cc pc = .ok (.astore_n i, 1)) (e' : storeLocals ls i v = some ls') (k : W p l e R s m args below meth c H locs cells slots Q (F0 m (pc + 1) ls' rest)) : W p l e R s m args below meth c H locs cells slots Q (F0 m pc ls (v :: rest)) := by
  intro T hT X
  obtain ⟨t, a, b⟩ := k T hT X
  refine ⟨t, ?_, b⟩
  rcases hv with rfl | ⟨y, rfl⟩
  · jvm_step X.here [X.here.top, ↓top_set X.here.top, hexec, hb, hdg, e']
    exact a
  · jvm_step X.here [X.here.top, ↓top_set X.here.top, hexec, hb, hdg, e']
    exact a
theorem am_w_iinc (hexec : p.tables.exec = Jvm.exec) (hb : c.code = cc) {i : Nat} {n : Int} {x : Int32} (hdg : decode cc pc = .ok (.iinc i n, 3)) (hl : ls[i]? = some (.val (.int x))) (e' : storeLocals ls i (.int (x + Int32.ofInt n)) = some ls') (k : W p l e R s m args below meth c H locs cells slots Q (F0 m (pc + 3) ls' rest)) : W p l e R s m args below meth c H locs cells slots Q (F0 m pc ls rest) := by
  intro T hT X
  obtain ⟨t, a, b⟩ := k T hT X
  refine ⟨t, ?_, b⟩
  jvm_step X.here [X.here.top, ↓top_set X.here.top, hexec, hb, hdg, hl, e']
  exact a
theorem am_ref_re {g : Nat → Nat} {v : am_V} (h : am_is 3 v = true) : am_re g v = .null ∨ ∃ a, am_re g v = .ref a := by
  rcases v with x | x | x | (_ | x)
  · cases h
  · cases h
  · cases h
  · exact Or.inl rfl
  · exact Or.inr ⟨_, rfl⟩
theorem am_load_eq {k len i len' : Nat} {L L' : am_L} {st st' : List am_V} (h : am_load k len i L st = some (len', L', st')) : ∃ v, L.getD i none = some v ∧ am_is k v = true ∧ len' = len ∧ L' = L ∧ st' = v :: st := by
  unfold am_load at h
  split at h
  · cases h
  · rename_i v hv
    split at h
    · rename_i hk
      cases h
      exact ⟨v, hv, hk, rfl, rfl, rfl⟩
    · cases h
theorem am_store_eq {k len i len' : Nat} {L L' : am_L} {st st' : List am_V} (h : am_store k len i L st = some (len', L', st')) : ∃ v, st = v :: st' ∧ am_is k v = true ∧ i + am_cat v ≤ L.length ∧ len' = len ∧ L' = am_stv L i v := by
  unfold am_store at h
  split at h
  · cases h
  · split at h
    · rename_i hk
      split at h
      · rename_i hl
        cases h
        exact ⟨_, rfl, hk, hl, rfl, rfl⟩
      · cases h
    · cases h
theorem am_ii_eq {f : Int32 → Int32 → Int32} {len' : Nat} {L L' : am_L} {st st' : List am_V} (h : am_ii f L st = some (len', L', st')) : ∃ x y s, st = am_i y :: am_i x :: s ∧ len' = 1 ∧ L' = L ∧ st' = am_i (f x y) :: s := by
  unfold am_ii at h
  split at h
  · cases h
    exact ⟨_, _, _, rfl, rfl, rfl, rfl⟩
  · cases h
theorem am_ll_eq {f : Int64 → Int64 → Int64} {len' : Nat} {L L' : am_L} {st st' : List am_V} (h : am_ll f L st = some (len', L', st')) : ∃ x y s, st = am_l y :: am_l x :: s ∧ len' = 1 ∧ L' = L ∧ st' = am_l (f x y) :: s := by
  unfold am_ll at h
  split at h
  · cases h
    exact ⟨_, _, _, rfl, rfl, rfl, rfl⟩
  · cases h
theorem am_is_int {v : am_V} (h : am_is 0 v = true) : ∃ x, v = am_i x := by
  rcases v with x | x | x | x
  · exact ⟨x, rfl⟩
  all_goals cases h
theorem am_is_long {v : am_V} (h : am_is 1 v = true) : ∃ x, v = am_l x := by
  rcases v with x | x | x | x
  · cases h
  · exact ⟨x, rfl⟩
  all_goals cases h
theorem am_is_dbl {v : am_V} (h : am_is 2 v = true) : ∃ x, v = am_d x := by
  rcases v with x | x | x | x
  · cases h
  · cases h
  · exact ⟨x, rfl⟩
  · cases h
set_option maxHeartbeats 4000000 in
/-- a pure instruction -/
theorem am_pure (hexec : p.tables.exec = Jvm.exec) (hb : c.code = cc) {g : Nat → Nat} {nL : Nat} {i : Instr} {len : Nat} {L L' : am_L} {st st' : List am_V} (hp : am_p i L st = some (len, L', st')) (hdg : decode cc pc = .ok (i, len)) (hL : am_LR g nL ls L)
    (k : ∀ ls', am_LR g nL ls' L' → W p l e R s m args below meth c H locs cells slots Q (F0 m (pc + len) ls' (st'.map (am_re g)))) : W p l e R s m args below meth c H locs cells slots Q (F0 m pc ls (st.map (am_re g))) := by
  cases i
  case aconst_null => cases hp; exact lv_null hexec hb hdg (k ls hL)
  case iconst => cases hp; exact lv_iconst hexec hb hdg rfl (k ls hL)
  case bipush => cases hp; exact lv_bipush hexec hb hdg rfl (k ls hL)
  case sipush => cases hp; exact lv_sipush hexec hb hdg rfl (k ls hL)
  case lconst => cases hp; exact lv_lconst hexec hb hdg rfl (k ls hL)
  case dconst n =>
    cases hp
    match n, hdg, k with
    | 0, hdg, k => exact lv_dconst0 hexec hb hdg (k ls hL)
    | 1, hdg, k => exact lv_dconst1 hexec hb hdg (k ls hL)
  case iload n =>
    obtain ⟨v, h1, h2, rfl, rfl, rfl⟩ := am_load_eq hp
    obtain ⟨x, rfl⟩ := am_is_int h2
    exact lv_iload hexec hb hdg (hL.at h1) (k ls hL)
  case iload_n n =>
    obtain ⟨v, h1, h2, rfl, rfl, rfl⟩ := am_load_eq hp
    obtain ⟨x, rfl⟩ := am_is_int h2
    exact lv_iload_n hexec hb hdg rfl (hL.at h1) (k ls hL)
  case lload n =>
    obtain ⟨v, h1, h2, rfl, rfl, rfl⟩ := am_load_eq hp
    obtain ⟨x, rfl⟩ := am_is_long h2
    exact lv_lload hexec hb hdg (hL.at h1) (k ls hL)
  case lload_n n =>
    obtain ⟨v, h1, h2, rfl, rfl, rfl⟩ := am_load_eq hp
    obtain ⟨x, rfl⟩ := am_is_long h2
    exact lv_lload_n hexec hb hdg rfl (hL.at h1) (k ls hL)
  case dload n =>
    obtain ⟨v, h1, h2, rfl, rfl, rfl⟩ := am_load_eq hp
    obtain ⟨x, rfl⟩ := am_is_dbl h2
    exact lv_dload hexec hb hdg (hL.at h1) (k ls hL)
  case dload_n n =>
    obtain ⟨v, h1, h2, rfl, rfl, rfl⟩ := am_load_eq hp
    obtain ⟨x, rfl⟩ := am_is_dbl h2
    exact lv_dload_n hexec hb hdg rfl (hL.at h1) (k ls hL)
  case aload n =>
    obtain ⟨v, h1, h2, rfl, rfl, rfl⟩ := am_load_eq hp
    rcases v with x | x | x | (_ | x)
    · cases h2
    · cases h2
    · cases h2
    · exact lv_aloadN hexec hb hdg (hL.at h1) (k ls hL)
    · exact lv_aload hexec hb hdg (hL.at h1) (k ls hL)
  case aload_n n =>
    obtain ⟨v, h1, h2, rfl, rfl, rfl⟩ := am_load_eq hp
    rcases v with x | x | x | (_ | x)
    · cases h2
    · cases h2
    · cases h2
    · exact lv_aload_nN hexec hb hdg rfl (hL.at h1) (k ls hL)
    · exact lv_aload_n hexec hb hdg rfl (hL.at h1) (k ls hL)
  case istore n =>
    obtain ⟨v, rfl, h2, h3, rfl, rfl⟩ := am_store_eq hp
    obtain ⟨x, rfl⟩ := am_is_int h2
    obtain ⟨ls', e', h'⟩ := hL.store (i := n) (v := am_i x) (by rw [← hL.1]; exact h3)
    exact am_w_istore hexec hb hdg e' (k ls' h')
  case istore_n n =>
    obtain ⟨v, rfl, h2, h3, rfl, rfl⟩ := am_store_eq hp
    obtain ⟨x, rfl⟩ := am_is_int h2
    obtain ⟨ls', e', h'⟩ := hL.store (i := n) (v := am_i x) (by rw [← hL.1]; exact h3)
    exact am_w_istore_n hexec hb hdg e' (k ls' h')
  case lstore n =>
    obtain ⟨v, rfl, h2, h3, rfl, rfl⟩ := am_store_eq hp
    obtain ⟨x, rfl⟩ := am_is_long h2
    obtain ⟨ls', e', h'⟩ := hL.store (i := n) (v := am_l x) (by rw [← hL.1]; exact h3)
    exact am_w_lstore hexec hb hdg e' (k ls' h')
  case lstore_n n =>
    obtain ⟨v, rfl, h2, h3, rfl, rfl⟩ := am_store_eq hp
    obtain ⟨x, rfl⟩ := am_is_long h2
    obtain ⟨ls', e', h'⟩ := hL.store (i := n) (v := am_l x) (by rw [← hL.1]; exact h3)
    exact am_w_lstore_n hexec hb hdg e' (k ls' h')
  case dstore n =>
    obtain ⟨v, rfl, h2, h3, rfl, rfl⟩ := am_store_eq hp
    obtain ⟨x, rfl⟩ := am_is_dbl h2
    obtain ⟨ls', e', h'⟩ := hL.store (i := n) (v := am_d x) (by rw [← hL.1]; exact h3)
    exact am_w_dstore hexec hb hdg e' (k ls' h')
  case dstore_n n =>
    obtain ⟨v, rfl, h2, h3, rfl, rfl⟩ := am_store_eq hp
    obtain ⟨x, rfl⟩ := am_is_dbl h2
    obtain ⟨ls', e', h'⟩ := hL.store (i := n) (v := am_d x) (by rw [← hL.1]; exact h3)
    exact am_w_dstore_n hexec hb hdg e' (k ls' h')
  case astore n =>
    obtain ⟨v, rfl, h2, h3, rfl, rfl⟩ := am_store_eq hp
    obtain ⟨ls', e', h'⟩ := hL.store (i := n) (v := v) (by rw [← hL.1]; exact h3)
    exact am_w_astore hexec hb (am_ref_re h2) hdg e' (k ls' h')
  case astore_n n =>
    obtain ⟨v, rfl, h2, h3, rfl, rfl⟩ := am_store_eq hp
    obtain ⟨ls', e', h'⟩ := hL.store (i := n) (v := v) (by rw [← hL.1]; exact h3)
    exact am_w_astore_n hexec hb (am_ref_re h2) hdg e' (k ls' h')
  case iinc n d =>
    simp only [am_p] at hp
    split at hp
    · rename_i x hx
      split at hp
      · rename_i hn
        cases hp
        obtain ⟨ls', e', h'⟩ := hL.store (i := n) (v := am_i (x + Int32.ofInt d)) (by rw [← hL.1]; exact hn)
        exact am_w_iinc hexec hb hdg (hL.at hx) e' (k ls' h')
      · cases hp
    · cases hp
  case iadd => obtain ⟨x, y, s1, rfl, rfl, rfl, rfl⟩ := am_ii_eq hp; exact lv_iadd hexec hb hdg (k ls hL)
  case isub => obtain ⟨x, y, s1, rfl, rfl, rfl, rfl⟩ := am_ii_eq hp; exact lv_isub hexec hb hdg (k ls hL)
  case imul => obtain ⟨x, y, s1, rfl, rfl, rfl, rfl⟩ := am_ii_eq hp; exact lv_imul hexec hb hdg (k ls hL)
  case iand => obtain ⟨x, y, s1, rfl, rfl, rfl, rfl⟩ := am_ii_eq hp; exact lv_iand hexec hb hdg (k ls hL)
  case ior => obtain ⟨x, y, s1, rfl, rfl, rfl, rfl⟩ := am_ii_eq hp; exact lv_ior hexec hb hdg (k ls hL)
  case ixor => obtain ⟨x, y, s1, rfl, rfl, rfl, rfl⟩ := am_ii_eq hp; exact lv_ixor hexec hb hdg (k ls hL)
  case ishl => obtain ⟨x, y, s1, rfl, rfl, rfl, rfl⟩ := am_ii_eq hp; exact lv_ishl hexec hb hdg (k ls hL)
  case ishr => obtain ⟨x, y, s1, rfl, rfl, rfl, rfl⟩ := am_ii_eq hp; exact lv_ishr hexec hb hdg (k ls hL)
  case iushr => obtain ⟨x, y, s1, rfl, rfl, rfl, rfl⟩ := am_ii_eq hp; exact lv_iushr hexec hb hdg rfl (k ls hL)
  case ladd => obtain ⟨x, y, s1, rfl, rfl, rfl, rfl⟩ := am_ll_eq hp; exact lv_ladd hexec hb hdg (k ls hL)
  case lsub => obtain ⟨x, y, s1, rfl, rfl, rfl, rfl⟩ := am_ll_eq hp; exact lv_lsub hexec hb hdg (k ls hL)
  case lmul => obtain ⟨x, y, s1, rfl, rfl, rfl, rfl⟩ := am_ll_eq hp; exact lv_lmul hexec hb hdg (k ls hL)
  case land => obtain ⟨x, y, s1, rfl, rfl, rfl, rfl⟩ := am_ll_eq hp; exact lv_land hexec hb hdg (k ls hL)
  case lor => obtain ⟨x, y, s1, rfl, rfl, rfl, rfl⟩ := am_ll_eq hp; exact lv_lor hexec hb hdg (k ls hL)
  case lxor => obtain ⟨x, y, s1, rfl, rfl, rfl, rfl⟩ := am_ll_eq hp; exact lv_lxor hexec hb hdg (k ls hL)
  case ineg =>
    simp only [am_p] at hp
    split at hp
    · cases hp; exact lv_ineg hexec hb hdg (k ls hL)
    · cases hp
  case lneg =>
    simp only [am_p] at hp
    split at hp
    · cases hp; exact lv_lneg hexec hb hdg (k ls hL)
    · cases hp
  case i2l =>
    simp only [am_p] at hp
    split at hp
    · cases hp; exact lv_i2l hexec hb hdg rfl (k ls hL)
    · cases hp
  case l2i =>
    simp only [am_p] at hp
    split at hp
    · cases hp; exact lv_l2i hexec hb hdg rfl (k ls hL)
    · cases hp
  case i2c =>
    simp only [am_p] at hp
    split at hp
    · cases hp; exact lv_i2c hexec hb hdg rfl (k ls hL)
    · cases hp
  case i2b =>
    simp only [am_p] at hp
    split at hp
    · cases hp; exact lv_i2b hexec hb hdg rfl (k ls hL)
    · cases hp
  case i2d =>
    simp only [am_p] at hp
    split at hp
    · cases hp; exact lv_i2d hexec hb hdg (k ls hL)
    · cases hp
  case d2i =>
    simp only [am_p] at hp
    split at hp
    · cases hp; exact lv_d2i hexec hb hdg (k ls hL)
    · cases hp
  case lushr =>
    simp only [am_p] at hp
    split at hp
    · cases hp; exact lv_lushr hexec hb hdg rfl (k ls hL)
    · cases hp
  case lshl =>
    simp only [am_p] at hp
    split at hp
    · cases hp; exact lv_lshl hexec hb hdg rfl (k ls hL)
    · cases hp
  case lcmp =>
    simp only [am_p] at hp
    split at hp
    · cases hp; exact W.lcmp hexec hb hdg (k ls hL)
    · cases hp
  case dcmp op =>
    simp only [am_p] at hp
    split at hp
    · cases hp; exact lv_dcmp hexec hb hdg (k ls hL)
    · cases hp
  case dup =>
    simp only [am_p] at hp
    split at hp
    · rename_i v s1
      split at hp
      · rename_i hc
        cases hp
        exact lv_dup hexec hb hdg (by rw [am_cat_re]; exact hc) (k ls hL)
      · cases hp
    · cases hp
  case pop =>
    simp only [am_p] at hp
    split at hp
    · rename_i v s1
      split at hp
      · rename_i hc
        cases hp
        exact lv_pop hexec hb hdg (by rw [am_cat_re]; exact hc) (k ls hL)
      · cases hp
    · cases hp
  case dup_x1 =>
    simp only [am_p] at hp
    split at hp
    · rename_i v w s1
      split at hp
      · rename_i hc
        split at hp
        · rename_i hd
          cases hp
          exact lv_dup_x1 hexec hb hdg (by rw [am_cat_re]; exact hc) (by rw [am_cat_re]; exact hd) (k ls hL)
        · cases hp
      · cases hp
    · cases hp
  all_goals cases hp
end AmPure
