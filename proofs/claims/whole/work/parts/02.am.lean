/-! THE ABSTRACT MACHINE, 1: values, locals, the instructions that touch neither heap nor flow -/
/-- int, long, double (its bits), reference: (index, length, tag), or null -/
abbrev am_V : Type := Int32 ⊕ Int64 ⊕ UInt64 ⊕ Option (Nat × Nat × Nat)
abbrev am_i (x : Int32) : am_V := .inl x
abbrev am_l (x : Int64) : am_V := .inr (.inl x)
abbrev am_d (x : UInt64) : am_V := .inr (.inr (.inl x))
abbrev am_q (r : Option (Nat × Nat × Nat)) : am_V := .inr (.inr (.inr r))
/-- the machine's own value, the addresses by g -/
def am_re (g : Nat → Nat) (v : am_V) : Value := match v with
  | .inl x => .int x
  | .inr (.inl x) => .long x
  | .inr (.inr (.inl x)) => .double x
  | .inr (.inr (.inr none)) => .null
  | .inr (.inr (.inr (some r))) => .ref (g r.1)
def am_cat (v : am_V) : Nat := match v with
  | .inl _ => 1
  | .inr (.inl _) => 2
  | .inr (.inr (.inl _)) => 2
  | .inr (.inr (.inr _)) => 1
/-- of the kind: 0 int, 1 long, 2 double, 3 reference -/
def am_is (k : Nat) (v : am_V) : Bool := match v with
  | .inl _ => k == 0
  | .inr (.inl _) => k == 1
  | .inr (.inr (.inl _)) => k == 2
  | .inr (.inr (.inr _)) => k == 3
theorem am_cat_re (g : Nat → Nat) (v : am_V) : (am_re g v).category = am_cat v := by
  rcases v with x | x | x | (_ | x) <;> rfl
abbrev am_L : Type := List (Option am_V)
/-- a value of one slot forgets the value of two slots before it -/
def am_cl (L : am_L) (i : Nat) : am_L := match i with
  | 0 => L
  | j + 1 => match L.getD j none with
    | none => L
    | some w => if am_cat w = 2 then L.set j none else L
def am_stv (L : am_L) (i : Nat) (v : am_V) : am_L :=
  if am_cat v = 2 then ((am_cl L i).set i (some v)).set (i + 1) none else (am_cl L i).set i (some v)
abbrev am_P : Type := Option (Nat × am_L × List am_V)
def am_load (k len i : Nat) (L : am_L) (st : List am_V) : am_P := match L.getD i none with
  | none => none
  | some v => if am_is k v = true then some (len, L, v :: st) else none
def am_store (k len i : Nat) (L : am_L) (st : List am_V) : am_P := match st with
  | [] => none
  | v :: s => if am_is k v = true then (if i + am_cat v ≤ L.length then some (len, am_stv L i v, s) else none) else none
def am_ii (f : Int32 → Int32 → Int32) (L : am_L) (st : List am_V) : am_P := match st with
  | .inl y :: .inl x :: s => some (1, L, am_i (f x y) :: s)
  | _ => none
def am_ll (f : Int64 → Int64 → Int64) (L : am_L) (st : List am_V) : am_P := match st with
  | .inr (.inl y) :: .inr (.inl x) :: s => some (1, L, am_l (f x y) :: s)
  | _ => none
/-- the instructions that touch neither heap nor flow: length, locals, stack -/
def am_p (i : Instr) (L : am_L) (st : List am_V) : am_P := match i with
  | .aconst_null => some (1, L, am_q none :: st)
  | .iconst n => some (1, L, am_i (Int32.ofInt n) :: st)
  | .bipush n => some (2, L, am_i (Int8.ofInt n).toInt32 :: st)
  | .sipush n => some (3, L, am_i (Int16.ofInt n).toInt32 :: st)
  | .lconst n => some (1, L, am_l (Int64.ofNat n) :: st)
  | .dconst n => some (1, L, am_d (if (n : Nat) = 0 then FP.dconst0 else FP.dconst1) :: st)
  | .iload n => am_load 0 2 n L st
  | .iload_n n => am_load 0 1 n L st
  | .lload n => am_load 1 2 n L st
  | .lload_n n => am_load 1 1 n L st
  | .dload n => am_load 2 2 n L st
  | .dload_n n => am_load 2 1 n L st
  | .aload n => am_load 3 2 n L st
  | .aload_n n => am_load 3 1 n L st
  | .istore n => am_store 0 2 n L st
  | .istore_n n => am_store 0 1 n L st
  | .lstore n => am_store 1 2 n L st
  | .lstore_n n => am_store 1 1 n L st
  | .dstore n => am_store 2 2 n L st
  | .dstore_n n => am_store 2 1 n L st
  | .astore n => am_store 3 2 n L st
  | .astore_n n => am_store 3 1 n L st
  | .iinc n k => match L.getD n none with
    | some (.inl x) => if n < L.length then some (3, am_stv L n (am_i (x + Int32.ofInt k)), st) else none
    | _ => none
  | .iadd => am_ii (fun x y => x + y) L st
  | .isub => am_ii (fun x y => x - y) L st
  | .imul => am_ii (fun x y => x * y) L st
  | .iand => am_ii (fun x y => x &&& y) L st
  | .ior => am_ii (fun x y => x ||| y) L st
  | .ixor => am_ii (fun x y => x ^^^ y) L st
  | .ishl => am_ii (fun x y => x <<< (y &&& 31)) L st
  | .ishr => am_ii (fun x y => x >>> (y &&& 31)) L st
  | .iushr => am_ii (fun x y => (x.toUInt32 >>> (y.toUInt32 &&& Int32.toUInt32 31)).toInt32) L st
  | .ladd => am_ll (fun x y => x + y) L st
  | .lsub => am_ll (fun x y => x - y) L st
  | .lmul => am_ll (fun x y => x * y) L st
  | .land => am_ll (fun x y => x &&& y) L st
  | .lor => am_ll (fun x y => x ||| y) L st
  | .lxor => am_ll (fun x y => x ^^^ y) L st
  | .ineg => match st with
    | .inl x :: s => some (1, L, am_i (-x) :: s)
    | _ => none
  | .lneg => match st with
    | .inr (.inl x) :: s => some (1, L, am_l (-x) :: s)
    | _ => none
  | .i2l => match st with
    | .inl x :: s => some (1, L, am_l x.toInt64 :: s)
    | _ => none
  | .l2i => match st with
    | .inr (.inl x) :: s => some (1, L, am_i x.toInt32 :: s)
    | _ => none
  | .i2c => match st with
    | .inl x :: s => some (1, L, am_i (x.toUInt32 % 65536).toInt32 :: s)
    | _ => none
  | .i2b => match st with
    | .inl x :: s => some (1, L, am_i x.toInt8.toInt32 :: s)
    | _ => none
  | .i2d => match st with
    | .inl x :: s => some (1, L, am_d (FP.i2d x) :: s)
    | _ => none
  | .d2i => match st with
    | .inr (.inr (.inl x)) :: s => some (1, L, am_i (FP.d2i x) :: s)
    | _ => none
  | .lushr => match st with
    | .inl y :: .inr (.inl x) :: s => some (1, L, am_l (x.toUInt64 >>> (y.toInt64.toUInt64 &&& Int64.toUInt64 63)).toInt64 :: s)
    | _ => none
  | .lshl => match st with
    | .inl y :: .inr (.inl x) :: s => some (1, L, am_l (x <<< (y.toInt64 &&& 63)) :: s)
    | _ => none
  | .lcmp => match st with
    | .inr (.inl y) :: .inr (.inl x) :: s => some (1, L, am_i (lg_cmp x y) :: s)
    | _ => none
  | .dcmp op => match st with
    | .inr (.inr (.inl y)) :: .inr (.inr (.inl x)) :: s => some (1, L, am_i (Op.cmpValue (FP.dcmp x y) op) :: s)
    | _ => none
  | .dup => match st with
    | v :: s => if am_cat v = 1 then some (1, L, v :: v :: s) else none
    | _ => none
  | .pop => match st with
    | v :: s => if am_cat v = 1 then some (1, L, s) else none
    | _ => none
  | .dup_x1 => match st with
    | v :: w :: s => if am_cat v = 1 then (if am_cat w = 1 then some (1, L, v :: w :: v :: s) else none) else none
    | _ => none
  | _ => none
/-- the locals as the kit lists them -/
def am_lv (g : Nat → Nat) : Nat → am_L → List (Nat × Value)
  | _, [] => []
  | k, none :: L => am_lv g (k + 1) L
  | k, some v :: L => (k, am_re g v) :: am_lv g (k + 1) L
theorem am_lv_mem {g : Nat → Nat} {q : Nat × Value} : ∀ {k : Nat} {L : am_L}, q ∈ am_lv g k L ↔ ∃ (i : Nat) (v : am_V), L[i]? = some (some v) ∧ q = (k + i, am_re g v) := by
  intro k L
  induction L generalizing k with
  | nil => simp [am_lv]
  | cons o L ih =>
    cases o with
    | none =>
      rw [am_lv, ih]
      constructor
      · rintro ⟨i, v, h, rfl⟩
        exact ⟨i + 1, v, by simpa using h, by simp; omega⟩
      · rintro ⟨i, v, h, rfl⟩
        cases i with
        | zero => simp at h
        | succ i => exact ⟨i, v, by simpa using h, by simp; omega⟩
    | some w =>
      rw [am_lv, List.mem_cons, ih]
      constructor
      · rintro (rfl | ⟨i, v, h, rfl⟩)
        · exact ⟨0, w, by simp, by simp⟩
        · exact ⟨i + 1, v, by simpa using h, by simp; omega⟩
      · rintro ⟨i, v, h, rfl⟩
        cases i with
        | zero =>
          left
          have : w = v := by simpa using h
          simp [this]
        | succ i => right; exact ⟨i, v, by simpa using h, by simp; omega⟩
def am_LR (g : Nat → Nat) (n : Nat) (ls : Array Slot) (L : am_L) : Prop := L.length = n ∧ lv_has ls n (am_lv g 0 L)
theorem am_LR.at {g : Nat → Nat} {n : Nat} {ls : Array Slot} {L : am_L} (h : am_LR g n ls L) {i : Nat} {v : am_V} (hi : L.getD i none = some v) : ls[i]? = some (.val (am_re g v)) := by
  have hv : L[i]? = some (some v) := by
    rw [List.getD_eq_getElem?_getD] at hi
    cases h9 : L[i]? with
    | none => rw [h9] at hi; cases hi
    | some o => rw [h9] at hi; cases hi; rfl
  have := h.2.2.2 (i, am_re g v) (am_lv_mem.mpr ⟨i, v, hv, by simp⟩)
  exact this
theorem am_cl_len (L : am_L) (i : Nat) : (am_cl L i).length = L.length := by
  unfold am_cl
  split
  · rfl
  · split
    · rfl
    · split <;> simp
theorem am_cl_at {L : am_L} {i j : Nat} {w : am_V} (h : (am_cl L i)[j]? = some (some w)) : L[j]? = some (some w) ∧ ¬ (j + 1 = i ∧ am_cat w = 2) := by
  unfold am_cl at h
  split at h
  · exact ⟨h, by omega⟩
  · rename_i k
    split at h
    · rename_i hk
      refine ⟨h, fun q => ?_⟩
      have : j = k := by omega
      subst this
      rw [List.getD_eq_getElem?_getD, h] at hk
      cases hk
    · rename_i v hk
      split at h
      · rename_i hc
        by_cases e : k = j
        · subst e
          rw [List.getElem?_set_self'] at h
          cases h9 : L[k]? with
          | none => rw [h9] at h; cases h
          | some o => rw [h9] at h; cases h
        · rw [List.getElem?_set_ne e] at h
          exact ⟨h, by omega⟩
      · rename_i hc
        refine ⟨h, fun q => ?_⟩
        have : j = k := by omega
        subst this
        rw [List.getD_eq_getElem?_getD, h] at hk
        cases hk
        exact hc q.2
theorem am_stv_len (L : am_L) (i : Nat) (v : am_V) : (am_stv L i v).length = L.length := by
  unfold am_stv
  split <;> simp [am_cl_len]
/-- storing: the locals stay in step -/
theorem am_LR.store {g : Nat → Nat} {n : Nat} {ls : Array Slot} {L : am_L} (h : am_LR g n ls L) {i : Nat} {v : am_V} (hi : i + am_cat v ≤ n) :
    ∃ ls', storeLocals ls i (am_re g v) = some ls' ∧ am_LR g n ls' (am_stv L i v) := by
  obtain ⟨hn, hl⟩ := h
  by_cases hc : am_cat v = 2
  · obtain ⟨ls', e, h1⟩ := lv_store2 (v := am_re g v) hl (i := i) (by omega) (by rw [am_cat_re]; exact hc)
    refine ⟨ls', e, by rw [am_stv_len]; exact hn, h1.1, h1.2.1, fun q hq => h1.2.2 q ?_⟩
    obtain ⟨j, w, hw, rfl⟩ := am_lv_mem.mp hq
    unfold am_stv at hw
    rw [if_pos hc] at hw
    have hj1 : j ≠ i + 1 := by
      intro e1
      subst e1
      rw [List.getElem?_set_self'] at hw
      cases h9 : ((am_cl L i).set i (some v))[i + 1]? with
      | none => rw [h9] at hw; cases hw
      | some o => rw [h9] at hw; cases hw
    rw [List.getElem?_set_ne (fun q => hj1 q.symm)] at hw
    by_cases hj : j = i
    · subst hj
      rw [List.getElem?_set_self'] at hw
      cases h9 : (am_cl L j)[j]? with
      | none => rw [h9] at hw; cases hw
      | some o =>
        rw [h9] at hw
        cases hw
        simp
    · rw [List.getElem?_set_ne (fun q => hj q.symm)] at hw
      obtain ⟨a1, a2⟩ := am_cl_at hw
      refine List.mem_cons_of_mem _ (List.mem_filter.mpr ⟨am_lv_mem.mpr ⟨j, w, a1, rfl⟩, ?_⟩)
      simp only [Nat.zero_add, am_cat_re]
      simp [hj, hj1]
      intro h2
      exact fun h3 => a2 ⟨h2, h3⟩
  · have hc1 : am_cat v = 1 := by rcases v with x | x | x | x <;> simp [am_cat] at hc ⊢
    obtain ⟨ls', e, h1⟩ := lv_store1 (v := am_re g v) hl (i := i) (by omega) (by rw [am_cat_re]; exact hc1)
    refine ⟨ls', e, by rw [am_stv_len]; exact hn, h1.1, h1.2.1, fun q hq => h1.2.2 q ?_⟩
    obtain ⟨j, w, hw, rfl⟩ := am_lv_mem.mp hq
    unfold am_stv at hw
    rw [if_neg hc] at hw
    by_cases hj : j = i
    · subst hj
      rw [List.getElem?_set_self'] at hw
      cases h9 : (am_cl L j)[j]? with
      | none => rw [h9] at hw; cases hw
      | some o =>
        rw [h9] at hw
        cases hw
        simp
    · rw [List.getElem?_set_ne (fun q => hj q.symm)] at hw
      obtain ⟨a1, a2⟩ := am_cl_at hw
      refine List.mem_cons_of_mem _ (List.mem_filter.mpr ⟨am_lv_mem.mpr ⟨j, w, a1, rfl⟩, ?_⟩)
      simp only [Nat.zero_add, am_cat_re]
      simp [hj]
      intro h2
      exact fun h3 => a2 ⟨h2, h3⟩
