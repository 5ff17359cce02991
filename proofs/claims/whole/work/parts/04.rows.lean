/-! Where a method stands, and that an instruction is sound there. -/
def qq_Cx (Z : qZ) (mi : Nat) (p : Program) (R : Room) (s : State) (m : MethodId) (args : Array Value) (meth : Method) (c : Code) (A : Nat → Prop) (cells slots : Nat) : Prop :=
  p.tables.exec = Jvm.exec ∧ c.code = z_bc Z mi ∧ c.maxLocals = z_mx Z mi ∧ s.vm.findClass (z_y Z mi).cls = some m.cls ∧ (∀ w ∈ z_Ts Z, w.before args s = true) ∧ va_K (z_D Z) (z_cl Z) (z_ty Z) s ∧
  (∀ q : Nat, s.heap.size ≤ q → A q) ∧ z_St Z A s s.heap ∧ (z_fr Z mi ≤ R.frames ∧ z_lo Z mi ≤ R.locals) ∧ meth.sig.returnType = z_rt Z mi ∧ meth.locks = false ∧ (cells ≤ R.cells ∧ slots ≤ R.slots)
def qq_G (Z : qZ) (mi : Nat) (p : Program) (e : Env) (R : Room) (s : State) (m : MethodId) (args : Array Value) (below : List Frame) (meth : Method) (c : Code) (A : Nat → Prop) (cells slots : Nat) (Q : State → Prop) (pc : Nat) (loc : List (Option Value)) (st : List Value) (M : qM) : Prop :=
  ∀ (H : Heap) (locs : List Loc) (ls : Array Slot), lv_has ls (z_mx Z mi) (qv_lv (z_a Z) loc) → va_P (z_D Z) (z_cl Z) (qw Z M) H → va_D A (qw Z M) → va_S A s.heap H locs →
    W p (z_l Z) e R s m args below meth c H locs cells slots Q (F0 m pc ls (st.map (qv (z_a Z))))
def qq_Snd (Z : qZ) (mi pc : Nat) (op : qO) : Prop :=
  ∀ (p : Program) (e : Env) (R : Room) (s : State) (m : MethodId) (args : Array Value) (below : List Frame) (meth : Method) (c : Code) (A : Nat → Prop) (cells slots : Nat) (Q : State → Prop) (loc : List (Option Value)) (st : List Value) (M : qM),
    qq_Cx Z mi p R s m args meth c A cells slots → op pc loc st M (fun pc' loc' st' M' => qq_G Z mi p e R s m args below meth c A cells slots Q pc' loc' st' M') → qq_G Z mi p e R s m args below meth c A cells slots Q pc loc st M
section QROWS
variable {Z : qZ} {mi pc : Nat}
theorem qs_iconst {n : Int} {v : Int32} (hd : decode (z_bc Z mi) pc = .ok (.iconst n, 1)) (hv : Int32.ofInt n = v) : qq_Snd Z mi pc (qo_k v 1) := by
  intro p e R s m args below meth c A cells slots Q loc st M cx h H locs ls hl hP hD hS
  exact lv_iconst cx.1 cx.2.1 hd hv (h H locs ls hl hP hD hS)
theorem qs_bipush {n : Int} {v : Int32} (hd : decode (z_bc Z mi) pc = .ok (.bipush n, 2)) (hv : (Int8.ofInt n).toInt32 = v) : qq_Snd Z mi pc (qo_k v 2) := by
  intro p e R s m args below meth c A cells slots Q loc st M cx h H locs ls hl hP hD hS
  exact lv_bipush cx.1 cx.2.1 hd hv (h H locs ls hl hP hD hS)
theorem qs_sipush {n : Int} {v : Int32} (hd : decode (z_bc Z mi) pc = .ok (.sipush n, 3)) (hv : (Int16.ofInt n).toInt32 = v) : qq_Snd Z mi pc (qo_k v 3) := by
  intro p e R s m args below meth c A cells slots Q loc st M cx h H locs ls hl hP hD hS
  exact lv_sipush cx.1 cx.2.1 hd hv (h H locs ls hl hP hD hS)
theorem qs_ldc {index : Nat} {v : Int32} (hd : decode (z_bc Z mi) pc = .ok (.ldc index, 2)) (hc : Cond.constant (z_y Z mi).cls index v ∈ z_Ts Z) : qq_Snd Z mi pc (qo_k v 2) := by
  intro p e R s m args below meth c A cells slots Q loc st M cx h H locs ls hl hP hD hS
  exact lv_ldc cx.1 cx.2.1 cx.2.2.2.1 (cx.2.2.2.2.1 _ hc) hd (h H locs ls hl hP hD hS)
theorem qs_iload_n {k : Fin 4} {i : Nat} (hd : decode (z_bc Z mi) pc = .ok (.iload_n k, 1)) (hi : (k : Nat) = i) : qq_Snd Z mi pc (qo_il i 1) := by
  intro p e R s m args below meth c A cells slots Q loc st M cx h H locs ls hl hP hD hS
  unfold qo_il at h
  split at h
  · rename_i x hx
    exact lv_iload_n cx.1 cx.2.1 hd hi (hl.2.2 _ (qv_lv_in hx rfl)) (h H locs ls hl hP hD hS)
  · exact h.elim
theorem qs_iload {i : Nat} (hd : decode (z_bc Z mi) pc = .ok (.iload i, 2)) : qq_Snd Z mi pc (qo_il i 2) := by
  intro p e R s m args below meth c A cells slots Q loc st M cx h H locs ls hl hP hD hS
  unfold qo_il at h
  split at h
  · rename_i x hx
    exact lv_iload cx.1 cx.2.1 hd (hl.2.2 _ (qv_lv_in hx rfl)) (h H locs ls hl hP hD hS)
  · exact h.elim
theorem qs_aload_n {k : Fin 4} {i : Nat} (hd : decode (z_bc Z mi) pc = .ok (.aload_n k, 1)) (hi : (k : Nat) = i) : qq_Snd Z mi pc (qo_al i 1) := by
  intro p e R s m args below meth c A cells slots Q loc st M cx h H locs ls hl hP hD hS
  unfold qo_al at h
  split at h
  · rename_i x hx
    exact lv_aload_n cx.1 cx.2.1 hd hi (hl.2.2 _ (qv_lv_in hx rfl)) (h H locs ls hl hP hD hS)
  · exact h.elim
theorem qs_aload {i : Nat} (hd : decode (z_bc Z mi) pc = .ok (.aload i, 2)) : qq_Snd Z mi pc (qo_al i 2) := by
  intro p e R s m args below meth c A cells slots Q loc st M cx h H locs ls hl hP hD hS
  unfold qo_al at h
  split at h
  · rename_i x hx
    exact lv_aload cx.1 cx.2.1 hd (hl.2.2 _ (qv_lv_in hx rfl)) (h H locs ls hl hP hD hS)
  · exact h.elim
theorem qs_istore_n {k : Fin 4} {i : Nat} (hd : decode (z_bc Z mi) pc = .ok (.istore_n k, 1)) (hi : (k : Nat) = i) (hn : i < z_mx Z mi) : qq_Snd Z mi pc (qo_is i 1) := by
  intro p e R s m args below meth c A cells slots Q loc st M cx h H locs ls hl hP hD hS
  unfold qo_is at h
  split at h
  · rename_i x r
    exact lv_istore_n cx.1 cx.2.1 hd hi hl hn rfl (fun ls1 hl1 => h H locs ls1 (qv_store (v := .int x) rfl hl1) hP hD hS)
  · exact h.elim
theorem qs_istore {i : Nat} (hd : decode (z_bc Z mi) pc = .ok (.istore i, 2)) (hn : i < z_mx Z mi) : qq_Snd Z mi pc (qo_is i 2) := by
  intro p e R s m args below meth c A cells slots Q loc st M cx h H locs ls hl hP hD hS
  unfold qo_is at h
  split at h
  · rename_i x r
    exact lv_istore cx.1 cx.2.1 hd hl hn rfl (fun ls1 hl1 => h H locs ls1 (qv_store (v := .int x) rfl hl1) hP hD hS)
  · exact h.elim
theorem qs_astore_n {k : Fin 4} {i : Nat} (hd : decode (z_bc Z mi) pc = .ok (.astore_n k, 1)) (hi : (k : Nat) = i) (hn : i < z_mx Z mi) : qq_Snd Z mi pc (qo_as i 1) := by
  intro p e R s m args below meth c A cells slots Q loc st M cx h H locs ls hl hP hD hS
  unfold qo_as at h
  split at h
  · rename_i x r
    exact lv_astore_n cx.1 cx.2.1 hd hi hl hn rfl (fun ls1 hl1 => h H locs ls1 (qv_store (v := .ref x) rfl hl1) hP hD hS)
  · exact h.elim
theorem qs_astore {i : Nat} (hd : decode (z_bc Z mi) pc = .ok (.astore i, 2)) (hn : i < z_mx Z mi) : qq_Snd Z mi pc (qo_as i 2) := by
  intro p e R s m args below meth c A cells slots Q loc st M cx h H locs ls hl hP hD hS
  unfold qo_as at h
  split at h
  · rename_i x r
    exact lv_astore cx.1 cx.2.1 hd hl hn rfl (fun ls1 hl1 => h H locs ls1 (qv_store (v := .ref x) rfl hl1) hP hD hS)
  · exact h.elim
theorem qs_iinc {i : Nat} {n : Int} {v : Int32} (hd : decode (z_bc Z mi) pc = .ok (.iinc i n, 3)) (hv : Int32.ofInt n = v) (hn : i < z_mx Z mi) : qq_Snd Z mi pc (qo_inc i v) := by
  intro p e R s m args below meth c A cells slots Q loc st M cx h H locs ls hl hP hD hS
  unfold qo_inc at h
  split at h
  · rename_i x hx
    obtain ⟨k, hk⟩ := List.getElem?_of_mem (qv_lv_in (a := z_a Z) hx rfl)
    exact lv_iinc cx.1 cx.2.1 hd hl hk (by rw [hv]) hn rfl (fun ls1 hl1 => h H locs ls1 (qv_store (v := .int (x + v)) rfl hl1) hP hD hS)
  · exact h.elim
theorem qs_iadd (hd : decode (z_bc Z mi) pc = .ok (.iadd, 1)) : qq_Snd Z mi pc (qo_b (fun x y => x + y)) := by
  intro p e R s m args below meth c A cells slots Q loc st M cx h H locs ls hl hP hD hS
  unfold qo_b at h
  split at h
  · exact lv_iadd cx.1 cx.2.1 hd (h H locs ls hl hP hD hS)
  · exact h.elim
theorem qs_isub (hd : decode (z_bc Z mi) pc = .ok (.isub, 1)) : qq_Snd Z mi pc (qo_b (fun x y => x - y)) := by
  intro p e R s m args below meth c A cells slots Q loc st M cx h H locs ls hl hP hD hS
  unfold qo_b at h
  split at h
  · exact lv_isub cx.1 cx.2.1 hd (h H locs ls hl hP hD hS)
  · exact h.elim
theorem qs_imul (hd : decode (z_bc Z mi) pc = .ok (.imul, 1)) : qq_Snd Z mi pc (qo_b (fun x y => x * y)) := by
  intro p e R s m args below meth c A cells slots Q loc st M cx h H locs ls hl hP hD hS
  unfold qo_b at h
  split at h
  · exact lv_imul cx.1 cx.2.1 hd (h H locs ls hl hP hD hS)
  · exact h.elim
theorem qs_iand (hd : decode (z_bc Z mi) pc = .ok (.iand, 1)) : qq_Snd Z mi pc (qo_b (fun x y => x &&& y)) := by
  intro p e R s m args below meth c A cells slots Q loc st M cx h H locs ls hl hP hD hS
  unfold qo_b at h
  split at h
  · exact lv_iand cx.1 cx.2.1 hd (h H locs ls hl hP hD hS)
  · exact h.elim
theorem qs_ior (hd : decode (z_bc Z mi) pc = .ok (.ior, 1)) : qq_Snd Z mi pc (qo_b (fun x y => x ||| y)) := by
  intro p e R s m args below meth c A cells slots Q loc st M cx h H locs ls hl hP hD hS
  unfold qo_b at h
  split at h
  · exact lv_ior cx.1 cx.2.1 hd (h H locs ls hl hP hD hS)
  · exact h.elim
theorem qs_ixor (hd : decode (z_bc Z mi) pc = .ok (.ixor, 1)) : qq_Snd Z mi pc (qo_b (fun x y => x ^^^ y)) := by
  intro p e R s m args below meth c A cells slots Q loc st M cx h H locs ls hl hP hD hS
  unfold qo_b at h
  split at h
  · exact lv_ixor cx.1 cx.2.1 hd (h H locs ls hl hP hD hS)
  · exact h.elim
theorem qs_ishl (hd : decode (z_bc Z mi) pc = .ok (.ishl, 1)) : qq_Snd Z mi pc (qo_b (fun x y => x <<< (y &&& 31))) := by
  intro p e R s m args below meth c A cells slots Q loc st M cx h H locs ls hl hP hD hS
  unfold qo_b at h
  split at h
  · exact lv_ishl cx.1 cx.2.1 hd (h H locs ls hl hP hD hS)
  · exact h.elim
theorem qs_ishr (hd : decode (z_bc Z mi) pc = .ok (.ishr, 1)) : qq_Snd Z mi pc (qo_b (fun x y => x >>> (y &&& 31))) := by
  intro p e R s m args below meth c A cells slots Q loc st M cx h H locs ls hl hP hD hS
  unfold qo_b at h
  split at h
  · exact lv_ishr cx.1 cx.2.1 hd (h H locs ls hl hP hD hS)
  · exact h.elim
theorem qs_idiv (hd : decode (z_bc Z mi) pc = .ok (.idiv, 1)) : qq_Snd Z mi pc (qo_d (fun x y => x / y)) := by
  intro p e R s m args below meth c A cells slots Q loc st M cx h H locs ls hl hP hD hS
  unfold qo_d at h
  split at h
  · exact lv_idiv cx.1 cx.2.1 hd h.1 (h.2 H locs ls hl hP hD hS)
  · exact h.elim
theorem qs_irem (hd : decode (z_bc Z mi) pc = .ok (.irem, 1)) : qq_Snd Z mi pc (qo_d (fun x y => x - x / y * y)) := by
  intro p e R s m args below meth c A cells slots Q loc st M cx h H locs ls hl hP hD hS
  unfold qo_d at h
  split at h
  · exact lv_irem cx.1 cx.2.1 hd h.1 (h.2 H locs ls hl hP hD hS)
  · exact h.elim
theorem qs_ineg (hd : decode (z_bc Z mi) pc = .ok (.ineg, 1)) : qq_Snd Z mi pc (qo_u (fun x => -x)) := by
  intro p e R s m args below meth c A cells slots Q loc st M cx h H locs ls hl hP hD hS
  unfold qo_u at h
  split at h
  · exact lv_ineg cx.1 cx.2.1 hd (h H locs ls hl hP hD hS)
  · exact h.elim
theorem qs_dup (hd : decode (z_bc Z mi) pc = .ok (.dup, 1)) : qq_Snd Z mi pc qo_dup := by
  intro p e R s m args below meth c A cells slots Q loc st M cx h H locs ls hl hP hD hS
  unfold qo_dup at h
  split at h
  · exact lv_dup cx.1 cx.2.1 hd (by rw [qv_cat]; exact h.1) (h.2 H locs ls hl hP hD hS)
  · exact h.elim
theorem qs_pop (hd : decode (z_bc Z mi) pc = .ok (.pop, 1)) : qq_Snd Z mi pc qo_pop := by
  intro p e R s m args below meth c A cells slots Q loc st M cx h H locs ls hl hP hD hS
  unfold qo_pop at h
  split at h
  · rename_i v r
    exact lv_pop (va := qv (z_a Z) v) cx.1 cx.2.1 hd (by rw [qv_cat]; exact h.1) (h.2 H locs ls hl hP hD hS)
  · exact h.elim
theorem qs_dup2 (hd : decode (z_bc Z mi) pc = .ok (.dup2, 1)) : qq_Snd Z mi pc qo_dup2 := by
  intro p e R s m args below meth c A cells slots Q loc st M cx h H locs ls hl hP hD hS
  unfold qo_dup2 at h
  split at h
  · exact lv_dup2_11 cx.1 cx.2.1 hd (by rw [qv_cat]; exact h.1) (by rw [qv_cat]; exact h.2.1) (h.2.2 H locs ls hl hP hD hS)
  · exact h.elim
theorem qs_dup_x1 (hd : decode (z_bc Z mi) pc = .ok (.dup_x1, 1)) : qq_Snd Z mi pc qo_dx1 := by
  intro p e R s m args below meth c A cells slots Q loc st M cx h H locs ls hl hP hD hS
  unfold qo_dx1 at h
  split at h
  · exact lv_dup_x1 cx.1 cx.2.1 hd (by rw [qv_cat]; exact h.1) (by rw [qv_cat]; exact h.2.1) (h.2.2 H locs ls hl hP hD hS)
  · exact h.elim
theorem qs_dup_x2 (hd : decode (z_bc Z mi) pc = .ok (.dup_x2, 1)) : qq_Snd Z mi pc qo_dx2 := by
  intro p e R s m args below meth c A cells slots Q loc st M cx h H locs ls hl hP hD hS
  unfold qo_dx2 at h
  split at h
  · exact lv_dup_x2 cx.1 cx.2.1 hd (by rw [qv_cat]; exact h.1) (by rw [qv_cat]; exact h.2.1) (by rw [qv_cat]; exact h.2.2.1) (h.2.2.2 H locs ls hl hP hD hS)
  · exact h.elim
theorem qs_if_eq {off : Int} {t : Nat} (hd : decode (z_bc Z mi) pc = .ok (.ifCond .eq off, 3)) (ht : (pc : Int) + off = (t : Int)) : qq_Snd Z mi pc (qo_z (fun x => x = 0) t) := by
  intro p e R s m args below meth c A cells slots Q loc st M cx h H locs ls hl hP hD hS
  unfold qo_z at h
  split at h
  · exact lv_if_eq cx.1 cx.2.1 hd ht (fun q => h.1 q H locs ls hl hP hD hS) (fun q => h.2 q H locs ls hl hP hD hS)
  · exact h.elim
theorem qs_if_ne {off : Int} {t : Nat} (hd : decode (z_bc Z mi) pc = .ok (.ifCond .ne off, 3)) (ht : (pc : Int) + off = (t : Int)) : qq_Snd Z mi pc (qo_z (fun x => ¬ x = 0) t) := by
  intro p e R s m args below meth c A cells slots Q loc st M cx h H locs ls hl hP hD hS
  unfold qo_z at h
  split at h
  · exact lv_if_ne cx.1 cx.2.1 hd ht (fun q => h.1 q H locs ls hl hP hD hS) (fun q => h.2 (fun n => n q) H locs ls hl hP hD hS)
  · exact h.elim
theorem qs_if_lt {off : Int} {t : Nat} (hd : decode (z_bc Z mi) pc = .ok (.ifCond .lt off, 3)) (ht : (pc : Int) + off = (t : Int)) : qq_Snd Z mi pc (qo_z (fun x => x < 0) t) := by
  intro p e R s m args below meth c A cells slots Q loc st M cx h H locs ls hl hP hD hS
  unfold qo_z at h
  split at h
  · exact lv_if_lt cx.1 cx.2.1 hd ht (fun q => h.1 q H locs ls hl hP hD hS) (fun q => h.2 q H locs ls hl hP hD hS)
  · exact h.elim
theorem qs_if_ge {off : Int} {t : Nat} (hd : decode (z_bc Z mi) pc = .ok (.ifCond .ge off, 3)) (ht : (pc : Int) + off = (t : Int)) : qq_Snd Z mi pc (qo_z (fun x => 0 ≤ x) t) := by
  intro p e R s m args below meth c A cells slots Q loc st M cx h H locs ls hl hP hD hS
  unfold qo_z at h
  split at h
  · exact lv_if_ge cx.1 cx.2.1 hd ht (fun q => h.1 q H locs ls hl hP hD hS) (fun q => h.2 q H locs ls hl hP hD hS)
  · exact h.elim
theorem qs_if_gt {off : Int} {t : Nat} (hd : decode (z_bc Z mi) pc = .ok (.ifCond .gt off, 3)) (ht : (pc : Int) + off = (t : Int)) : qq_Snd Z mi pc (qo_z (fun x => 0 < x) t) := by
  intro p e R s m args below meth c A cells slots Q loc st M cx h H locs ls hl hP hD hS
  unfold qo_z at h
  split at h
  · exact lv_if_gt cx.1 cx.2.1 hd ht (fun q => h.1 q H locs ls hl hP hD hS) (fun q => h.2 q H locs ls hl hP hD hS)
  · exact h.elim
theorem qs_if_le {off : Int} {t : Nat} (hd : decode (z_bc Z mi) pc = .ok (.ifCond .le off, 3)) (ht : (pc : Int) + off = (t : Int)) : qq_Snd Z mi pc (qo_z (fun x => x ≤ 0) t) := by
  intro p e R s m args below meth c A cells slots Q loc st M cx h H locs ls hl hP hD hS
  unfold qo_z at h
  split at h
  · exact lv_if_le cx.1 cx.2.1 hd ht (fun q => h.1 q H locs ls hl hP hD hS) (fun q => h.2 q H locs ls hl hP hD hS)
  · exact h.elim
theorem qs_icmp_eq {off : Int} {t : Nat} (hd : decode (z_bc Z mi) pc = .ok (.if_icmp .eq off, 3)) (ht : (pc : Int) + off = (t : Int)) : qq_Snd Z mi pc (qo_c (fun x y => x = y) t) := by
  intro p e R s m args below meth c A cells slots Q loc st M cx h H locs ls hl hP hD hS
  unfold qo_c at h
  split at h
  · exact lv_icmp_eq cx.1 cx.2.1 hd ht (fun q => h.1 q H locs ls hl hP hD hS) (fun q => h.2 q H locs ls hl hP hD hS)
  · exact h.elim
theorem qs_icmp_ne {off : Int} {t : Nat} (hd : decode (z_bc Z mi) pc = .ok (.if_icmp .ne off, 3)) (ht : (pc : Int) + off = (t : Int)) : qq_Snd Z mi pc (qo_c (fun x y => ¬ x = y) t) := by
  intro p e R s m args below meth c A cells slots Q loc st M cx h H locs ls hl hP hD hS
  unfold qo_c at h
  split at h
  · exact lv_icmp_ne cx.1 cx.2.1 hd ht (fun q => h.1 q H locs ls hl hP hD hS) (fun q => h.2 (fun n => n q) H locs ls hl hP hD hS)
  · exact h.elim
theorem qs_icmp_lt {off : Int} {t : Nat} (hd : decode (z_bc Z mi) pc = .ok (.if_icmp .lt off, 3)) (ht : (pc : Int) + off = (t : Int)) : qq_Snd Z mi pc (qo_c (fun x y => x < y) t) := by
  intro p e R s m args below meth c A cells slots Q loc st M cx h H locs ls hl hP hD hS
  unfold qo_c at h
  split at h
  · exact lv_icmp_lt cx.1 cx.2.1 hd ht (fun q => h.1 q H locs ls hl hP hD hS) (fun q => h.2 q H locs ls hl hP hD hS)
  · exact h.elim
theorem qs_icmp_ge {off : Int} {t : Nat} (hd : decode (z_bc Z mi) pc = .ok (.if_icmp .ge off, 3)) (ht : (pc : Int) + off = (t : Int)) : qq_Snd Z mi pc (qo_c (fun x y => y ≤ x) t) := by
  intro p e R s m args below meth c A cells slots Q loc st M cx h H locs ls hl hP hD hS
  unfold qo_c at h
  split at h
  · exact lv_icmp_ge cx.1 cx.2.1 hd ht (fun q => h.1 q H locs ls hl hP hD hS) (fun q => h.2 q H locs ls hl hP hD hS)
  · exact h.elim
theorem qs_icmp_gt {off : Int} {t : Nat} (hd : decode (z_bc Z mi) pc = .ok (.if_icmp .gt off, 3)) (ht : (pc : Int) + off = (t : Int)) : qq_Snd Z mi pc (qo_c (fun x y => y < x) t) := by
  intro p e R s m args below meth c A cells slots Q loc st M cx h H locs ls hl hP hD hS
  unfold qo_c at h
  split at h
  · exact lv_icmp_gt cx.1 cx.2.1 hd ht (fun q => h.1 q H locs ls hl hP hD hS) (fun q => h.2 q H locs ls hl hP hD hS)
  · exact h.elim
theorem qs_icmp_le {off : Int} {t : Nat} (hd : decode (z_bc Z mi) pc = .ok (.if_icmp .le off, 3)) (ht : (pc : Int) + off = (t : Int)) : qq_Snd Z mi pc (qo_c (fun x y => x ≤ y) t) := by
  intro p e R s m args below meth c A cells slots Q loc st M cx h H locs ls hl hP hD hS
  unfold qo_c at h
  split at h
  · exact lv_icmp_le cx.1 cx.2.1 hd ht (fun q => h.1 q H locs ls hl hP hD hS) (fun q => h.2 q H locs ls hl hP hD hS)
  · exact h.elim
theorem qs_goto {off : Int} {t : Nat} (hd : decode (z_bc Z mi) pc = .ok (.goto off, 3)) (ht : (pc : Int) + off = (t : Int)) : qq_Snd Z mi pc (qo_g t) := by
  intro p e R s m args below meth c A cells slots Q loc st M cx h H locs ls hl hP hD hS
  exact lv_goto cx.1 cx.2.1 hd ht (h H locs ls hl hP hD hS)
theorem qs_table {dflt lo hi : Int} {offs : Array Int} {len : Nat} {ts : List Nat} {t : Nat} (hd : decode (z_bc Z mi) pc = .ok (.tableswitch dflt lo hi offs, len)) (ht : (pc : Int) + dflt = (t : Int)) (hn : (offs.size : Int) = hi - lo + 1) (ho : offs.toList.map (fun o => (pc : Int) + o) = ts.map (fun (x : Nat) => (x : Int))) : qq_Snd Z mi pc (qo_sw lo ts t) := by
  intro p e R s m args below meth c A cells slots Q loc st M cx h H locs ls hl hP hD hS
  unfold qo_sw at h
  split at h
  · rename_i x r
    have hl1 : ts.length = offs.size := by have := congrArg List.length ho; simpa using this.symm
    by_cases h1 : x.toInt < lo
    · rw [if_pos h1] at h
      exact lv_tableOut cx.1 cx.2.1 hd (Or.inl h1) ht (h H locs ls hl hP hD hS)
    · rw [if_neg h1] at h
      by_cases h2 : hi < x.toInt
      · rw [List.getD_eq_getElem?_getD, List.getElem?_eq_none (by omega)] at h
        exact lv_tableOut cx.1 cx.2.1 hd (Or.inr h2) ht (h H locs ls hl hP hD hS)
      · have hj : (x.toInt - lo).toNat < ts.length := by omega
        have hj2 : (x.toInt - lo).toNat < offs.size := by omega
        have he : (offs.toList.map (fun o => (pc : Int) + o))[(x.toInt - lo).toNat]? = (ts.map (fun (x : Nat) => (x : Int)))[(x.toInt - lo).toNat]? := by rw [ho]
        rw [List.getElem?_map, List.getElem?_map, List.getElem?_eq_getElem hj, Array.getElem?_toList, Array.getElem?_eq_getElem hj2] at he
        rw [List.getD_eq_getElem?_getD, List.getElem?_eq_getElem hj] at h
        exact lv_tableIn cx.1 cx.2.1 hd h1 h2 (Array.getElem?_eq_getElem hj2) (by simpa using he) (h H locs ls hl hP hD hS)
  · exact h.elim
theorem qs_ss {index z : Nat} {C n d : String} (hd : decode (z_bc Z mi) pc = .ok (.getstatic index, 3)) (hZ : ∀ A U H, z_St Z A U H → va_Z C n d (.ref (z_a Z z)) A U H) (hl0 : Cond.fieldLink (z_y Z mi).cls index C n d ∈ z_Ts Z) : qq_Snd Z mi pc (qo_ss z) := by
  intro p e R s m args below meth c A cells slots Q loc st M cx h H locs ls hl hP hD hS
  exact va_gets cx.1 cx.2.1 (hZ _ _ _ cx.2.2.2.2.2.2.2.1) hS cx.2.2.2.1 (cx.2.2.2.2.1 _ hl0) (fun _ h9 => h9) hd (h H locs ls hl hP hD hS)
theorem qs_ssN {index z : Nat} {C n d host : String} (hd : decode (z_bc Z mi) pc = .ok (.getstatic index, 3)) (hZ : ∀ A U H, z_St Z A U H → va_Z C n d (.ref (z_a Z z)) A U H) (hN : ∀ A U H, z_St Z A U H → va_Nw (.fieldLinkNest (z_y Z mi).cls index C n d host) U) : qq_Snd Z mi pc (qo_ss z) := by
  intro p e R s m args below meth c A cells slots Q loc st M cx h H locs ls hl hP hD hS
  exact va_getsN cx.1 cx.2.1 (hZ _ _ _ cx.2.2.2.2.2.2.2.1) hS cx.2.2.2.1 (va_Nw.use rfl (hN _ _ _ cx.2.2.2.2.2.2.2.1)) (fun _ h9 => h9) hd (h H locs ls hl hP hD hS)
theorem qs_get {index ci j : Nat} {C : String} {T : u_T} {n : Nat} (hd : decode (z_bc Z mi) pc = .ok (.getfield index, 3)) (hOK : qq_OK Z) (hc : (z_cl Z)[ci]? = some (C, T, n)) (hin : ∀ w ∈ u_ws C T n, w ∈ z_Ts Z) (hk : j < n) (hl0 : Cond.fieldLink (z_y Z mi).cls index (T j).1 (T j).2.1 (T j).2.2.1 ∈ z_Ts Z) : qq_Snd Z mi pc (qo_get (z_lay Z) ci j) := by
  intro p e R s m args below meth c A cells slots Q loc st M cx h H locs ls hl hP hD hS
  unfold qo_get at h
  split at h
  · rename_i q r
    split at h
    · rename_i x hx
      obtain ⟨hx1, h⟩ := h
      subst hx1
      have hN : q < z_N Z := hOK.1 q (by rw [hx]; trivial)
      have he : (qw Z M)[q]? = some (z_a Z q, .inr (x.1, qv_F (z_a Z) (M q) x.2 0)) := by rw [qw_at M hN, hx]; rfl
      split at h
      · rename_i hj
        have hv := qv_F_int (a := z_a Z) (g := M q) x.2 0 j hj
        rw [Nat.zero_add] at hv
        exact va_get cx.1 cx.2.1 cx.2.2.2.2.1 hin cx.2.2.2.1 cx.2.2.2.2.2.1 hP q he hc j hk (cx.2.2.2.2.1 _ hl0) (fun _ h9 => h9) hv hd (h H locs ls hl hP hD hS)
      · rename_i z hj
        exact va_get cx.1 cx.2.1 cx.2.2.2.2.1 hin cx.2.2.2.1 cx.2.2.2.2.2.1 hP q he hc j hk (cx.2.2.2.2.1 _ hl0) (fun _ h9 => h9) (qv_F_ref x.2 0 j hj) hd (h H locs ls hl hP hD hS)
      · exact h.elim
    · exact h.elim
  · exact h.elim
theorem qs_put {index ci j : Nat} {C : String} {T : u_T} {n : Nat} (hd : decode (z_bc Z mi) pc = .ok (.putfield index, 3)) (hOK : qq_OK Z) (hc : (z_cl Z)[ci]? = some (C, T, n)) (hin : ∀ w ∈ u_ws C T n, w ∈ z_Ts Z) (ty0 : Nat → FieldType) (hty : ∀ k, k < n → parseFieldDescriptor (T k).2.2.1 = some (ty0 k)) (hnm : ∀ a, a < n → ∀ b, b < n → a ≠ b → (T a).2.1 ≠ (T b).2.1) (hk : j < n) (hfin : (T j).2.2.2 = false) (hint : parseFieldDescriptor (T j).2.2.1 = some .int) (hl0 : Cond.fieldLink (z_y Z mi).cls index (T j).1 (T j).2.1 (T j).2.2.1 ∈ z_Ts Z) : qq_Snd Z mi pc (qo_put (z_lay Z) ci j) := by
  intro p e R s m args below meth c A cells slots Q loc st M cx h H locs ls hl hP hD hS
  unfold qo_put at h
  split at h
  · rename_i v q r
    split at h
    · rename_i x hx
      obtain ⟨hx1, hj, h⟩ := h
      subst hx1
      have hN : q < z_N Z := hOK.1 q (by rw [hx]; trivial)
      have he : (qw Z M)[q]? = some (z_a Z q, .inr (x.1, qv_F (z_a Z) (M q) x.2 0)) := by rw [qw_at M hN, hx]; rfl
      have hs : (qw Z M).set q (z_a Z q, .inr (x.1, (qv_F (z_a Z) (M q) x.2 0).set j (.int v))) = qw Z (va_up M q (upd (M q) j v)) := by
        refine qw_set hN ?_
        rw [hx, qv_F_set x.2 0 j hj, Nat.zero_add]
        rfl
      refine va_put (ty := .int) (v := .int v) cx.1 cx.2.1 cx.2.2.2.2.1 hin ty0 hty hnm cx.2.2.2.1 cx.2.2.2.2.2.1 hP hD hS q he hc j hk (cx.2.2.2.2.1 _ hl0) (fun _ h9 => h9) hfin hint rfl rfl (by rw [qv_F_len]; exact (List.getElem?_eq_some_iff.mp hj).1) hd (fun H1 locs1 hP1 hD1 hS1 => ?_)
      rw [hs] at hP1 hD1
      exact h H1 locs1 ls hl hP1 hD1 hS1
    · exact h.elim
  · exact h.elim
theorem qs_getN {index ci j : Nat} {C : String} {T : u_T} {n : Nat} {host : String} (hd : decode (z_bc Z mi) pc = .ok (.getfield index, 3)) (hOK : qq_OK Z) (hc : (z_cl Z)[ci]? = some (C, T, n)) (hin : ∀ w ∈ u_ws C T n, w ∈ z_Ts Z) (hk : j < n) (hl0 : Cond.fieldLinkNest (z_y Z mi).cls index (T j).1 (T j).2.1 (T j).2.2.1 host ∈ z_Ts Z) : qq_Snd Z mi pc (qo_get (z_lay Z) ci j) := by
  intro p e R s m args below meth c A cells slots Q loc st M cx h H locs ls hl hP hD hS
  unfold qo_get at h
  split at h
  · rename_i q r
    split at h
    · rename_i x hx
      obtain ⟨hx1, h⟩ := h
      subst hx1
      have hN : q < z_N Z := hOK.1 q (by rw [hx]; trivial)
      have he : (qw Z M)[q]? = some (z_a Z q, .inr (x.1, qv_F (z_a Z) (M q) x.2 0)) := by rw [qw_at M hN, hx]; rfl
      split at h
      · rename_i hj
        have hv := qv_F_int (a := z_a Z) (g := M q) x.2 0 j hj
        rw [Nat.zero_add] at hv
        exact va_getN cx.1 cx.2.1 cx.2.2.2.2.1 hin cx.2.2.2.1 cx.2.2.2.2.2.1 hP q he hc j hk (cx.2.2.2.2.1 _ hl0) (fun _ h9 => h9) hv hd (h H locs ls hl hP hD hS)
      · rename_i z hj
        exact va_getN cx.1 cx.2.1 cx.2.2.2.2.1 hin cx.2.2.2.1 cx.2.2.2.2.2.1 hP q he hc j hk (cx.2.2.2.2.1 _ hl0) (fun _ h9 => h9) (qv_F_ref x.2 0 j hj) hd (h H locs ls hl hP hD hS)
      · exact h.elim
    · exact h.elim
  · exact h.elim
theorem qs_putN {index ci j : Nat} {C : String} {T : u_T} {n : Nat} {host : String} (hd : decode (z_bc Z mi) pc = .ok (.putfield index, 3)) (hOK : qq_OK Z) (hc : (z_cl Z)[ci]? = some (C, T, n)) (hin : ∀ w ∈ u_ws C T n, w ∈ z_Ts Z) (ty0 : Nat → FieldType) (hty : ∀ k, k < n → parseFieldDescriptor (T k).2.2.1 = some (ty0 k)) (hnm : ∀ a, a < n → ∀ b, b < n → a ≠ b → (T a).2.1 ≠ (T b).2.1) (hk : j < n) (hfin : (T j).2.2.2 = false) (hint : parseFieldDescriptor (T j).2.2.1 = some .int) (hl0 : Cond.fieldLinkNest (z_y Z mi).cls index (T j).1 (T j).2.1 (T j).2.2.1 host ∈ z_Ts Z) : qq_Snd Z mi pc (qo_put (z_lay Z) ci j) := by
  intro p e R s m args below meth c A cells slots Q loc st M cx h H locs ls hl hP hD hS
  unfold qo_put at h
  split at h
  · rename_i v q r
    split at h
    · rename_i x hx
      obtain ⟨hx1, hj, h⟩ := h
      subst hx1
      have hN : q < z_N Z := hOK.1 q (by rw [hx]; trivial)
      have he : (qw Z M)[q]? = some (z_a Z q, .inr (x.1, qv_F (z_a Z) (M q) x.2 0)) := by rw [qw_at M hN, hx]; rfl
      have hs : (qw Z M).set q (z_a Z q, .inr (x.1, (qv_F (z_a Z) (M q) x.2 0).set j (.int v))) = qw Z (va_up M q (upd (M q) j v)) := by
        refine qw_set hN ?_
        rw [hx, qv_F_set x.2 0 j hj, Nat.zero_add]
        rfl
      refine va_putN (ty := .int) (v := .int v) cx.1 cx.2.1 cx.2.2.2.2.1 hin ty0 hty hnm cx.2.2.2.1 cx.2.2.2.2.2.1 hP hD hS q he hc j hk (cx.2.2.2.2.1 _ hl0) (fun _ h9 => h9) hfin hint rfl rfl (by rw [qv_F_len]; exact (List.getElem?_eq_some_iff.mp hj).1) hd (fun H1 locs1 hP1 hD1 hS1 => ?_)
      rw [hs] at hP1 hD1
      exact h H1 locs1 ls hl hP1 hD1 hS1
    · exact h.elim
  · exact h.elim
theorem qs_ia (hd : decode (z_bc Z mi) pc = .ok (.iaload, 1)) (hOK : qq_OK Z) : qq_Snd Z mi pc (qo_ia (z_lay Z)) := by
  intro p e R s m args below meth c A cells slots Q loc st M cx h H locs ls hl hP hD hS
  unfold qo_ia at h
  split at h
  · rename_i i q r
    split at h
    · rename_i x hx
      obtain ⟨t, n⟩ := x
      obtain ⟨ht, hin, h⟩ := h
      dsimp only at ht hin
      subst ht
      have hN : q < z_N Z := hOK.1 q (by rw [hx]; trivial)
      have he : (qw Z M)[q]? = some (z_a Z q, .inl (z_ca Z 0, n, .inl (M q))) := by rw [qw_at M hN, hx]; rfl
      exact va_iald cx.1 cx.2.1 cx.2.2.2.2.2.1 hP q 0 he hOK.2.1 hin hd (h H locs ls hl hP hD hS)
    · rename_i x hx
      exact va_ti cx.1 cx.2.1 (hOK.2.2.2.2.2.2.2.2 _ _ _ q x cx.2.2.2.2.2.2.2.1 hx) hS h.1 rfl hd (h.2 H locs ls hl hP hD hS)
    · exact h.elim
  · exact h.elim
theorem qs_za (hd : decode (z_bc Z mi) pc = .ok (.baload, 1)) (hOK : qq_OK Z) : qq_Snd Z mi pc (qo_za (z_lay Z)) := by
  intro p e R s m args below meth c A cells slots Q loc st M cx h H locs ls hl hP hD hS
  unfold qo_za at h
  split at h
  · rename_i i q r
    split at h
    · rename_i x hx
      obtain ⟨t, n⟩ := x
      obtain ⟨ht, hin, h⟩ := h
      dsimp only at ht hin
      subst ht
      have hN : q < z_N Z := hOK.1 q (by rw [hx]; trivial)
      have he : (qw Z M)[q]? = some (z_a Z q, .inl (z_ca Z 1, n, .inl (M q))) := by rw [qw_at M hN, hx]; rfl
      exact va_zald cx.1 cx.2.1 cx.2.2.2.2.2.1 hP q 1 he hOK.2.2.1 hin hd (h H locs ls hl hP hD hS)
    · exact h.elim
  · exact h.elim
theorem qs_ias (hd : decode (z_bc Z mi) pc = .ok (.iastore, 1)) (hOK : qq_OK Z) : qq_Snd Z mi pc (qo_ias (z_lay Z)) := by
  intro p e R s m args below meth c A cells slots Q loc st M cx h H locs ls hl hP hD hS
  unfold qo_ias at h
  split at h
  · rename_i v i q r
    split at h
    · rename_i x hx
      obtain ⟨t, n⟩ := x
      obtain ⟨ht, hin, h⟩ := h
      dsimp only at ht hin
      subst ht
      have hN : q < z_N Z := hOK.1 q (by rw [hx]; trivial)
      have he : (qw Z M)[q]? = some (z_a Z q, .inl (z_ca Z 0, n, .inl (M q))) := by rw [qw_at M hN, hx]; rfl
      have hs : (qw Z M).set q (z_a Z q, .inl (z_ca Z 0, n, .inl (upd (M q) i.toNatClampNeg v))) = qw Z (va_up M q (upd (M q) i.toNatClampNeg v)) := qw_set hN (by rw [hx]; rfl)
      refine va_iast cx.1 cx.2.1 cx.2.2.2.2.2.1 hP hD hS q 0 he hOK.2.1 hin hd (fun H1 locs1 hP1 hD1 hS1 => ?_)
      rw [hs] at hP1 hD1
      exact h H1 locs1 ls hl hP1 hD1 hS1
    · exact h.elim
  · exact h.elim
theorem qs_zas (hd : decode (z_bc Z mi) pc = .ok (.bastore, 1)) (hOK : qq_OK Z) : qq_Snd Z mi pc (qo_zas (z_lay Z)) := by
  intro p e R s m args below meth c A cells slots Q loc st M cx h H locs ls hl hP hD hS
  unfold qo_zas at h
  split at h
  · rename_i v i q r
    split at h
    · rename_i x hx
      obtain ⟨t, n⟩ := x
      obtain ⟨ht, hin, h⟩ := h
      dsimp only at ht hin
      subst ht
      have hN : q < z_N Z := hOK.1 q (by rw [hx]; trivial)
      have he : (qw Z M)[q]? = some (z_a Z q, .inl (z_ca Z 1, n, .inl (M q))) := by rw [qw_at M hN, hx]; rfl
      have hs : (qw Z M).set q (z_a Z q, .inl (z_ca Z 1, n, .inl (upd (M q) i.toNatClampNeg (vp_nar .boolean v)))) = qw Z (va_up M q (upd (M q) i.toNatClampNeg (vp_nar .boolean v))) := qw_set hN (by rw [hx]; rfl)
      refine va_zast cx.1 cx.2.1 cx.2.2.2.2.2.1 hP hD hS q 1 he hOK.2.2.1 hin hd (fun H1 locs1 hP1 hD1 hS1 => ?_)
      rw [hs] at hP1 hD1
      exact h H1 locs1 ls hl hP1 hD1 hS1
    · exact h.elim
  · exact h.elim
theorem qs_aa (hd : decode (z_bc Z mi) pc = .ok (.aaload, 1)) (hOK : qq_OK Z) : qq_Snd Z mi pc (qo_aa (z_lay Z)) := by
  intro p e R s m args below meth c A cells slots Q loc st M cx h H locs ls hl hP hD hS
  unfold qo_aa at h
  split at h
  · rename_i i q r
    split at h
    · rename_i x hx
      obtain ⟨hin, h⟩ := h
      split at h
      · rename_i z hz
        have hN : q < z_N Z := hOK.1 q (by rw [hx]; trivial)
        obtain ⟨T, hT, hR⟩ := hOK.2.2.2.2.1 q x hx
        have he : (qw Z M)[q]? = some (z_a Z q, .inl (z_ca Z x.1, x.2.1, .inr (.inr (.inr (.inr (fun j => (x.2.2 j).map (z_a Z))))))) := by rw [qw_at M hN, hx]; rfl
        have hlt : i.toNatClampNeg < x.2.1 := Nat.not_le.mp fun q => hin (Or.inr q)
        exact W.aald (v := .ref (z_a Z z)) (ty := T) cx.1 cx.2.1 (hP q _ he) ((cx.2.2.2.2.2.1.2 x.1 _ hT).1 x.2.1 (fun j => va_rf ((x.2.2 j).map (z_a Z)))) hR (fun q => by cases q) (by show ¬ (i < 0 ∨ (arrV _ _ _).slots.size ≤ _); rw [arrV_size]; exact hin) (by show (arrV _ _ _).slots[_]? = _; rw [arrV_read _ _ hlt]; show some (va_rf ((x.2.2 i.toNatClampNeg).map (z_a Z))) = _; rw [hz]; rfl) rfl rfl hd (h H locs ls hl hP hD hS)
      · exact h.elim
    · exact h.elim
  · exact h.elim
theorem qs_len (hd : decode (z_bc Z mi) pc = .ok (.arraylength, 1)) (hOK : qq_OK Z) : qq_Snd Z mi pc (qo_len (z_lay Z)) := by
  intro p e R s m args below meth c A cells slots Q loc st M cx h H locs ls hl hP hD hS
  unfold qo_len at h
  split at h
  · rename_i q r
    split at h
    · rename_i x hx
      have hN : q < z_N Z := hOK.1 q (by rw [hx]; trivial)
      obtain ⟨T, hT⟩ := hOK.2.2.2.1 q x hx
      have he : (qw Z M)[q]? = some (z_a Z q, .inl (z_ca Z x.1, x.2, .inl (M q))) := by rw [qw_at M hN, hx]; rfl
      exact va_alen cx.1 cx.2.1 cx.2.2.2.2.2.1 hP q x.1 he hT rfl hd (h H locs ls hl hP hD hS)
    · rename_i x hx
      have hN : q < z_N Z := hOK.1 q (by rw [hx]; trivial)
      obtain ⟨T, hT, -⟩ := hOK.2.2.2.2.1 q x hx
      have he : (qw Z M)[q]? = some (z_a Z q, .inl (z_ca Z x.1, x.2.1, .inr (.inr (.inr (.inr (fun j => (x.2.2 j).map (z_a Z))))))) := by rw [qw_at M hN, hx]; rfl
      exact va_alen cx.1 cx.2.1 cx.2.2.2.2.2.1 hP q x.1 he hT rfl hd (h H locs ls hl hP hD hS)
    · rename_i x hx
      exact va_tlen cx.1 cx.2.1 (hOK.2.2.2.2.2.2.2.2 _ _ _ q x cx.2.2.2.2.2.2.2.1 hx) hS rfl hd (h H locs ls hl hP hD hS)
    · exact h.elim
  · exact h.elim
theorem qs_mmax {index : Nat} (hd : decode (z_bc Z mi) pc = .ok (.invokestatic index, 3)) (hl0 : Cond.methodLink (z_y Z mi).cls index Lib.Math.max.name ∈ z_Ts Z) (hst : Cond.static Lib.Math.max.name ∈ z_Ts Z) (hini : Cond.initialized "java/lang/Math" ∈ z_Ts Z) (hcode : Cond.code Lib.Math.max.name Lib.Math.max.code 2 (some .int) ∈ z_Ts Z) (hf : 1 ≤ z_fr Z mi) (hlo : 21 ≤ z_lo Z mi) : qq_Snd Z mi pc qo_mx := by
  intro p e R s m args below meth c A cells slots Q loc st M cx h H locs ls hl hP hD hS
  unfold qo_mx at h
  split at h
  · rename_i y x r
    have hr := h.1
    have hR := cx.2.2.2.2.2.2.2.2.1
    have hcs := cx.2.2.2.2.2.2.2.2.2.2.2
    exact va_mmax cx.1 cx.2.1 (cx.2.2.1.trans hl.1.symm) cx.2.2.2.1 (cx.2.2.2.2.1 _ hl0) (cx.2.2.2.2.1 _ hst) (cx.2.2.2.2.1 _ hini) (cx.2.2.2.2.1 _ hcode) (Nat.le_trans hf hR.1) (by rw [qv_cats]; omega) hcs.1 hcs.2 hd (h.2 H locs ls hl hP hD hS)
  · exact h.elim
theorem qs_mmin {index : Nat} (hd : decode (z_bc Z mi) pc = .ok (.invokestatic index, 3)) (hl0 : Cond.methodLink (z_y Z mi).cls index Lib.Math.min.name ∈ z_Ts Z) (hst : Cond.static Lib.Math.min.name ∈ z_Ts Z) (hini : Cond.initialized "java/lang/Math" ∈ z_Ts Z) (hcode : Cond.code Lib.Math.min.name Lib.Math.min.code 2 (some .int) ∈ z_Ts Z) (hf : 1 ≤ z_fr Z mi) (hlo : 21 ≤ z_lo Z mi) : qq_Snd Z mi pc qo_mn := by
  intro p e R s m args below meth c A cells slots Q loc st M cx h H locs ls hl hP hD hS
  unfold qo_mn at h
  split at h
  · rename_i y x r
    have hr := h.1
    have hR := cx.2.2.2.2.2.2.2.2.1
    have hcs := cx.2.2.2.2.2.2.2.2.2.2.2
    exact va_mmin cx.1 cx.2.1 (cx.2.2.1.trans hl.1.symm) cx.2.2.2.1 (cx.2.2.2.2.1 _ hl0) (cx.2.2.2.2.1 _ hst) (cx.2.2.2.2.1 _ hini) (cx.2.2.2.2.1 _ hcode) (Nat.le_trans hf hR.1) (by rw [qv_cats]; omega) hcs.1 hcs.2 hd (h.2 H locs ls hl hP hD hS)
  · exact h.elim
theorem qs_cp {index : Nat} (hd : decode (z_bc Z mi) pc = .ok (.invokestatic index, 3)) (hOK : qq_OK Z) (hl0 : Cond.methodLink (z_y Z mi).cls index arraycopyName ∈ z_Ts Z) (hnat : Cond.native arraycopyName ∈ z_Ts Z) (hst : Cond.static arraycopyName ∈ z_Ts Z) (hini : Cond.initialized "java/lang/System" ∈ z_Ts Z) (hf : 1 ≤ z_fr Z mi) (hlo : 8 + (nativeFrameWords "java/lang/System" "arraycopy" 5 + 11) ≤ z_lo Z mi) : qq_Snd Z mi pc (qo_cp (z_lay Z)) := by
  intro p e R s m args below meth c A cells slots Q loc st M cx h H locs ls hl hP hD hS
  unfold qo_cp at h
  split at h
  · rename_i n dp q1 sp q0 r
    split at h
    · rename_i x0 x1 h0 h1
      obtain ⟨t0, n0⟩ := x0
      obtain ⟨t1, n1⟩ := x1
      obtain ⟨ht0, ht1, hr, hs1, hs2, hs3, hs4, hs5, h⟩ := h
      dsimp only at ht0 ht1 hs4 hs5
      subst ht0
      subst ht1
      have hR := cx.2.2.2.2.2.2.2.2.1
      have hN0 : q0 < z_N Z := hOK.1 q0 (by rw [h0]; trivial)
      have hN1 : q1 < z_N Z := hOK.1 q1 (by rw [h1]; trivial)
      have he0 : (qw Z M)[q0]? = some (z_a Z q0, .inl (z_ca Z 0, n0, .inl (M q0))) := by rw [qw_at M hN0, h0]; rfl
      have he1 : (qw Z M)[q1]? = some (z_a Z q1, .inl (z_ca Z 0, n1, .inl (M q1))) := by rw [qw_at M hN1, h1]; rfl
      have hs : (qw Z M).set q1 (z_a Z q1, .inl (z_ca Z 0, n1, .inl (va_cpy (M q0) (M q1) sp.toNatClampNeg dp.toNatClampNeg n.toNatClampNeg))) = qw Z (va_up M q1 (va_cpy (M q0) (M q1) sp.toNatClampNeg dp.toNatClampNeg n.toNatClampNeg)) := qw_set hN1 (by rw [h1]; rfl)
      refine va_copyi (ty := .int) cx.1 cx.2.1 (cx.2.2.1.trans hl.1.symm) cx.2.2.2.1 (cx.2.2.2.2.1 _ hl0) (cx.2.2.2.2.1 _ hnat) (cx.2.2.2.2.1 _ hst) (cx.2.2.2.2.1 _ hini) cx.2.2.2.2.2.1 hP hD hS q0 q1 0 0 he0 he1 hOK.2.1 hOK.2.1 rfl hs1 hs2 hs3 hs4 hs5 (fun _ _ => rfl) (Nat.le_trans hf hR.1) (by rw [qv_cats]; omega) hd (fun H1 locs1 hP1 hD1 hS1 => ?_)
      rw [hs] at hP1 hD1
      exact h H1 locs1 ls hl hP1 hD1 hS1
    · exact h.elim
  · exact h.elim
end QROWS
