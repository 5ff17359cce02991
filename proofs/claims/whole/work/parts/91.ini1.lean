/-! Constructors: rows over a world that grows. -/
/-- what a constructor knows of the tables -/
def IK (ca : Nat → ClassId) (D : va_G) (U : State) : Prop := va_K D kCl (gTy ca) U ∧ va_AO "BoardDesk$Sheet" U ∧ va_AOA .int U ∧ va_Nw (.methodLinkNest "BoardDesk" 9 ⟨"BoardDesk$Board", "<init>", "()V"⟩ "BoardDesk") U ∧ va_Nw (.methodLinkNest "BoardDesk" 25 ⟨"BoardDesk$Router", "<init>", "()V"⟩ "BoardDesk") U ∧ va_Nw (.methodLinkNest "BoardDesk$Router" 31 ⟨"BoardDesk$Lanes", "<init>", "()V"⟩ "BoardDesk") U ∧ va_Nw (.methodLinkNest "BoardDesk" 32 ⟨"BoardDesk$Tape", "<init>", "()V"⟩ "BoardDesk") U
theorem IK.warm {ca : Nat → ClassId} {D : va_G} {u U : State} (hW : u.WarmedH U.vm) (h : IK ca D u) : IK ca D U :=
  ⟨va_K.moved hW.alike h.1, va_AO.moved hW.alike h.2.1, va_AOA.moved hW.alike h.2.2.1, va_Nw.warmM hW h.2.2.2.1, va_Nw.warmM hW h.2.2.2.2.1, va_Nw.warmM hW h.2.2.2.2.2.1, va_Nw.warmM hW h.2.2.2.2.2.2⟩
abbrev iK : Type := va_G × (Nat → ClassId) × Program × Launch × Env × Room × State × MethodId × Array Value × List Frame × Method × Code × (Nat → Prop) × (State → Prop)
abbrev k_D (K : iK) : va_G := K.1
abbrev k_ca (K : iK) : Nat → ClassId := K.2.1
abbrev k_p (K : iK) : Program := K.2.2.1
abbrev k_l (K : iK) : Launch := K.2.2.2.1
abbrev k_e (K : iK) : Env := K.2.2.2.2.1
abbrev k_R (K : iK) : Room := K.2.2.2.2.2.1
abbrev k_s (K : iK) : State := K.2.2.2.2.2.2.1
abbrev k_m (K : iK) : MethodId := K.2.2.2.2.2.2.2.1
abbrev k_a (K : iK) : Array Value := K.2.2.2.2.2.2.2.2.1
abbrev k_b (K : iK) : List Frame := K.2.2.2.2.2.2.2.2.2.1
abbrev k_t (K : iK) : Method := K.2.2.2.2.2.2.2.2.2.2.1
abbrev k_c (K : iK) : Code := K.2.2.2.2.2.2.2.2.2.2.2.1
abbrev k_A (K : iK) : Nat → Prop := K.2.2.2.2.2.2.2.2.2.2.2.2.1
abbrev k_Q (K : iK) : State → Prop := K.2.2.2.2.2.2.2.2.2.2.2.2.2
def IG (K : iK) (ws : va_W) (pc : Nat) (ls : Array Slot) (st : List Value) (cells slots : Nat) : Prop :=
  ∀ (H : Heap) (locs : List Loc), va_P (k_D K) kCl ws H → va_D (k_A K) ws → va_S (k_A K) (k_s K).heap H locs → W (k_p K) (k_l K) (k_e K) (k_R K) (k_s K) (k_m K) (k_a K) (k_b K) (k_t K) (k_c K) H locs cells slots (k_Q K) (F0 (k_m K) pc ls st)
def IX (K : iK) (y : MethodName) (cc : ByteArray) (nL : Nat) : Prop :=
  (k_p K).tables.exec = Jvm.exec ∧ (k_c K).code = cc ∧ (k_c K).maxLocals = nL ∧ (k_s K).vm.findClass y.cls = some (k_m K).cls ∧ (∀ w ∈ gTs, w.before (k_a K) (k_s K) = true) ∧ IK (k_ca K) (k_D K) (k_s K) ∧ (y.name = "<init>" → (k_t K).name = "<init>") ∧ ∀ q, (k_s K).heap.size ≤ q → k_A K q
theorem app_at {α : Type} {ws X : List α} {j : Nat} {x : α} (h : X[j]? = some x) : (ws ++ X)[ws.length + j]? = some x := by
  rw [List.getElem?_append_right (by omega), show ws.length + j - ws.length = j by omega]
  exact h
theorem app_set {α : Type} {ws X : List α} {j : Nat} {x : α} : (ws ++ X).set (ws.length + j) x = ws ++ X.set j x := by
  rw [List.set_append_right (h := by omega)]
  rw [show ws.length + j - ws.length = j by omega]
section INI
variable {K : iK} {y : MethodName} {cc : ByteArray} {nL : Nat} {ws ws0 X X' : va_W} {pc : Nat} {ls : Array Slot} {st rest : List Value} {cells slots : Nat}
theorem ig_al (hx : IX K y cc nL) {k : Fin 4} {i x : Nat} (hd : decode cc pc = .ok (.aload_n k, 1)) (hi : (k : Nat) = i) (hl : ls[i]? = some (.val (.ref x))) (kk : IG K ws (pc + 1) ls (.ref x :: st) cells slots) : IG K ws pc ls st cells slots :=
  fun H locs hP hD hS => lv_aload_n hx.1 hx.2.1 hd hi hl (kk H locs hP hD hS)
theorem ig_il (hx : IX K y cc nL) {k : Fin 4} {i : Nat} {x : Int32} (hd : decode cc pc = .ok (.iload_n k, 1)) (hi : (k : Nat) = i) (hl : ls[i]? = some (.val (.int x))) (kk : IG K ws (pc + 1) ls (.int x :: st) cells slots) : IG K ws pc ls st cells slots :=
  fun H locs hP hD hS => lv_iload_n hx.1 hx.2.1 hd hi hl (kk H locs hP hD hS)
theorem ig_ic (hx : IX K y cc nL) {n : Int} {v : Int32} (hd : decode cc pc = .ok (.iconst n, 1)) (hv : Int32.ofInt n = v) (kk : IG K ws (pc + 1) ls (.int v :: st) cells slots) : IG K ws pc ls st cells slots :=
  fun H locs hP hD hS => lv_iconst hx.1 hx.2.1 hd hv (kk H locs hP hD hS)
theorem ig_bi (hx : IX K y cc nL) {n : Int} {v : Int32} (hd : decode cc pc = .ok (.bipush n, 2)) (hv : (Int8.ofInt n).toInt32 = v) (kk : IG K ws (pc + 2) ls (.int v :: st) cells slots) : IG K ws pc ls st cells slots :=
  fun H locs hP hD hS => lv_bipush hx.1 hx.2.1 hd hv (kk H locs hP hD hS)
theorem ig_si (hx : IX K y cc nL) {n : Int} {v : Int32} (hd : decode cc pc = .ok (.sipush n, 3)) (hv : (Int16.ofInt n).toInt32 = v) (kk : IG K ws (pc + 3) ls (.int v :: st) cells slots) : IG K ws pc ls st cells slots :=
  fun H locs hP hD hS => lv_sipush hx.1 hx.2.1 hd hv (kk H locs hP hD hS)
theorem ig_dup (hx : IX K y cc nL) {va : Value} (hd : decode cc pc = .ok (.dup, 1)) (hva : va.category = 1) (kk : IG K ws (pc + 1) ls (va :: va :: st) cells slots) : IG K ws pc ls (va :: st) cells slots :=
  fun H locs hP hD hS => lv_dup hx.1 hx.2.1 hd hva (kk H locs hP hD hS)
theorem ig_goto (hx : IX K y cc nL) {off : Int} {tgt : Nat} (hd : decode cc pc = .ok (.goto off, 3)) (ht : (pc : Int) + off = (tgt : Int)) (kk : IG K ws tgt ls st cells slots) : IG K ws pc ls st cells slots :=
  fun H locs hP hD hS => lv_goto hx.1 hx.2.1 hd ht (kk H locs hP hD hS)
theorem ig_ge (hx : IX K y cc nL) {a b : Int32} {off : Int} {tgt : Nat} (hd : decode cc pc = .ok (.if_icmp .ge off, 3)) (ht : (pc : Int) + off = (tgt : Int)) (kt : b ≤ a → IG K ws tgt ls st cells slots) (kf : ¬ b ≤ a → IG K ws (pc + 3) ls st cells slots) : IG K ws pc ls (.int b :: .int a :: st) cells slots :=
  fun H locs hP hD hS => lv_icmp_ge hx.1 hx.2.1 hd ht (fun q => kt q H locs hP hD hS) (fun q => kf q H locs hP hD hS)
theorem ig_is (hx : IX K y cc nL) {k : Fin 4} {i : Nat} {x : Int32} {lv lv' : List (Nat × Value)} (hd : decode cc pc = .ok (.istore_n k, 1)) (hi : (k : Nat) = i) (h : lv_has ls nL lv) (hn : i < nL) (hl : (i, Value.int x) :: lv.filter (fun q => !(q.1 == i) && !(q.1 + 1 == i && q.2.category == 2)) = lv')
    (kk : ∀ ls' : Array Slot, lv_has ls' nL lv' → IG K ws (pc + 1) ls' st cells slots) : IG K ws pc ls (.int x :: st) cells slots :=
  fun H locs hP hD hS => lv_istore_n hx.1 hx.2.1 hd hi h hn hl (fun ls' hl' => kk ls' hl' H locs hP hD hS)
theorem ig_as (hx : IX K y cc nL) {k : Fin 4} {i : Nat} {x : Nat} {lv lv' : List (Nat × Value)} (hd : decode cc pc = .ok (.astore_n k, 1)) (hi : (k : Nat) = i) (h : lv_has ls nL lv) (hn : i < nL) (hl : (i, Value.ref x) :: lv.filter (fun q => !(q.1 == i) && !(q.1 + 1 == i && q.2.category == 2)) = lv')
    (kk : ∀ ls' : Array Slot, lv_has ls' nL lv' → IG K ws (pc + 1) ls' st cells slots) : IG K ws pc ls (.ref x :: st) cells slots :=
  fun H locs hP hD hS => lv_astore_n hx.1 hx.2.1 hd hi h hn hl (fun ls' hl' => kk ls' hl' H locs hP hD hS)
theorem ig_inc (hx : IX K y cc nL) {i k : Nat} {n : Int} {x v : Int32} {lv lv' : List (Nat × Value)} (hd : decode cc pc = .ok (.iinc i n, 3)) (h : lv_has ls nL lv) (hk : lv[k]? = some (i, .int x)) (hv : x + Int32.ofInt n = v) (hn : i < nL) (hl : (i, Value.int v) :: lv.filter (fun q => !(q.1 == i) && !(q.1 + 1 == i && q.2.category == 2)) = lv')
    (kk : ∀ ls' : Array Slot, lv_has ls' nL lv' → IG K ws (pc + 3) ls' st cells slots) : IG K ws pc ls st cells slots :=
  fun H locs hP hD hS => lv_iinc hx.1 hx.2.1 hd h hk hv hn hl (fun ls' hl' => kk ls' hl' H locs hP hD hS)
theorem ig_obj (hx : IX K y cc nL) {idx a : Nat} (hlink : Cond.methodLink y.cls idx objectInit ∈ gTs) (hinst : Cond.instanceMethod objectInit ∈ gTs) (hcode : Cond.code objectInit ⟨#[0xb1]⟩ 1 none ∈ gTs) (hls : ls.size = nL) (hd : decode cc pc = .ok (.invokespecial idx, 3)) (hf : 1 ≤ (k_R K).frames) (hlo : 12 ≤ (k_R K).locals) (kk : IG K ws (pc + 3) ls [] cells slots) : IG K ws pc ls [.ref a] cells slots :=
  fun H locs hP hD hS => W.objInit hx.1 hx.2.1 hx.2.2.2.1 (hx.2.2.2.2.1 _ hlink) (hx.2.2.2.2.1 _ hinst) (hx.2.2.2.2.1 _ hcode) rfl (hls.trans hx.2.2.1.symm) rfl hd hf (by show 2 * 0 + (([] : List Value).map fun v => v.category).sum + 12 ≤ _; simpa using hlo) (kk H locs hP hD hS)
theorem ig_na (hx : IX K y cc nL) {n : Int32} {N : Nat} (harr : Cond.arrayClass .int ∈ gTs) (hn : ¬ n < 0) (hN : n.toNatClampNeg = N) (hb : N * 4 ≤ 536870912) (hc : cells + 1 ≤ (k_R K).cells) (hs : slots + N ≤ (k_R K).slots) (hd : decode cc pc = .ok (.newarray .int, 2))
    (kk : ∀ q, IG K (ws0 ++ (X ++ [(q, .inl (k_ca K 0, N, .inl (fun _ => 0)))])) (pc + 2) ls (.ref q :: st) (cells + 1) (slots + N)) : IG K (ws0 ++ X) pc ls (.int n :: st) cells slots := by
  intro H locs hP hD hS
  have hK := hx.2.2.2.2.2.1.1
  refine va_newa (atype := .int) (ty := .int) (a0 := (N, .inl (fun _ => 0))) hx.1 hx.2.1 (hx.2.2.2.2.1 _ harr) rfl hK hP hD hS hx.2.2.2.2.2.2.2 (fun cA => rfl) hn hN hb hc hs hd (fun q cA H1 hK1 hP1 hD1 hS1 => ?_)
  have e1 : (k_s K).vm.findClass ("[" ++ FieldType.int.toString) = some cA := (hK1.2 4 _ rfl).2
  have e2 : (k_s K).vm.findClass ("[" ++ FieldType.int.toString) = some (k_ca K 0) := (hK.2 0 _ rfl).2
  have e3 : cA = k_ca K 0 := Option.some.inj (e1.symm.trans e2)
  subst e3
  rw [List.append_assoc] at hP1 hD1
  exact kk q H1 locs hP1 hD1 hS1
theorem ig_nz (hx : IX K y cc nL) {n : Int32} {N : Nat} (harr : Cond.arrayClass .boolean ∈ gTs) (hn : ¬ n < 0) (hN : n.toNatClampNeg = N) (hb : N * 1 ≤ 536870912) (hc : cells + 1 ≤ (k_R K).cells) (hs : slots + N ≤ (k_R K).slots) (hd : decode cc pc = .ok (.newarray .boolean, 2))
    (kk : ∀ q, IG K (ws0 ++ (X ++ [(q, .inl (k_ca K 1, N, .inl (fun _ => 0)))])) (pc + 2) ls (.ref q :: st) (cells + 1) (slots + N)) : IG K (ws0 ++ X) pc ls (.int n :: st) cells slots := by
  intro H locs hP hD hS
  have hK := hx.2.2.2.2.2.1.1
  refine va_newa (atype := .boolean) (ty := .boolean) (a0 := (N, .inl (fun _ => 0))) hx.1 hx.2.1 (hx.2.2.2.2.1 _ harr) rfl hK hP hD hS hx.2.2.2.2.2.2.2 (fun cA => rfl) hn hN hb hc hs hd (fun q cA H1 hK1 hP1 hD1 hS1 => ?_)
  have e1 : (k_s K).vm.findClass ("[" ++ FieldType.boolean.toString) = some cA := (hK1.2 4 _ rfl).2
  have e2 : (k_s K).vm.findClass ("[" ++ FieldType.boolean.toString) = some (k_ca K 1) := (hK.2 1 _ rfl).2
  have e3 : cA = k_ca K 1 := Option.some.inj (e1.symm.trans e2)
  subst e3
  rw [List.append_assoc] at hP1 hD1
  exact kk q H1 locs hP1 hD1 hS1
theorem ig_nq (hx : IX K y cc nL) {index : Nat} {n : Int32} {N : Nat} (hcl : Cond.classLink y.cls index "BoardDesk$Sheet" ∈ gTs) (hn : ¬ n < 0) (hN : n.toNatClampNeg = N) (hb : N * 4 ≤ 536870912) (hc : cells + 1 ≤ (k_R K).cells) (hs : slots + N ≤ (k_R K).slots) (hd : decode cc pc = .ok (.anewarray index, 3))
    (kk : ∀ q, IG K (ws0 ++ (X ++ [(q, .inl (k_ca K 2, N, .inr (.inr (.inr (.inr (fun _ => none))))))])) (pc + 3) ls (.ref q :: st) (cells + 1) (slots + N)) : IG K (ws0 ++ X) pc ls (.int n :: st) cells slots := by
  intro H locs hP hD hS
  have hK := hx.2.2.2.2.2.1.1
  refine va_newq hx.1 hx.2.1 hx.2.2.2.1 (hx.2.2.2.2.1 _ hcl) hx.2.2.2.2.2.1.2.1 hK hP hD hS hx.2.2.2.2.2.2.2 hn hN hb hc hs hd (fun q cA H1 hK1 hP1 hD1 hS1 => ?_)
  obtain ⟨kA, comp, -, -, -, e1⟩ := (hK1.2 4 _ rfl).2
  obtain ⟨kA', comp', -, -, -, e2⟩ := (hK.2 2 _ rfl).2
  have e3 : cA = k_ca K 2 := Option.some.inj (e1.symm.trans e2)
  subst e3
  rw [List.append_assoc] at hP1 hD1
  exact kk q H1 locs hP1 hD1 hS1
theorem ig_mna (hx : IX K y cc nL) {index : Nat} {n k : Int32} {N M : Nat} (hcl : Cond.classLink y.cls index "[[I" ∈ gTs) (harr : Cond.arrayClass .int ∈ gTs) (hn : ¬ n < 0) (hk : ¬ k < 0) (hN : n.toNatClampNeg = N) (hM : k.toNatClampNeg = M) (hb1 : N * 4 ≤ 536870912) (hb2 : M * 4 ≤ 536870912) (hc : cells + (1 + N) ≤ (k_R K).cells) (hs : slots + (N + N * M) ≤ (k_R K).slots) (hd : decode cc pc = .ok (.multianewarray index 2, 4))
    (kk : ∀ (q : Nat) (r : Nat → Nat), IG K (ws0 ++ (X ++ ((q, .inl (k_ca K 3, N, .inr (.inr (.inr (.inr (fun i => if i < N then some (r i) else none)))))) :: (List.range N).map (fun i => (r i, .inl (k_ca K 0, M, .inl (fun _ => 0))))))) (pc + 4) ls (.ref q :: st) (cells + 1 + N) (slots + N + N * M)) : IG K (ws0 ++ X) pc ls (.int k :: .int n :: st) cells slots := by
  intro H locs hP hD hS
  have hK := hx.2.2.2.2.2.1.1
  have e2 : (k_s K).vm.findClass (FieldType.array .int).toString = some (k_ca K 0) := (hK.2 0 _ rfl).2
  refine va_mna (X := ws0 ++ X) (L := []) (f := fun _ => .inl (k_ca K 0, M, .inl (fun _ => 0))) (ty := .int) (z := (M, .inl (fun _ => 0))) hx.1 hx.2.1 hx.2.2.2.1 (hx.2.2.2.2.1 _ hcl) hx.2.2.2.2.2.1.2.2.1 (hx.2.2.2.2.1 _ harr) e2 hK (by rw [show va_pl [] (fun _ => .inl (k_ca K 0, M, .inl (fun _ => 0))) = [] from rfl, List.append_nil]; exact hP) (by rw [show va_pl [] (fun _ => .inl (k_ca K 0, M, .inl (fun _ => 0))) = [] from rfl, List.append_nil]; exact hD) hS hx.2.2.2.2.2.2.2 hn hk hN hM hb1 hb2 (by omega) rfl rfl hc hs (fun c => ?_) hd (fun q r cA H1 h1 h2 hK1 hP1 hD1 hS1 => ?_)
  · show _ = arrV c M (fun _ => .int 0)
    rw [← arrV_new]
    rfl
  · have e1 : (k_s K).vm.findClass ("[" ++ (FieldType.array .int).toString) = some cA := (hK1.2 4 _ rfl).2
    have e3 : (k_s K).vm.findClass ("[" ++ (FieldType.array .int).toString) = some (k_ca K 3) := (hK.2 3 _ rfl).2
    have e4 : cA = k_ca K 3 := Option.some.inj (e1.symm.trans e3)
    subst e4
    have eL : va_pl ([] ++ (List.range N).map r) (vr_up (fun _ => .inl (k_ca K 0, M, .inl (fun _ => 0))) ((List.range N).map r) (.inl (k_ca K 0, (M, .inl (fun _ => 0))))) = (List.range N).map (fun i => (r i, .inl (k_ca K 0, M, .inl (fun _ => 0)))) := by
      unfold va_pl
      rw [List.nil_append, List.map_map]
      refine List.map_congr_left fun i hi => ?_
      show (r i, vr_up _ _ _ (r i)) = _
      rw [vr_up_in (List.mem_map.mpr ⟨i, hi, rfl⟩)]
    rw [eL, List.append_assoc, List.append_assoc] at hP1 hD1
    exact kk q r H1 locs hP1 hD1 hS1
theorem ig_pF (hx : IX K y cc nL) {C : String} {T : u_T} {N ci index k j : Nat} {ty0 : Nat → FieldType} {fs : List Value} {a : Nat} {v : Value} {ty : FieldType} (hin : ∀ w ∈ u_ws C T N, w ∈ gTs) (hty : ∀ k, k < N → parseFieldDescriptor (T k).2.2.1 = some (ty0 k)) (hnm : ∀ a, a < N → ∀ b, b < N → a ≠ b → (T a).2.1 ≠ (T b).2.1) (hc : kCl[ci]? = some (C, T, N)) (hk : k < N)
    (hX : X[j]? = some (a, .inr (ci, fs))) (hX' : X.set j (a, .inr (ci, fs.set k v)) = X') (hlink : Cond.fieldLink y.cls index (T k).1 (T k).2.1 (T k).2.2.1 ∈ gTs) (hfin : (T k).2.2.2 = true) (hdecl : (T k).1 = y.cls) (hd0 : parseFieldDescriptor (T k).2.2.1 = some ty) (hn : narrow ty v = v) (hfit : fits ty v = true) (hl : k < fs.length) (hyn : y.name = "<init>") (hd : decode cc pc = .ok (.putfield index, 3))
    (kk : IG K (ws0 ++ X') (pc + 3) ls st cells slots) : IG K (ws0 ++ X) pc ls (v :: .ref a :: st) cells slots := by
  intro H locs hP hD hS
  refine va_putF hx.1 hx.2.1 hx.2.2.2.2.1 hin ty0 hty hnm hx.2.2.2.1 hx.2.2.2.2.2.1.1 hP hD hS (ws0.length + j) (app_at hX) hc k hk (hx.2.2.2.2.1 _ hlink) (fun _ h => h) hfin (hx.2.2.2.2.2.2.1 hyn) hdecl hd0 hn hfit hl hd (fun H1 locs1 hP1 hD1 hS1 => ?_)
  rw [app_set, hX'] at hP1 hD1
  exact kk H1 locs1 hP1 hD1 hS1
theorem ig_p (hx : IX K y cc nL) {C : String} {T : u_T} {N ci index k j : Nat} {ty0 : Nat → FieldType} {fs : List Value} {a : Nat} {v : Value} {ty : FieldType} (hin : ∀ w ∈ u_ws C T N, w ∈ gTs) (hty : ∀ k, k < N → parseFieldDescriptor (T k).2.2.1 = some (ty0 k)) (hnm : ∀ a, a < N → ∀ b, b < N → a ≠ b → (T a).2.1 ≠ (T b).2.1) (hc : kCl[ci]? = some (C, T, N)) (hk : k < N)
    (hX : X[j]? = some (a, .inr (ci, fs))) (hX' : X.set j (a, .inr (ci, fs.set k v)) = X') (hlink : Cond.fieldLink y.cls index (T k).1 (T k).2.1 (T k).2.2.1 ∈ gTs) (hfin : (T k).2.2.2 = false) (hd0 : parseFieldDescriptor (T k).2.2.1 = some ty) (hn : narrow ty v = v) (hfit : fits ty v = true) (hl : k < fs.length) (hd : decode cc pc = .ok (.putfield index, 3))
    (kk : IG K (ws0 ++ X') (pc + 3) ls st cells slots) : IG K (ws0 ++ X) pc ls (v :: .ref a :: st) cells slots := by
  intro H locs hP hD hS
  refine va_put hx.1 hx.2.1 hx.2.2.2.2.1 hin ty0 hty hnm hx.2.2.2.1 hx.2.2.2.2.2.1.1 hP hD hS (ws0.length + j) (app_at hX) hc k hk (hx.2.2.2.2.1 _ hlink) (fun _ h => h) hfin hd0 hn hfit hl hd (fun H1 locs1 hP1 hD1 hS1 => ?_)
  rw [app_set, hX'] at hP1 hD1
  exact kk H1 locs1 hP1 hD1 hS1
theorem ig_get (hx : IX K y cc nL) {C : String} {T : u_T} {N ci index k j : Nat} {fs : List Value} {a : Nat} {v : Value} (hin : ∀ w ∈ u_ws C T N, w ∈ gTs) (hc : kCl[ci]? = some (C, T, N)) (hk : k < N)
    (hX : X[j]? = some (a, .inr (ci, fs))) (hlink : Cond.fieldLink y.cls index (T k).1 (T k).2.1 (T k).2.2.1 ∈ gTs) (hv : fs[k]? = some v) (hd : decode cc pc = .ok (.getfield index, 3))
    (kk : IG K (ws0 ++ X) (pc + 3) ls (v :: st) cells slots) : IG K (ws0 ++ X) pc ls (.ref a :: st) cells slots :=
  fun H locs hP hD hS => va_get hx.1 hx.2.1 hx.2.2.2.2.1 hin hx.2.2.2.1 hx.2.2.2.2.2.1.1 hP (ws0.length + j) (app_at hX) hc k hk (hx.2.2.2.2.1 _ hlink) (fun _ h => h) hv hd (kk H locs hP hD hS)
theorem ig_ias (hx : IX K y cc nL) {j n a : Nat} {f : Nat → Int32} {i x : Int32} (hX : X[j]? = some (a, .inl (k_ca K 0, n, .inl f))) (hX' : X.set j (a, .inl (k_ca K 0, n, .inl (upd f i.toNatClampNeg x))) = X') (hin : vp_in i n) (hd : decode cc pc = .ok (.iastore, 1))
    (kk : IG K (ws0 ++ X') (pc + 1) ls st cells slots) : IG K (ws0 ++ X) pc ls (.int x :: .int i :: .ref a :: st) cells slots := by
  intro H locs hP hD hS
  refine va_iast hx.1 hx.2.1 hx.2.2.2.2.2.1.1 hP hD hS (ws0.length + j) 0 (app_at hX) rfl hin hd (fun H1 locs1 hP1 hD1 hS1 => ?_)
  rw [app_set, hX'] at hP1 hD1
  exact kk H1 locs1 hP1 hD1 hS1
theorem ig_aas (hx : IX K y cc nL) {j qk n a v : Nat} {f : Nat → Option Nat} {vs : List Value} {i : Int32} (hX : X[j]? = some (a, .inl (k_ca K 2, n, .inr (.inr (.inr (.inr f)))))) (hv : X[qk]? = some (v, .inr (2, vs))) (hX' : X.set j (a, .inl (k_ca K 2, n, .inr (.inr (.inr (.inr (va_up f i.toNatClampNeg (some v))))))) = X') (hin : vp_in i n) (hd : decode cc pc = .ok (.aastore, 1))
    (kk : IG K (ws0 ++ X') (pc + 1) ls st cells slots) : IG K (ws0 ++ X) pc ls (.ref v :: .int i :: .ref a :: st) cells slots := by
  intro H locs hP hD hS
  refine va_astq (r := (kR2, kT2, 9)) hx.1 hx.2.1 hx.2.2.2.2.2.1.1 hP hD hS (ws0.length + j) 2 (ws0.length + qk) 2 (app_at hX) rfl (app_at hv) rfl hin hd (fun H1 locs1 hP1 hD1 hS1 => ?_)
  rw [app_set, hX'] at hP1 hD1
  exact kk H1 locs1 hP1 hD1 hS1
theorem ig_new (hx : IX K y cc nL) {C : String} {T : u_T} {N ci index : Nat} {ty0 : Nat → FieldType} {fs : List Value} (hin : ∀ w ∈ u_ws C T N, w ∈ gTs) (hty : ∀ k, k < N → parseFieldDescriptor (T k).2.2.1 = some (ty0 k)) (hcl : Cond.classLink y.cls index C ∈ gTs) (hinst : Cond.instantiable C N ∈ gTs) (hini : Cond.initialized C ∈ gTs) (hc : kCl[ci]? = some (C, T, N)) (hfs : ∀ j, j < N → defaultValue (ty0 j) = vp_V fs j) (hcs : cells + 1 ≤ (k_R K).cells) (hss : slots + N ≤ (k_R K).slots) (hd : decode cc pc = .ok (.new index, 3))
    (kk : ∀ q, IG K (ws ++ [(q, .inr (ci, fs))]) (pc + 3) ls (.ref q :: st) (cells + 1) (slots + N)) : IG K ws pc ls st cells slots := by
  intro H locs hP hD hS
  refine va_new hx.1 hx.2.1 hx.2.2.2.2.1 hin ty0 hty hx.2.2.2.1 (hx.2.2.2.2.1 _ hcl) (hx.2.2.2.2.1 _ hinst) (hx.2.2.2.2.1 _ hini) hx.2.2.2.2.2.1.1 hP hD hS hx.2.2.2.2.2.2.2 hc hfs hcs hss hd (fun q H1 hP1 hD1 hS1 => ?_)
  exact kk q H1 locs hP1 hD1 hS1
/-- a constructor's contract: it is given the whole world, its object the last cell of it -/
def CTOR (l : Launch) (y : MethodName) (cc : ByteArray) (nL mc ms fr lo : Nat) (ca : Nat → ClassId) (D : va_G) (ci : Nat) (df : List Value) (post : Nat → va_W → Prop) : Prop :=
  ∀ (ws0 : va_W) (h0 sz : Nat), Met l y (.code y cc nL none :: gTs) { frames := fr, cells := mc, slots := ms, locals := lo }
    (va_Pc [.ref h0] (fun U => U.heap.size = sz ∧ va_P D kCl (ws0 ++ [(h0, .inr (ci, df))]) U.heap ∧ IK ca D U ∧ va_D (fun _ => True) (ws0 ++ [(h0, .inr (ci, df))])))
    (va_Qv (S := va_W) (post h0) (fun X t => va_P D kCl (ws0 ++ X) t.heap ∧ va_D (va_A (ws0 ++ [(h0, .inr (ci, df))]) sz) (ws0 ++ X)) (va_A (ws0 ++ [(h0, .inr (ci, df))]) sz)) mc ms (va_A (ws0 ++ [(h0, .inr (ci, df))]) sz)
def iQ (D : va_G) (ws0 : va_W) (h0 sz ci : Nat) (df : List Value) (post : Nat → va_W → Prop) (below : List Frame) (s : State) (mc ms : Nat) : State → Prop :=
  MQ below (va_Qv (S := va_W) (post h0) (fun X t => va_P D kCl (ws0 ++ X) t.heap ∧ va_D (va_A (ws0 ++ [(h0, .inr (ci, df))]) sz) (ws0 ++ X)) (va_A (ws0 ++ [(h0, .inr (ci, df))]) sz)) #[.ref h0] s mc ms (va_A (ws0 ++ [(h0, .inr (ci, df))]) sz)
theorem ctor_of {l : Launch} {mc ms fr lo : Nat} {ca : Nat → ClassId} {D : va_G} {ci : Nat} {df : List Value} {post : Nat → va_W → Prop} (hpl : plainName y.cls = true) (hy : y.name = "<init>") (hnL : 1 ≤ nL)
    (h : ∀ (p : Program) (e : Env) (s : State) (m : MethodId) (below : List Frame) (meth : Method) (c : Code) (ws0 : va_W) (h0 : Nat) (K : iK), K = (D, ca, p, l, e, { frames := fr, cells := mc, slots := ms, locals := lo }, s, m, #[.ref h0], below, meth, c, va_A (ws0 ++ [(h0, .inr (ci, df))]) s.heap.size, iQ D ws0 h0 s.heap.size ci df post below s mc ms) → IX K y cc nL →
      (∀ (X : va_W) (pc : Nat) (ls : Array Slot), post h0 X → decode cc pc = .ok (.return_, 1) → IG K (ws0 ++ X) pc ls [] mc ms) → ∀ ls, lv_has ls nL [(0, .ref h0)] → IG K (ws0 ++ [(h0, .inr (ci, df))]) 0 ls [] 0 0) : CTOR l y cc nL mc ms fr lo ca D ci df post := by
  intro ws0 h0 sz
  refine Met.ofW (cc := cc) (maxL := nL) (ret := none) hpl rfl ?_
  intro p e s m args below meth c s₁ B hml hv
  obtain ⟨rfl, hsz, hP, hK, hD0⟩ := hv
  subst hsz
  have hts := atoms_spec (ws := .code y cc nL none :: gTs) B.pre
  have hin : meth.name = "<init>" := ((name_of_methodNamed B.named B.method).1).trans hy
  have hl := lv_entry ([.ref h0]) (n := nL) (by show 1 ≤ nL; exact hnL)
  rw [lg_entry_eq]
  have hret := B.returns
  have hlocks := B.notSynchronized
  exact h p e s m below meth c ws0 h0 _ rfl ⟨B.exec, B.bytes, hml, findClass_of_methodNamed B.named, fun w hw => hts w (List.mem_cons_of_mem _ hw), hK, fun _ => hin, fun q hq => Or.inr hq⟩
    (fun X pc ls hpost hdec H locs hP1 hD1 hS1 => W.vret B.exec B.bytes hret (fun t ht hW => ⟨⟨X, rfl, hpost, by rw [ht]; exact hP1, hD1⟩, hS1.F ht⟩) hS1.2.2 hdec hlocks) _ hl s.heap [] hP hD0.self va_S.rf
theorem gTs_good {y : MethodName} {cc : ByteArray} {nL : Nat} (h : Cond.code y cc nL none ∈ gTs) : GoodIn gTs (.code y cc nL none :: gTs) := fun w hw => by
  rcases List.mem_cons.mp hw with rfl | h1
  · exact ⟨h, gG _ h⟩
  · exact ⟨h1, gG _ h1⟩
/-- what a constructor hands on -/
theorem ig_ret0 {y' : MethodName} {cc' : ByteArray} {nL' mc ms fr lo ci h0 : Nat} {df : List Value} {post : Nat → va_W → Prop} (hx : IX K y cc nL)
    (hrun : ∀ (H : Heap) (locs : List Loc), va_P (k_D K) kCl (ws0 ++ [(h0, .inr (ci, df))]) H → va_D (k_A K) (ws0 ++ [(h0, .inr (ci, df))]) → va_Run (k_p K) (k_l K) (k_e K) (k_R K) (k_s K) (k_m K) (k_a K) (k_b K) (k_t K) (k_c K) H locs cells slots mc ms (F0 (k_m K) pc ls (.ref h0 :: st)) st
      (va_Qv (S := va_W) (post h0) (fun X t => va_P (k_D K) kCl (ws0 ++ X) t.heap ∧ va_D (va_A (ws0 ++ [(h0, .inr (ci, df))]) H.size) (ws0 ++ X)) (va_A (ws0 ++ [(h0, .inr (ci, df))]) H.size) [Value.ref h0].toArray) (va_A (ws0 ++ [(h0, .inr (ci, df))]) H.size))
    (kk : ∀ X, post h0 X → IG K (ws0 ++ X) (pc + 3) ls st (cells + mc) (slots + ms)) : IG K (ws0 ++ [(h0, .inr (ci, df))]) pc ls (.ref h0 :: st) cells slots := by
  intro H locs hP hD hS
  have hFA : ∀ q : Nat, va_A (ws0 ++ [(h0, .inr (ci, df))]) H.size q → k_A K q := by
    intro q hq
    rcases hq with ⟨k, e', hk⟩ | hq
    · exact hD.2 k (q, e') hk
    · exact hx.2.2.2.2.2.2.2 q (Nat.le_trans hS.1 hq)
  refine va_callv (hrun H locs hP hD) hS (fun q _ h => hFA q h) hFA (fun X t H1 locs1 ht hvm hw hB hz1 hk1 hS1 => ?_)
  obtain ⟨hP1, hD1⟩ := hB
  rw [ht] at hP1
  exact kk X hw H1 locs1 hP1 (hD1.weaken (fun k q _ h => hFA q.1 h)) hS1
theorem ig_ctor (hx : IX K y cc nL) {y' : MethodName} {cc' : ByteArray} {nL' mc ms fr lo ci h0 index : Nat} {df : List Value} {post : Nat → va_W → Prop} (hc : CTOR (k_l K) y' cc' nL' mc ms fr lo (k_ca K) (k_D K) ci df post) (hcode : Cond.code y' cc' nL' none ∈ gTs) (hini : Cond.initialized y'.cls ∈ gTs) (hlink : Cond.methodLink y.cls index y' ∈ gTs) (hinst : Cond.instanceMethod y' ∈ gTs) (hy1 : y'.name = "<init>")
    (hy : y'.cls ≠ "java/lang/invoke/MethodHandle" ∧ y'.cls ≠ "java/lang/invoke/VarHandle" ∧ (parseMethodDescriptor y'.desc).map (fun d => d.parameters.length) = some 0) (hls : ls.size = nL) (hst : (st.map fun v => v.category).sum ≤ 8) (hfr : fr + 1 ≤ (k_R K).frames) (hlo : 8 + (nL' + 11) + lo ≤ (k_R K).locals) (hcs : cells + mc ≤ (k_R K).cells) (hss : slots + ms ≤ (k_R K).slots) (hd : decode cc pc = .ok (.invokespecial index, 3))
    (kk : ∀ X, post h0 X → IG K (ws0 ++ X) (pc + 3) ls st (cells + mc) (slots + ms)) : IG K (ws0 ++ [(h0, .inr (ci, df))]) pc ls (.ref h0 :: st) cells slots := by
  refine ig_ret0 (y' := y') (cc' := cc') (nL' := nL') (fr := fr) (lo := lo) hx (fun H locs hP hD => ?_) kk
  exact va_runI (As := []) (rest := st) ⟨hx.1, hx.2.1, hx.2.2.1, hx.2.2.2.1, hx.2.2.2.2.1⟩ (hc ws0 h0 H.size) (cwI 0 hx.2.2.2.2.1 (gTs_good hcode) rfl rfl rfl (hx.2.2.2.2.1 _ hini) (hx.2.2.2.2.1 _ hlink) (hx.2.2.2.2.1 _ hinst) hy1 hy ⟨hfr, hlo⟩)
    ⟨fun a U g mk q => by obtain ⟨q0, q1, qP, qK, qD⟩ := q; exact ⟨q0, q1, qP, IK.warm (u := U) (U := U.calling g mk a) (State.WarmedH.refl U) qK, qD⟩, fun U hU hW => ⟨rfl, by rw [hU], by rw [hU]; exact hP, IK.warm hW hx.2.2.2.2.2.1, hD.weaken (fun _ _ _ _ => trivial)⟩⟩ rfl rfl hls rfl (lv_room hst) hd ⟨hcs, hss⟩
theorem ig_ctorN (hx : IX K y cc nL) {y' : MethodName} {cc' : ByteArray} {nL' mc ms fr lo ci h0 index : Nat} {host : String} {df : List Value} {post : Nat → va_W → Prop} (hc : CTOR (k_l K) y' cc' nL' mc ms fr lo (k_ca K) (k_D K) ci df post) (hcode : Cond.code y' cc' nL' none ∈ gTs) (hini : Cond.initialized y'.cls ∈ gTs) (hlink : va_Nw (.methodLinkNest y.cls index y' host) (k_s K)) (hinst : Cond.instanceMethod y' ∈ gTs) (hy1 : y'.name = "<init>")
    (hy : y'.cls ≠ "java/lang/invoke/MethodHandle" ∧ y'.cls ≠ "java/lang/invoke/VarHandle" ∧ (parseMethodDescriptor y'.desc).map (fun d => d.parameters.length) = some 0) (hls : ls.size = nL) (hst : (st.map fun v => v.category).sum ≤ 8) (hfr : fr + 1 ≤ (k_R K).frames) (hlo : 8 + (nL' + 11) + lo ≤ (k_R K).locals) (hcs : cells + mc ≤ (k_R K).cells) (hss : slots + ms ≤ (k_R K).slots) (hd : decode cc pc = .ok (.invokespecial index, 3))
    (kk : ∀ X, post h0 X → IG K (ws0 ++ X) (pc + 3) ls st (cells + mc) (slots + ms)) : IG K (ws0 ++ [(h0, .inr (ci, df))]) pc ls (.ref h0 :: st) cells slots := by
  refine ig_ret0 (y' := y') (cc' := cc') (nL' := nL') (fr := fr) (lo := lo) hx (fun H locs hP hD => ?_) kk
  exact va_runIN (As := []) (rest := st) ⟨hx.1, hx.2.1, hx.2.2.1, hx.2.2.2.1, hx.2.2.2.2.1⟩ (hc ws0 h0 H.size) ⟨va_cnB 0 hx.2.2.2.2.1 (gTs_good hcode) rfl rfl rfl hlink (hx.2.2.2.2.1 _ hini) hy ⟨hfr, hlo⟩, hy1, hx.2.2.2.2.1 _ hinst⟩
    ⟨fun a U g mk q => by obtain ⟨q0, q1, qP, qK, qD⟩ := q; exact ⟨q0, q1, qP, IK.warm (u := U) (U := U.calling g mk a) (State.WarmedH.refl U) qK, qD⟩, fun U hU hW => ⟨rfl, by rw [hU], by rw [hU]; exact hP, IK.warm hW hx.2.2.2.2.2.1, hD.weaken (fun _ _ _ _ => trivial)⟩⟩ rfl rfl hls rfl (lv_room hst) hd ⟨hcs, hss⟩
end INI
