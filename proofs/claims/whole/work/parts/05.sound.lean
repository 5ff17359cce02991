/-! What the abstract machine says of a method is its contract. -/
def qq_ws (Z : qZ) (mj : Nat) : List Cond := .code (z_y Z mj) (z_bc Z mj) (z_mx Z mj) (z_rt Z mj) :: z_Ts Z
def qq_rm (Z : qZ) (mj : Nat) : Room := { frames := z_fr Z mj, cells := 0, slots := 0, locals := z_lo Z mj }
def qq_Pc (Z : qZ) (vs : List Value) (M : qM) (sz : Nat) : Array Value → State → Prop :=
  va_Pc (vs.map (qv (z_a Z))) (fun U => U.heap.size = sz ∧ va_P (z_D Z) (z_cl Z) (qw Z M) U.heap ∧ va_K (z_D Z) (z_cl Z) (z_ty Z) U ∧ va_D (fun _ => True) (qw Z M) ∧ z_St Z (va_A (qw Z M) sz) U U.heap)
def qq_Q (Z : qZ) (post : qR) (A : Nat → Prop) : Array Value → State → Outcome → State → Prop := fun _ st oc t =>
  (∃ (r : Option Value) (M : qM), oc = .returned (r.map (qv (z_a Z))) ∧ post r M ∧ va_P (z_D Z) (z_cl Z) (qw Z M) t.heap ∧ va_K (z_D Z) (z_cl Z) (z_ty Z) t ∧ va_D A (qw Z M)) ∧ va_F A st t
def qq_X (Z : qZ) : qX := fun mi pc loc st M post =>
  ∀ (p : Program) (e : Env) (R : Room) (s : State) (m : MethodId) (args : Array Value) (below : List Frame) (meth : Method) (c : Code) (A : Nat → Prop) (cells slots : Nat),
    qq_Cx Z mi p R s m args meth c A cells slots → qq_G Z mi p e R s m args below meth c A cells slots (MQ below (qq_Q Z post A) args s cells slots A) pc loc st M
/-- a call: the callee's contract is enough for it -/
def qq_SC (Z : qZ) (mi pc mj n : Nat) (rc : Option Nat) : Prop :=
  ∀ (p : Program) (e : Env) (R : Room) (s : State) (m : MethodId) (args : Array Value) (below : List Frame) (meth : Method) (c : Code) (A : Nat → Prop) (cells slots : Nat), qq_Cx Z mi p R s m args meth c A cells slots →
  ∀ (H : Heap) (locs : List Loc) (ls : Array Slot) (M : qM) (Pc : Array Value → State → Prop) (Qc : Array Value → State → Outcome → State → Prop) (free : Addr → Prop), Met (z_l Z) (z_y Z mj) (qq_ws Z mj) (qq_rm Z mj) Pc Qc 0 0 free →
  ∀ vs rest : List Value, vs.length = n → ls.size = z_mx Z mi → (rest.map fun v => v.category).sum ≤ 8 → qq_rcv (z_lay Z) rc vs → va_P (z_D Z) (z_cl Z) (qw Z M) H → FrameBlind Pc →
    (∀ U : State, U.heap = H → s.WarmedH U.vm → Pc (vs.map (qv (z_a Z))).toArray U) →
    va_Run p (z_l Z) e R s m args below meth c H locs cells slots 0 0 (F0 m pc ls ((vs.map (qv (z_a Z))).reverse ++ rest.map (qv (z_a Z)))) (rest.map (qv (z_a Z))) (Qc (vs.map (qv (z_a Z))).toArray) free
def qq_SR (Z : qZ) (mi pc b : Nat) : Prop :=
  (b = 0 ∧ decode (z_bc Z mi) pc = .ok (.return_, 1) ∧ z_rt Z mi = none) ∨ (b = 1 ∧ decode (z_bc Z mi) pc = .ok (.ireturn, 1) ∧ z_rt Z mi = some .int) ∨ (b = 2 ∧ decode (z_bc Z mi) pc = .ok (.ireturn, 1) ∧ z_rt Z mi = some .boolean)
theorem qq_Qmono {Z : qZ} {p p' : qR} {A : Nat → Prop} {av : Array Value} {st : State} {o : Outcome} {t : State} (hp : ∀ r M, p r M → p' r M) (h : qq_Q Z p A av st o t) : qq_Q Z p' A av st o t := by
  obtain ⟨⟨r, M, h1, h2, h3⟩, h4⟩ := h
  exact ⟨⟨r, M, h1, hp r M h2, h3⟩, h4⟩
theorem qq_met {Z : qZ} {mj : Nat} {vs : List Value} {M : qM} {post : qR} {sz : Nat} (hX : qq_X Z mj 0 (qq_ent (z_mx Z) mj vs) [] M post) (hpl : plainName (z_y Z mj).cls = true) (hc : ∀ v ∈ vs, v.category = 1) (hn : vs.length ≤ z_mx Z mj) :
    Met (z_l Z) (z_y Z mj) (qq_ws Z mj) (qq_rm Z mj) (qq_Pc Z vs M sz) (qq_Q Z post (va_A (qw Z M) sz)) 0 0 (va_A (qw Z M) sz) := by
  refine Met.ofW (cc := z_bc Z mj) (maxL := z_mx Z mj) (ret := z_rt Z mj) hpl rfl ?_
  intro p e s m args below meth c s₁ B hml hv
  obtain ⟨rfl, hsz, hP, hK, hD0, hSt⟩ := hv
  subst hsz
  have hts := atoms_spec (ws := qq_ws Z mj) B.pre
  obtain ⟨ls, hls, hl⟩ := qv_entry (a := z_a Z) (mx := z_mx Z) (mj := mj) hn rfl hc
  rw [lg_entry_eq, hls]
  exact hX p e _ s m _ below meth c _ 0 0 ⟨B.exec, B.bytes, hml, findClass_of_methodNamed B.named, fun w hw => hts w (List.mem_cons_of_mem _ hw), hK, fun q h => Or.inr h, hSt, ⟨Nat.le_refl _, Nat.le_refl _⟩, B.returns, B.notSynchronized, ⟨Nat.zero_le _, Nat.zero_le _⟩⟩ s.heap [] ls hl hP hD0.self va_S.rf
theorem qq_callW {Z : qZ} {p : Program} {l : Launch} {e : Env} {R : Room} {s : State} {m : MethodId} {args : Array Value} {below : List Frame} {meth : Method} {c : Code} {H : Heap} {locs : List Loc} {cells slots : Nat} {Q : State → Prop} {pc : Nat} {ls : Array Slot} {rest st0 : List Value} {av : Array Value} {A A1 : Nat → Prop} {H0 : Heap} {free : Addr → Prop} {post : qR}
    (hr : va_Run p l e R s m args below meth c H locs cells slots 0 0 (F0 m pc ls st0) rest (qq_Q Z post A1 av) free) (hS : va_S A H0 H locs) (hA : ∀ q : Nat, A1 q → A q) (hf : ∀ q : Nat, free q → A q)
    (kk : ∀ (r : Option Value) (M1 : qM) (H1 : Heap) (locs1 : List Loc), post r M1 → va_P (z_D Z) (z_cl Z) (qw Z M1) H1 → va_D A1 (qw Z M1) → va_S A H0 H1 locs1 → W p l e R s m args below meth c H1 locs1 cells slots Q (F0 m (pc + 3) ls ((r.map (qv (z_a Z))).toList ++ rest))) :
    W p l e R s m args below meth c H locs cells slots Q (F0 m pc ls st0) := by
  intro T hT X
  obtain ⟨v, st₀, t, T', L, h0, X', hL, e1, e2, ⟨⟨r, M1, hv, hp, hPt, hKt, hDt⟩, hz, hk⟩, st⟩ := hr T hT X
  cases hv
  rw [h0] at hz hk
  obtain ⟨t2, a1, b1⟩ := kk r M1 T'.heap (locs ++ L) hp (by rw [e1]; exact hPt) hDt
    ⟨Nat.le_trans hS.1 (by rw [e1]; exact hz), fun q h1 h2 => by rw [e1, hk q (Nat.lt_of_lt_of_le h1 hS.1) (fun z => h2 (hA q z))]; exact hS.2.1 q h1 h2, fun q hq => by
      rcases List.mem_append.mp hq with h | h
      · exact hS.2.2 q h
      · exact hf _ (hL q h)⟩ T' rfl X'
  exact ⟨t2, st t2 a1, b1⟩
theorem qq_ret_sound {Z : qZ} {mi pc b : Nat} {loc : List (Option Value)} {st : List Value} {M : qM} {post : qR} (hb : qq_SR Z mi pc b) (h : qq_ret b st M post) : qq_X Z mi pc loc st M post := by
  intro p e R s m args below meth c A cells slots cx H locs ls hl hP hD hS
  have hK := cx.2.2.2.2.2.1
  have hlocks : meth.locks = false := cx.2.2.2.2.2.2.2.2.2.2.1
  have hr := cx.2.2.2.2.2.2.2.2.2.1
  unfold qq_ret at h
  split at h
  · obtain ⟨hb0, hp⟩ := h
    rcases hb with ⟨-, hd, ht⟩ | ⟨h1, -⟩ | ⟨h1, -⟩
    · exact W.vret cx.1 cx.2.1 (hr.trans ht) (fun t ht hW => ⟨⟨none, M, rfl, hp, by rw [ht]; exact hP, va_K.moved hW.alike hK, hD⟩, hS.F ht⟩) hS.2.2 hd hlocks
    · omega
    · omega
  · rename_i v
    obtain ⟨hv, hp⟩ := h
    rcases hb with ⟨h1, -⟩ | ⟨h1, hd, ht⟩ | ⟨h1, hd, ht⟩
    · omega
    · exact W.iret (v := v) cx.1 cx.2.1 (hr.trans ht) (fun t ht hW => ⟨⟨some (.int v), M, rfl, hp, by rw [ht]; exact hP, va_K.moved hW.alike hK, hD⟩, hS.F ht⟩) hS.2.2 hd hlocks
    · have hv2 : v = 0 ∨ v = 1 := by
        rcases hv with h2 | ⟨-, h2⟩
        · omega
        · exact h2
      have hn : narrow .boolean (.int v) = .int v := by rcases hv2 with rfl | rfl <;> rfl
      exact W.zret (v := v) cx.1 cx.2.1 (hr.trans ht) hn (fun t ht hW => ⟨⟨some (.int v), M, rfl, hp, by rw [ht]; exact hP, va_K.moved hW.alike hK, hD⟩, hS.F ht⟩) hS.2.2 hd hlocks
  · exact h.elim
theorem qq_closed {Z : qZ} {P : qP} (hOK : qq_OK Z) (hO : ∀ mi pc op, P mi pc = some (.inl op) → qq_Mon op ∧ qq_Snd Z mi pc op) (hC : ∀ mi pc mj n rc, P mi pc = some (.inr (.inl (mj, n, rc))) → qq_SC Z mi pc mj n rc ∧ n ≤ z_mx Z mj)
    (hR : ∀ mi pc b, P mi pc = some (.inr (.inr b)) → qq_SR Z mi pc b) (hY : ∀ mj, plainName (z_y Z mj).cls = true) : qq_cl (z_lay Z) (z_mx Z) P (qq_X Z) := by
  refine ⟨fun mi pc loc st M p1 p2 hp h => ?_, fun mi pc loc st M post h => ?_⟩
  · intro p e R s m args below meth c A cells slots cx H locs ls hl hP hD hS T hT X
    obtain ⟨t, a1, o, b1, b2, b3, b4⟩ := h p e R s m args below meth c A cells slots cx H locs ls hl hP hD hS T hT X
    exact ⟨t, a1, o, b1, b2, qq_Qmono hp b3, b4⟩
  · unfold qq_stp at h
    split at h
    · exact h.elim
    · rename_i op hop
      intro p e R s m args below meth c A cells slots cx
      obtain ⟨hm, hs⟩ := hO mi pc op hop
      exact hs p e R s m args below meth c A cells slots _ loc st M cx (hm _ _ _ _ _ _ (fun _ _ _ _ k => k p e R s m args below meth c A cells slots cx) h)
    · rename_i cc hcc
      obtain ⟨mj, n, rc⟩ := cc
      obtain ⟨vs, rest, rfl, hn, hcat, hsum, hrcv, hX⟩ := h
      dsimp only at hn hrcv hX
      intro p e R s m args below meth c A cells slots cx H locs ls hl hP hD hS
      obtain ⟨hsc, hmx⟩ := hC mi pc mj n rc hcc
      have hFA : ∀ q : Nat, va_A (qw Z M) H.size q → A q := by
        intro q hq
        rcases hq with ⟨k, e', hk⟩ | hq
        · exact hD.2 k (q, e') hk
        · exact cx.2.2.2.2.2.2.1 q (Nat.le_trans hS.1 hq)
      have hM := qq_met (sz := H.size) hX (hY mj) hcat (by rw [hn]; exact hmx)
      have hrun := hsc p e R s m args below meth c A cells slots cx H locs ls M _ _ _ hM vs rest hn hl.1 hsum hrcv hP
        (fun av U g mk q => by
          obtain ⟨q0, q1, qP, qK, qD, qS⟩ := q
          exact ⟨q0, q1, qP, va_K.moved (u := U) (U := U.calling g mk av) (Vm.Alike.refl U.vm) qK, qD, hOK.2.2.2.2.2.1 _ U (U.calling g mk av) _ (State.WarmedH.refl U) qS⟩)
        (fun U hU hW => ⟨rfl, by rw [hU], by rw [hU]; exact hP, va_K.moved hW.alike cx.2.2.2.2.2.1, hD.weaken (fun _ _ _ _ => trivial), by
          rw [hU]
          exact hOK.2.2.2.2.2.2.2.1 _ _ _ _ (hOK.2.2.2.2.2.1 _ s U _ hW (hOK.2.2.2.2.2.2.1 _ _ _ _ cx.2.2.2.2.2.2.2.1 hS.2.1)) hFA⟩)
      rw [List.map_append, List.map_reverse]
      refine qq_callW hrun hS hFA hFA (fun r M1 H1 locs1 hp hP1 hD1 hS1 => ?_)
      have hgo := hp p e R s m args below meth c A cells slots cx H1 locs1 ls hl hP1 (hD1.weaken (fun k q _ h => hFA q.1 h)) hS1
      have he : (r.toList ++ rest).map (qv (z_a Z)) = (r.map (qv (z_a Z))).toList ++ rest.map (qv (z_a Z)) := by cases r <;> simp
      rw [he] at hgo
      exact hgo
    · rename_i b hb
      exact qq_ret_sound (hR mi pc b hb) h
/-- what is run is so -/
theorem qq_sound {Z : qZ} {P : qP} (hOK : qq_OK Z) (hO : ∀ mi pc op, P mi pc = some (.inl op) → qq_Mon op ∧ qq_Snd Z mi pc op) (hC : ∀ mi pc mj n rc, P mi pc = some (.inr (.inl (mj, n, rc))) → qq_SC Z mi pc mj n rc ∧ n ≤ z_mx Z mj)
    (hR : ∀ mi pc b, P mi pc = some (.inr (.inr b)) → qq_SR Z mi pc b) (hY : ∀ mj, plainName (z_y Z mj).cls = true) {mi pc : Nat} {loc : List (Option Value)} {st : List Value} {M : qM} {post : qR} (h : qq_Ev (z_lay Z) (z_mx Z) P mi pc loc st M post) : qq_X Z mi pc loc st M post :=
  h _ (qq_closed hOK hO hC hR hY)
/-! calls, by their kind -/
section QCALLS
variable {Z : qZ} {mi pc mj : Nat}
theorem qq_good {L : List Cond} (hG : ∀ w ∈ z_Ts Z, (w.onTables && w.keeps) = true ∨ ∃ ty, w = .arrayClass ty) (h : ∀ w ∈ L, w ∈ z_Ts Z) : GoodIn (z_Ts Z) L := fun w hw => ⟨h w hw, hG w (h w hw)⟩
theorem qq_ws_in (hcode : Cond.code (z_y Z mj) (z_bc Z mj) (z_mx Z mj) (z_rt Z mj) ∈ z_Ts Z) : ∀ w ∈ qq_ws Z mj, w ∈ z_Ts Z := by
  intro w hw
  rcases List.mem_cons.mp hw with rfl | h
  · exact hcode
  · exact h
/-- a static method, of any class -/
theorem qs_callS {index n : Nat} (hd : decode (z_bc Z mi) pc = .ok (.invokestatic index, 3)) (hG : ∀ w ∈ z_Ts Z, (w.onTables && w.keeps) = true ∨ ∃ ty, w = .arrayClass ty) (hcode : Cond.code (z_y Z mj) (z_bc Z mj) (z_mx Z mj) (z_rt Z mj) ∈ z_Ts Z)
    (hl0 : Cond.methodLink (z_y Z mi).cls index (z_y Z mj) ∈ z_Ts Z) (hst : Cond.static (z_y Z mj) ∈ z_Ts Z) (hini : Cond.initialized (z_y Z mj).cls ∈ z_Ts Z)
    (hy : (z_y Z mj).cls ≠ "java/lang/invoke/MethodHandle" ∧ (z_y Z mj).cls ≠ "java/lang/invoke/VarHandle" ∧ (parseMethodDescriptor (z_y Z mj).desc).map (fun d => d.parameters.length) = some n) (hf : z_fr Z mj + 1 ≤ z_fr Z mi) (hlo : 8 + (z_mx Z mj + 11) + z_lo Z mj ≤ z_lo Z mi) : qq_SC Z mi pc mj n none := by
  intro p e R s m args below meth c A cells slots cx H locs ls M Pc Qc free hM vs rest hn hsz hsum hrcv hP hbl hpre
  have hR := cx.2.2.2.2.2.2.2.2.1
  have hcs := cx.2.2.2.2.2.2.2.2.2.2.2
  have hGI : GoodIn (z_Ts Z) (va_wsS (z_y Z mi).cls index (z_y Z mj) (qq_ws Z mj)) := qq_good hG (by
    intro w hw
    rcases List.mem_append.mp hw with h | h
    · rcases List.mem_cons.mp h with rfl | h
      · exact hl0
      · rcases List.mem_cons.mp h with rfl | h
        · exact hst
        · rcases List.mem_cons.mp h with rfl | h
          · exact hini
          · cases h
    · exact qq_ws_in hcode w h)
  exact va_runS (As := vs.map (qv (z_a Z))) (rest := rest.map (qv (z_a Z))) ⟨cx.1, cx.2.1, cx.2.2.1, cx.2.2.2.1, cx.2.2.2.2.1⟩ hM (va_cwS n cx.2.2.2.2.1 hGI rfl rfl rfl hy ⟨Nat.le_trans hf hR.1, Nat.le_trans hlo hR.2⟩) ⟨hbl, hpre⟩ rfl (by rw [List.length_map]; exact hn) hsz rfl (lv_room (by rw [qv_cats]; exact hsum)) hd ⟨hcs.1, hcs.2⟩
/-- a private static method of a nest mate -/
theorem qs_callSN {index n : Nat} {host : String} (hd : decode (z_bc Z mi) pc = .ok (.invokestatic index, 3)) (hG : ∀ w ∈ z_Ts Z, (w.onTables && w.keeps) = true ∨ ∃ ty, w = .arrayClass ty) (hcode : Cond.code (z_y Z mj) (z_bc Z mj) (z_mx Z mj) (z_rt Z mj) ∈ z_Ts Z)
    (hN : ∀ A U H, z_St Z A U H → va_Nw (.methodLinkNest (z_y Z mi).cls index (z_y Z mj) host) U) (hst : Cond.static (z_y Z mj) ∈ z_Ts Z) (hini : Cond.initialized (z_y Z mj).cls ∈ z_Ts Z)
    (hy : (z_y Z mj).cls ≠ "java/lang/invoke/MethodHandle" ∧ (z_y Z mj).cls ≠ "java/lang/invoke/VarHandle" ∧ (parseMethodDescriptor (z_y Z mj).desc).map (fun d => d.parameters.length) = some n) (hf : z_fr Z mj + 1 ≤ z_fr Z mi) (hlo : 8 + (z_mx Z mj + 11) + z_lo Z mj ≤ z_lo Z mi) : qq_SC Z mi pc mj n none := by
  intro p e R s m args below meth c A cells slots cx H locs ls M Pc Qc free hM vs rest hn hsz hsum hrcv hP hbl hpre
  have hR := cx.2.2.2.2.2.2.2.2.1
  have hcs := cx.2.2.2.2.2.2.2.2.2.2.2
  exact va_runSN (As := vs.map (qv (z_a Z))) (rest := rest.map (qv (z_a Z))) ⟨cx.1, cx.2.1, cx.2.2.1, cx.2.2.2.1, cx.2.2.2.2.1⟩ hM
    ⟨va_cnB n cx.2.2.2.2.1 (qq_good hG (qq_ws_in hcode)) rfl rfl rfl (hN _ _ _ cx.2.2.2.2.2.2.2.1) (cx.2.2.2.2.1 _ hini) hy ⟨Nat.le_trans hf hR.1, Nat.le_trans hlo hR.2⟩, cx.2.2.2.2.1 _ hst, trivial⟩ ⟨hbl, hpre⟩ rfl (by rw [List.length_map]; exact hn) hsz rfl (lv_room (by rw [qv_cats]; exact hsum)) hd ⟨hcs.1, hcs.2⟩
/-- a method of an object whose class is known -/
theorem qs_callV {index n ci : Nat} {C : String} {T : u_T} {nn : Nat} (hd : decode (z_bc Z mi) pc = .ok (.invokevirtual index, 3)) (hOK : qq_OK Z) (hG : ∀ w ∈ z_Ts Z, (w.onTables && w.keeps) = true ∨ ∃ ty, w = .arrayClass ty) (hcode : Cond.code (z_y Z mj) (z_bc Z mj) (z_mx Z mj) (z_rt Z mj) ∈ z_Ts Z) (hcl : (z_cl Z)[ci]? = some (C, T, nn))
    (hl0 : Cond.methodLink (z_y Z mi).cls index (z_y Z mj) ∈ z_Ts Z) (hst : Cond.instanceMethod (z_y Z mj) ∈ z_Ts Z) (hse : Cond.selects C (z_y Z mj) (z_y Z mj) ∈ z_Ts Z) (hini : Cond.initialized C ∈ z_Ts Z)
    (hy : (z_y Z mj).cls = C ∧ (z_y Z mj).cls ≠ "java/lang/invoke/MethodHandle" ∧ (z_y Z mj).cls ≠ "java/lang/invoke/VarHandle" ∧ (parseMethodDescriptor (z_y Z mj).desc).map (fun d => d.parameters.length) = some n) (hf : z_fr Z mj + 1 ≤ z_fr Z mi) (hlo : 8 + (z_mx Z mj + 11) + z_lo Z mj ≤ z_lo Z mi) : qq_SC Z mi pc mj (n + 1) (some ci) := by
  intro p e R s m args below meth c A cells slots cx H locs ls M Pc Qc free hM vs rest hn hsz hsum hrcv hP hbl hpre
  have hR := cx.2.2.2.2.2.2.2.2.1
  have hcs := cx.2.2.2.2.2.2.2.2.2.2.2
  have hGI : GoodIn (z_Ts Z) (wsV (z_y Z mi).cls index C (z_y Z mj) (qq_ws Z mj)) := qq_good hG (by
    intro w hw
    rcases List.mem_append.mp hw with h | h
    · rcases List.mem_cons.mp h with rfl | h
      · exact hl0
      · rcases List.mem_cons.mp h with rfl | h
        · exact hst
        · rcases List.mem_cons.mp h with rfl | h
          · exact hse
          · rcases List.mem_cons.mp h with rfl | h
            · exact hini
            · cases h
    · exact qq_ws_in hcode w h)
  unfold qq_rcv at hrcv
  dsimp only at hrcv
  split at hrcv
  · rename_i q vt
    split at hrcv
    · rename_i x hx
      subst hrcv
      have hN : q < z_N Z := hOK.1 q (by rw [hx]; trivial)
      have he : (qw Z M)[q]? = some (z_a Z q, .inr (x.1, qv_F (z_a Z) (M q) x.2 0)) := by rw [qw_at M hN, hx]; rfl
      have hrc := va_recv cx.2.2.2.2.2.1 hP hcl he
      have hst0 : ((Value.ref q :: vt).map (qv (z_a Z))).reverse ++ rest.map (qv (z_a Z)) = (vt.map (qv (z_a Z))).reverse ++ Value.ref (z_a Z q) :: rest.map (qv (z_a Z)) := by
        rw [List.map_cons, List.reverse_cons, List.append_assoc]
        rfl
      rw [hst0]
      exact va_runV (C := C) (As := vt.map (qv (z_a Z))) (rest := rest.map (qv (z_a Z))) ⟨cx.1, cx.2.1, cx.2.2.1, cx.2.2.2.1, cx.2.2.2.2.1⟩ hM (cwV n cx.2.2.2.2.1 hGI rfl rfl rfl hy ⟨Nat.le_trans hf hR.1, Nat.le_trans hlo hR.2⟩) ⟨hbl, hrc, hpre⟩ rfl (by rw [List.length_map]; simpa using hn) hsz rfl (lv_room (by rw [qv_cats]; exact hsum)) hd ⟨hcs.1, hcs.2⟩
    · exact hrcv.elim
  · exact hrcv.elim
/-- a private method of an object of a nest mate's (or the own) class -/
theorem qs_callVN {index n ci : Nat} {C host : String} {T : u_T} {nn : Nat} (hd : decode (z_bc Z mi) pc = .ok (.invokevirtual index, 3)) (hOK : qq_OK Z) (hG : ∀ w ∈ z_Ts Z, (w.onTables && w.keeps) = true ∨ ∃ ty, w = .arrayClass ty) (hcode : Cond.code (z_y Z mj) (z_bc Z mj) (z_mx Z mj) (z_rt Z mj) ∈ z_Ts Z) (hcl : (z_cl Z)[ci]? = some (C, T, nn))
    (hl0 : Cond.methodLinkNest (z_y Z mi).cls index (z_y Z mj) host ∈ z_Ts Z) (hst : Cond.instanceMethod (z_y Z mj) ∈ z_Ts Z) (hse : Cond.selects C (z_y Z mj) (z_y Z mj) ∈ z_Ts Z) (hini : Cond.initialized (z_y Z mj).cls ∈ z_Ts Z)
    (hy : (z_y Z mj).cls ≠ "java/lang/invoke/MethodHandle" ∧ (z_y Z mj).cls ≠ "java/lang/invoke/VarHandle" ∧ (parseMethodDescriptor (z_y Z mj).desc).map (fun d => d.parameters.length) = some n) (hf : z_fr Z mj + 1 ≤ z_fr Z mi) (hlo : 8 + (z_mx Z mj + 11) + z_lo Z mj ≤ z_lo Z mi) : qq_SC Z mi pc mj (n + 1) (some ci) := by
  intro p e R s m args below meth c A cells slots cx H locs ls M Pc Qc free hM vs rest hn hsz hsum hrcv hP hbl hpre
  have hR := cx.2.2.2.2.2.2.2.2.1
  have hcs := cx.2.2.2.2.2.2.2.2.2.2.2
  unfold qq_rcv at hrcv
  dsimp only at hrcv
  split at hrcv
  · rename_i q vt
    split at hrcv
    · rename_i x hx
      subst hrcv
      have hN : q < z_N Z := hOK.1 q (by rw [hx]; trivial)
      have he : (qw Z M)[q]? = some (z_a Z q, .inr (x.1, qv_F (z_a Z) (M q) x.2 0)) := by rw [qw_at M hN, hx]; rfl
      have hrc := va_recv cx.2.2.2.2.2.1 hP hcl he
      have hst0 : ((Value.ref q :: vt).map (qv (z_a Z))).reverse ++ rest.map (qv (z_a Z)) = (vt.map (qv (z_a Z))).reverse ++ Value.ref (z_a Z q) :: rest.map (qv (z_a Z)) := by
        rw [List.map_cons, List.reverse_cons, List.append_assoc]
        rfl
      rw [hst0]
      exact va_runVN (C := C) (As := vt.map (qv (z_a Z))) (rest := rest.map (qv (z_a Z))) ⟨cx.1, cx.2.1, cx.2.2.1, cx.2.2.2.1, cx.2.2.2.2.1⟩ hM
        ⟨va_cnB n cx.2.2.2.2.1 (qq_good hG (qq_ws_in hcode)) rfl rfl rfl (va_Nw.of rfl (cx.2.2.2.2.1 _ hl0)) (cx.2.2.2.2.1 _ hini) hy ⟨Nat.le_trans hf hR.1, Nat.le_trans hlo hR.2⟩, cx.2.2.2.2.1 _ hst, cx.2.2.2.2.1 _ hse⟩ ⟨hbl, hrc, hpre⟩ rfl (by rw [List.length_map]; simpa using hn) hsz rfl (lv_room (by rw [qv_cats]; exact hsum)) hd ⟨hcs.1, hcs.2⟩
    · exact hrcv.elim
  · exact hrcv.elim
end QCALLS
