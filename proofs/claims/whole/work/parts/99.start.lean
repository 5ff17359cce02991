/-! THE CLAIM OUT OF ONE WALK OF THE LAW'S BODY. Your part is whole_start (and what it stands on); all else here is the same for every law, but numbers. -/
def R_law : String := "BoardDeskLaw"
def lw_P (b : Addr) (xs : List Int32) (args : Array Value) (s : State) : Prop := args = #[.ref b] ∧ s.IntsAt b xs ∧ xs.length ≤ 2560 ∧ (Jvm.Cond.and given_1 narrow_1).before args s = true
def lw_Q (_ : Array Value) (s : State) (o : Outcome) (t : State) : Prop := o = .returned (some (.int 1)) ∧ Framed s o t [] 600000 7302250
def lw_Z (below : List Frame) (a : Array Value) (s : State) : State → Prop := fun t => ∃ o, t.status = .running ∧ Ended t below o ∧ lw_Q a s o t
/-- the law's own end, with 1 on the stack, nothing written that was there before, its room as the claim has it -/
theorem lw_ret {p : Program} {l : Launch} {e : Env} {s : State} {m : MethodId} {below : List Frame} {meth : Method} {c : Code} {b : Nat} (hx : p.tables.exec = Jvm.exec) (hb : c.code = code) (hr : meth.sig.returnType = ret) (hlocks : meth.locks = false) {pc : Nat} {H : Heap} {ls : Array Slot} (hdg : decode code pc = .ok (.ireturn, 1)) : W p l e room_1 s m #[Value.ref b] below meth c H [] 600000 7302250 (lw_Z below #[Value.ref b] s) (F0 m pc ls [.int 1]) := by
  intro T hT X
  obtain ⟨fs, hret, hrun, hended, hW, hframe⟩ := X.leave (v := some (.int 1)) (hlocks := hlocks) (fun h => by rw [hr] at h; cases h)
  have hmeth' : T.vm.method? m = some meth := X.method'
  refine ⟨T.setFrames fs, ?_, .returned (some (.int 1)), hrun, hended, rfl, ⟨_, rfl⟩, hW, hframe⟩
  jvm_step X.here [X.here.top, hx, hb, hdg, hmeth', hr, ret, narrow_b1]
  (try refine ⟨rfl, ?_⟩); (try refine ⟨rfl, ?_⟩)
  first | (intro acts; rw [hret _ acts rfl rfl rfl]) | rw [hret _ _ rfl rfl rfl]
  exact Steps.refl _
/-- what holds at the law's entry: the machine, the code, the tables' words (any of lw_tbl by 'hts w (by decide +kernel)'), the script of L ints xs at the cell b, what the Statement gives of the start (any of its parts by flat_of_before) -/
def lw_At (p : Program) (s : State) (m : MethodId) (meth : Method) (c : Code) (b L : Nat) (xs : Nat → Int32) : Prop :=
  p.tables.exec = Jvm.exec ∧ c.code = code ∧ meth.sig.returnType = ret ∧ c.maxLocals = 4 ∧ s.vm.findClass R_law = some m.cls ∧ (∀ w ∈ lw_tbl, w.before #[Value.ref b] s = true) ∧ va_X b L xs s s.heap ∧ b < s.heap.size ∧ meth.locks = false ∧ (Jvm.Cond.and given_1 narrow_1).before #[Value.ref b] s = true
theorem dl_0 : decode code 0 = .ok (.new 7, 3) := by decide +kernel
theorem dl_3 : decode code 3 = .ok (.dup, 1) := by decide +kernel
theorem dl_4 : decode code 4 = .ok (.invokespecial 9, 3) := by decide +kernel
theorem dl_7 : decode code 7 = .ok (.astore_n 1, 1) := by decide +kernel
theorem dl_8 : decode code 8 = .ok (.new 10, 3) := by decide +kernel
theorem dl_11 : decode code 11 = .ok (.dup, 1) := by decide +kernel
theorem dl_12 : decode code 12 = .ok (.invokespecial 12, 3) := by decide +kernel
theorem dl_15 : decode code 15 = .ok (.astore_n 2, 1) := by decide +kernel
/-- what the machine leaves is what the claim asks -/
theorem lw_end {Z : qZ} {below : List Frame} {b : Nat} {s : State} {cells slots : Nat} (hc : cells ≤ 600000) (hs : slots ≤ 7302250) {t : State} (h : MQ below (qq_Q Z (fun r _ => r = some (.int 1)) (fun q => s.heap.size ≤ q)) #[Value.ref b] s cells slots (fun q => s.heap.size ≤ q) t) : lw_Z below #[Value.ref b] s t := by
  obtain ⟨o, h1, h2, ⟨⟨r, M, rfl, rfl, -, -, -⟩, -⟩, L, ⟨hv, hW, hsame⟩, hL⟩ := h
  exact ⟨_, h1, h2, rfl, hv, hW, (State.sameButNew.drop_fresh (L := []) (J := L) hsame hL).mono hc hs⟩
/-- from the entry, for every script of at most 2560 ints, the law comes to its end with true -/
theorem whole_start {p : Program} {e : Env} {s : State} {m : MethodId} {below : List Frame} {meth : Method} {c : Code} (l : Launch) {b L : Nat} {xs : Nat → Int32} (hL : L ≤ 2560) (C0 : lw_At p s m meth c b L xs) : W p l e room_1 s m #[Value.ref b] below meth c s.heap [] 0 0 (lw_Z below #[Value.ref b] s) (entryFrame m ([Value.ref b] : List Value).toArray 4) := by
  obtain ⟨hx1, hc, hr, hml, hown, hts, hX, hb, hlocks, hgv⟩ := C0
  obtain ⟨ca, D, hIK⟩ := start_K hts
  obtain ⟨tR, tD, tC, hST⟩ := start_T hts hgv hL hX hb
  have hl := lv_entry ([.ref b]) (n := 4) (Nat.le_of_ble_eq_true rfl)
  rw [lg_entry_eq]
  generalize (lg_sl ([.ref b]) ++ List.replicate (4 - (lg_sl ([.ref b])).length) Slot.unset).toArray = ls at hl ⊢
  have hl : lv_has ls 4 [(0, .ref b)] := hl
  have hg : ∀ w ∈ gTs, w.before #[Value.ref b] s = true := fun w hw => hts w (gTs_in hw)
  have hx : IX (D, ca, p, l, e, room_1, s, m, #[.ref b], below, meth, c, (fun q => s.heap.size ≤ q), lw_Z below #[.ref b] s) ym_123 code 4 := ⟨hx1, hc, hml, hown, hg, hIK, fun h => absurd h (by decide +kernel), fun q hq => hq⟩
  have hgo : IG (D, ca, p, l, e, room_1, s, m, #[.ref b], below, meth, c, (fun q => s.heap.size ≤ q), lw_Z below #[.ref b] s) [] 0 ls [] 0 0 := by
    refine ig_new (ci := 0) (fs := [.null, .null, .null, .null, .null]) hx kin0 kty0 wd_12 wd_13 wd_1 rfl (by decide +kernel) (Nat.le_of_ble_eq_true rfl) (Nat.le_of_ble_eq_true rfl) dl_0 (fun hd => ?_)
    refine ig_dup hx dl_3 rfl ?_
    refine ig_ctor (y' := yi_0) hx (ct_i0 l ca D) wd_16 wd_1 wd_14 wd_15 rfl (by decide +kernel) hl.1 (Nat.le_of_ble_eq_true rfl) (Nat.le_of_ble_eq_true rfl) (Nat.le_of_ble_eq_true rfl) (Nat.le_of_ble_eq_true rfl) (Nat.le_of_ble_eq_true rfl) dl_4 ?_
    rintro _ ⟨q1, q2, q3, q4, q5, q, b1, b2, b3, c3, r3, b4, rfl⟩
    refine ig_as (lv' := [(1, .ref hd), (0, .ref b)]) hx dl_7 rfl hl (by decide) rfl (fun ls hl => ?_)
    refine ig_new (ci := 7) (fs := df7) hx kin7 kty7 wd_536 wd_537 wd_8 rfl (by decide +kernel) (Nat.le_of_ble_eq_true rfl) (Nat.le_of_ble_eq_true rfl) dl_8 (fun hm => ?_)
    refine ig_dup hx dl_11 rfl ?_
    intro H locs hP hD hS
    have hFA : ∀ x : Nat, va_A (deC ca hd q1 b1 q2 q b2 q3 b3 c3 r3 q4 b4 q5 ++ [(hm, .inr (7, df7))]) H.size x → s.heap.size ≤ x := by
      intro x hq
      rcases hq with ⟨k, e', hk⟩ | hq
      · exact hD.2 k (x, e') hk
      · exact Nat.le_trans hS.1 hq
    refine va_callv (S := (Nat → Nat) × qM) (va_runI (As := []) (rest := [.ref hm]) ⟨hx1, hc, hml, hown, hg⟩ (ct_i7 (l := l) (ca := ca) (D := D) (h := hd) (q1 := q1) (q2 := q2) (q := q) (q3 := q3) (q4 := q4) (q5 := q5) (b1 := b1) (b2 := b2) (b3 := b3) (c3 := c3) (r3 := r3) (b4 := b4) (tR := tR) (tD := tD) (tC := tC) (b := b) (w := (L, xs)) hm H.size) (cwI 0 hg (gTs_good wd_540) rfl rfl rfl (hg _ wd_8) (hg _ wd_538) (hg _ wd_539) rfl (by decide +kernel) ⟨(Nat.le_of_ble_eq_true rfl), (Nat.le_of_ble_eq_true rfl)⟩)
      ⟨fun a U g mk z => by obtain ⟨z0, z1, zP, zK, zD, zS⟩ := z; exact ⟨z0, z1, zP, IK.warm (u := U) (U := U.calling g mk a) (State.WarmedH.refl U) zK, zD, ST_warm (u := U) (U := U.calling g mk a) (State.WarmedH.refl U) zS⟩, fun U hU hW => ⟨rfl, by rw [hU], by rw [hU]; exact hP, IK.warm hW hIK, hD.weaken (fun _ _ _ _ => trivial), by rw [hU]; exact ST_narrow (ST_warm hW (ST_kept hST hS.2.1)) hFA⟩⟩ rfl rfl hl.1 rfl (lv_room (Nat.le_of_ble_eq_true rfl)) dl_12 ⟨(Nat.le_of_ble_eq_true rfl), (Nat.le_of_ble_eq_true rfl)⟩) hS (fun x _ h => hFA x h) hFA (fun u t H1 locs1 ht hvm hw hB hz1 hk1 hS1 => ?_)
    obtain ⟨mm, M⟩ := u
    obtain ⟨hmm, hBoth⟩ := hw
    obtain ⟨hP1, hD1⟩ := hB
    rw [ht] at hP1
    dsimp only at hmm hP1 hD1 hBoth
    refine lv_astore_n (lv' := [(2, .ref hm), (1, .ref hd), (0, .ref b)]) hx1 hc dl_15 rfl hl (by decide) rfl (fun ls hl => ?_)
    have hlaw : gE (L, xs) 123 16 [some (.ref 210), some (.ref 0), some (.ref 148), none] [] M (fun r _ => r = some (.int 1)) := law_all (show L ≤ 100000 by omega) hBoth (fun _ => rfl)
    have hXX := fin_X (aL := (aLd hd q1 b1 q2 q q3 b3 c3 r3 q4 b4 q5)) (b2 := b2) (mm := mm) (tR := tR) (tD := tD) (tC := tC) (b := b) (ca := ca) (D := D) (l := l) hlaw
    have hlv : lv_has ls 4 (qv_lv (aF (aLd hd q1 b1 q2 q q3 b3 c3 r3 q4 b4 q5) b2 mm tR tD tC b) [some (.ref 210), some (.ref 0), some (.ref 148), none]) := by
      have e1 : qv_lv (aF (aLd hd q1 b1 q2 q q3 b3 c3 r3 q4 b4 q5) b2 mm tR tD tC b) [some (.ref 210), some (.ref 0), some (.ref 148), none] = [(0, .ref b), (1, .ref hd), (2, .ref (mm 0))] := rfl
      rw [e1, hmm]
      exact lv_sub hl [2, 1, 0] rfl
    exact W_imp (fun t h => lw_end (Nat.le_of_ble_eq_true rfl) (Nat.le_of_ble_eq_true rfl) h) (hXX p e room_1 s m #[Value.ref b] below meth c (fun q => s.heap.size ≤ q) _ _ ⟨hx1, hc, hml, hown, hg, hIK.1, fun q hq => hq, hST, ⟨(Nat.le_of_ble_eq_true rfl), (Nat.le_of_ble_eq_true rfl)⟩, hr, hlocks, ⟨(Nat.le_of_ble_eq_true rfl), (Nat.le_of_ble_eq_true rfl)⟩⟩ H1 locs1 ls hlv hP1 (hD1.weaken (fun k x _ h => hFA x.1 h)) hS1)
  have e0 : ∀ (k : Nat) (x : Nat × va_E), ([] : va_W)[k]? = some x → False := fun k x h => by simp at h
  exact hgo s.heap [] (fun k x h => (e0 k x h).elim) ⟨fun i j x y h _ _ => (e0 i x h).elim, fun k x h => (e0 k x h).elim⟩ va_S.rf
set_option maxHeartbeats 4000000 in
theorem lw_walk (l : Launch) (b : Addr) (xs : List Int32) : MetFree l x (headSpec (Jvm.Cond.code x code maxLocals ret :: tables_1) room_1) (lw_P b xs) (fun _ _ _ _ _ => True) lw_Q := by
  refine MetFree.of_bodyS (code := code) (maxLocals := maxLocals) (ret := ret) (by decide) ?_ ?_
  · intro args s m h hn
    obtain ⟨meth, c, h1, h2, h3, h4, h5, h6, -, -⟩ := Cond.code_spec hn (atoms_spec (ws := Jvm.Cond.code x code maxLocals ret :: tables_1) h _ List.mem_cons_self)
    exact ⟨meth, c, h1, h2, h3, h4, h5, h6⟩
  · intro p e s m args below meth c s₁ B hml0 hP _
    obtain ⟨rfl, hx, hbd, hgv⟩ := hP
    obtain ⟨scr, harrAt, hlist, hof, hsmall⟩ := hx
    obtain ⟨hcb, hkn, -, -⟩ := State.arrayAt?_spec harrAt
    have hown : s.vm.findClass R_law = some m.cls := findClass_of_methodNamed B.named
    have hts0 : ∀ c ∈ (Jvm.Cond.code x code maxLocals ret :: tables_1), c.before #[Value.ref b] s = true := atoms_spec (ws := Jvm.Cond.code x code maxLocals ret :: tables_1) B.pre
    have hts : ∀ w ∈ lw_tbl, w.before #[Value.ref b] s = true := k2_hts_sels lw_privs (fun w hw => hts0 w (List.mem_cons_of_mem _ hw)) lw_privs_ok
    have hml : c.maxLocals = 4 := B.maxLocals_eq (hts0 _ List.mem_cons_self)
    have X₀ : Stand p l e room_1 s m #[Value.ref b] below meth c s₁ [] 0 0 := Stand.of_body B
    have hh0 : s₁.heap = s.heap := by rw [B.state]; rfl
    have hsz : scr.slots.size = xs.length := by rw [← Array.length_toList, hlist, List.length_map]
    have hval : ∀ j : Nat, j < xs.length → scr.slots[j]? = some (.int (xs.getD j 0)) := fun j hj => by
      rw [← Array.getElem?_toList, hlist]
      simp [hj]
    have hbl : b < s.heap.size := (Array.getElem?_eq_some_iff.mp hcb).1
    have hX : va_X b xs.length (fun j => xs.getD j 0) s s.heap := ⟨scr, hcb, hof, hkn, hsz, hval⟩
    have K : W p l e room_1 s m #[Value.ref b] below meth c s₁.heap [] 0 0 (lw_Z below #[Value.ref b] s) (entryFrame m ([Value.ref b] : List Value).toArray 4) := by
      rw [hh0]
      exact whole_start l hbd ⟨B.exec, B.bytes, B.returns, hml, hown, hts, hX, hbl, B.notSynchronized, hgv⟩
    obtain ⟨t, a1, o, b1, b2, b3⟩ := K s₁ rfl X₀
    exact ⟨t, o, a1, b1, b2, b3⟩
theorem lw_pre_spec {args : Array Value} {s : State} (h : (Jvm.Cond.and given_1 narrow_1).before args s = true) (hr : rest_1_c.before args s = true) : ∃ (b : Addr) (xs : List Int32), lw_P b xs args s := by
  have hs := flat_of_before _ h
  have hq := flat_of_before _ hr
  have hc : (Cond.count 1).before args s = true := hs _ (by decide +kernel)
  have harr : (Cond.arrayOf (.arg 0) .int).before args s = true := hs _ (by decide +kernel)
  have hle : (Cond.le (.length (.arg 0)) (.int 2560)).before args s = true := hs _ (by decide +kernel)
  have hlen : (Cond.isInt (.length (.arg 0))).before args s = true := hq _ (by decide +kernel)
  have hall : (Cond.all (.arg 0) (.isInt (.elem (.arg 0) (.index 0)))).before args s = true := hq _ (by decide +kernel)
  obtain ⟨b, xs, hb, hx⟩ := State.ints_of_pre rfl harr hlen hall
  have hsm : xs.length < 2 ^ 31 := hx.choose_spec.2.2.2
  have hev : (Term.length (.arg 0)).eval args s none [] s = some (.int xs.length.toInt32) := hx.length_eval hb
  have hv := Cond.le_ints hev (show (Term.int 2560).eval args s none [] s = some (.int 2560) from rfl)
  have hd : xs.length.toInt32 ≤ 2560 := by
    simpa [Cond.before, Cond.holds, hv] using hle
  have hN : xs.length ≤ 2560 := (Int32.ofNat_le_ofNat hsm (by decide)).mp (show Int32.ofNat xs.length ≤ Int32.ofNat 2560 from hd)
  exact ⟨b, xs, Cond.one_arg hc (show args[0]? = some (.ref b) from hb), hx, hN, h⟩
theorem lw_comes (l : Launch) : Comes l x (Jvm.Cond.code x code maxLocals ret :: tables_1) room_1 (fun tb e args s => Calls_1 tb e args s ∧ rest_1 tb e args s ∧ Pre_1 tb e args s)
    (fun _ _ args s o t => lw_Q args s o t) := by
  intro p e ha hc hk s m args below hf hfit hheap happ hpre
  obtain ⟨b, xs, hP⟩ := lw_pre_spec hpre.2.2 hpre.2.1
  obtain ⟨k, o, h1, h2, h3, hQ⟩ := lw_walk l b xs p e ha hc hk s m args below hf ((Spec.applies_iff_loose hf).mp happ).1 hP trivial
  exact ⟨k, o, h1, h2, h3, hQ⟩
theorem lw_frame {s t : State} {o : Outcome} {args : Array Value} (h : Framed s o t [] 600000 7302250) :
    Framed s o t (fieldLocs frame_1_writes args s ++ arrayLocs frame_1_arrays args s ++ staticLocs frame_1_statics s) 600000 7302250 := h
theorem lw_limb (L : Cond) (hL : ∀ (args : Array Value) (s t : State), L.after args s (.returned (some (.int 1))) t = true) :
    ArmFor flags0 classFile x code maxLocals ret World_1 tables_1 room_1 Calls_1 rest_1 Pre_1
      (fun tb e a s o t => postC L tb e a s o t ∧ Framed s o t (fieldLocs frame_1_writes a s ++ arrayLocs frame_1_arrays a s ++ staticLocs frame_1_statics s) 600000 7302250) := by
  intro l _ _ _ p e ha hc hk s m args below hf hfit hheap happ hpre
  obtain ⟨k, o, h1, h2, h3, rfl, hF⟩ := lw_comes l p e ha hc hk s m args below hf hfit hheap happ hpre
  exact ⟨k, _, h1, h2, h3, hL args s _, lw_frame hF⟩
theorem i_vc : Claimed_1_1 ∧ Claimed_1_2 := ⟨lw_limb limb_1_1 (fun args s t => by simp [limb_1_1, Cond.after, Cond.holds, Cond.value]), lw_limb limb_1_2 (fun args s t => Cond.after_iff.mpr (by
  first | (rw [show limb_1_2 = Cond.eq .result (.int 1) from rfl, Cond.eq_ints (x := 1) (y := 1) rfl rfl]; simp; done) | (simp [limb_1_2, Cond.value, Term.eval]; done)))⟩
