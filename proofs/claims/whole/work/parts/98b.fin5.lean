/-! How the law begins: classes, arrays, tables. -/
theorem wd_13 : Cond.instantiable "BoardDesk" (5 : Nat) ∈ gTs := gTs_of (i := 46) (by decide +kernel) (by decide +kernel)
theorem wd_537 : Cond.instantiable "BoardDeskModel" (14 : Nat) ∈ gTs := gTs_of (i := 570) (by decide +kernel) (by decide +kernel)
theorem wd_12 : Cond.classLink "BoardDeskLaw" (7 : Nat) "BoardDesk" ∈ gTs := gTs_of (i := 45) (by decide +kernel) (by decide +kernel)
theorem wd_536 : Cond.classLink "BoardDeskLaw" (10 : Nat) "BoardDeskModel" ∈ gTs := gTs_of (i := 569) (by decide +kernel) (by decide +kernel)
theorem wd_14 : Cond.methodLink "BoardDeskLaw" (9 : Nat) ({ cls := "BoardDesk", name := "<init>", desc := "()V" } : MethodName) ∈ gTs := gTs_of (i := 47) (by decide +kernel) (by decide +kernel)
theorem wd_538 : Cond.methodLink "BoardDeskLaw" (12 : Nat) ({ cls := "BoardDeskModel", name := "<init>", desc := "()V" } : MethodName) ∈ gTs := gTs_of (i := 571) (by decide +kernel) (by decide +kernel)
theorem wd_15 : Cond.instanceMethod ({ cls := "BoardDesk", name := "<init>", desc := "()V" } : MethodName) ∈ gTs := gTs_of (i := 48) (by decide +kernel) (by decide +kernel)
theorem wd_539 : Cond.instanceMethod ({ cls := "BoardDeskModel", name := "<init>", desc := "()V" } : MethodName) ∈ gTs := gTs_of (i := 572) (by decide +kernel) (by decide +kernel)
theorem wd_16 : Cond.code ({ cls := "BoardDesk", name := "<init>", desc := "()V" } : MethodName) prog_1_method_1_code (1 : Nat) (Option.none : Option FieldType) ∈ gTs := gTs_of (i := 49) (by decide +kernel) (by decide +kernel)
theorem wd_540 : Cond.code ({ cls := "BoardDeskModel", name := "<init>", desc := "()V" } : MethodName) prog_9_method_1_code (1 : Nat) (Option.none : Option FieldType) ∈ gTs := gTs_of (i := 573) (by decide +kernel) (by decide +kernel)
theorem start_K {args : Array Value} {s : State} (hts : ∀ w ∈ lw_tbl, w.before args s = true) : ∃ (ca : Nat → ClassId) (D : va_G), IK ca D s := by
  have hg : ∀ w ∈ gTs, w.before args s = true := fun w hw => hts w (gTs_in hw)
  obtain ⟨c0, i0, k0⟩ := u_known hg kin0 (hg _ wd_13)
  obtain ⟨c1, i1, k1⟩ := u_known hg kin1 (hg _ wd_21)
  obtain ⟨c2, i2, k2⟩ := u_known hg kin2 (hg _ wd_27)
  obtain ⟨c3, i3, k3⟩ := u_known hg kin3 (hg _ wd_85)
  obtain ⟨c4, i4, k4⟩ := u_known hg kin4 (hg _ wd_105)
  obtain ⟨c5, i5, k5⟩ := u_known hg kin5 (hg _ wd_111)
  obtain ⟨c6, i6, k6⟩ := u_known hg kin6 (hg _ wd_152)
  obtain ⟨c7, i7, k7⟩ := u_known hg kin7 (hg _ wd_537)
  obtain ⟨a0, kA0, m0, f0, g0, h0⟩ := Cond.arrayClass_spec (hg _ wd_74)
  obtain ⟨a1, kA1, m1, f1, g1, h1⟩ := Cond.arrayClass_spec (hg _ wd_131)
  obtain ⟨m2, a2, kA2, d1, d2, d3, d4, d5⟩ := Cond.arrayOver_spec (n := "BoardDesk$Sheet") (hts _ (List.mem_of_getElem? (i := 124) (by decide +kernel)))
  obtain ⟨m3, a3, kA3, e1, e2, e3, e4, e5⟩ := arrayOver_specB (t := .int) (hts _ (List.mem_of_getElem? (i := 150) (by decide +kernel)))
  refine ⟨fun n => match n with
    | 0 => a0
    | 1 => a1
    | 2 => a2
    | _ => a3, (fun n => match n with
    | 0 => c0
    | 1 => c1
    | 2 => c2
    | 3 => c3
    | 4 => c4
    | 5 => c5
    | 6 => c6
    | _ => c7, fun n => match n with
    | 0 => i0
    | 1 => i1
    | 2 => i2
    | 3 => i3
    | 4 => i4
    | 5 => i5
    | 6 => i6
    | _ => i7), ⟨fun c q hq => ?_, fun k q hk => ?_⟩, va_AO.of (hts _ (List.mem_of_getElem? (i := 124) (by decide +kernel))), va_AOA.of (hts _ (List.mem_of_getElem? (i := 150) (by decide +kernel))), va_Nw.of rfl (hts _ (List.mem_of_getElem? (i := 55) (by decide +kernel))), va_Nw.of rfl (hts _ (List.mem_of_getElem? (i := 139) (by decide +kernel))), va_Nw.of rfl (hts _ (List.mem_of_getElem? (i := 145) (by decide +kernel))), va_Nw.of rfl (hts _ (List.mem_of_getElem? (i := 186) (by decide +kernel)))⟩
  · have hc : c < 8 := (List.getElem?_eq_some_iff.mp hq).1
    rcases (show c = 0 ∨ c = 1 ∨ c = 2 ∨ c = 3 ∨ c = 4 ∨ c = 5 ∨ c = 6 ∨ c = 7 by omega) with rfl | rfl | rfl | rfl | rfl | rfl | rfl | rfl <;> cases hq
    · exact k0
    · exact k1
    · exact k2
    · exact k3
    · exact k4
    · exact k5
    · exact k6
    · exact k7
  · have hc : k < 4 := (List.getElem?_eq_some_iff.mp hk).1
    rcases (show k = 0 ∨ k = 1 ∨ k = 2 ∨ k = 3 by omega) with rfl | rfl | rfl | rfl <;> cases hk
    · exact ⟨fun n z => ⟨fun k h => (by cases h), kA0, g0, m0, h0⟩, f0⟩
    · exact ⟨fun n z => ⟨fun k h => (by cases h), kA1, g1, m1, h1⟩, f1⟩
    · exact ⟨fun n z => ⟨fun k h => (by cases h), kA2, d3, m2, d4⟩, kA2, m2, d3, d4, d1, d5⟩
    · exact ⟨fun n z => ⟨fun k h => (by cases h), kA3, e3, m3, e4⟩, e5⟩
theorem start_T {b L : Nat} {xs : Nat → Int32} {s : State} (hts : ∀ w ∈ lw_tbl, w.before #[Value.ref b] s = true) (hgv : (Jvm.Cond.and given_1 narrow_1).before #[Value.ref b] s = true) (hL : L ≤ 2560) (hX : va_X b L xs s s.heap) (hb : b < s.heap.size) : ∃ tR tD tC : Nat, STt tR tD tC b (L, xs) (fun q => s.heap.size ≤ q) s s.heap := by
  have hg : ∀ w ∈ gTs, w.before #[Value.ref b] s = true := fun w hw => hts w (gTs_in hw)
  have hs := flat_of_before _ hgv
  have hA : ∀ a : Nat, a < s.heap.size → ¬ s.heap.size ≤ a := fun a ha h => by omega
  obtain ⟨t0, v0, w0⟩ := va_Tof (args := #[Value.ref b]) (s := s) (tm := .static "BoardDesk" "RIGHT_STEPS" "[I") (ty := .int) (N := 8) (f := fun j => .int (tb_right j)) (A := fun q => s.heap.size ≤ q) (by decide) (hs _ (by decide +kernel)) (va_eqt (hs _ (by decide +kernel))) (fun j hj => by
    rcases (show j = 0 ∨ j = 1 ∨ j = 2 ∨ j = 3 ∨ j = 4 ∨ j = 5 ∨ j = 6 ∨ j = 7 by omega) with rfl | rfl | rfl | rfl | rfl | rfl | rfl | rfl <;> exact va_eqt (hs _ (by decide +kernel))) hA
  obtain ⟨t1, v1, w1⟩ := va_Tof (args := #[Value.ref b]) (s := s) (tm := .static "BoardDesk" "DOWN_STEPS" "[I") (ty := .int) (N := 8) (f := fun j => .int (tb_down j)) (A := fun q => s.heap.size ≤ q) (by decide) (hs _ (by decide +kernel)) (va_eqt (hs _ (by decide +kernel))) (fun j hj => by
    rcases (show j = 0 ∨ j = 1 ∨ j = 2 ∨ j = 3 ∨ j = 4 ∨ j = 5 ∨ j = 6 ∨ j = 7 by omega) with rfl | rfl | rfl | rfl | rfl | rfl | rfl | rfl <;> exact va_eqt (hs _ (by decide +kernel))) hA
  obtain ⟨t2, v2, w2⟩ := va_Tof (args := #[Value.ref b]) (s := s) (tm := .static "BoardDesk" "STEP_COSTS" "[I") (ty := .int) (N := 9) (f := fun j => .int (tb_cost j)) (A := fun q => s.heap.size ≤ q) (by decide) (hs _ (by decide +kernel)) (va_eqt (hs _ (by decide +kernel))) (fun j hj => by
    rcases (show j = 0 ∨ j = 1 ∨ j = 2 ∨ j = 3 ∨ j = 4 ∨ j = 5 ∨ j = 6 ∨ j = 7 ∨ j = 8 by omega) with rfl | rfl | rfl | rfl | rfl | rfl | rfl | rfl | rfl <;> exact va_eqt (hs _ (by decide +kernel))) hA
  obtain ⟨scr, x1, x2, x3, x4, x5⟩ := hX
  refine ⟨t0, t1, t2, ⟨va_Zref (hts _ (List.mem_of_getElem? (i := 366) (by decide +kernel))) (hg _ wd_1) v0 hA, va_Zref (hts _ (List.mem_of_getElem? (i := 368) (by decide +kernel))) (hg _ wd_1) v1 hA, va_Zref (hts _ (List.mem_of_getElem? (i := 454) (by decide +kernel))) (hg _ wd_1) v2 hA⟩, ⟨w0, w1, w2, scr, x1, x2, x3, by show L ≤ scr.slots.size; omega, by rw [x4], x5, hA b hb⟩, va_Nw.of rfl (hts _ (List.mem_of_getElem? (i := 319) (by decide +kernel))), va_Nw.of rfl (hts _ (List.mem_of_getElem? (i := 362) (by decide +kernel))), va_Nw.of rfl (hts _ (List.mem_of_getElem? (i := 417) (by decide +kernel))), va_Nw.of rfl (hts _ (List.mem_of_getElem? (i := 453) (by decide +kernel))), va_Nw.of rfl (hts _ (List.mem_of_getElem? (i := 485) (by decide +kernel))), va_Nw.of rfl (hts _ (List.mem_of_getElem? (i := 488) (by decide +kernel)))⟩
theorem W_imp {p : Program} {l : Launch} {e : Env} {R : Room} {s : State} {m : MethodId} {args : Array Value} {below : List Frame} {meth : Method} {c : Code} {H : Heap} {locs : List Loc} {cells slots : Nat} {Q Q' : State → Prop} {g : JFrame} (hQ : ∀ t, Q t → Q' t) (h : W p l e R s m args below meth c H locs cells slots Q g) : W p l e R s m args below meth c H locs cells slots Q' g := fun T hT X => by
  obtain ⟨t, a1, b1⟩ := h T hT X
  exact ⟨t, a1, hQ t b1⟩
