/-! The reference's constructor. -/
def df7 : List Value := [.null, .null, .null, .int 0, .null, .null, .null, .null, .null, .null, .null, .int 0, .null, .null]
section MODEL
variable {ca : Nat → ClassId} {h q1 q2 q q3 q4 q5 : Nat} {b1 b2 b3 c3 r3 b4 : Nat → Nat} {tR tD tC b : Nat} {D : va_G} {w : qS} {l : Launch}
def moPc (ca : Nat → ClassId) (D : va_G) (tR tD tC b : Nat) (w : qS) (ws : va_W) (h0 sz : Nat) : Array Value → State → Prop := va_Pc [.ref h0] (fun U => U.heap.size = sz ∧ va_P D kCl (ws ++ [(h0, .inr (7, df7))]) U.heap ∧ IK ca D U ∧ va_D (fun _ => True) (ws ++ [(h0, .inr (7, df7))]) ∧ STt tR tD tC b w (va_A (ws ++ [(h0, .inr (7, df7))]) sz) U U.heap)
def moQc (l : Launch) (ca : Nat → ClassId) (D : va_G) (tR tD tC b : Nat) (w : qS) (ws : va_W) (aL b2 : Nat → Nat) (h0 sz : Nat) : Array Value → State → Outcome → State → Prop := va_Qv (S := (Nat → Nat) × qM) (fun u => u.1 0 = h0 ∧ BOTH u.2)
  (fun u t => va_P D kCl (qw (gZ (aF aL b2 u.1 tR tD tC b) ca D (STt tR tD tC b w) l w) u.2) t.heap ∧ va_D (va_A (ws ++ [(h0, .inr (7, df7))]) sz) (qw (gZ (aF aL b2 u.1 tR tD tC b) ca D (STt tR tD tC b w) l w) u.2)) (va_A (ws ++ [(h0, .inr (7, df7))]) sz)
theorem ct_i7 (h0 sz : Nat) : Met l yi_7 (.code yi_7 prog_9_method_1_code 1 none :: gTs) { frames := 1, cells := 12, slots := 12408, locals := 25 } (moPc ca D tR tD tC b w (deC ca h q1 b1 q2 q b2 q3 b3 c3 r3 q4 b4 q5) h0 sz) (moQc l ca D tR tD tC b w (deC ca h q1 b1 q2 q b2 q3 b3 c3 r3 q4 b4 q5) (aLd h q1 b1 q2 q q3 b3 c3 r3 q4 b4 q5) b2 h0 sz) 12 12408 (va_A (deC ca h q1 b1 q2 q b2 q3 b3 c3 r3 q4 b4 q5 ++ [(h0, .inr (7, df7))]) sz) := by
  refine Met.ofW (cc := prog_9_method_1_code) (maxL := 1) (ret := none) (by decide +kernel) rfl ?_
  intro p e s m args below meth c s₁ B hml hv
  obtain ⟨rfl, hsz, hP, hK, hD0, hSt⟩ := hv
  subst hsz
  have hts := atoms_spec (ws := .code yi_7 prog_9_method_1_code 1 none :: gTs) B.pre
  have hin : meth.name = "<init>" := (name_of_methodNamed B.named B.method).1
  have hl := lv_entry ([.ref h0]) (n := 1) (Nat.le_refl 1)
  rw [lg_entry_eq]
  have hret := B.returns
  have hlocks := B.notSynchronized
  generalize (lg_sl ([.ref h0]) ++ List.replicate (1 - (lg_sl ([.ref h0])).length) Slot.unset).toArray = ls at hl ⊢
  have hl : lv_has ls 1 [(0, .ref h0)] := hl
  have hx : IX (D, ca, p, l, e, { frames := 1, cells := 12, slots := 12408, locals := 25 }, s, m, #[.ref h0], below, meth, c, va_A (deC ca h q1 b1 q2 q b2 q3 b3 c3 r3 q4 b4 q5 ++ [(h0, .inr (7, df7))]) s.heap.size, MQ below (moQc l ca D tR tD tC b w (deC ca h q1 b1 q2 q b2 q3 b3 c3 r3 q4 b4 q5) (aLd h q1 b1 q2 q q3 b3 c3 r3 q4 b4 q5) b2 h0 s.heap.size) #[.ref h0] s 12 12408 (va_A (deC ca h q1 b1 q2 q b2 q3 b3 c3 r3 q4 b4 q5 ++ [(h0, .inr (7, df7))]) s.heap.size)) yi_7 prog_9_method_1_code 1 := ⟨B.exec, B.bytes, hml, findClass_of_methodNamed B.named, fun w hw => hts w (List.mem_cons_of_mem _ hw), hK, fun _ => hin, fun q hq => Or.inr hq⟩
  have hgo : IG (D, ca, p, l, e, { frames := 1, cells := 12, slots := 12408, locals := 25 }, s, m, #[.ref h0], below, meth, c, va_A (deC ca h q1 b1 q2 q b2 q3 b3 c3 r3 q4 b4 q5 ++ [(h0, .inr (7, df7))]) s.heap.size, MQ below (moQc l ca D tR tD tC b w (deC ca h q1 b1 q2 q b2 q3 b3 c3 r3 q4 b4 q5) (aLd h q1 b1 q2 q q3 b3 c3 r3 q4 b4 q5) b2 h0 s.heap.size) #[.ref h0] s 12 12408 (va_A (deC ca h q1 b1 q2 q b2 q3 b3 c3 r3 q4 b4 q5 ++ [(h0, .inr (7, df7))]) s.heap.size)) (deC ca h q1 b1 q2 q b2 q3 b3 c3 r3 q4 b4 q5 ++ [(h0, .inr (7, df7))]) 0 ls [] 0 0 := by
    refine ig_al hx dk_7_0 rfl (lv_at hl 0 rfl) ?_
    refine ig_obj hx wd_541 wd_18 wd_19 hl.1 dk_7_1 (Nat.le_of_ble_eq_true rfl) (Nat.le_of_ble_eq_true rfl) ?_
    refine ig_al hx dk_7_4 rfl (lv_at hl 0 rfl) ?_
    refine ig_si (v := (iN 592)) hx dk_7_5 (by decide +kernel) ?_
    refine ig_na (N := 592) hx wd_74 (by decide +kernel) (by decide +kernel) (by decide) (Nat.le_of_ble_eq_true rfl) (Nat.le_of_ble_eq_true rfl) dk_7_8 (fun x1 => ?_)
    refine ig_pF (X' := [(h0, .inr (7, [.ref x1, .null, .null, .int 0, .null, .null, .null, .null, .null, .null, .null, .int 0, .null, .null])), (x1, .inl (ca 0, 592, .inl (fun _ => 0)))]) (j := 0) (k := 0) (ty := .array .int) (v := .ref x1) hx kin7 kty7 knm7 rfl (by decide) rfl rfl wd_546 rfl rfl (by decide +kernel) rfl rfl (Nat.le_of_ble_eq_true rfl) rfl dk_7_10 ?_
    refine ig_al hx dk_7_13 rfl (lv_at hl 0 rfl) ?_
    refine ig_si (v := (iN 592)) hx dk_7_14 (by decide +kernel) ?_
    refine ig_na (N := 592) hx wd_74 (by decide +kernel) (by decide +kernel) (by decide) (Nat.le_of_ble_eq_true rfl) (Nat.le_of_ble_eq_true rfl) dk_7_17 (fun x2 => ?_)
    refine ig_pF (X' := [(h0, .inr (7, [.ref x1, .ref x2, .null, .int 0, .null, .null, .null, .null, .null, .null, .null, .int 0, .null, .null])), (x1, .inl (ca 0, 592, .inl (fun _ => 0))), (x2, .inl (ca 0, 592, .inl (fun _ => 0)))]) (j := 0) (k := 1) (ty := .array .int) (v := .ref x2) hx kin7 kty7 knm7 rfl (by decide) rfl rfl wd_547 rfl rfl (by decide +kernel) rfl rfl (Nat.le_of_ble_eq_true rfl) rfl dk_7_19 ?_
    refine ig_al hx dk_7_22 rfl (lv_at hl 0 rfl) ?_
    refine ig_si (v := (iN 9472)) hx dk_7_23 (by decide +kernel) ?_
    refine ig_na (N := 9472) hx wd_74 (by decide +kernel) (by decide +kernel) (by decide) (Nat.le_of_ble_eq_true rfl) (Nat.le_of_ble_eq_true rfl) dk_7_26 (fun x3 => ?_)
    refine ig_pF (X' := [(h0, .inr (7, [.ref x1, .ref x2, .ref x3, .int 0, .null, .null, .null, .null, .null, .null, .null, .int 0, .null, .null])), (x1, .inl (ca 0, 592, .inl (fun _ => 0))), (x2, .inl (ca 0, 592, .inl (fun _ => 0))), (x3, .inl (ca 0, 9472, .inl (fun _ => 0)))]) (j := 0) (k := 2) (ty := .array .int) (v := .ref x3) hx kin7 kty7 knm7 rfl (by decide) rfl rfl wd_548 rfl rfl (by decide +kernel) rfl rfl (Nat.le_of_ble_eq_true rfl) rfl dk_7_28 ?_
    refine ig_al hx dk_7_31 rfl (lv_at hl 0 rfl) ?_
    refine ig_bi (v := (iN 16)) hx dk_7_32 (by decide +kernel) ?_
    refine ig_na (N := 16) hx wd_74 (by decide +kernel) (by decide +kernel) (by decide) (Nat.le_of_ble_eq_true rfl) (Nat.le_of_ble_eq_true rfl) dk_7_34 (fun x4 => ?_)
    refine ig_pF (X' := [(h0, .inr (7, [.ref x1, .ref x2, .ref x3, .int 0, .ref x4, .null, .null, .null, .null, .null, .null, .int 0, .null, .null])), (x1, .inl (ca 0, 592, .inl (fun _ => 0))), (x2, .inl (ca 0, 592, .inl (fun _ => 0))), (x3, .inl (ca 0, 9472, .inl (fun _ => 0))), (x4, .inl (ca 0, 16, .inl (fun _ => 0)))]) (j := 0) (k := 4) (ty := .array .int) (v := .ref x4) hx kin7 kty7 knm7 rfl (by decide) rfl rfl wd_550 rfl rfl (by decide +kernel) rfl rfl (Nat.le_of_ble_eq_true rfl) rfl dk_7_36 ?_
    refine ig_al hx dk_7_39 rfl (lv_at hl 0 rfl) ?_
    refine ig_si (v := (iN 240)) hx dk_7_40 (by decide +kernel) ?_
    refine ig_na (N := 240) hx wd_74 (by decide +kernel) (by decide +kernel) (by decide) (Nat.le_of_ble_eq_true rfl) (Nat.le_of_ble_eq_true rfl) dk_7_43 (fun x5 => ?_)
    refine ig_pF (X' := [(h0, .inr (7, [.ref x1, .ref x2, .ref x3, .int 0, .ref x4, .ref x5, .null, .null, .null, .null, .null, .int 0, .null, .null])), (x1, .inl (ca 0, 592, .inl (fun _ => 0))), (x2, .inl (ca 0, 592, .inl (fun _ => 0))), (x3, .inl (ca 0, 9472, .inl (fun _ => 0))), (x4, .inl (ca 0, 16, .inl (fun _ => 0))), (x5, .inl (ca 0, 240, .inl (fun _ => 0)))]) (j := 0) (k := 5) (ty := .array .int) (v := .ref x5) hx kin7 kty7 knm7 rfl (by decide) rfl rfl wd_551 rfl rfl (by decide +kernel) rfl rfl (Nat.le_of_ble_eq_true rfl) rfl dk_7_45 ?_
    refine ig_al hx dk_7_48 rfl (lv_at hl 0 rfl) ?_
    refine ig_si (v := (iN 240)) hx dk_7_49 (by decide +kernel) ?_
    refine ig_na (N := 240) hx wd_74 (by decide +kernel) (by decide +kernel) (by decide) (Nat.le_of_ble_eq_true rfl) (Nat.le_of_ble_eq_true rfl) dk_7_52 (fun x6 => ?_)
    refine ig_pF (X' := [(h0, .inr (7, [.ref x1, .ref x2, .ref x3, .int 0, .ref x4, .ref x5, .ref x6, .null, .null, .null, .null, .int 0, .null, .null])), (x1, .inl (ca 0, 592, .inl (fun _ => 0))), (x2, .inl (ca 0, 592, .inl (fun _ => 0))), (x3, .inl (ca 0, 9472, .inl (fun _ => 0))), (x4, .inl (ca 0, 16, .inl (fun _ => 0))), (x5, .inl (ca 0, 240, .inl (fun _ => 0))), (x6, .inl (ca 0, 240, .inl (fun _ => 0)))]) (j := 0) (k := 6) (ty := .array .int) (v := .ref x6) hx kin7 kty7 knm7 rfl (by decide) rfl rfl wd_552 rfl rfl (by decide +kernel) rfl rfl (Nat.le_of_ble_eq_true rfl) rfl dk_7_54 ?_
    refine ig_al hx dk_7_57 rfl (lv_at hl 0 rfl) ?_
    refine ig_si (v := (iN 240)) hx dk_7_58 (by decide +kernel) ?_
    refine ig_na (N := 240) hx wd_74 (by decide +kernel) (by decide +kernel) (by decide) (Nat.le_of_ble_eq_true rfl) (Nat.le_of_ble_eq_true rfl) dk_7_61 (fun x7 => ?_)
    refine ig_pF (X' := [(h0, .inr (7, [.ref x1, .ref x2, .ref x3, .int 0, .ref x4, .ref x5, .ref x6, .ref x7, .null, .null, .null, .int 0, .null, .null])), (x1, .inl (ca 0, 592, .inl (fun _ => 0))), (x2, .inl (ca 0, 592, .inl (fun _ => 0))), (x3, .inl (ca 0, 9472, .inl (fun _ => 0))), (x4, .inl (ca 0, 16, .inl (fun _ => 0))), (x5, .inl (ca 0, 240, .inl (fun _ => 0))), (x6, .inl (ca 0, 240, .inl (fun _ => 0))), (x7, .inl (ca 0, 240, .inl (fun _ => 0)))]) (j := 0) (k := 7) (ty := .array .int) (v := .ref x7) hx kin7 kty7 knm7 rfl (by decide) rfl rfl wd_553 rfl rfl (by decide +kernel) rfl rfl (Nat.le_of_ble_eq_true rfl) rfl dk_7_63 ?_
    refine ig_al hx dk_7_66 rfl (lv_at hl 0 rfl) ?_
    refine ig_si (v := (iN 240)) hx dk_7_67 (by decide +kernel) ?_
    refine ig_nz (N := 240) hx wd_131 (by decide +kernel) (by decide +kernel) (by decide) (Nat.le_of_ble_eq_true rfl) (Nat.le_of_ble_eq_true rfl) dk_7_70 (fun x8 => ?_)
    refine ig_pF (X' := [(h0, .inr (7, [.ref x1, .ref x2, .ref x3, .int 0, .ref x4, .ref x5, .ref x6, .ref x7, .ref x8, .null, .null, .int 0, .null, .null])), (x1, .inl (ca 0, 592, .inl (fun _ => 0))), (x2, .inl (ca 0, 592, .inl (fun _ => 0))), (x3, .inl (ca 0, 9472, .inl (fun _ => 0))), (x4, .inl (ca 0, 16, .inl (fun _ => 0))), (x5, .inl (ca 0, 240, .inl (fun _ => 0))), (x6, .inl (ca 0, 240, .inl (fun _ => 0))), (x7, .inl (ca 0, 240, .inl (fun _ => 0))), (x8, .inl (ca 1, 240, .inl (fun _ => 0)))]) (j := 0) (k := 8) (ty := .array .boolean) (v := .ref x8) hx kin7 kty7 knm7 rfl (by decide) rfl rfl wd_554 rfl rfl (by decide +kernel) rfl rfl (Nat.le_of_ble_eq_true rfl) rfl dk_7_72 ?_
    refine ig_al hx dk_7_75 rfl (lv_at hl 0 rfl) ?_
    refine ig_si (v := (iN 240)) hx dk_7_76 (by decide +kernel) ?_
    refine ig_na (N := 240) hx wd_74 (by decide +kernel) (by decide +kernel) (by decide) (Nat.le_of_ble_eq_true rfl) (Nat.le_of_ble_eq_true rfl) dk_7_79 (fun x9 => ?_)
    refine ig_pF (X' := [(h0, .inr (7, [.ref x1, .ref x2, .ref x3, .int 0, .ref x4, .ref x5, .ref x6, .ref x7, .ref x8, .ref x9, .null, .int 0, .null, .null])), (x1, .inl (ca 0, 592, .inl (fun _ => 0))), (x2, .inl (ca 0, 592, .inl (fun _ => 0))), (x3, .inl (ca 0, 9472, .inl (fun _ => 0))), (x4, .inl (ca 0, 16, .inl (fun _ => 0))), (x5, .inl (ca 0, 240, .inl (fun _ => 0))), (x6, .inl (ca 0, 240, .inl (fun _ => 0))), (x7, .inl (ca 0, 240, .inl (fun _ => 0))), (x8, .inl (ca 1, 240, .inl (fun _ => 0))), (x9, .inl (ca 0, 240, .inl (fun _ => 0)))]) (j := 0) (k := 9) (ty := .array .int) (v := .ref x9) hx kin7 kty7 knm7 rfl (by decide) rfl rfl wd_555 rfl rfl (by decide +kernel) rfl rfl (Nat.le_of_ble_eq_true rfl) rfl dk_7_81 ?_
    refine ig_al hx dk_7_84 rfl (lv_at hl 0 rfl) ?_
    refine ig_si (v := (iN 400)) hx dk_7_85 (by decide +kernel) ?_
    refine ig_na (N := 400) hx wd_74 (by decide +kernel) (by decide +kernel) (by decide) (Nat.le_of_ble_eq_true rfl) (Nat.le_of_ble_eq_true rfl) dk_7_88 (fun x10 => ?_)
    refine ig_pF (X' := [(h0, .inr (7, [.ref x1, .ref x2, .ref x3, .int 0, .ref x4, .ref x5, .ref x6, .ref x7, .ref x8, .ref x9, .ref x10, .int 0, .null, .null])), (x1, .inl (ca 0, 592, .inl (fun _ => 0))), (x2, .inl (ca 0, 592, .inl (fun _ => 0))), (x3, .inl (ca 0, 9472, .inl (fun _ => 0))), (x4, .inl (ca 0, 16, .inl (fun _ => 0))), (x5, .inl (ca 0, 240, .inl (fun _ => 0))), (x6, .inl (ca 0, 240, .inl (fun _ => 0))), (x7, .inl (ca 0, 240, .inl (fun _ => 0))), (x8, .inl (ca 1, 240, .inl (fun _ => 0))), (x9, .inl (ca 0, 240, .inl (fun _ => 0))), (x10, .inl (ca 0, 400, .inl (fun _ => 0)))]) (j := 0) (k := 10) (ty := .array .int) (v := .ref x10) hx kin7 kty7 knm7 rfl (by decide) rfl rfl wd_556 rfl rfl (by decide +kernel) rfl rfl (Nat.le_of_ble_eq_true rfl) rfl dk_7_90 ?_
    refine ig_al hx dk_7_93 rfl (lv_at hl 0 rfl) ?_
    refine ig_bi (v := (iN 120)) hx dk_7_94 (by decide +kernel) ?_
    refine ig_na (N := 120) hx wd_74 (by decide +kernel) (by decide +kernel) (by decide) (Nat.le_of_ble_eq_true rfl) (Nat.le_of_ble_eq_true rfl) dk_7_96 (fun x11 => ?_)
    refine ig_pF (X' := [(h0, .inr (7, [.ref x1, .ref x2, .ref x3, .int 0, .ref x4, .ref x5, .ref x6, .ref x7, .ref x8, .ref x9, .ref x10, .int 0, .ref x11, .null])), (x1, .inl (ca 0, 592, .inl (fun _ => 0))), (x2, .inl (ca 0, 592, .inl (fun _ => 0))), (x3, .inl (ca 0, 9472, .inl (fun _ => 0))), (x4, .inl (ca 0, 16, .inl (fun _ => 0))), (x5, .inl (ca 0, 240, .inl (fun _ => 0))), (x6, .inl (ca 0, 240, .inl (fun _ => 0))), (x7, .inl (ca 0, 240, .inl (fun _ => 0))), (x8, .inl (ca 1, 240, .inl (fun _ => 0))), (x9, .inl (ca 0, 240, .inl (fun _ => 0))), (x10, .inl (ca 0, 400, .inl (fun _ => 0))), (x11, .inl (ca 0, 120, .inl (fun _ => 0)))]) (j := 0) (k := 12) (ty := .array .int) (v := .ref x11) hx kin7 kty7 knm7 rfl (by decide) rfl rfl wd_558 rfl rfl (by decide +kernel) rfl rfl (Nat.le_of_ble_eq_true rfl) rfl dk_7_98 ?_
    refine ig_al hx dk_7_101 rfl (lv_at hl 0 rfl) ?_
    refine ig_bi (v := (iN 16)) hx dk_7_102 (by decide +kernel) ?_
    refine ig_na (N := 16) hx wd_74 (by decide +kernel) (by decide +kernel) (by decide) (Nat.le_of_ble_eq_true rfl) (Nat.le_of_ble_eq_true rfl) dk_7_104 (fun x12 => ?_)
    refine ig_pF (X' := [(h0, .inr (7, [.ref x1, .ref x2, .ref x3, .int 0, .ref x4, .ref x5, .ref x6, .ref x7, .ref x8, .ref x9, .ref x10, .int 0, .ref x11, .ref x12])), (x1, .inl (ca 0, 592, .inl (fun _ => 0))), (x2, .inl (ca 0, 592, .inl (fun _ => 0))), (x3, .inl (ca 0, 9472, .inl (fun _ => 0))), (x4, .inl (ca 0, 16, .inl (fun _ => 0))), (x5, .inl (ca 0, 240, .inl (fun _ => 0))), (x6, .inl (ca 0, 240, .inl (fun _ => 0))), (x7, .inl (ca 0, 240, .inl (fun _ => 0))), (x8, .inl (ca 1, 240, .inl (fun _ => 0))), (x9, .inl (ca 0, 240, .inl (fun _ => 0))), (x10, .inl (ca 0, 400, .inl (fun _ => 0))), (x11, .inl (ca 0, 120, .inl (fun _ => 0))), (x12, .inl (ca 0, 16, .inl (fun _ => 0)))]) (j := 0) (k := 13) (ty := .array .int) (v := .ref x12) hx kin7 kty7 knm7 rfl (by decide) rfl rfl wd_559 rfl rfl (by decide +kernel) rfl rfl (Nat.le_of_ble_eq_true rfl) rfl dk_7_106 ?_
    refine ig_al hx dk_7_109 rfl (lv_at hl 0 rfl) ?_
    refine ig_get (j := 0) (k := 0) (v := .ref x1) hx kin7 rfl (by decide) rfl wd_546 rfl dk_7_110 ?_
    refine ig_ic (v := (iN 2)) hx dk_7_113 (by decide +kernel) ?_
    refine ig_ic (v := 1) hx dk_7_114 (by decide +kernel) ?_
    refine ig_ias (j := 1) (n := 592) (f := fun _ => 0) (X' := moC ca (fun i => [h0, x1, x2, x3, x4, x5, x6, x7, x8, x9, x10, x11, x12].getD i 0) (upd (fun _ => 0) 2 1)) hx rfl (by rw [iN_ix (by omega)]; rfl) (iN_in (by omega) (by omega)) dk_7_115 ?_
    refine ig_al hx dk_7_116 rfl (lv_at hl 0 rfl) ?_
    intro H locs hP hD hS
    refine ig_ref (aL := (aLd h q1 b1 q2 q q3 b3 c3 r3 q4 b4 q5)) (b2 := b2) (mm := (fun i => [h0, x1, x2, x3, x4, x5, x6, x7, x8, x9, x10, x11, x12].getD i 0)) (tR := tR) (tD := tD) (tC := tC) (b := b) (w := w) hx hSt hl.1 (Nat.le_of_ble_eq_true rfl) (Nat.le_of_ble_eq_true rfl) (Nat.le_of_ble_eq_true rfl) (Nat.le_of_ble_eq_true rfl) dk_7_117 (ct_80 S00_ok (isNet_zero S00) NW00) (match_P hP) (match_D hD) hS (fun r M1 H1 locs1 hp hP1 hD1 hS1 => ?_)
    obtain ⟨rfl, hf, hB⟩ := hp
    exact W.vret B.exec B.bytes hret (fun t ht hW => ⟨⟨((fun i => [h0, x1, x2, x3, x4, x5, x6, x7, x8, x9, x10, x11, x12].getD i 0), M1), rfl, ⟨rfl, both00 hf hB⟩, by rw [ht]; exact hP1, hD1⟩, hS1.F ht⟩) hS1.2.2 dk_7_120 hlocks
  exact hgo s.heap [] hP hD0.self va_S.rf
end MODEL
