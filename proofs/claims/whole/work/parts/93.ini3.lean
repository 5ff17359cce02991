/-! Constructors: the cells that they make. -/
def A0 (ca : Nat → ClassId) (n : Nat) : va_E := .inl (ca 0, n, .inl (fun _ => 0))
def Z0 (ca : Nat → ClassId) (n : Nat) : va_E := .inl (ca 1, n, .inl (fun _ => 0))
def shF (ca : Nat → ClassId) (h : Nat) (b : Nat → Nat) (f : Nat → Int32) : va_W := [(h, .inr (2, [.ref (b 1), .ref (b 2), .ref (b 3), .ref (b 4), .ref (b 5), .ref (b 6), .int 0, .int 0, .int 1])), (b 1, A0 ca 16), (b 2, A0 ca 24), (b 3, A0 ca 24), (b 4, A0 ca 16), (b 5, A0 ca 16), (b 6, .inl (ca 0, 240, .inl f))]
def fH (i : Nat) : Nat → Int32 := fun j => if j < i then -1 else 0
def shC (ca : Nat → ClassId) (h : Nat) (b : Nat → Nat) : va_W := shF ca h b (fH 240)
def bdC (ca : Nat → ClassId) (h : Nat) (b : Nat → Nat) : va_W := (h, .inr (1, [.ref (b 1), .ref (b 8)])) :: (shC ca (b 1) (fun i => b (i + 1)) ++ [(b 8, A0 ca 16)])
def laC (ca : Nat → ClassId) (h : Nat) (b r : Nat → Nat) : va_W := [(h, .inr (5, [.ref (b 1), .ref (b 2), .ref (b 3), .ref (b 4)])), (b 1, .inl (ca 3, 3, .inr (.inr (.inr (.inr (fun i => if i < 3 then some (r i) else none)))))), (r 0, A0 ca 240), (r 1, A0 ca 240), (r 2, A0 ca 240), (b 2, A0 ca 3), (b 3, A0 ca 3), (b 4, Z0 ca 240)]
def roC (ca : Nat → ClassId) (h : Nat) (b c r : Nat → Nat) : va_W := [(h, .inr (4, [.ref (b 1), .ref (b 2), .int 0, .ref (b 3), .ref (b 4), .ref (b 5)])), (b 1, Z0 ca 240), (b 2, A0 ca 240), (b 3, Z0 ca 240), (b 4, A0 ca 240)] ++ laC ca (b 5) c r
def taC (ca : Nat → ClassId) (h : Nat) (b : Nat → Nat) : va_W := [(h, .inr (6, [.ref (b 1), .int 0, .ref (b 2)])), (b 1, A0 ca 400), (b 2, A0 ca 120)]
/-- so many sheets -/
def shs (ca : Nat → ClassId) (c : Nat → Nat) : Nat → va_W
  | 0 => []
  | i + 1 => shs ca c i ++ shC ca (c (7 * i)) (fun t => c (7 * i + t))
def hiF (ca : Nat → ClassId) (h q : Nat) (c : Nat → Nat) (i : Nat) : va_W := [(h, .inr (3, [.ref q, .int 0, .int 0])), (q, .inl (ca 2, 17, .inr (.inr (.inr (.inr (fun j => if j < i then some (c (7 * j)) else none))))))] ++ shs ca c i
def hiC (ca : Nat → ClassId) (h q : Nat) (c : Nat → Nat) : va_W := hiF ca h q c 17
def deC (ca : Nat → ClassId) (h q1 : Nat) (b1 : Nat → Nat) (q2 q : Nat) (b2 : Nat → Nat) (q3 : Nat) (b3 c3 r3 : Nat → Nat) (q4 : Nat) (b4 : Nat → Nat) (q5 : Nat) : va_W := [(h, .inr (0, [.ref q1, .ref q2, .ref q3, .ref q4, .ref q5]))] ++ bdC ca q1 b1 ++ hiC ca q2 q b2 ++ roC ca q3 b3 c3 r3 ++ taC ca q4 b4 ++ [(q5, A0 ca 16)]

theorem ct_i6 (l : Launch) (ca : Nat → ClassId) (D : va_G) : CTOR l yi_6 prog_7_method_1_code 1 2 520 1 12 ca D 6 [.null, .int 0, .null] (fun h X => ∃ b : Nat → Nat, X = taC ca h b) := by
  refine ctor_of (by decide +kernel) rfl (by decide) ?_
  rintro p e s m below meth c ws0 h0 K rfl hx hret ls hl
  refine ig_al hx dk_6_0 rfl (lv_at hl 0 rfl) ?_
  refine ig_obj hx wd_156 wd_18 wd_19 hl.1 dk_6_1 (Nat.le_of_ble_eq_true rfl) (Nat.le_of_ble_eq_true rfl) ?_
  refine ig_al hx dk_6_4 rfl (lv_at hl 0 rfl) ?_
  refine ig_si (v := (iN 400)) hx dk_6_5 (by decide +kernel) ?_
  refine ig_na (N := 400) hx wd_74 (by decide +kernel) (by decide +kernel) (by decide) (Nat.le_of_ble_eq_true rfl) (Nat.le_of_ble_eq_true rfl) dk_6_8 (fun q1 => ?_)
  refine ig_pF (X' := [(h0, .inr (6, [.ref q1, .int 0, .null])), (q1, .inl (ca 0, 400, .inl (fun _ => 0)))]) (j := 0) (k := 0) (ty := .array .int) (v := .ref q1) hx kin6 kty6 knm6 rfl (by decide) rfl rfl wd_157 rfl rfl (by decide +kernel) rfl rfl (Nat.le_of_ble_eq_true rfl) rfl dk_6_10 ?_
  refine ig_al hx dk_6_13 rfl (lv_at hl 0 rfl) ?_
  refine ig_ic (v := 0) hx dk_6_14 (by decide +kernel) ?_
  refine ig_p (X' := [(h0, .inr (6, [.ref q1, .int 0, .null])), (q1, .inl (ca 0, 400, .inl (fun _ => 0)))]) (j := 0) (k := 1) (ty := .int) (v := .int 0) hx kin6 kty6 knm6 rfl (by decide) rfl rfl wd_158 rfl (by decide +kernel) rfl rfl (Nat.le_of_ble_eq_true rfl) dk_6_15 ?_
  refine ig_al hx dk_6_18 rfl (lv_at hl 0 rfl) ?_
  refine ig_bi (v := (iN 120)) hx dk_6_19 (by decide +kernel) ?_
  refine ig_na (N := 120) hx wd_74 (by decide +kernel) (by decide +kernel) (by decide) (Nat.le_of_ble_eq_true rfl) (Nat.le_of_ble_eq_true rfl) dk_6_21 (fun q2 => ?_)
  refine ig_pF (X' := [(h0, .inr (6, [.ref q1, .int 0, .ref q2])), (q1, .inl (ca 0, 400, .inl (fun _ => 0))), (q2, .inl (ca 0, 120, .inl (fun _ => 0)))]) (j := 0) (k := 2) (ty := .array .int) (v := .ref q2) hx kin6 kty6 knm6 rfl (by decide) rfl rfl wd_160 rfl rfl (by decide +kernel) rfl rfl (Nat.le_of_ble_eq_true rfl) rfl dk_6_23 ?_
  exact hret _ _ _ ⟨fun i => [0, q1, q2].getD i 0, rfl⟩ dk_6_26
theorem ct_i5 (l : Launch) (ca : Nat → ClassId) (D : va_G) : CTOR l yi_5 prog_4_method_1_code 1 7 969 1 12 ca D 5 [.null, .null, .null, .null] (fun h X => ∃ b r : Nat → Nat, X = laC ca h b r) := by
  refine ctor_of (by decide +kernel) rfl (by decide) ?_
  rintro p e s m below meth c ws0 h0 K rfl hx hret ls hl
  refine ig_al hx dk_5_0 rfl (lv_at hl 0 rfl) ?_
  refine ig_obj hx wd_115 wd_18 wd_19 hl.1 dk_5_1 (Nat.le_of_ble_eq_true rfl) (Nat.le_of_ble_eq_true rfl) ?_
  refine ig_al hx dk_5_4 rfl (lv_at hl 0 rfl) ?_
  refine ig_ic (v := (iN 3)) hx dk_5_5 (by decide +kernel) ?_
  refine ig_si (v := (iN 240)) hx dk_5_6 (by decide +kernel) ?_
  refine ig_mna (N := 3) (M := 240) hx wd_116 wd_74 (by decide +kernel) (by decide +kernel) (by decide +kernel) (by decide +kernel) (by decide) (by decide) (Nat.le_of_ble_eq_true rfl) (Nat.le_of_ble_eq_true rfl) dk_5_9 (fun q1 r1 => ?_)
  refine ig_pF (X' := [(h0, .inr (5, [.ref q1, .null, .null, .null])), (q1, .inl (ca 3, 3, .inr (.inr (.inr (.inr (fun i => if i < 3 then some (r1 i) else none)))))), (r1 0, .inl (ca 0, 240, .inl (fun _ => 0))), (r1 1, .inl (ca 0, 240, .inl (fun _ => 0))), (r1 2, .inl (ca 0, 240, .inl (fun _ => 0)))]) (j := 0) (k := 0) (ty := .array (.array .int)) (v := .ref q1) hx kin5 kty5 knm5 rfl (by decide) rfl rfl wd_118 rfl rfl (by decide +kernel) rfl rfl (Nat.le_of_ble_eq_true rfl) rfl dk_5_13 ?_
  refine ig_al hx dk_5_16 rfl (lv_at hl 0 rfl) ?_
  refine ig_ic (v := (iN 3)) hx dk_5_17 (by decide +kernel) ?_
  refine ig_na (N := 3) hx wd_74 (by decide +kernel) (by decide +kernel) (by decide) (Nat.le_of_ble_eq_true rfl) (Nat.le_of_ble_eq_true rfl) dk_5_18 (fun q2 => ?_)
  refine ig_pF (X' := [(h0, .inr (5, [.ref q1, .ref q2, .null, .null])), (q1, .inl (ca 3, 3, .inr (.inr (.inr (.inr (fun i => if i < 3 then some (r1 i) else none)))))), (r1 0, .inl (ca 0, 240, .inl (fun _ => 0))), (r1 1, .inl (ca 0, 240, .inl (fun _ => 0))), (r1 2, .inl (ca 0, 240, .inl (fun _ => 0))), (q2, .inl (ca 0, 3, .inl (fun _ => 0)))]) (j := 0) (k := 1) (ty := .array .int) (v := .ref q2) hx kin5 kty5 knm5 rfl (by decide) rfl rfl wd_119 rfl rfl (by decide +kernel) rfl rfl (Nat.le_of_ble_eq_true rfl) rfl dk_5_20 ?_
  refine ig_al hx dk_5_23 rfl (lv_at hl 0 rfl) ?_
  refine ig_ic (v := (iN 3)) hx dk_5_24 (by decide +kernel) ?_
  refine ig_na (N := 3) hx wd_74 (by decide +kernel) (by decide +kernel) (by decide) (Nat.le_of_ble_eq_true rfl) (Nat.le_of_ble_eq_true rfl) dk_5_25 (fun q3 => ?_)
  refine ig_pF (X' := [(h0, .inr (5, [.ref q1, .ref q2, .ref q3, .null])), (q1, .inl (ca 3, 3, .inr (.inr (.inr (.inr (fun i => if i < 3 then some (r1 i) else none)))))), (r1 0, .inl (ca 0, 240, .inl (fun _ => 0))), (r1 1, .inl (ca 0, 240, .inl (fun _ => 0))), (r1 2, .inl (ca 0, 240, .inl (fun _ => 0))), (q2, .inl (ca 0, 3, .inl (fun _ => 0))), (q3, .inl (ca 0, 3, .inl (fun _ => 0)))]) (j := 0) (k := 2) (ty := .array .int) (v := .ref q3) hx kin5 kty5 knm5 rfl (by decide) rfl rfl wd_120 rfl rfl (by decide +kernel) rfl rfl (Nat.le_of_ble_eq_true rfl) rfl dk_5_27 ?_
  refine ig_al hx dk_5_30 rfl (lv_at hl 0 rfl) ?_
  refine ig_si (v := (iN 240)) hx dk_5_31 (by decide +kernel) ?_
  refine ig_nz (N := 240) hx wd_131 (by decide +kernel) (by decide +kernel) (by decide) (Nat.le_of_ble_eq_true rfl) (Nat.le_of_ble_eq_true rfl) dk_5_34 (fun q4 => ?_)
  refine ig_pF (X' := [(h0, .inr (5, [.ref q1, .ref q2, .ref q3, .ref q4])), (q1, .inl (ca 3, 3, .inr (.inr (.inr (.inr (fun i => if i < 3 then some (r1 i) else none)))))), (r1 0, .inl (ca 0, 240, .inl (fun _ => 0))), (r1 1, .inl (ca 0, 240, .inl (fun _ => 0))), (r1 2, .inl (ca 0, 240, .inl (fun _ => 0))), (q2, .inl (ca 0, 3, .inl (fun _ => 0))), (q3, .inl (ca 0, 3, .inl (fun _ => 0))), (q4, .inl (ca 1, 240, .inl (fun _ => 0)))]) (j := 0) (k := 3) (ty := .array .boolean) (v := .ref q4) hx kin5 kty5 knm5 rfl (by decide) rfl rfl wd_121 rfl rfl (by decide +kernel) rfl rfl (Nat.le_of_ble_eq_true rfl) rfl dk_5_36 ?_
  exact hret _ _ _ ⟨fun i => [0, q1, q2, q3, q4].getD i 0, r1, rfl⟩ dk_5_39
theorem ct_i2 (l : Launch) (ca : Nat → ClassId) (D : va_G) : CTOR l yi_2 prog_6_method_1_code 2 6 336 1 12 ca D 2 [.null, .null, .null, .null, .null, .null, .int 0, .int 0, .int 0] (fun h X => ∃ b : Nat → Nat, X = shC ca h b) := by
  refine ctor_of (by decide +kernel) rfl (by decide) ?_
  rintro p e s m below meth c ws0 h0 K rfl hx hret ls hl
  refine ig_al hx dk_2_0 rfl (lv_at hl 0 rfl) ?_
  refine ig_obj hx wd_31 wd_18 wd_19 hl.1 dk_2_1 (Nat.le_of_ble_eq_true rfl) (Nat.le_of_ble_eq_true rfl) ?_
  refine ig_al hx dk_2_4 rfl (lv_at hl 0 rfl) ?_
  refine ig_bi (v := (iN 16)) hx dk_2_5 (by decide +kernel) ?_
  refine ig_na (N := 16) hx wd_74 (by decide +kernel) (by decide +kernel) (by decide) (Nat.le_of_ble_eq_true rfl) (Nat.le_of_ble_eq_true rfl) dk_2_7 (fun q1 => ?_)
  refine ig_pF (X' := [(h0, .inr (2, [.ref q1, .null, .null, .null, .null, .null, .int 0, .int 0, .int 0])), (q1, .inl (ca 0, 16, .inl (fun _ => 0)))]) (j := 0) (k := 0) (ty := .array .int) (v := .ref q1) hx kin2 kty2 knm2 rfl (by decide) rfl rfl wd_32 rfl rfl (by decide +kernel) rfl rfl (Nat.le_of_ble_eq_true rfl) rfl dk_2_9 ?_
  refine ig_al hx dk_2_12 rfl (lv_at hl 0 rfl) ?_
  refine ig_bi (v := (iN 24)) hx dk_2_13 (by decide +kernel) ?_
  refine ig_na (N := 24) hx wd_74 (by decide +kernel) (by decide +kernel) (by decide) (Nat.le_of_ble_eq_true rfl) (Nat.le_of_ble_eq_true rfl) dk_2_15 (fun q2 => ?_)
  refine ig_pF (X' := [(h0, .inr (2, [.ref q1, .ref q2, .null, .null, .null, .null, .int 0, .int 0, .int 0])), (q1, .inl (ca 0, 16, .inl (fun _ => 0))), (q2, .inl (ca 0, 24, .inl (fun _ => 0)))]) (j := 0) (k := 1) (ty := .array .int) (v := .ref q2) hx kin2 kty2 knm2 rfl (by decide) rfl rfl wd_34 rfl rfl (by decide +kernel) rfl rfl (Nat.le_of_ble_eq_true rfl) rfl dk_2_17 ?_
  refine ig_al hx dk_2_20 rfl (lv_at hl 0 rfl) ?_
  refine ig_bi (v := (iN 24)) hx dk_2_21 (by decide +kernel) ?_
  refine ig_na (N := 24) hx wd_74 (by decide +kernel) (by decide +kernel) (by decide) (Nat.le_of_ble_eq_true rfl) (Nat.le_of_ble_eq_true rfl) dk_2_23 (fun q3 => ?_)
  refine ig_pF (X' := [(h0, .inr (2, [.ref q1, .ref q2, .ref q3, .null, .null, .null, .int 0, .int 0, .int 0])), (q1, .inl (ca 0, 16, .inl (fun _ => 0))), (q2, .inl (ca 0, 24, .inl (fun _ => 0))), (q3, .inl (ca 0, 24, .inl (fun _ => 0)))]) (j := 0) (k := 2) (ty := .array .int) (v := .ref q3) hx kin2 kty2 knm2 rfl (by decide) rfl rfl wd_36 rfl rfl (by decide +kernel) rfl rfl (Nat.le_of_ble_eq_true rfl) rfl dk_2_25 ?_
  refine ig_al hx dk_2_28 rfl (lv_at hl 0 rfl) ?_
  refine ig_bi (v := (iN 16)) hx dk_2_29 (by decide +kernel) ?_
  refine ig_na (N := 16) hx wd_74 (by decide +kernel) (by decide +kernel) (by decide) (Nat.le_of_ble_eq_true rfl) (Nat.le_of_ble_eq_true rfl) dk_2_31 (fun q4 => ?_)
  refine ig_pF (X' := [(h0, .inr (2, [.ref q1, .ref q2, .ref q3, .ref q4, .null, .null, .int 0, .int 0, .int 0])), (q1, .inl (ca 0, 16, .inl (fun _ => 0))), (q2, .inl (ca 0, 24, .inl (fun _ => 0))), (q3, .inl (ca 0, 24, .inl (fun _ => 0))), (q4, .inl (ca 0, 16, .inl (fun _ => 0)))]) (j := 0) (k := 3) (ty := .array .int) (v := .ref q4) hx kin2 kty2 knm2 rfl (by decide) rfl rfl wd_38 rfl rfl (by decide +kernel) rfl rfl (Nat.le_of_ble_eq_true rfl) rfl dk_2_33 ?_
  refine ig_al hx dk_2_36 rfl (lv_at hl 0 rfl) ?_
  refine ig_bi (v := (iN 16)) hx dk_2_37 (by decide +kernel) ?_
  refine ig_na (N := 16) hx wd_74 (by decide +kernel) (by decide +kernel) (by decide) (Nat.le_of_ble_eq_true rfl) (Nat.le_of_ble_eq_true rfl) dk_2_39 (fun q5 => ?_)
  refine ig_pF (X' := [(h0, .inr (2, [.ref q1, .ref q2, .ref q3, .ref q4, .ref q5, .null, .int 0, .int 0, .int 0])), (q1, .inl (ca 0, 16, .inl (fun _ => 0))), (q2, .inl (ca 0, 24, .inl (fun _ => 0))), (q3, .inl (ca 0, 24, .inl (fun _ => 0))), (q4, .inl (ca 0, 16, .inl (fun _ => 0))), (q5, .inl (ca 0, 16, .inl (fun _ => 0)))]) (j := 0) (k := 4) (ty := .array .int) (v := .ref q5) hx kin2 kty2 knm2 rfl (by decide) rfl rfl wd_40 rfl rfl (by decide +kernel) rfl rfl (Nat.le_of_ble_eq_true rfl) rfl dk_2_41 ?_
  refine ig_al hx dk_2_44 rfl (lv_at hl 0 rfl) ?_
  refine ig_si (v := (iN 240)) hx dk_2_45 (by decide +kernel) ?_
  refine ig_na (N := 240) hx wd_74 (by decide +kernel) (by decide +kernel) (by decide) (Nat.le_of_ble_eq_true rfl) (Nat.le_of_ble_eq_true rfl) dk_2_48 (fun q6 => ?_)
  refine ig_pF (X' := [(h0, .inr (2, [.ref q1, .ref q2, .ref q3, .ref q4, .ref q5, .ref q6, .int 0, .int 0, .int 0])), (q1, .inl (ca 0, 16, .inl (fun _ => 0))), (q2, .inl (ca 0, 24, .inl (fun _ => 0))), (q3, .inl (ca 0, 24, .inl (fun _ => 0))), (q4, .inl (ca 0, 16, .inl (fun _ => 0))), (q5, .inl (ca 0, 16, .inl (fun _ => 0))), (q6, .inl (ca 0, 240, .inl (fun _ => 0)))]) (j := 0) (k := 5) (ty := .array .int) (v := .ref q6) hx kin2 kty2 knm2 rfl (by decide) rfl rfl wd_42 rfl rfl (by decide +kernel) rfl rfl (Nat.le_of_ble_eq_true rfl) rfl dk_2_50 ?_
  refine ig_al hx dk_2_53 rfl (lv_at hl 0 rfl) ?_
  refine ig_ic (v := 0) hx dk_2_54 (by decide +kernel) ?_
  refine ig_p (X' := [(h0, .inr (2, [.ref q1, .ref q2, .ref q3, .ref q4, .ref q5, .ref q6, .int 0, .int 0, .int 0])), (q1, .inl (ca 0, 16, .inl (fun _ => 0))), (q2, .inl (ca 0, 24, .inl (fun _ => 0))), (q3, .inl (ca 0, 24, .inl (fun _ => 0))), (q4, .inl (ca 0, 16, .inl (fun _ => 0))), (q5, .inl (ca 0, 16, .inl (fun _ => 0))), (q6, .inl (ca 0, 240, .inl (fun _ => 0)))]) (j := 0) (k := 6) (ty := .int) (v := .int 0) hx kin2 kty2 knm2 rfl (by decide) rfl rfl wd_45 rfl (by decide +kernel) rfl rfl (Nat.le_of_ble_eq_true rfl) dk_2_55 ?_
  refine ig_al hx dk_2_58 rfl (lv_at hl 0 rfl) ?_
  refine ig_ic (v := 0) hx dk_2_59 (by decide +kernel) ?_
  refine ig_p (X' := [(h0, .inr (2, [.ref q1, .ref q2, .ref q3, .ref q4, .ref q5, .ref q6, .int 0, .int 0, .int 0])), (q1, .inl (ca 0, 16, .inl (fun _ => 0))), (q2, .inl (ca 0, 24, .inl (fun _ => 0))), (q3, .inl (ca 0, 24, .inl (fun _ => 0))), (q4, .inl (ca 0, 16, .inl (fun _ => 0))), (q5, .inl (ca 0, 16, .inl (fun _ => 0))), (q6, .inl (ca 0, 240, .inl (fun _ => 0)))]) (j := 0) (k := 7) (ty := .int) (v := .int 0) hx kin2 kty2 knm2 rfl (by decide) rfl rfl wd_49 rfl (by decide +kernel) rfl rfl (Nat.le_of_ble_eq_true rfl) dk_2_60 ?_
  refine ig_al hx dk_2_63 rfl (lv_at hl 0 rfl) ?_
  refine ig_ic (v := 1) hx dk_2_64 (by decide +kernel) ?_
  refine ig_p (X' := [(h0, .inr (2, [.ref q1, .ref q2, .ref q3, .ref q4, .ref q5, .ref q6, .int 0, .int 0, .int 1])), (q1, .inl (ca 0, 16, .inl (fun _ => 0))), (q2, .inl (ca 0, 24, .inl (fun _ => 0))), (q3, .inl (ca 0, 24, .inl (fun _ => 0))), (q4, .inl (ca 0, 16, .inl (fun _ => 0))), (q5, .inl (ca 0, 16, .inl (fun _ => 0))), (q6, .inl (ca 0, 240, .inl (fun _ => 0)))]) (j := 0) (k := 8) (ty := .int) (v := .int 1) hx kin2 kty2 knm2 rfl (by decide) rfl rfl wd_52 rfl (by decide +kernel) rfl rfl (Nat.le_of_ble_eq_true rfl) dk_2_65 ?_
  refine ig_ic (v := 0) hx dk_2_68 (by decide +kernel) ?_
  refine ig_is (lv' := [(1, .int 0), (0, .ref h0)]) hx dk_2_69 rfl hl (by decide) rfl (fun ls hl => ?_)
  have hu : ∀ i, i < 240 → upd (fH i) (iN i).toNatClampNeg (-1) = fH (i + 1) := by
    intro i hi
    funext j
    rw [iN_ix (by omega)]
    unfold upd fH
    by_cases a : j = i
    · rw [if_pos a, if_pos (by omega)]
    · rw [if_neg a]
      by_cases b : j < i
      · rw [if_pos b, if_pos (by omega)]
      · rw [if_neg b, if_neg (by omega)]
  have loop : ∀ n i ls, n + i = 240 → lv_has ls 2 [(1, .int (iN i)), (0, .ref h0)] → IG (D, ca, p, l, e, { frames := 1, cells := 6, slots := 336, locals := 12 }, s, m, #[.ref h0], below, meth, c, va_A (ws0 ++ [(h0, .inr (2, [.null, .null, .null, .null, .null, .null, .int 0, .int 0, .int 0]))]) s.heap.size, iQ D ws0 h0 s.heap.size 2 [.null, .null, .null, .null, .null, .null, .int 0, .int 0, .int 0] (fun h X => ∃ b : Nat → Nat, X = shC ca h b) below s 6 336) (ws0 ++ shF ca h0 (fun t => [0, q1, q2, q3, q4, q5, q6].getD t 0) (fH i)) 70 ls [] 6 336 := by
    intro n
    induction n with
    | zero =>
      intro i ls hi hl
      have hi : i = 240 := by omega
      subst hi
      refine ig_il hx dk_2_70 rfl (lv_at hl 0 rfl) ?_
      refine ig_si (v := (iN 240)) hx dk_2_71 (by decide +kernel) ?_
      refine ig_ge (tgt := 90) hx dk_2_74 (by decide) (fun _ => hret _ _ _ ⟨_, rfl⟩ dk_2_90) (fun q => absurd (Int32.le_refl _) q)
    | succ n ih =>
      intro i ls hi hl
      refine ig_il hx dk_2_70 rfl (lv_at hl 0 rfl) ?_
      refine ig_si (v := (iN 240)) hx dk_2_71 (by decide +kernel) ?_
      refine ig_ge (tgt := 90) hx dk_2_74 (by decide) (fun q => absurd ((iN_le (by omega) (by omega)).mp q) (by omega)) (fun _ => ?_)
      refine ig_al hx dk_2_77 rfl (lv_at hl 1 rfl) ?_
      refine ig_get (j := 0) (k := 5) (v := .ref q6) hx kin2 rfl (by decide) rfl wd_42 rfl dk_2_78 ?_
      refine ig_il hx dk_2_81 rfl (lv_at hl 0 rfl) ?_
      refine ig_ic (v := (-1)) hx dk_2_82 (by decide +kernel) ?_
      refine ig_ias (j := 6) (n := 240) (f := fH i) (X' := shF ca h0 (fun t => [0, q1, q2, q3, q4, q5, q6].getD t 0) (fH (i + 1))) hx rfl (by rw [hu i (by omega)]; rfl) (iN_in (by omega) (by omega)) dk_2_83 ?_
      refine ig_inc (k := 0) (v := iN (i + 1)) (lv' := [(1, .int (iN (i + 1))), (0, .ref h0)]) hx dk_2_84 hl rfl (iN_succ i) (by decide) rfl (fun ls hl => ?_)
      exact ig_goto (tgt := 70) hx dk_2_87 (by decide) (ih (i + 1) ls (by omega) hl)
  exact loop 240 0 ls rfl hl
theorem ct_i1 (l : Launch) (ca : Nat → ClassId) (D : va_G) : CTOR l yi_1 prog_2_method_1_code 1 8 361 2 33 ca D 1 [.null, .null] (fun h X => ∃ b : Nat → Nat, X = bdC ca h b) := by
  refine ctor_of (by decide +kernel) rfl (by decide) ?_
  rintro p e s m below meth c ws0 h0 K rfl hx hret ls hl
  refine ig_al hx dk_1_0 rfl (lv_at hl 0 rfl) ?_
  refine ig_obj hx wd_25 wd_18 wd_19 hl.1 dk_1_1 (Nat.le_of_ble_eq_true rfl) (Nat.le_of_ble_eq_true rfl) ?_
  refine ig_al hx dk_1_4 rfl (lv_at hl 0 rfl) ?_
  refine ig_new (ci := 2) (fs := [.null, .null, .null, .null, .null, .null, .int 0, .int 0, .int 0]) hx kin2 kty2 wd_26 wd_27 wd_3 rfl (by decide +kernel) (Nat.le_of_ble_eq_true rfl) (Nat.le_of_ble_eq_true rfl) dk_1_5 (fun q1 => ?_)
  refine ig_dup hx dk_1_8 rfl ?_
  refine ig_ctor (y' := yi_2) hx (ct_i2 l ca D) wd_30 wd_3 wd_28 wd_29 rfl (by decide +kernel) hl.1 (Nat.le_of_ble_eq_true rfl) (Nat.le_of_ble_eq_true rfl) (Nat.le_of_ble_eq_true rfl) (Nat.le_of_ble_eq_true rfl) (Nat.le_of_ble_eq_true rfl) dk_1_9 ?_
  rintro _ ⟨b1, rfl⟩
  rw [List.append_assoc]
  refine ig_pF (X' := ([(h0, .inr (1, [.ref q1, .null]))] ++ shC ca q1 b1)) (j := 0) (k := 0) (ty := .object "BoardDesk$Sheet") (v := .ref q1) hx kin1 kty1 knm1 rfl (by decide) rfl rfl wd_75 rfl rfl (by decide +kernel) rfl rfl (Nat.le_of_ble_eq_true rfl) rfl dk_1_12 ?_
  refine ig_al hx dk_1_15 rfl (lv_at hl 0 rfl) ?_
  refine ig_bi (v := (iN 16)) hx dk_1_16 (by decide +kernel) ?_
  refine ig_na (N := 16) hx wd_74 (by decide +kernel) (by decide +kernel) (by decide) (Nat.le_of_ble_eq_true rfl) (Nat.le_of_ble_eq_true rfl) dk_1_18 (fun q2 => ?_)
  refine ig_pF (X' := ([(h0, .inr (1, [.ref q1, .ref q2]))] ++ shC ca q1 b1 ++ [(q2, .inl (ca 0, 16, .inl (fun _ => 0)))])) (j := 0) (k := 1) (ty := .array .int) (v := .ref q2) hx kin1 kty1 knm1 rfl (by decide) rfl rfl wd_78 rfl rfl (by decide +kernel) rfl rfl (Nat.le_of_ble_eq_true rfl) rfl dk_1_20 ?_
  exact hret _ _ _ ⟨fun i => [0, q1, b1 1, b1 2, b1 3, b1 4, b1 5, b1 6, q2].getD i 0, rfl⟩ dk_1_23
theorem ct_i4 (l : Launch) (ca : Nat → ClassId) (D : va_G) : CTOR l yi_4 prog_5_method_1_code 1 12 1933 2 32 ca D 4 [.null, .null, .int 0, .null, .null, .null] (fun h X => ∃ b c r : Nat → Nat, X = roC ca h b c r) := by
  refine ctor_of (by decide +kernel) rfl (by decide) ?_
  rintro p e s m below meth c ws0 h0 K rfl hx hret ls hl
  refine ig_al hx dk_4_0 rfl (lv_at hl 0 rfl) ?_
  refine ig_obj hx wd_109 wd_18 wd_19 hl.1 dk_4_1 (Nat.le_of_ble_eq_true rfl) (Nat.le_of_ble_eq_true rfl) ?_
  refine ig_al hx dk_4_4 rfl (lv_at hl 0 rfl) ?_
  refine ig_si (v := (iN 240)) hx dk_4_5 (by decide +kernel) ?_
  refine ig_nz (N := 240) hx wd_131 (by decide +kernel) (by decide +kernel) (by decide) (Nat.le_of_ble_eq_true rfl) (Nat.le_of_ble_eq_true rfl) dk_4_8 (fun q1 => ?_)
  refine ig_pF (X' := [(h0, .inr (4, [.ref q1, .null, .int 0, .null, .null, .null])), (q1, .inl (ca 1, 240, .inl (fun _ => 0)))]) (j := 0) (k := 0) (ty := .array .boolean) (v := .ref q1) hx kin4 kty4 knm4 rfl (by decide) rfl rfl wd_132 rfl rfl (by decide +kernel) rfl rfl (Nat.le_of_ble_eq_true rfl) rfl dk_4_10 ?_
  refine ig_al hx dk_4_13 rfl (lv_at hl 0 rfl) ?_
  refine ig_si (v := (iN 240)) hx dk_4_14 (by decide +kernel) ?_
  refine ig_na (N := 240) hx wd_74 (by decide +kernel) (by decide +kernel) (by decide) (Nat.le_of_ble_eq_true rfl) (Nat.le_of_ble_eq_true rfl) dk_4_17 (fun q2 => ?_)
  refine ig_pF (X' := [(h0, .inr (4, [.ref q1, .ref q2, .int 0, .null, .null, .null])), (q1, .inl (ca 1, 240, .inl (fun _ => 0))), (q2, .inl (ca 0, 240, .inl (fun _ => 0)))]) (j := 0) (k := 1) (ty := .array .int) (v := .ref q2) hx kin4 kty4 knm4 rfl (by decide) rfl rfl wd_133 rfl rfl (by decide +kernel) rfl rfl (Nat.le_of_ble_eq_true rfl) rfl dk_4_19 ?_
  refine ig_al hx dk_4_22 rfl (lv_at hl 0 rfl) ?_
  refine ig_ic (v := 0) hx dk_4_23 (by decide +kernel) ?_
  refine ig_p (X' := [(h0, .inr (4, [.ref q1, .ref q2, .int 0, .null, .null, .null])), (q1, .inl (ca 1, 240, .inl (fun _ => 0))), (q2, .inl (ca 0, 240, .inl (fun _ => 0)))]) (j := 0) (k := 2) (ty := .int) (v := .int 0) hx kin4 kty4 knm4 rfl (by decide) rfl rfl wd_134 rfl (by decide +kernel) rfl rfl (Nat.le_of_ble_eq_true rfl) dk_4_24 ?_
  refine ig_al hx dk_4_27 rfl (lv_at hl 0 rfl) ?_
  refine ig_si (v := (iN 240)) hx dk_4_28 (by decide +kernel) ?_
  refine ig_nz (N := 240) hx wd_131 (by decide +kernel) (by decide +kernel) (by decide) (Nat.le_of_ble_eq_true rfl) (Nat.le_of_ble_eq_true rfl) dk_4_31 (fun q3 => ?_)
  refine ig_pF (X' := [(h0, .inr (4, [.ref q1, .ref q2, .int 0, .ref q3, .null, .null])), (q1, .inl (ca 1, 240, .inl (fun _ => 0))), (q2, .inl (ca 0, 240, .inl (fun _ => 0))), (q3, .inl (ca 1, 240, .inl (fun _ => 0)))]) (j := 0) (k := 3) (ty := .array .boolean) (v := .ref q3) hx kin4 kty4 knm4 rfl (by decide) rfl rfl wd_135 rfl rfl (by decide +kernel) rfl rfl (Nat.le_of_ble_eq_true rfl) rfl dk_4_33 ?_
  refine ig_al hx dk_4_36 rfl (lv_at hl 0 rfl) ?_
  refine ig_si (v := (iN 240)) hx dk_4_37 (by decide +kernel) ?_
  refine ig_na (N := 240) hx wd_74 (by decide +kernel) (by decide +kernel) (by decide) (Nat.le_of_ble_eq_true rfl) (Nat.le_of_ble_eq_true rfl) dk_4_40 (fun q4 => ?_)
  refine ig_pF (X' := [(h0, .inr (4, [.ref q1, .ref q2, .int 0, .ref q3, .ref q4, .null])), (q1, .inl (ca 1, 240, .inl (fun _ => 0))), (q2, .inl (ca 0, 240, .inl (fun _ => 0))), (q3, .inl (ca 1, 240, .inl (fun _ => 0))), (q4, .inl (ca 0, 240, .inl (fun _ => 0)))]) (j := 0) (k := 4) (ty := .array .int) (v := .ref q4) hx kin4 kty4 knm4 rfl (by decide) rfl rfl wd_136 rfl rfl (by decide +kernel) rfl rfl (Nat.le_of_ble_eq_true rfl) rfl dk_4_42 ?_
  refine ig_al hx dk_4_45 rfl (lv_at hl 0 rfl) ?_
  refine ig_new (ci := 5) (fs := [.null, .null, .null, .null]) hx kin5 kty5 wd_110 wd_111 wd_6 rfl (by decide +kernel) (Nat.le_of_ble_eq_true rfl) (Nat.le_of_ble_eq_true rfl) dk_4_46 (fun q5 => ?_)
  refine ig_dup hx dk_4_49 rfl ?_
  refine ig_ctorN (y' := yi_5) hx (ct_i5 l ca D) wd_114 wd_6 hx.2.2.2.2.2.1.2.2.2.2.2.1 wd_113 rfl (by decide +kernel) hl.1 (Nat.le_of_ble_eq_true rfl) (Nat.le_of_ble_eq_true rfl) (Nat.le_of_ble_eq_true rfl) (Nat.le_of_ble_eq_true rfl) (Nat.le_of_ble_eq_true rfl) dk_4_50 ?_
  rintro _ ⟨b1, r1, rfl⟩
  rw [List.append_assoc]
  refine ig_pF (X' := ([(h0, .inr (4, [.ref q1, .ref q2, .int 0, .ref q3, .ref q4, .ref q5])), (q1, .inl (ca 1, 240, .inl (fun _ => 0))), (q2, .inl (ca 0, 240, .inl (fun _ => 0))), (q3, .inl (ca 1, 240, .inl (fun _ => 0))), (q4, .inl (ca 0, 240, .inl (fun _ => 0)))] ++ laC ca q5 b1 r1)) (j := 0) (k := 5) (ty := .object "BoardDesk$Lanes") (v := .ref q5) hx kin4 kty4 knm4 rfl (by decide) rfl rfl wd_137 rfl rfl (by decide +kernel) rfl rfl (Nat.le_of_ble_eq_true rfl) rfl dk_4_53 ?_
  exact hret _ _ _ ⟨fun i => [0, q1, q2, q3, q4, q5].getD i 0, b1, r1, rfl⟩ dk_4_56
