/-! Constructors: the history, the desk. -/
theorem shs_len (ca : Nat → ClassId) (c : Nat → Nat) : ∀ i, (shs ca c i).length = 7 * i
  | 0 => rfl
  | i + 1 => by
    have := shs_len ca c i
    show (shs ca c i ++ shC ca (c (7 * i)) (fun t => c (7 * i + t))).length = _
    rw [List.length_append, this]
    show 7 * i + 7 = _
    omega
theorem shs_congr {ca : Nat → ClassId} {c d : Nat → Nat} : ∀ {i : Nat}, (∀ k, k < 7 * i → c k = d k) → shs ca c i = shs ca d i
  | 0, _ => rfl
  | i + 1, h => by
    have ih := shs_congr (ca := ca) (c := c) (d := d) (i := i) (fun k hk => h k (by omega))
    show shs ca c i ++ shC ca (c (7 * i)) (fun t => c (7 * i + t)) = shs ca d i ++ shC ca (d (7 * i)) (fun t => d (7 * i + t))
    rw [ih]
    unfold shC shF
    dsimp only
    rw [h (7 * i) (by omega), h (7 * i + 1) (by omega), h (7 * i + 2) (by omega), h (7 * i + 3) (by omega), h (7 * i + 4) (by omega), h (7 * i + 5) (by omega), h (7 * i + 6) (by omega)]
theorem ct_i3 (l : Launch) (ca : Nat → ClassId) (D : va_G) : CTOR l yi_3 prog_3_method_1_code 2 120 5882 2 33 ca D 3 [.null, .int 0, .int 0] (fun h X => ∃ (q : Nat) (b : Nat → Nat), X = hiC ca h q b) := by
  refine ctor_of (by decide +kernel) rfl (by decide) ?_
  rintro p e s m below meth c ws0 h0 K rfl hx hret ls hl
  refine ig_al hx dk_3_0 rfl (lv_at hl 0 rfl) ?_
  refine ig_obj hx wd_89 wd_18 wd_19 hl.1 dk_3_1 (Nat.le_of_ble_eq_true rfl) (Nat.le_of_ble_eq_true rfl) ?_
  refine ig_al hx dk_3_4 rfl (lv_at hl 0 rfl) ?_
  refine ig_bi (v := (iN 17)) hx dk_3_5 (by decide +kernel) ?_
  refine ig_nq (N := 17) hx wd_90 (by decide +kernel) (by decide +kernel) (by decide) (Nat.le_of_ble_eq_true rfl) (Nat.le_of_ble_eq_true rfl) dk_3_7 (fun q1 => ?_)
  refine ig_pF (X' := [(h0, .inr (3, [.ref q1, .int 0, .int 0])), (q1, .inl (ca 2, 17, .inr (.inr (.inr (.inr (fun _ => none))))))]) (j := 0) (k := 0) (ty := .array (.object "BoardDesk$Sheet")) (v := .ref q1) hx kin3 kty3 knm3 rfl (by decide) rfl rfl wd_93 rfl rfl (by decide +kernel) rfl rfl (Nat.le_of_ble_eq_true rfl) rfl dk_3_10 ?_
  refine ig_al hx dk_3_13 rfl (lv_at hl 0 rfl) ?_
  refine ig_ic (v := 0) hx dk_3_14 (by decide +kernel) ?_
  refine ig_p (X' := [(h0, .inr (3, [.ref q1, .int 0, .int 0])), (q1, .inl (ca 2, 17, .inr (.inr (.inr (.inr (fun _ => none))))))]) (j := 0) (k := 1) (ty := .int) (v := .int 0) hx kin3 kty3 knm3 rfl (by decide) rfl rfl wd_94 rfl (by decide +kernel) rfl rfl (Nat.le_of_ble_eq_true rfl) dk_3_15 ?_
  refine ig_al hx dk_3_18 rfl (lv_at hl 0 rfl) ?_
  refine ig_ic (v := 0) hx dk_3_19 (by decide +kernel) ?_
  refine ig_p (X' := [(h0, .inr (3, [.ref q1, .int 0, .int 0])), (q1, .inl (ca 2, 17, .inr (.inr (.inr (.inr (fun _ => none))))))]) (j := 0) (k := 2) (ty := .int) (v := .int 0) hx kin3 kty3 knm3 rfl (by decide) rfl rfl wd_95 rfl (by decide +kernel) rfl rfl (Nat.le_of_ble_eq_true rfl) dk_3_20 ?_
  refine ig_ic (v := 0) hx dk_3_23 (by decide +kernel) ?_
  refine ig_is (lv' := [(1, .int 0), (0, .ref h0)]) hx dk_3_24 rfl hl (by decide) rfl (fun ls hl => ?_)
  have loop : ∀ n i ls (cc : Nat → Nat), n + i = 17 → lv_has ls 2 [(1, .int (iN i)), (0, .ref h0)] → IG (D, ca, p, l, e, { frames := 2, cells := 120, slots := 5882, locals := 33 }, s, m, #[.ref h0], below, meth, c, va_A (ws0 ++ [(h0, .inr (3, [.null, .int 0, .int 0]))]) s.heap.size, iQ D ws0 h0 s.heap.size 3 [.null, .int 0, .int 0] (fun h X => ∃ (q : Nat) (b : Nat → Nat), X = hiC ca h q b) below s 120 5882) (ws0 ++ hiF ca h0 q1 cc i) 25 ls [] (1 + 7 * i) (17 + 345 * i) := by
    intro n
    induction n with
    | zero =>
      intro i ls cc hi hl
      have hi : i = 17 := by omega
      subst hi
      refine ig_il hx dk_3_25 rfl (lv_at hl 0 rfl) ?_
      refine ig_bi (v := (iN 17)) hx dk_3_26 (by decide +kernel) ?_
      exact ig_ge (tgt := 50) hx dk_3_28 (by decide) (fun _ => hret _ _ _ ⟨_, _, rfl⟩ dk_3_50) (fun q => absurd (Int32.le_refl _) q)
    | succ n ih =>
      intro i ls cc hi hl
      refine ig_il hx dk_3_25 rfl (lv_at hl 0 rfl) ?_
      refine ig_bi (v := (iN 17)) hx dk_3_26 (by decide +kernel) ?_
      refine ig_ge (tgt := 50) hx dk_3_28 (by decide) (fun q => absurd ((iN_le (by omega) (by omega)).mp q) (by omega)) (fun _ => ?_)
      refine ig_al hx dk_3_31 rfl (lv_at hl 1 rfl) ?_
      refine ig_get (j := 0) (k := 0) (v := .ref q1) hx kin3 rfl (by decide) rfl wd_93 rfl dk_3_32 ?_
      refine ig_il hx dk_3_35 rfl (lv_at hl 0 rfl) ?_
      refine ig_new (ci := 2) (fs := [.null, .null, .null, .null, .null, .null, .int 0, .int 0, .int 0]) hx kin2 kty2 wd_90 wd_27 wd_3 rfl (by decide +kernel) (show 1 + 7 * i + 1 ≤ 120 by omega) (show 17 + 345 * i + 9 ≤ 5882 by omega) dk_3_36 (fun q => ?_)
      refine ig_dup hx dk_3_39 rfl ?_
      refine ig_ctor (y' := yi_2) hx (ct_i2 l ca D) wd_30 wd_3 wd_92 wd_29 rfl (by decide +kernel) hl.1 (Nat.le_of_ble_eq_true rfl) (Nat.le_of_ble_eq_true rfl) (Nat.le_of_ble_eq_true rfl) (show 1 + 7 * i + 1 + 6 ≤ 120 by omega) (show 17 + 345 * i + 9 + 336 ≤ 5882 by omega) dk_3_40 ?_
      rintro _ ⟨b, rfl⟩
      rw [List.append_assoc]
      obtain ⟨c', hc'⟩ : ∃ c' : Nat → Nat, c' = fun k => if k < 7 * i then cc k else if k = 7 * i then q else b (k - 7 * i) := ⟨_, rfl⟩
      have e0 : shs ca cc i = shs ca c' i := shs_congr (fun k hk => by rw [hc']; dsimp only; rw [if_pos hk])
      have e1 : shC ca q b = shC ca (c' (7 * i)) (fun t => c' (7 * i + t)) := by
        have h0 : c' (7 * i) = q := by rw [hc']; dsimp only; rw [if_neg (by omega), if_pos rfl]
        have ht : ∀ t, 0 < t → c' (7 * i + t) = b t := fun t ht => by rw [hc']; dsimp only; rw [if_neg (by omega), if_neg (by omega), show 7 * i + t - 7 * i = t by omega]
        unfold shC shF
        dsimp only
        rw [h0, ht 1 (by omega), ht 2 (by omega), ht 3 (by omega), ht 4 (by omega), ht 5 (by omega), ht 6 (by omega)]
      have e2 : hiF ca h0 q1 cc i ++ shC ca q b = [(h0, .inr (3, [.ref q1, .int 0, .int 0])), (q1, .inl (ca 2, 17, .inr (.inr (.inr (.inr (fun j => if j < i then some (cc (7 * j)) else none))))))] ++ (shs ca c' i ++ shC ca (c' (7 * i)) (fun t => c' (7 * i + t))) := by
        unfold hiF
        rw [List.append_assoc, e0, e1]
      rw [e2]
      have hlen : (shs ca c' i).length = 7 * i := shs_len _ _ _
      refine ig_aas (j := 1) (qk := 2 + 7 * i) (X' := hiF ca h0 q1 c' (i + 1)) hx rfl (vs := [.ref (b 1), .ref (b 2), .ref (b 3), .ref (b 4), .ref (b 5), .ref (b 6), .int 0, .int 0, .int 1]) (v := q) ?_ ?_ (iN_in (by omega) (by omega)) dk_3_43 ?_
      · rw [← e1, show 2 + 7 * i = 7 * i + 1 + 1 by omega]
        show (shs ca c' i ++ shC ca q b)[7 * i]? = _
        rw [List.getElem?_append_right (by omega), hlen, Nat.sub_self]
        rfl
      · have hf : va_up (fun j => if j < i then some (cc (7 * j)) else none) (iN i).toNatClampNeg (some q) = fun j => if j < i + 1 then some (c' (7 * j)) else none := by
          funext j
          rw [iN_ix (by omega)]
          unfold va_up
          by_cases a : j = i
          · rw [if_pos a, if_pos (by omega), hc', a]; dsimp only; rw [if_neg (by omega), if_pos rfl]
          · rw [if_neg a]
            dsimp only
            by_cases z : j < i
            · rw [if_pos z, if_pos (by omega), hc']; dsimp only; rw [if_pos (by omega)]
            · rw [if_neg z, if_neg (by omega)]
        rw [hf]
        rfl
      · refine ig_inc (k := 0) (v := iN (i + 1)) (lv' := [(1, .int (iN (i + 1))), (0, .ref h0)]) hx dk_3_44 hl rfl (iN_succ i) (by decide) rfl (fun ls hl => ?_)
        refine ig_goto (tgt := 25) hx dk_3_47 (by decide) ?_
        have := ih (i + 1) ls c' (by omega) hl
        rw [show 1 + 7 * (i + 1) = 1 + 7 * i + 1 + 6 by omega, show 17 + 345 * (i + 1) = 17 + 345 * i + 9 + 336 by omega] at this
        exact this
  exact loop 17 0 ls (fun _ => 0) rfl hl
theorem ct_i0 (l : Launch) (ca : Nat → ClassId) (D : va_G) : CTOR l yi_0 prog_1_method_1_code 1 147 8726 3 54 ca D 0 [.null, .null, .null, .null, .null] (fun h X => ∃ (q1 q2 q3 q4 q5 q : Nat) (b1 b2 b3 c3 r3 b4 : Nat → Nat), X = deC ca h q1 b1 q2 q b2 q3 b3 c3 r3 q4 b4 q5) := by
  refine ctor_of (by decide +kernel) rfl (by decide) ?_
  rintro p e s m below meth c ws0 h0 K rfl hx hret ls hl
  refine ig_al hx dk_0_0 rfl (lv_at hl 0 rfl) ?_
  refine ig_obj hx wd_17 wd_18 wd_19 hl.1 dk_0_1 (Nat.le_of_ble_eq_true rfl) (Nat.le_of_ble_eq_true rfl) ?_
  refine ig_al hx dk_0_4 rfl (lv_at hl 0 rfl) ?_
  refine ig_new (ci := 1) (fs := [.null, .null]) hx kin1 kty1 wd_20 wd_21 wd_2 rfl (by decide +kernel) (Nat.le_of_ble_eq_true rfl) (Nat.le_of_ble_eq_true rfl) dk_0_5 (fun q1 => ?_)
  refine ig_dup hx dk_0_8 rfl ?_
  refine ig_ctorN (y' := yi_1) hx (ct_i1 l ca D) wd_24 wd_2 hx.2.2.2.2.2.1.2.2.2.1 wd_23 rfl (by decide +kernel) hl.1 (Nat.le_of_ble_eq_true rfl) (Nat.le_of_ble_eq_true rfl) (Nat.le_of_ble_eq_true rfl) (Nat.le_of_ble_eq_true rfl) (Nat.le_of_ble_eq_true rfl) dk_0_9 ?_
  rintro _ ⟨b1, rfl⟩
  rw [List.append_assoc]
  refine ig_pF (X' := ([(h0, .inr (0, [.ref q1, .null, .null, .null, .null]))] ++ bdC ca q1 b1)) (j := 0) (k := 0) (ty := .object "BoardDesk$Board") (v := .ref q1) hx kin0 kty0 knm0 rfl (by decide) rfl rfl wd_169 rfl rfl (by decide +kernel) rfl rfl (Nat.le_of_ble_eq_true rfl) rfl dk_0_12 ?_
  refine ig_al hx dk_0_15 rfl (lv_at hl 0 rfl) ?_
  refine ig_new (ci := 3) (fs := [.null, .int 0, .int 0]) hx kin3 kty3 wd_84 wd_85 wd_4 rfl (by decide +kernel) (Nat.le_of_ble_eq_true rfl) (Nat.le_of_ble_eq_true rfl) dk_0_16 (fun q2 => ?_)
  refine ig_dup hx dk_0_19 rfl ?_
  refine ig_ctor (y' := yi_3) hx (ct_i3 l ca D) wd_88 wd_4 wd_86 wd_87 rfl (by decide +kernel) hl.1 (Nat.le_of_ble_eq_true rfl) (Nat.le_of_ble_eq_true rfl) (Nat.le_of_ble_eq_true rfl) (Nat.le_of_ble_eq_true rfl) (Nat.le_of_ble_eq_true rfl) dk_0_20 ?_
  rintro _ ⟨bq, b2, rfl⟩
  rw [List.append_assoc]
  refine ig_pF (X' := ([(h0, .inr (0, [.ref q1, .ref q2, .null, .null, .null]))] ++ bdC ca q1 b1 ++ hiC ca q2 bq b2)) (j := 0) (k := 1) (ty := .object "BoardDesk$History") (v := .ref q2) hx kin0 kty0 knm0 rfl (by decide) rfl rfl wd_170 rfl rfl (by decide +kernel) rfl rfl (Nat.le_of_ble_eq_true rfl) rfl dk_0_23 ?_
  refine ig_al hx dk_0_26 rfl (lv_at hl 0 rfl) ?_
  refine ig_new (ci := 4) (fs := [.null, .null, .int 0, .null, .null, .null]) hx kin4 kty4 wd_104 wd_105 wd_5 rfl (by decide +kernel) (Nat.le_of_ble_eq_true rfl) (Nat.le_of_ble_eq_true rfl) dk_0_27 (fun q3 => ?_)
  refine ig_dup hx dk_0_30 rfl ?_
  refine ig_ctorN (y' := yi_4) hx (ct_i4 l ca D) wd_108 wd_5 hx.2.2.2.2.2.1.2.2.2.2.1 wd_107 rfl (by decide +kernel) hl.1 (Nat.le_of_ble_eq_true rfl) (Nat.le_of_ble_eq_true rfl) (Nat.le_of_ble_eq_true rfl) (Nat.le_of_ble_eq_true rfl) (Nat.le_of_ble_eq_true rfl) dk_0_31 ?_
  rintro _ ⟨b3, c3, r3, rfl⟩
  rw [List.append_assoc]
  refine ig_pF (X' := ([(h0, .inr (0, [.ref q1, .ref q2, .ref q3, .null, .null]))] ++ bdC ca q1 b1 ++ hiC ca q2 bq b2 ++ roC ca q3 b3 c3 r3)) (j := 0) (k := 2) (ty := .object "BoardDesk$Router") (v := .ref q3) hx kin0 kty0 knm0 rfl (by decide) rfl rfl wd_171 rfl rfl (by decide +kernel) rfl rfl (Nat.le_of_ble_eq_true rfl) rfl dk_0_34 ?_
  refine ig_al hx dk_0_37 rfl (lv_at hl 0 rfl) ?_
  refine ig_new (ci := 6) (fs := [.null, .int 0, .null]) hx kin6 kty6 wd_151 wd_152 wd_7 rfl (by decide +kernel) (Nat.le_of_ble_eq_true rfl) (Nat.le_of_ble_eq_true rfl) dk_0_38 (fun q4 => ?_)
  refine ig_dup hx dk_0_41 rfl ?_
  refine ig_ctorN (y' := yi_6) hx (ct_i6 l ca D) wd_155 wd_7 hx.2.2.2.2.2.1.2.2.2.2.2.2 wd_154 rfl (by decide +kernel) hl.1 (Nat.le_of_ble_eq_true rfl) (Nat.le_of_ble_eq_true rfl) (Nat.le_of_ble_eq_true rfl) (Nat.le_of_ble_eq_true rfl) (Nat.le_of_ble_eq_true rfl) dk_0_42 ?_
  rintro _ ⟨b4, rfl⟩
  rw [List.append_assoc]
  refine ig_pF (X' := ([(h0, .inr (0, [.ref q1, .ref q2, .ref q3, .ref q4, .null]))] ++ bdC ca q1 b1 ++ hiC ca q2 bq b2 ++ roC ca q3 b3 c3 r3 ++ taC ca q4 b4)) (j := 0) (k := 3) (ty := .object "BoardDesk$Tape") (v := .ref q4) hx kin0 kty0 knm0 rfl (by decide) rfl rfl wd_172 rfl rfl (by decide +kernel) rfl rfl (Nat.le_of_ble_eq_true rfl) rfl dk_0_45 ?_
  refine ig_al hx dk_0_48 rfl (lv_at hl 0 rfl) ?_
  refine ig_bi (v := (iN 16)) hx dk_0_49 (by decide +kernel) ?_
  refine ig_na (N := 16) hx wd_74 (by decide +kernel) (by decide +kernel) (by decide) (Nat.le_of_ble_eq_true rfl) (Nat.le_of_ble_eq_true rfl) dk_0_51 (fun q5 => ?_)
  refine ig_pF (X' := ([(h0, .inr (0, [.ref q1, .ref q2, .ref q3, .ref q4, .ref q5]))] ++ bdC ca q1 b1 ++ hiC ca q2 bq b2 ++ roC ca q3 b3 c3 r3 ++ taC ca q4 b4 ++ [(q5, .inl (ca 0, 16, .inl (fun _ => 0)))])) (j := 0) (k := 4) (ty := .array .int) (v := .ref q5) hx kin0 kty0 knm0 rfl (by decide) rfl rfl wd_173 rfl rfl (by decide +kernel) rfl rfl (Nat.le_of_ble_eq_true rfl) rfl dk_0_53 ?_
  exact hret _ _ _ ⟨q1, q2, q3, q4, q5, bq, b1, b2, b3, c3, r3, b4, rfl⟩ dk_0_56
