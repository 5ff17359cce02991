/-! A switch's default; a copy of one array into another. -/
theorem sw_dflt {x : Int32} {ts : List Nat} {d : Nat} (h : ∀ k : Nat, k < ts.length → ¬ x = Int32.ofNat k) (hl : ts.length < 2 ^ 31) : (if x.toInt < 0 then d else ts.getD (x.toInt - 0).toNat d) = d := by
  split
  · rfl
  · rename_i hx
    by_cases hk : (x.toInt - 0).toNat < ts.length
    · exfalso
      refine h _ hk ?_
      apply Int32.toInt_inj.mp
      rw [Int32.toInt_ofNat_of_lt (by omega)]
      omega
    · rw [List.getD_eq_getElem?_getD, List.getElem?_eq_none (by omega)]
      rfl
theorem sw_d4 {x : Int32} {t0 t1 t2 t3 d : Nat} (h0 : ¬ x = 0) (h1 : ¬ x = 1) (h2 : ¬ x = 2) (h3 : ¬ x = 3) : (if x.toInt < 0 then d else [t0, t1, t2, t3].getD (x.toInt - 0).toNat d) = d :=
  sw_dflt (fun k hk => match k, hk with
    | 0, _ => h0
    | 1, _ => h1
    | 2, _ => h2
    | 3, _ => h3
    | n + 4, hk => absurd hk (by simp)) (by simp)
def mc (M : qM) (q0 q1 k : Nat) : qM := va_up M q1 (va_cpy (M q0) (M q1) 0 0 k)
theorem mc_at {M : qM} {q0 q1 k j : Nat} (h : j < k) : mc M q0 q1 k q1 j = M q0 j := by
  unfold mc va_cpy
  rw [va_up_self, if_pos (by omega)]
  congr 1
  omega
theorem mc_ne {M : qM} {q0 q1 k a : Nat} (h : a ≠ q1) : mc M q0 q1 k a = M a := by unfold mc; rw [va_up_ne _ _ h]
theorem ev_cpm {lay : Nat → qL} {mx : Nat → Nat} {P : qP} {mi pc pc' : Nat} {loc : List (Option Value)} {st : List Value} {M : qM} {post : qR} {q0 q1 n0 n1 k : Nat} {n : Int32} (hP : P mi pc = some (.inl (qo_cp lay))) (hpc : pc + 3 = pc') (h0 : lay q0 = .inl (0, n0)) (h1 : lay q1 = .inl (0, n1)) (hr : (st.map fun v => v.category).sum ≤ 8) (h4 : ¬ n < 0) (ek : n.toNatClampNeg = k) (h5 : k ≤ n0) (h6 : k ≤ n1)
    (h : qq_Ev lay mx P mi pc' loc st (mc M q0 q1 k) post) : qq_Ev lay mx P mi pc loc (.int n :: .int 0 :: .ref q1 :: .int 0 :: .ref q0 :: st) M post :=
  ev_cpc (a := 0) (b := 0) (k := k) hP hpc h0 h1 hr (by decide) (by decide) h4 (by decide) (by decide) ek (by omega) (by omega) h
