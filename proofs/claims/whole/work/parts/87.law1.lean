/-! Printed: the law, from its loop on. -/
theorem sw_d20 {x : Int32} {t0 t1 t2 t3 t4 t5 t6 t7 t8 t9 t10 t11 t12 t13 t14 t15 t16 t17 t18 t19 d : Nat} (h0 : ¬ x = 0) (h1 : ¬ x = 1) (h2 : ¬ x = 2) (h3 : ¬ x = 3) (h4 : ¬ x = 4) (h5 : ¬ x = 5) (h6 : ¬ x = 6) (h7 : ¬ x = 7) (h8 : ¬ x = 8) (h9 : ¬ x = 9) (h10 : ¬ x = 10) (h11 : ¬ x = 11) (h12 : ¬ x = 12) (h13 : ¬ x = 13) (h14 : ¬ x = 14) (h15 : ¬ x = 15) (h16 : ¬ x = 16) (h17 : ¬ x = 17) (h18 : ¬ x = 18) (h19 : ¬ x = 19) : (if x.toInt < 0 then d else [t0, t1, t2, t3, t4, t5, t6, t7, t8, t9, t10, t11, t12, t13, t14, t15, t16, t17, t18, t19].getD (x.toInt - 0).toNat d) = d :=
  sw_dflt (fun k hk => match k, hk with
    | 0, _ => h0
    | 1, _ => h1
    | 2, _ => h2
    | 3, _ => h3
    | 4, _ => h4
    | 5, _ => h5
    | 6, _ => h6
    | 7, _ => h7
    | 8, _ => h8
    | 9, _ => h9
    | 10, _ => h10
    | 11, _ => h11
    | 12, _ => h12
    | 13, _ => h13
    | 14, _ => h14
    | 15, _ => h15
    | 16, _ => h16
    | 17, _ => h17
    | 18, _ => h18
    | 19, _ => h19
    | n + 20, hk => absurd hk (by simp)) (by simp)
theorem wk_123_16 {w : qS} {M : qM} {o3 : Option Value} {post : qR}
    (h1 : gE w 123 18 [some (.ref 210), some (.ref 0), some (.ref 148), some (.int 0)] [] M post) :
    gE w 123 16 [some (.ref 210), some (.ref 0), some (.ref 148), o3] [] M post := by
  refine ev_k (pc' := 17) (pt_123_16 w) rfl ?_
  refine ev_is (pc' := 18) (loc1 := [some (.ref 210), some (.ref 0), some (.ref 148), some (.int 0)]) (pt_123_17 w) rfl rfl ?_
  exact h1

theorem wk_123_18 {w : qS} {M : qM} {x3 : Int32} {post : qR}
    (h1 : (c1 : ((Int32.ofNat w.1) - (iN 5)) < x3) → post (some (.int 1)) M)
    (b2 : (c1 : ¬ ((Int32.ofNat w.1) - (iN 5)) < x3) → vp_in x3 w.1)
    (h3 : (c1 : ¬ ((Int32.ofNat w.1) - (iN 5)) < x3) → (c2 : ((w.2 x3.toNatClampNeg) &&& (iN 31)) = 0) → gE w 123 128 [some (.ref 210), some (.ref 0), some (.ref 148), some (.int x3)] [] M post)
    (h4 : (c1 : ¬ ((Int32.ofNat w.1) - (iN 5)) < x3) → (c2 : ¬ ((w.2 x3.toNatClampNeg) &&& (iN 31)) = 0) → (c3 : ((w.2 x3.toNatClampNeg) &&& (iN 31)) = 1) → gE w 123 151 [some (.ref 210), some (.ref 0), some (.ref 148), some (.int x3)] [] M post)
    (h5 : (c1 : ¬ ((Int32.ofNat w.1) - (iN 5)) < x3) → (c2 : ¬ ((w.2 x3.toNatClampNeg) &&& (iN 31)) = 0) → (c3 : ¬ ((w.2 x3.toNatClampNeg) &&& (iN 31)) = 1) → (c4 : ((w.2 x3.toNatClampNeg) &&& (iN 31)) = 2) → gE w 123 184 [some (.ref 210), some (.ref 0), some (.ref 148), some (.int x3)] [] M post)
    (h6 : (c1 : ¬ ((Int32.ofNat w.1) - (iN 5)) < x3) → (c2 : ¬ ((w.2 x3.toNatClampNeg) &&& (iN 31)) = 0) → (c3 : ¬ ((w.2 x3.toNatClampNeg) &&& (iN 31)) = 1) → (c4 : ¬ ((w.2 x3.toNatClampNeg) &&& (iN 31)) = 2) → (c5 : ((w.2 x3.toNatClampNeg) &&& (iN 31)) = 3) → gE w 123 207 [some (.ref 210), some (.ref 0), some (.ref 148), some (.int x3)] [] M post)
    (h7 : (c1 : ¬ ((Int32.ofNat w.1) - (iN 5)) < x3) → (c2 : ¬ ((w.2 x3.toNatClampNeg) &&& (iN 31)) = 0) → (c3 : ¬ ((w.2 x3.toNatClampNeg) &&& (iN 31)) = 1) → (c4 : ¬ ((w.2 x3.toNatClampNeg) &&& (iN 31)) = 2) → (c5 : ¬ ((w.2 x3.toNatClampNeg) &&& (iN 31)) = 3) → (c6 : ((w.2 x3.toNatClampNeg) &&& (iN 31)) = 4) → gE w 123 230 [some (.ref 210), some (.ref 0), some (.ref 148), some (.int x3)] [] M post)
    (h8 : (c1 : ¬ ((Int32.ofNat w.1) - (iN 5)) < x3) → (c2 : ¬ ((w.2 x3.toNatClampNeg) &&& (iN 31)) = 0) → (c3 : ¬ ((w.2 x3.toNatClampNeg) &&& (iN 31)) = 1) → (c4 : ¬ ((w.2 x3.toNatClampNeg) &&& (iN 31)) = 2) → (c5 : ¬ ((w.2 x3.toNatClampNeg) &&& (iN 31)) = 3) → (c6 : ¬ ((w.2 x3.toNatClampNeg) &&& (iN 31)) = 4) → (c7 : ((w.2 x3.toNatClampNeg) &&& (iN 31)) = 5) → gE w 123 263 [some (.ref 210), some (.ref 0), some (.ref 148), some (.int x3)] [] M post)
    (h9 : (c1 : ¬ ((Int32.ofNat w.1) - (iN 5)) < x3) → (c2 : ¬ ((w.2 x3.toNatClampNeg) &&& (iN 31)) = 0) → (c3 : ¬ ((w.2 x3.toNatClampNeg) &&& (iN 31)) = 1) → (c4 : ¬ ((w.2 x3.toNatClampNeg) &&& (iN 31)) = 2) → (c5 : ¬ ((w.2 x3.toNatClampNeg) &&& (iN 31)) = 3) → (c6 : ¬ ((w.2 x3.toNatClampNeg) &&& (iN 31)) = 4) → (c7 : ¬ ((w.2 x3.toNatClampNeg) &&& (iN 31)) = 5) → (c8 : ((w.2 x3.toNatClampNeg) &&& (iN 31)) = 6) → gE w 123 316 [some (.ref 210), some (.ref 0), some (.ref 148), some (.int x3)] [] M post)
    (h10 : (c1 : ¬ ((Int32.ofNat w.1) - (iN 5)) < x3) → (c2 : ¬ ((w.2 x3.toNatClampNeg) &&& (iN 31)) = 0) → (c3 : ¬ ((w.2 x3.toNatClampNeg) &&& (iN 31)) = 1) → (c4 : ¬ ((w.2 x3.toNatClampNeg) &&& (iN 31)) = 2) → (c5 : ¬ ((w.2 x3.toNatClampNeg) &&& (iN 31)) = 3) → (c6 : ¬ ((w.2 x3.toNatClampNeg) &&& (iN 31)) = 4) → (c7 : ¬ ((w.2 x3.toNatClampNeg) &&& (iN 31)) = 5) → (c8 : ¬ ((w.2 x3.toNatClampNeg) &&& (iN 31)) = 6) → (c9 : ((w.2 x3.toNatClampNeg) &&& (iN 31)) = 7) → gE w 123 339 [some (.ref 210), some (.ref 0), some (.ref 148), some (.int x3)] [] M post)
    (h11 : (c1 : ¬ ((Int32.ofNat w.1) - (iN 5)) < x3) → (c2 : ¬ ((w.2 x3.toNatClampNeg) &&& (iN 31)) = 0) → (c3 : ¬ ((w.2 x3.toNatClampNeg) &&& (iN 31)) = 1) → (c4 : ¬ ((w.2 x3.toNatClampNeg) &&& (iN 31)) = 2) → (c5 : ¬ ((w.2 x3.toNatClampNeg) &&& (iN 31)) = 3) → (c6 : ¬ ((w.2 x3.toNatClampNeg) &&& (iN 31)) = 4) → (c7 : ¬ ((w.2 x3.toNatClampNeg) &&& (iN 31)) = 5) → (c8 : ¬ ((w.2 x3.toNatClampNeg) &&& (iN 31)) = 6) → (c9 : ¬ ((w.2 x3.toNatClampNeg) &&& (iN 31)) = 7) → (c10 : ((w.2 x3.toNatClampNeg) &&& (iN 31)) = 8) → gE w 123 362 [some (.ref 210), some (.ref 0), some (.ref 148), some (.int x3)] [] M post)
    (h12 : (c1 : ¬ ((Int32.ofNat w.1) - (iN 5)) < x3) → (c2 : ¬ ((w.2 x3.toNatClampNeg) &&& (iN 31)) = 0) → (c3 : ¬ ((w.2 x3.toNatClampNeg) &&& (iN 31)) = 1) → (c4 : ¬ ((w.2 x3.toNatClampNeg) &&& (iN 31)) = 2) → (c5 : ¬ ((w.2 x3.toNatClampNeg) &&& (iN 31)) = 3) → (c6 : ¬ ((w.2 x3.toNatClampNeg) &&& (iN 31)) = 4) → (c7 : ¬ ((w.2 x3.toNatClampNeg) &&& (iN 31)) = 5) → (c8 : ¬ ((w.2 x3.toNatClampNeg) &&& (iN 31)) = 6) → (c9 : ¬ ((w.2 x3.toNatClampNeg) &&& (iN 31)) = 7) → (c10 : ¬ ((w.2 x3.toNatClampNeg) &&& (iN 31)) = 8) → (c11 : ((w.2 x3.toNatClampNeg) &&& (iN 31)) = 9) → gE w 123 411 [some (.ref 210), some (.ref 0), some (.ref 148), some (.int x3)] [] M post)
    (h13 : (c1 : ¬ ((Int32.ofNat w.1) - (iN 5)) < x3) → (c2 : ¬ ((w.2 x3.toNatClampNeg) &&& (iN 31)) = 0) → (c3 : ¬ ((w.2 x3.toNatClampNeg) &&& (iN 31)) = 1) → (c4 : ¬ ((w.2 x3.toNatClampNeg) &&& (iN 31)) = 2) → (c5 : ¬ ((w.2 x3.toNatClampNeg) &&& (iN 31)) = 3) → (c6 : ¬ ((w.2 x3.toNatClampNeg) &&& (iN 31)) = 4) → (c7 : ¬ ((w.2 x3.toNatClampNeg) &&& (iN 31)) = 5) → (c8 : ¬ ((w.2 x3.toNatClampNeg) &&& (iN 31)) = 6) → (c9 : ¬ ((w.2 x3.toNatClampNeg) &&& (iN 31)) = 7) → (c10 : ¬ ((w.2 x3.toNatClampNeg) &&& (iN 31)) = 8) → (c11 : ¬ ((w.2 x3.toNatClampNeg) &&& (iN 31)) = 9) → (c12 : ((w.2 x3.toNatClampNeg) &&& (iN 31)) = 10) → gE w 123 464 [some (.ref 210), some (.ref 0), some (.ref 148), some (.int x3)] [] M post)
    (h14 : (c1 : ¬ ((Int32.ofNat w.1) - (iN 5)) < x3) → (c2 : ¬ ((w.2 x3.toNatClampNeg) &&& (iN 31)) = 0) → (c3 : ¬ ((w.2 x3.toNatClampNeg) &&& (iN 31)) = 1) → (c4 : ¬ ((w.2 x3.toNatClampNeg) &&& (iN 31)) = 2) → (c5 : ¬ ((w.2 x3.toNatClampNeg) &&& (iN 31)) = 3) → (c6 : ¬ ((w.2 x3.toNatClampNeg) &&& (iN 31)) = 4) → (c7 : ¬ ((w.2 x3.toNatClampNeg) &&& (iN 31)) = 5) → (c8 : ¬ ((w.2 x3.toNatClampNeg) &&& (iN 31)) = 6) → (c9 : ¬ ((w.2 x3.toNatClampNeg) &&& (iN 31)) = 7) → (c10 : ¬ ((w.2 x3.toNatClampNeg) &&& (iN 31)) = 8) → (c11 : ¬ ((w.2 x3.toNatClampNeg) &&& (iN 31)) = 9) → (c12 : ¬ ((w.2 x3.toNatClampNeg) &&& (iN 31)) = 10) → (c13 : ((w.2 x3.toNatClampNeg) &&& (iN 31)) = 11) → gE w 123 487 [some (.ref 210), some (.ref 0), some (.ref 148), some (.int x3)] [] M post)
    (h15 : (c1 : ¬ ((Int32.ofNat w.1) - (iN 5)) < x3) → (c2 : ¬ ((w.2 x3.toNatClampNeg) &&& (iN 31)) = 0) → (c3 : ¬ ((w.2 x3.toNatClampNeg) &&& (iN 31)) = 1) → (c4 : ¬ ((w.2 x3.toNatClampNeg) &&& (iN 31)) = 2) → (c5 : ¬ ((w.2 x3.toNatClampNeg) &&& (iN 31)) = 3) → (c6 : ¬ ((w.2 x3.toNatClampNeg) &&& (iN 31)) = 4) → (c7 : ¬ ((w.2 x3.toNatClampNeg) &&& (iN 31)) = 5) → (c8 : ¬ ((w.2 x3.toNatClampNeg) &&& (iN 31)) = 6) → (c9 : ¬ ((w.2 x3.toNatClampNeg) &&& (iN 31)) = 7) → (c10 : ¬ ((w.2 x3.toNatClampNeg) &&& (iN 31)) = 8) → (c11 : ¬ ((w.2 x3.toNatClampNeg) &&& (iN 31)) = 9) → (c12 : ¬ ((w.2 x3.toNatClampNeg) &&& (iN 31)) = 10) → (c13 : ¬ ((w.2 x3.toNatClampNeg) &&& (iN 31)) = 11) → (c14 : ((w.2 x3.toNatClampNeg) &&& (iN 31)) = 12) → gE w 123 510 [some (.ref 210), some (.ref 0), some (.ref 148), some (.int x3)] [] M post)
    (h16 : (c1 : ¬ ((Int32.ofNat w.1) - (iN 5)) < x3) → (c2 : ¬ ((w.2 x3.toNatClampNeg) &&& (iN 31)) = 0) → (c3 : ¬ ((w.2 x3.toNatClampNeg) &&& (iN 31)) = 1) → (c4 : ¬ ((w.2 x3.toNatClampNeg) &&& (iN 31)) = 2) → (c5 : ¬ ((w.2 x3.toNatClampNeg) &&& (iN 31)) = 3) → (c6 : ¬ ((w.2 x3.toNatClampNeg) &&& (iN 31)) = 4) → (c7 : ¬ ((w.2 x3.toNatClampNeg) &&& (iN 31)) = 5) → (c8 : ¬ ((w.2 x3.toNatClampNeg) &&& (iN 31)) = 6) → (c9 : ¬ ((w.2 x3.toNatClampNeg) &&& (iN 31)) = 7) → (c10 : ¬ ((w.2 x3.toNatClampNeg) &&& (iN 31)) = 8) → (c11 : ¬ ((w.2 x3.toNatClampNeg) &&& (iN 31)) = 9) → (c12 : ¬ ((w.2 x3.toNatClampNeg) &&& (iN 31)) = 10) → (c13 : ¬ ((w.2 x3.toNatClampNeg) &&& (iN 31)) = 11) → (c14 : ¬ ((w.2 x3.toNatClampNeg) &&& (iN 31)) = 12) → (c15 : ((w.2 x3.toNatClampNeg) &&& (iN 31)) = 13) → gE w 123 533 [some (.ref 210), some (.ref 0), some (.ref 148), some (.int x3)] [] M post)
    (h17 : (c1 : ¬ ((Int32.ofNat w.1) - (iN 5)) < x3) → (c2 : ¬ ((w.2 x3.toNatClampNeg) &&& (iN 31)) = 0) → (c3 : ¬ ((w.2 x3.toNatClampNeg) &&& (iN 31)) = 1) → (c4 : ¬ ((w.2 x3.toNatClampNeg) &&& (iN 31)) = 2) → (c5 : ¬ ((w.2 x3.toNatClampNeg) &&& (iN 31)) = 3) → (c6 : ¬ ((w.2 x3.toNatClampNeg) &&& (iN 31)) = 4) → (c7 : ¬ ((w.2 x3.toNatClampNeg) &&& (iN 31)) = 5) → (c8 : ¬ ((w.2 x3.toNatClampNeg) &&& (iN 31)) = 6) → (c9 : ¬ ((w.2 x3.toNatClampNeg) &&& (iN 31)) = 7) → (c10 : ¬ ((w.2 x3.toNatClampNeg) &&& (iN 31)) = 8) → (c11 : ¬ ((w.2 x3.toNatClampNeg) &&& (iN 31)) = 9) → (c12 : ¬ ((w.2 x3.toNatClampNeg) &&& (iN 31)) = 10) → (c13 : ¬ ((w.2 x3.toNatClampNeg) &&& (iN 31)) = 11) → (c14 : ¬ ((w.2 x3.toNatClampNeg) &&& (iN 31)) = 12) → (c15 : ¬ ((w.2 x3.toNatClampNeg) &&& (iN 31)) = 13) → (c16 : ((w.2 x3.toNatClampNeg) &&& (iN 31)) = 14) → gE w 123 546 [some (.ref 210), some (.ref 0), some (.ref 148), some (.int x3)] [] M post)
    (h18 : (c1 : ¬ ((Int32.ofNat w.1) - (iN 5)) < x3) → (c2 : ¬ ((w.2 x3.toNatClampNeg) &&& (iN 31)) = 0) → (c3 : ¬ ((w.2 x3.toNatClampNeg) &&& (iN 31)) = 1) → (c4 : ¬ ((w.2 x3.toNatClampNeg) &&& (iN 31)) = 2) → (c5 : ¬ ((w.2 x3.toNatClampNeg) &&& (iN 31)) = 3) → (c6 : ¬ ((w.2 x3.toNatClampNeg) &&& (iN 31)) = 4) → (c7 : ¬ ((w.2 x3.toNatClampNeg) &&& (iN 31)) = 5) → (c8 : ¬ ((w.2 x3.toNatClampNeg) &&& (iN 31)) = 6) → (c9 : ¬ ((w.2 x3.toNatClampNeg) &&& (iN 31)) = 7) → (c10 : ¬ ((w.2 x3.toNatClampNeg) &&& (iN 31)) = 8) → (c11 : ¬ ((w.2 x3.toNatClampNeg) &&& (iN 31)) = 9) → (c12 : ¬ ((w.2 x3.toNatClampNeg) &&& (iN 31)) = 10) → (c13 : ¬ ((w.2 x3.toNatClampNeg) &&& (iN 31)) = 11) → (c14 : ¬ ((w.2 x3.toNatClampNeg) &&& (iN 31)) = 12) → (c15 : ¬ ((w.2 x3.toNatClampNeg) &&& (iN 31)) = 13) → (c16 : ¬ ((w.2 x3.toNatClampNeg) &&& (iN 31)) = 14) → (c17 : ((w.2 x3.toNatClampNeg) &&& (iN 31)) = 15) → gE w 123 569 [some (.ref 210), some (.ref 0), some (.ref 148), some (.int x3)] [] M post)
    (h19 : (c1 : ¬ ((Int32.ofNat w.1) - (iN 5)) < x3) → (c2 : ¬ ((w.2 x3.toNatClampNeg) &&& (iN 31)) = 0) → (c3 : ¬ ((w.2 x3.toNatClampNeg) &&& (iN 31)) = 1) → (c4 : ¬ ((w.2 x3.toNatClampNeg) &&& (iN 31)) = 2) → (c5 : ¬ ((w.2 x3.toNatClampNeg) &&& (iN 31)) = 3) → (c6 : ¬ ((w.2 x3.toNatClampNeg) &&& (iN 31)) = 4) → (c7 : ¬ ((w.2 x3.toNatClampNeg) &&& (iN 31)) = 5) → (c8 : ¬ ((w.2 x3.toNatClampNeg) &&& (iN 31)) = 6) → (c9 : ¬ ((w.2 x3.toNatClampNeg) &&& (iN 31)) = 7) → (c10 : ¬ ((w.2 x3.toNatClampNeg) &&& (iN 31)) = 8) → (c11 : ¬ ((w.2 x3.toNatClampNeg) &&& (iN 31)) = 9) → (c12 : ¬ ((w.2 x3.toNatClampNeg) &&& (iN 31)) = 10) → (c13 : ¬ ((w.2 x3.toNatClampNeg) &&& (iN 31)) = 11) → (c14 : ¬ ((w.2 x3.toNatClampNeg) &&& (iN 31)) = 12) → (c15 : ¬ ((w.2 x3.toNatClampNeg) &&& (iN 31)) = 13) → (c16 : ¬ ((w.2 x3.toNatClampNeg) &&& (iN 31)) = 14) → (c17 : ¬ ((w.2 x3.toNatClampNeg) &&& (iN 31)) = 15) → (c18 : ((w.2 x3.toNatClampNeg) &&& (iN 31)) = 16) → gE w 123 602 [some (.ref 210), some (.ref 0), some (.ref 148), some (.int x3)] [] M post)
    (h20 : (c1 : ¬ ((Int32.ofNat w.1) - (iN 5)) < x3) → (c2 : ¬ ((w.2 x3.toNatClampNeg) &&& (iN 31)) = 0) → (c3 : ¬ ((w.2 x3.toNatClampNeg) &&& (iN 31)) = 1) → (c4 : ¬ ((w.2 x3.toNatClampNeg) &&& (iN 31)) = 2) → (c5 : ¬ ((w.2 x3.toNatClampNeg) &&& (iN 31)) = 3) → (c6 : ¬ ((w.2 x3.toNatClampNeg) &&& (iN 31)) = 4) → (c7 : ¬ ((w.2 x3.toNatClampNeg) &&& (iN 31)) = 5) → (c8 : ¬ ((w.2 x3.toNatClampNeg) &&& (iN 31)) = 6) → (c9 : ¬ ((w.2 x3.toNatClampNeg) &&& (iN 31)) = 7) → (c10 : ¬ ((w.2 x3.toNatClampNeg) &&& (iN 31)) = 8) → (c11 : ¬ ((w.2 x3.toNatClampNeg) &&& (iN 31)) = 9) → (c12 : ¬ ((w.2 x3.toNatClampNeg) &&& (iN 31)) = 10) → (c13 : ¬ ((w.2 x3.toNatClampNeg) &&& (iN 31)) = 11) → (c14 : ¬ ((w.2 x3.toNatClampNeg) &&& (iN 31)) = 12) → (c15 : ¬ ((w.2 x3.toNatClampNeg) &&& (iN 31)) = 13) → (c16 : ¬ ((w.2 x3.toNatClampNeg) &&& (iN 31)) = 14) → (c17 : ¬ ((w.2 x3.toNatClampNeg) &&& (iN 31)) = 15) → (c18 : ¬ ((w.2 x3.toNatClampNeg) &&& (iN 31)) = 16) → (c19 : ((w.2 x3.toNatClampNeg) &&& (iN 31)) = 17) → gE w 123 635 [some (.ref 210), some (.ref 0), some (.ref 148), some (.int x3)] [] M post)
    (h21 : (c1 : ¬ ((Int32.ofNat w.1) - (iN 5)) < x3) → (c2 : ¬ ((w.2 x3.toNatClampNeg) &&& (iN 31)) = 0) → (c3 : ¬ ((w.2 x3.toNatClampNeg) &&& (iN 31)) = 1) → (c4 : ¬ ((w.2 x3.toNatClampNeg) &&& (iN 31)) = 2) → (c5 : ¬ ((w.2 x3.toNatClampNeg) &&& (iN 31)) = 3) → (c6 : ¬ ((w.2 x3.toNatClampNeg) &&& (iN 31)) = 4) → (c7 : ¬ ((w.2 x3.toNatClampNeg) &&& (iN 31)) = 5) → (c8 : ¬ ((w.2 x3.toNatClampNeg) &&& (iN 31)) = 6) → (c9 : ¬ ((w.2 x3.toNatClampNeg) &&& (iN 31)) = 7) → (c10 : ¬ ((w.2 x3.toNatClampNeg) &&& (iN 31)) = 8) → (c11 : ¬ ((w.2 x3.toNatClampNeg) &&& (iN 31)) = 9) → (c12 : ¬ ((w.2 x3.toNatClampNeg) &&& (iN 31)) = 10) → (c13 : ¬ ((w.2 x3.toNatClampNeg) &&& (iN 31)) = 11) → (c14 : ¬ ((w.2 x3.toNatClampNeg) &&& (iN 31)) = 12) → (c15 : ¬ ((w.2 x3.toNatClampNeg) &&& (iN 31)) = 13) → (c16 : ¬ ((w.2 x3.toNatClampNeg) &&& (iN 31)) = 14) → (c17 : ¬ ((w.2 x3.toNatClampNeg) &&& (iN 31)) = 15) → (c18 : ¬ ((w.2 x3.toNatClampNeg) &&& (iN 31)) = 16) → (c19 : ¬ ((w.2 x3.toNatClampNeg) &&& (iN 31)) = 17) → (c20 : ((w.2 x3.toNatClampNeg) &&& (iN 31)) = 18) → gE w 123 658 [some (.ref 210), some (.ref 0), some (.ref 148), some (.int x3)] [] M post)
    (h22 : (c1 : ¬ ((Int32.ofNat w.1) - (iN 5)) < x3) → (c2 : ¬ ((w.2 x3.toNatClampNeg) &&& (iN 31)) = 0) → (c3 : ¬ ((w.2 x3.toNatClampNeg) &&& (iN 31)) = 1) → (c4 : ¬ ((w.2 x3.toNatClampNeg) &&& (iN 31)) = 2) → (c5 : ¬ ((w.2 x3.toNatClampNeg) &&& (iN 31)) = 3) → (c6 : ¬ ((w.2 x3.toNatClampNeg) &&& (iN 31)) = 4) → (c7 : ¬ ((w.2 x3.toNatClampNeg) &&& (iN 31)) = 5) → (c8 : ¬ ((w.2 x3.toNatClampNeg) &&& (iN 31)) = 6) → (c9 : ¬ ((w.2 x3.toNatClampNeg) &&& (iN 31)) = 7) → (c10 : ¬ ((w.2 x3.toNatClampNeg) &&& (iN 31)) = 8) → (c11 : ¬ ((w.2 x3.toNatClampNeg) &&& (iN 31)) = 9) → (c12 : ¬ ((w.2 x3.toNatClampNeg) &&& (iN 31)) = 10) → (c13 : ¬ ((w.2 x3.toNatClampNeg) &&& (iN 31)) = 11) → (c14 : ¬ ((w.2 x3.toNatClampNeg) &&& (iN 31)) = 12) → (c15 : ¬ ((w.2 x3.toNatClampNeg) &&& (iN 31)) = 13) → (c16 : ¬ ((w.2 x3.toNatClampNeg) &&& (iN 31)) = 14) → (c17 : ¬ ((w.2 x3.toNatClampNeg) &&& (iN 31)) = 15) → (c18 : ¬ ((w.2 x3.toNatClampNeg) &&& (iN 31)) = 16) → (c19 : ¬ ((w.2 x3.toNatClampNeg) &&& (iN 31)) = 17) → (c20 : ¬ ((w.2 x3.toNatClampNeg) &&& (iN 31)) = 18) → (c21 : ((w.2 x3.toNatClampNeg) &&& (iN 31)) = 19) → gE w 123 681 [some (.ref 210), some (.ref 0), some (.ref 148), some (.int x3)] [] M post)
    (h23 : (c1 : ¬ ((Int32.ofNat w.1) - (iN 5)) < x3) → (c2 : ¬ ((w.2 x3.toNatClampNeg) &&& (iN 31)) = 0) → (c3 : ¬ ((w.2 x3.toNatClampNeg) &&& (iN 31)) = 1) → (c4 : ¬ ((w.2 x3.toNatClampNeg) &&& (iN 31)) = 2) → (c5 : ¬ ((w.2 x3.toNatClampNeg) &&& (iN 31)) = 3) → (c6 : ¬ ((w.2 x3.toNatClampNeg) &&& (iN 31)) = 4) → (c7 : ¬ ((w.2 x3.toNatClampNeg) &&& (iN 31)) = 5) → (c8 : ¬ ((w.2 x3.toNatClampNeg) &&& (iN 31)) = 6) → (c9 : ¬ ((w.2 x3.toNatClampNeg) &&& (iN 31)) = 7) → (c10 : ¬ ((w.2 x3.toNatClampNeg) &&& (iN 31)) = 8) → (c11 : ¬ ((w.2 x3.toNatClampNeg) &&& (iN 31)) = 9) → (c12 : ¬ ((w.2 x3.toNatClampNeg) &&& (iN 31)) = 10) → (c13 : ¬ ((w.2 x3.toNatClampNeg) &&& (iN 31)) = 11) → (c14 : ¬ ((w.2 x3.toNatClampNeg) &&& (iN 31)) = 12) → (c15 : ¬ ((w.2 x3.toNatClampNeg) &&& (iN 31)) = 13) → (c16 : ¬ ((w.2 x3.toNatClampNeg) &&& (iN 31)) = 14) → (c17 : ¬ ((w.2 x3.toNatClampNeg) &&& (iN 31)) = 15) → (c18 : ¬ ((w.2 x3.toNatClampNeg) &&& (iN 31)) = 16) → (c19 : ¬ ((w.2 x3.toNatClampNeg) &&& (iN 31)) = 17) → (c20 : ¬ ((w.2 x3.toNatClampNeg) &&& (iN 31)) = 18) → (c21 : ¬ ((w.2 x3.toNatClampNeg) &&& (iN 31)) = 19) → gE w 123 694 [some (.ref 210), some (.ref 0), some (.ref 148), some (.int x3)] [] M post) :
    gE w 123 18 [some (.ref 210), some (.ref 0), some (.ref 148), some (.int x3)] [] M post := by
  refine ev_il (pc' := 19) (pt_123_18 w) rfl rfl ?_
  refine ev_al (pc' := 20) (pt_123_19 w) rfl rfl ?_
  refine ev_tlen (pc' := 21) (pt_123_20 w) rfl rfl ?_
  refine ev_k (pc' := 22) (pt_123_21 w) rfl ?_
  refine ev_b (pc' := 23) (pt_123_22 w) rfl ?_
  refine ev_cgt (pc' := 26) (pt_123_23 w) rfl (fun c1 => ?_) (fun c1 => ?_)
  · refine ev_k (pc' := 701) (pt_123_700 w) rfl ?_
    exact ev_rz (pt_123_701 w) z1_1 (h1 c1)
  · refine ev_al (pc' := 27) (pt_123_26 w) rfl rfl ?_
    refine ev_il (pc' := 28) (pt_123_27 w) rfl rfl ?_
    refine ev_ta (pc' := 29) (pt_123_28 w) rfl rfl (b2 c1) ?_
    refine ev_k (pc' := 31) (pt_123_29 w) rfl ?_
    refine ev_b (pc' := 32) (pt_123_31 w) rfl ?_
    by_cases c2 : ((w.2 x3.toNatClampNeg) &&& (iN 31)) = 0
    · refine ev_sw (t := 128) (pt_123_32 w) (by rw [c2]; rfl) ?_
      exact (h3 c1 c2)
    by_cases c3 : ((w.2 x3.toNatClampNeg) &&& (iN 31)) = 1
    · refine ev_sw (t := 151) (pt_123_32 w) (by rw [c3]; rfl) ?_
      exact (h4 c1 c2 c3)
    by_cases c4 : ((w.2 x3.toNatClampNeg) &&& (iN 31)) = 2
    · refine ev_sw (t := 184) (pt_123_32 w) (by rw [c4]; rfl) ?_
      exact (h5 c1 c2 c3 c4)
    by_cases c5 : ((w.2 x3.toNatClampNeg) &&& (iN 31)) = 3
    · refine ev_sw (t := 207) (pt_123_32 w) (by rw [c5]; rfl) ?_
      exact (h6 c1 c2 c3 c4 c5)
    by_cases c6 : ((w.2 x3.toNatClampNeg) &&& (iN 31)) = 4
    · refine ev_sw (t := 230) (pt_123_32 w) (by rw [c6]; rfl) ?_
      exact (h7 c1 c2 c3 c4 c5 c6)
    by_cases c7 : ((w.2 x3.toNatClampNeg) &&& (iN 31)) = 5
    · refine ev_sw (t := 263) (pt_123_32 w) (by rw [c7]; rfl) ?_
      exact (h8 c1 c2 c3 c4 c5 c6 c7)
    by_cases c8 : ((w.2 x3.toNatClampNeg) &&& (iN 31)) = 6
    · refine ev_sw (t := 316) (pt_123_32 w) (by rw [c8]; rfl) ?_
      exact (h9 c1 c2 c3 c4 c5 c6 c7 c8)
    by_cases c9 : ((w.2 x3.toNatClampNeg) &&& (iN 31)) = 7
    · refine ev_sw (t := 339) (pt_123_32 w) (by rw [c9]; rfl) ?_
      exact (h10 c1 c2 c3 c4 c5 c6 c7 c8 c9)
    by_cases c10 : ((w.2 x3.toNatClampNeg) &&& (iN 31)) = 8
    · refine ev_sw (t := 362) (pt_123_32 w) (by rw [c10]; rfl) ?_
      exact (h11 c1 c2 c3 c4 c5 c6 c7 c8 c9 c10)
    by_cases c11 : ((w.2 x3.toNatClampNeg) &&& (iN 31)) = 9
    · refine ev_sw (t := 411) (pt_123_32 w) (by rw [c11]; rfl) ?_
      exact (h12 c1 c2 c3 c4 c5 c6 c7 c8 c9 c10 c11)
    by_cases c12 : ((w.2 x3.toNatClampNeg) &&& (iN 31)) = 10
    · refine ev_sw (t := 464) (pt_123_32 w) (by rw [c12]; rfl) ?_
      exact (h13 c1 c2 c3 c4 c5 c6 c7 c8 c9 c10 c11 c12)
    by_cases c13 : ((w.2 x3.toNatClampNeg) &&& (iN 31)) = 11
    · refine ev_sw (t := 487) (pt_123_32 w) (by rw [c13]; rfl) ?_
      exact (h14 c1 c2 c3 c4 c5 c6 c7 c8 c9 c10 c11 c12 c13)
    by_cases c14 : ((w.2 x3.toNatClampNeg) &&& (iN 31)) = 12
    · refine ev_sw (t := 510) (pt_123_32 w) (by rw [c14]; rfl) ?_
      exact (h15 c1 c2 c3 c4 c5 c6 c7 c8 c9 c10 c11 c12 c13 c14)
    by_cases c15 : ((w.2 x3.toNatClampNeg) &&& (iN 31)) = 13
    · refine ev_sw (t := 533) (pt_123_32 w) (by rw [c15]; rfl) ?_
      exact (h16 c1 c2 c3 c4 c5 c6 c7 c8 c9 c10 c11 c12 c13 c14 c15)
    by_cases c16 : ((w.2 x3.toNatClampNeg) &&& (iN 31)) = 14
    · refine ev_sw (t := 546) (pt_123_32 w) (by rw [c16]; rfl) ?_
      exact (h17 c1 c2 c3 c4 c5 c6 c7 c8 c9 c10 c11 c12 c13 c14 c15 c16)
    by_cases c17 : ((w.2 x3.toNatClampNeg) &&& (iN 31)) = 15
    · refine ev_sw (t := 569) (pt_123_32 w) (by rw [c17]; rfl) ?_
      exact (h18 c1 c2 c3 c4 c5 c6 c7 c8 c9 c10 c11 c12 c13 c14 c15 c16 c17)
    by_cases c18 : ((w.2 x3.toNatClampNeg) &&& (iN 31)) = 16
    · refine ev_sw (t := 602) (pt_123_32 w) (by rw [c18]; rfl) ?_
      exact (h19 c1 c2 c3 c4 c5 c6 c7 c8 c9 c10 c11 c12 c13 c14 c15 c16 c17 c18)
    by_cases c19 : ((w.2 x3.toNatClampNeg) &&& (iN 31)) = 17
    · refine ev_sw (t := 635) (pt_123_32 w) (by rw [c19]; rfl) ?_
      exact (h20 c1 c2 c3 c4 c5 c6 c7 c8 c9 c10 c11 c12 c13 c14 c15 c16 c17 c18 c19)
    by_cases c20 : ((w.2 x3.toNatClampNeg) &&& (iN 31)) = 18
    · refine ev_sw (t := 658) (pt_123_32 w) (by rw [c20]; rfl) ?_
      exact (h21 c1 c2 c3 c4 c5 c6 c7 c8 c9 c10 c11 c12 c13 c14 c15 c16 c17 c18 c19 c20)
    by_cases c21 : ((w.2 x3.toNatClampNeg) &&& (iN 31)) = 19
    · refine ev_sw (t := 681) (pt_123_32 w) (by rw [c21]; rfl) ?_
      exact (h22 c1 c2 c3 c4 c5 c6 c7 c8 c9 c10 c11 c12 c13 c14 c15 c16 c17 c18 c19 c20 c21)
    refine ev_sw (t := 694) (pt_123_32 w) (sw_d20 c2 c3 c4 c5 c6 c7 c8 c9 c10 c11 c12 c13 c14 c15 c16 c17 c18 c19 c20 c21) ?_
    exact (h23 c1 c2 c3 c4 c5 c6 c7 c8 c9 c10 c11 c12 c13 c14 c15 c16 c17 c18 c19 c20 c21)

theorem wk_123_128 {w : qS} {M : qM} {x3 : Int32} {post : qR}
    (b1 : vp_in (x3 + 1) w.1)
    (h2 : gE w 0 0 [some (.ref 0), some (.int (w.2 (x3 + 1).toNatClampNeg)), none] [] M (fun r M' => gE w 123 137 [some (.ref 210), some (.ref 0), some (.ref 148), some (.int x3)] (r.toList ++ []) M' post)) :
    gE w 123 128 [some (.ref 210), some (.ref 0), some (.ref 148), some (.int x3)] [] M post := by
  refine ev_al (pc' := 129) (pt_123_128 w) rfl rfl ?_
  refine ev_al (pc' := 130) (pt_123_129 w) rfl rfl ?_
  refine ev_il (pc' := 131) (pt_123_130 w) rfl rfl ?_
  refine ev_k (pc' := 132) (pt_123_131 w) rfl ?_
  refine ev_b (pc' := 133) (pt_123_132 w) rfl ?_
  refine ev_ta (pc' := 134) (pt_123_133 w) rfl rfl b1 ?_
  exact ev_cal (pc' := 137) (pt_123_134 w) (vs := [.ref 0, .int (w.2 (x3 + 1).toNatClampNeg)]) (rest := []) (en := [some (.ref 0), some (.int (w.2 (x3 + 1).toNatClampNeg)), none]) rfl rfl rfl rfl rfl rfl rfl h2

theorem wk_123_137 {w : qS} {M : qM} {x3 s0 : Int32} {post : qR}
    (b1 : vp_in (x3 + 1) w.1)
    (h2 : gE w 86 0 [some (.ref 148), some (.int (w.2 (x3 + 1).toNatClampNeg))] [] M (fun r M' => gE w 123 146 [some (.ref 210), some (.ref 0), some (.ref 148), some (.int x3)] (r.toList ++ [.int s0]) M' post)) :
    gE w 123 137 [some (.ref 210), some (.ref 0), some (.ref 148), some (.int x3)] [.int s0] M post := by
  refine ev_al (pc' := 138) (pt_123_137 w) rfl rfl ?_
  refine ev_al (pc' := 139) (pt_123_138 w) rfl rfl ?_
  refine ev_il (pc' := 140) (pt_123_139 w) rfl rfl ?_
  refine ev_k (pc' := 141) (pt_123_140 w) rfl ?_
  refine ev_b (pc' := 142) (pt_123_141 w) rfl ?_
  refine ev_ta (pc' := 143) (pt_123_142 w) rfl rfl b1 ?_
  exact ev_cal (pc' := 146) (pt_123_143 w) (vs := [.ref 148, .int (w.2 (x3 + 1).toNatClampNeg)]) (rest := [.int s0]) (en := [some (.ref 148), some (.int (w.2 (x3 + 1).toNatClampNeg))]) rfl rfl rfl rfl rfl rfl rfl h2

theorem wk_123_146 {w : qS} {M : qM} {x3 s0 s1 : Int32} {post : qR}
    (h1 : (c1 : s1 = s0) → gE w 123 694 [some (.ref 210), some (.ref 0), some (.ref 148), some (.int x3)] [] M post)
    (h2 : (c1 : ¬ s1 = s0) → post (some (.int 0)) M) :
    gE w 123 146 [some (.ref 210), some (.ref 0), some (.ref 148), some (.int x3)] [.int s0, .int s1] M post := by
  refine ev_ceq (pc' := 149) (pt_123_146 w) rfl (fun c1 => ?_) (fun c1 => ?_)
  · exact (h1 c1)
  · refine ev_k (pc' := 150) (pt_123_149 w) rfl ?_
    exact ev_rz (pt_123_150 w) z1_0 (h2 c1)

theorem wk_123_151 {w : qS} {M : qM} {x3 : Int32} {post : qR}
    (b1 : vp_in (x3 + 1) w.1)
    (b2 : vp_in (x3 + (iN 2)) w.1)
    (h3 : gE w 1 0 [some (.ref 0), some (.int (w.2 (x3 + 1).toNatClampNeg)), some (.int (w.2 (x3 + (iN 2)).toNatClampNeg)), none] [] M (fun r M' => gE w 123 165 [some (.ref 210), some (.ref 0), some (.ref 148), some (.int x3)] (r.toList ++ []) M' post)) :
    gE w 123 151 [some (.ref 210), some (.ref 0), some (.ref 148), some (.int x3)] [] M post := by
  refine ev_al (pc' := 152) (pt_123_151 w) rfl rfl ?_
  refine ev_al (pc' := 153) (pt_123_152 w) rfl rfl ?_
  refine ev_il (pc' := 154) (pt_123_153 w) rfl rfl ?_
  refine ev_k (pc' := 155) (pt_123_154 w) rfl ?_
  refine ev_b (pc' := 156) (pt_123_155 w) rfl ?_
  refine ev_ta (pc' := 157) (pt_123_156 w) rfl rfl b1 ?_
  refine ev_al (pc' := 158) (pt_123_157 w) rfl rfl ?_
  refine ev_il (pc' := 159) (pt_123_158 w) rfl rfl ?_
  refine ev_k (pc' := 160) (pt_123_159 w) rfl ?_
  refine ev_b (pc' := 161) (pt_123_160 w) rfl ?_
  refine ev_ta (pc' := 162) (pt_123_161 w) rfl rfl b2 ?_
  exact ev_cal (pc' := 165) (pt_123_162 w) (vs := [.ref 0, .int (w.2 (x3 + 1).toNatClampNeg), .int (w.2 (x3 + (iN 2)).toNatClampNeg)]) (rest := []) (en := [some (.ref 0), some (.int (w.2 (x3 + 1).toNatClampNeg)), some (.int (w.2 (x3 + (iN 2)).toNatClampNeg)), none]) rfl rfl rfl rfl rfl rfl rfl h3

theorem wk_123_165 {w : qS} {M : qM} {x3 s0 : Int32} {post : qR}
    (b1 : vp_in (x3 + 1) w.1)
    (b2 : vp_in (x3 + (iN 2)) w.1)
    (h3 : gE w 87 0 [some (.ref 148), some (.int (w.2 (x3 + 1).toNatClampNeg)), some (.int (w.2 (x3 + (iN 2)).toNatClampNeg))] [] M (fun r M' => gE w 123 179 [some (.ref 210), some (.ref 0), some (.ref 148), some (.int x3)] (r.toList ++ [.int s0]) M' post)) :
    gE w 123 165 [some (.ref 210), some (.ref 0), some (.ref 148), some (.int x3)] [.int s0] M post := by
  refine ev_al (pc' := 166) (pt_123_165 w) rfl rfl ?_
  refine ev_al (pc' := 167) (pt_123_166 w) rfl rfl ?_
  refine ev_il (pc' := 168) (pt_123_167 w) rfl rfl ?_
  refine ev_k (pc' := 169) (pt_123_168 w) rfl ?_
  refine ev_b (pc' := 170) (pt_123_169 w) rfl ?_
  refine ev_ta (pc' := 171) (pt_123_170 w) rfl rfl b1 ?_
  refine ev_al (pc' := 172) (pt_123_171 w) rfl rfl ?_
  refine ev_il (pc' := 173) (pt_123_172 w) rfl rfl ?_
  refine ev_k (pc' := 174) (pt_123_173 w) rfl ?_
  refine ev_b (pc' := 175) (pt_123_174 w) rfl ?_
  refine ev_ta (pc' := 176) (pt_123_175 w) rfl rfl b2 ?_
  exact ev_cal (pc' := 179) (pt_123_176 w) (vs := [.ref 148, .int (w.2 (x3 + 1).toNatClampNeg), .int (w.2 (x3 + (iN 2)).toNatClampNeg)]) (rest := [.int s0]) (en := [some (.ref 148), some (.int (w.2 (x3 + 1).toNatClampNeg)), some (.int (w.2 (x3 + (iN 2)).toNatClampNeg))]) rfl rfl rfl rfl rfl rfl rfl h3

theorem wk_123_179 {w : qS} {M : qM} {x3 s0 s1 : Int32} {post : qR}
    (h1 : (c1 : s1 = s0) → gE w 123 694 [some (.ref 210), some (.ref 0), some (.ref 148), some (.int x3)] [] M post)
    (h2 : (c1 : ¬ s1 = s0) → post (some (.int 0)) M) :
    gE w 123 179 [some (.ref 210), some (.ref 0), some (.ref 148), some (.int x3)] [.int s0, .int s1] M post := by
  refine ev_ceq (pc' := 182) (pt_123_179 w) rfl (fun c1 => ?_) (fun c1 => ?_)
  · exact (h1 c1)
  · refine ev_k (pc' := 183) (pt_123_182 w) rfl ?_
    exact ev_rz (pt_123_183 w) z1_0 (h2 c1)

theorem wk_123_184 {w : qS} {M : qM} {x3 : Int32} {post : qR}
    (b1 : vp_in (x3 + 1) w.1)
    (h2 : gE w 2 0 [some (.ref 0), some (.int (w.2 (x3 + 1).toNatClampNeg))] [] M (fun r M' => gE w 123 193 [some (.ref 210), some (.ref 0), some (.ref 148), some (.int x3)] (r.toList ++ []) M' post)) :
    gE w 123 184 [some (.ref 210), some (.ref 0), some (.ref 148), some (.int x3)] [] M post := by
  refine ev_al (pc' := 185) (pt_123_184 w) rfl rfl ?_
  refine ev_al (pc' := 186) (pt_123_185 w) rfl rfl ?_
  refine ev_il (pc' := 187) (pt_123_186 w) rfl rfl ?_
  refine ev_k (pc' := 188) (pt_123_187 w) rfl ?_
  refine ev_b (pc' := 189) (pt_123_188 w) rfl ?_
  refine ev_ta (pc' := 190) (pt_123_189 w) rfl rfl b1 ?_
  exact ev_cal (pc' := 193) (pt_123_190 w) (vs := [.ref 0, .int (w.2 (x3 + 1).toNatClampNeg)]) (rest := []) (en := [some (.ref 0), some (.int (w.2 (x3 + 1).toNatClampNeg))]) rfl rfl rfl rfl rfl rfl rfl h2

theorem wk_123_193 {w : qS} {M : qM} {x3 s0 : Int32} {post : qR}
    (b1 : vp_in (x3 + 1) w.1)
    (h2 : gE w 88 0 [some (.ref 148), some (.int (w.2 (x3 + 1).toNatClampNeg)), none] [] M (fun r M' => gE w 123 202 [some (.ref 210), some (.ref 0), some (.ref 148), some (.int x3)] (r.toList ++ [.int s0]) M' post)) :
    gE w 123 193 [some (.ref 210), some (.ref 0), some (.ref 148), some (.int x3)] [.int s0] M post := by
  refine ev_al (pc' := 194) (pt_123_193 w) rfl rfl ?_
  refine ev_al (pc' := 195) (pt_123_194 w) rfl rfl ?_
  refine ev_il (pc' := 196) (pt_123_195 w) rfl rfl ?_
  refine ev_k (pc' := 197) (pt_123_196 w) rfl ?_
  refine ev_b (pc' := 198) (pt_123_197 w) rfl ?_
  refine ev_ta (pc' := 199) (pt_123_198 w) rfl rfl b1 ?_
  exact ev_cal (pc' := 202) (pt_123_199 w) (vs := [.ref 148, .int (w.2 (x3 + 1).toNatClampNeg)]) (rest := [.int s0]) (en := [some (.ref 148), some (.int (w.2 (x3 + 1).toNatClampNeg)), none]) rfl rfl rfl rfl rfl rfl rfl h2

theorem wk_123_202 {w : qS} {M : qM} {x3 s0 s1 : Int32} {post : qR}
    (h1 : (c1 : s1 = s0) → gE w 123 694 [some (.ref 210), some (.ref 0), some (.ref 148), some (.int x3)] [] M post)
    (h2 : (c1 : ¬ s1 = s0) → post (some (.int 0)) M) :
    gE w 123 202 [some (.ref 210), some (.ref 0), some (.ref 148), some (.int x3)] [.int s0, .int s1] M post := by
  refine ev_ceq (pc' := 205) (pt_123_202 w) rfl (fun c1 => ?_) (fun c1 => ?_)
  · exact (h1 c1)
  · refine ev_k (pc' := 206) (pt_123_205 w) rfl ?_
    exact ev_rz (pt_123_206 w) z1_0 (h2 c1)

theorem wk_123_207 {w : qS} {M : qM} {x3 : Int32} {post : qR}
    (b1 : vp_in (x3 + 1) w.1)
    (h2 : gE w 3 0 [some (.ref 0), some (.int (w.2 (x3 + 1).toNatClampNeg))] [] M (fun r M' => gE w 123 216 [some (.ref 210), some (.ref 0), some (.ref 148), some (.int x3)] (r.toList ++ []) M' post)) :
    gE w 123 207 [some (.ref 210), some (.ref 0), some (.ref 148), some (.int x3)] [] M post := by
  refine ev_al (pc' := 208) (pt_123_207 w) rfl rfl ?_
  refine ev_al (pc' := 209) (pt_123_208 w) rfl rfl ?_
  refine ev_il (pc' := 210) (pt_123_209 w) rfl rfl ?_
  refine ev_k (pc' := 211) (pt_123_210 w) rfl ?_
  refine ev_b (pc' := 212) (pt_123_211 w) rfl ?_
  refine ev_ta (pc' := 213) (pt_123_212 w) rfl rfl b1 ?_
  exact ev_cal (pc' := 216) (pt_123_213 w) (vs := [.ref 0, .int (w.2 (x3 + 1).toNatClampNeg)]) (rest := []) (en := [some (.ref 0), some (.int (w.2 (x3 + 1).toNatClampNeg))]) rfl rfl rfl rfl rfl rfl rfl h2

theorem wk_123_216 {w : qS} {M : qM} {x3 s0 : Int32} {post : qR}
    (b1 : vp_in (x3 + 1) w.1)
    (h2 : gE w 89 0 [some (.ref 148), some (.int (w.2 (x3 + 1).toNatClampNeg))] [] M (fun r M' => gE w 123 225 [some (.ref 210), some (.ref 0), some (.ref 148), some (.int x3)] (r.toList ++ [.int s0]) M' post)) :
    gE w 123 216 [some (.ref 210), some (.ref 0), some (.ref 148), some (.int x3)] [.int s0] M post := by
  refine ev_al (pc' := 217) (pt_123_216 w) rfl rfl ?_
  refine ev_al (pc' := 218) (pt_123_217 w) rfl rfl ?_
  refine ev_il (pc' := 219) (pt_123_218 w) rfl rfl ?_
  refine ev_k (pc' := 220) (pt_123_219 w) rfl ?_
  refine ev_b (pc' := 221) (pt_123_220 w) rfl ?_
  refine ev_ta (pc' := 222) (pt_123_221 w) rfl rfl b1 ?_
  exact ev_cal (pc' := 225) (pt_123_222 w) (vs := [.ref 148, .int (w.2 (x3 + 1).toNatClampNeg)]) (rest := [.int s0]) (en := [some (.ref 148), some (.int (w.2 (x3 + 1).toNatClampNeg))]) rfl rfl rfl rfl rfl rfl rfl h2

theorem wk_123_225 {w : qS} {M : qM} {x3 s0 s1 : Int32} {post : qR}
    (h1 : (c1 : s1 = s0) → gE w 123 694 [some (.ref 210), some (.ref 0), some (.ref 148), some (.int x3)] [] M post)
    (h2 : (c1 : ¬ s1 = s0) → post (some (.int 0)) M) :
    gE w 123 225 [some (.ref 210), some (.ref 0), some (.ref 148), some (.int x3)] [.int s0, .int s1] M post := by
  refine ev_ceq (pc' := 228) (pt_123_225 w) rfl (fun c1 => ?_) (fun c1 => ?_)
  · exact (h1 c1)
  · refine ev_k (pc' := 229) (pt_123_228 w) rfl ?_
    exact ev_rz (pt_123_229 w) z1_0 (h2 c1)

theorem wk_123_230 {w : qS} {M : qM} {x3 : Int32} {post : qR}
    (b1 : vp_in (x3 + 1) w.1)
    (b2 : vp_in (x3 + (iN 2)) w.1)
    (h3 : gE w 4 0 [some (.ref 0), some (.int (w.2 (x3 + 1).toNatClampNeg)), some (.int (w.2 (x3 + (iN 2)).toNatClampNeg)), none, none, none] [] M (fun r M' => gE w 123 244 [some (.ref 210), some (.ref 0), some (.ref 148), some (.int x3)] (r.toList ++ []) M' post)) :
    gE w 123 230 [some (.ref 210), some (.ref 0), some (.ref 148), some (.int x3)] [] M post := by
  refine ev_al (pc' := 231) (pt_123_230 w) rfl rfl ?_
  refine ev_al (pc' := 232) (pt_123_231 w) rfl rfl ?_
  refine ev_il (pc' := 233) (pt_123_232 w) rfl rfl ?_
  refine ev_k (pc' := 234) (pt_123_233 w) rfl ?_
  refine ev_b (pc' := 235) (pt_123_234 w) rfl ?_
  refine ev_ta (pc' := 236) (pt_123_235 w) rfl rfl b1 ?_
  refine ev_al (pc' := 237) (pt_123_236 w) rfl rfl ?_
  refine ev_il (pc' := 238) (pt_123_237 w) rfl rfl ?_
  refine ev_k (pc' := 239) (pt_123_238 w) rfl ?_
  refine ev_b (pc' := 240) (pt_123_239 w) rfl ?_
  refine ev_ta (pc' := 241) (pt_123_240 w) rfl rfl b2 ?_
  exact ev_cal (pc' := 244) (pt_123_241 w) (vs := [.ref 0, .int (w.2 (x3 + 1).toNatClampNeg), .int (w.2 (x3 + (iN 2)).toNatClampNeg)]) (rest := []) (en := [some (.ref 0), some (.int (w.2 (x3 + 1).toNatClampNeg)), some (.int (w.2 (x3 + (iN 2)).toNatClampNeg)), none, none, none]) rfl rfl rfl rfl rfl rfl rfl h3

theorem wk_123_244 {w : qS} {M : qM} {x3 s0 : Int32} {post : qR}
    (b1 : vp_in (x3 + 1) w.1)
    (b2 : vp_in (x3 + (iN 2)) w.1)
    (h3 : gE w 91 0 [some (.ref 148), some (.int (w.2 (x3 + 1).toNatClampNeg)), some (.int (w.2 (x3 + (iN 2)).toNatClampNeg)), none, none, none, none, none, none] [] M (fun r M' => gE w 123 258 [some (.ref 210), some (.ref 0), some (.ref 148), some (.int x3)] (r.toList ++ [.int s0]) M' post)) :
    gE w 123 244 [some (.ref 210), some (.ref 0), some (.ref 148), some (.int x3)] [.int s0] M post := by
  refine ev_al (pc' := 245) (pt_123_244 w) rfl rfl ?_
  refine ev_al (pc' := 246) (pt_123_245 w) rfl rfl ?_
  refine ev_il (pc' := 247) (pt_123_246 w) rfl rfl ?_
  refine ev_k (pc' := 248) (pt_123_247 w) rfl ?_
  refine ev_b (pc' := 249) (pt_123_248 w) rfl ?_
  refine ev_ta (pc' := 250) (pt_123_249 w) rfl rfl b1 ?_
  refine ev_al (pc' := 251) (pt_123_250 w) rfl rfl ?_
  refine ev_il (pc' := 252) (pt_123_251 w) rfl rfl ?_
  refine ev_k (pc' := 253) (pt_123_252 w) rfl ?_
  refine ev_b (pc' := 254) (pt_123_253 w) rfl ?_
  refine ev_ta (pc' := 255) (pt_123_254 w) rfl rfl b2 ?_
  exact ev_cal (pc' := 258) (pt_123_255 w) (vs := [.ref 148, .int (w.2 (x3 + 1).toNatClampNeg), .int (w.2 (x3 + (iN 2)).toNatClampNeg)]) (rest := [.int s0]) (en := [some (.ref 148), some (.int (w.2 (x3 + 1).toNatClampNeg)), some (.int (w.2 (x3 + (iN 2)).toNatClampNeg)), none, none, none, none, none, none]) rfl rfl rfl rfl rfl rfl rfl h3

theorem wk_123_258 {w : qS} {M : qM} {x3 s0 s1 : Int32} {post : qR}
    (h1 : (c1 : s1 = s0) → gE w 123 694 [some (.ref 210), some (.ref 0), some (.ref 148), some (.int x3)] [] M post)
    (h2 : (c1 : ¬ s1 = s0) → post (some (.int 0)) M) :
    gE w 123 258 [some (.ref 210), some (.ref 0), some (.ref 148), some (.int x3)] [.int s0, .int s1] M post := by
  refine ev_ceq (pc' := 261) (pt_123_258 w) rfl (fun c1 => ?_) (fun c1 => ?_)
  · exact (h1 c1)
  · refine ev_k (pc' := 262) (pt_123_261 w) rfl ?_
    exact ev_rz (pt_123_262 w) z1_0 (h2 c1)

theorem wk_123_263 {w : qS} {M : qM} {x3 : Int32} {post : qR}
    (b1 : vp_in (x3 + 1) w.1)
    (b2 : vp_in (x3 + (iN 2)) w.1)
    (b3 : vp_in (x3 + (iN 3)) w.1)
    (b4 : vp_in (x3 + (iN 4)) w.1)
    (h5 : gE w 5 0 [some (.ref 0), some (.int (w.2 (x3 + 1).toNatClampNeg)), some (.int (w.2 (x3 + (iN 2)).toNatClampNeg)), some (.int (w.2 (x3 + (iN 3)).toNatClampNeg)), some (.int (w.2 (x3 + (iN 4)).toNatClampNeg)), none] [] M (fun r M' => gE w 123 287 [some (.ref 210), some (.ref 0), some (.ref 148), some (.int x3)] (r.toList ++ []) M' post)) :
    gE w 123 263 [some (.ref 210), some (.ref 0), some (.ref 148), some (.int x3)] [] M post := by
  refine ev_al (pc' := 264) (pt_123_263 w) rfl rfl ?_
  refine ev_al (pc' := 265) (pt_123_264 w) rfl rfl ?_
  refine ev_il (pc' := 266) (pt_123_265 w) rfl rfl ?_
  refine ev_k (pc' := 267) (pt_123_266 w) rfl ?_
  refine ev_b (pc' := 268) (pt_123_267 w) rfl ?_
  refine ev_ta (pc' := 269) (pt_123_268 w) rfl rfl b1 ?_
  refine ev_al (pc' := 270) (pt_123_269 w) rfl rfl ?_
  refine ev_il (pc' := 271) (pt_123_270 w) rfl rfl ?_
  refine ev_k (pc' := 272) (pt_123_271 w) rfl ?_
  refine ev_b (pc' := 273) (pt_123_272 w) rfl ?_
  refine ev_ta (pc' := 274) (pt_123_273 w) rfl rfl b2 ?_
  refine ev_al (pc' := 275) (pt_123_274 w) rfl rfl ?_
  refine ev_il (pc' := 276) (pt_123_275 w) rfl rfl ?_
  refine ev_k (pc' := 277) (pt_123_276 w) rfl ?_
  refine ev_b (pc' := 278) (pt_123_277 w) rfl ?_
  refine ev_ta (pc' := 279) (pt_123_278 w) rfl rfl b3 ?_
  refine ev_al (pc' := 280) (pt_123_279 w) rfl rfl ?_
  refine ev_il (pc' := 281) (pt_123_280 w) rfl rfl ?_
  refine ev_k (pc' := 282) (pt_123_281 w) rfl ?_
  refine ev_b (pc' := 283) (pt_123_282 w) rfl ?_
  refine ev_ta (pc' := 284) (pt_123_283 w) rfl rfl b4 ?_
  exact ev_cal (pc' := 287) (pt_123_284 w) (vs := [.ref 0, .int (w.2 (x3 + 1).toNatClampNeg), .int (w.2 (x3 + (iN 2)).toNatClampNeg), .int (w.2 (x3 + (iN 3)).toNatClampNeg), .int (w.2 (x3 + (iN 4)).toNatClampNeg)]) (rest := []) (en := [some (.ref 0), some (.int (w.2 (x3 + 1).toNatClampNeg)), some (.int (w.2 (x3 + (iN 2)).toNatClampNeg)), some (.int (w.2 (x3 + (iN 3)).toNatClampNeg)), some (.int (w.2 (x3 + (iN 4)).toNatClampNeg)), none]) rfl rfl rfl rfl rfl rfl rfl h5

theorem wk_123_287 {w : qS} {M : qM} {x3 s0 : Int32} {post : qR}
    (b1 : vp_in (x3 + 1) w.1)
    (b2 : vp_in (x3 + (iN 2)) w.1)
    (b3 : vp_in (x3 + (iN 3)) w.1)
    (b4 : vp_in (x3 + (iN 4)) w.1)
    (h5 : gE w 94 0 [some (.ref 148), some (.int (w.2 (x3 + 1).toNatClampNeg)), some (.int (w.2 (x3 + (iN 2)).toNatClampNeg)), some (.int (w.2 (x3 + (iN 3)).toNatClampNeg)), some (.int (w.2 (x3 + (iN 4)).toNatClampNeg)), none, none, none] [] M (fun r M' => gE w 123 311 [some (.ref 210), some (.ref 0), some (.ref 148), some (.int x3)] (r.toList ++ [.int s0]) M' post)) :
    gE w 123 287 [some (.ref 210), some (.ref 0), some (.ref 148), some (.int x3)] [.int s0] M post := by
  refine ev_al (pc' := 288) (pt_123_287 w) rfl rfl ?_
  refine ev_al (pc' := 289) (pt_123_288 w) rfl rfl ?_
  refine ev_il (pc' := 290) (pt_123_289 w) rfl rfl ?_
  refine ev_k (pc' := 291) (pt_123_290 w) rfl ?_
  refine ev_b (pc' := 292) (pt_123_291 w) rfl ?_
  refine ev_ta (pc' := 293) (pt_123_292 w) rfl rfl b1 ?_
  refine ev_al (pc' := 294) (pt_123_293 w) rfl rfl ?_
  refine ev_il (pc' := 295) (pt_123_294 w) rfl rfl ?_
  refine ev_k (pc' := 296) (pt_123_295 w) rfl ?_
  refine ev_b (pc' := 297) (pt_123_296 w) rfl ?_
  refine ev_ta (pc' := 298) (pt_123_297 w) rfl rfl b2 ?_
  refine ev_al (pc' := 299) (pt_123_298 w) rfl rfl ?_
  refine ev_il (pc' := 300) (pt_123_299 w) rfl rfl ?_
  refine ev_k (pc' := 301) (pt_123_300 w) rfl ?_
  refine ev_b (pc' := 302) (pt_123_301 w) rfl ?_
  refine ev_ta (pc' := 303) (pt_123_302 w) rfl rfl b3 ?_
  refine ev_al (pc' := 304) (pt_123_303 w) rfl rfl ?_
  refine ev_il (pc' := 305) (pt_123_304 w) rfl rfl ?_
  refine ev_k (pc' := 306) (pt_123_305 w) rfl ?_
  refine ev_b (pc' := 307) (pt_123_306 w) rfl ?_
  refine ev_ta (pc' := 308) (pt_123_307 w) rfl rfl b4 ?_
  exact ev_cal (pc' := 311) (pt_123_308 w) (vs := [.ref 148, .int (w.2 (x3 + 1).toNatClampNeg), .int (w.2 (x3 + (iN 2)).toNatClampNeg), .int (w.2 (x3 + (iN 3)).toNatClampNeg), .int (w.2 (x3 + (iN 4)).toNatClampNeg)]) (rest := [.int s0]) (en := [some (.ref 148), some (.int (w.2 (x3 + 1).toNatClampNeg)), some (.int (w.2 (x3 + (iN 2)).toNatClampNeg)), some (.int (w.2 (x3 + (iN 3)).toNatClampNeg)), some (.int (w.2 (x3 + (iN 4)).toNatClampNeg)), none, none, none]) rfl rfl rfl rfl rfl rfl rfl h5

theorem wk_123_311 {w : qS} {M : qM} {x3 s0 s1 : Int32} {post : qR}
    (h1 : (c1 : s1 = s0) → gE w 123 694 [some (.ref 210), some (.ref 0), some (.ref 148), some (.int x3)] [] M post)
    (h2 : (c1 : ¬ s1 = s0) → post (some (.int 0)) M) :
    gE w 123 311 [some (.ref 210), some (.ref 0), some (.ref 148), some (.int x3)] [.int s0, .int s1] M post := by
  refine ev_ceq (pc' := 314) (pt_123_311 w) rfl (fun c1 => ?_) (fun c1 => ?_)
  · exact (h1 c1)
  · refine ev_k (pc' := 315) (pt_123_314 w) rfl ?_
    exact ev_rz (pt_123_315 w) z1_0 (h2 c1)

theorem wk_123_316 {w : qS} {M : qM} {x3 : Int32} {post : qR}
    (b1 : vp_in (x3 + 1) w.1)
    (h2 : gE w 6 0 [some (.ref 0), some (.int (w.2 (x3 + 1).toNatClampNeg))] [] M (fun r M' => gE w 123 325 [some (.ref 210), some (.ref 0), some (.ref 148), some (.int x3)] (r.toList ++ []) M' post)) :
    gE w 123 316 [some (.ref 210), some (.ref 0), some (.ref 148), some (.int x3)] [] M post := by
  refine ev_al (pc' := 317) (pt_123_316 w) rfl rfl ?_
  refine ev_al (pc' := 318) (pt_123_317 w) rfl rfl ?_
  refine ev_il (pc' := 319) (pt_123_318 w) rfl rfl ?_
  refine ev_k (pc' := 320) (pt_123_319 w) rfl ?_
  refine ev_b (pc' := 321) (pt_123_320 w) rfl ?_
  refine ev_ta (pc' := 322) (pt_123_321 w) rfl rfl b1 ?_
  exact ev_cal (pc' := 325) (pt_123_322 w) (vs := [.ref 0, .int (w.2 (x3 + 1).toNatClampNeg)]) (rest := []) (en := [some (.ref 0), some (.int (w.2 (x3 + 1).toNatClampNeg))]) rfl rfl rfl rfl rfl rfl rfl h2

theorem wk_123_325 {w : qS} {M : qM} {x3 s0 : Int32} {post : qR}
    (b1 : vp_in (x3 + 1) w.1)
    (h2 : gE w 95 0 [some (.ref 148), some (.int (w.2 (x3 + 1).toNatClampNeg))] [] M (fun r M' => gE w 123 334 [some (.ref 210), some (.ref 0), some (.ref 148), some (.int x3)] (r.toList ++ [.int s0]) M' post)) :
    gE w 123 325 [some (.ref 210), some (.ref 0), some (.ref 148), some (.int x3)] [.int s0] M post := by
  refine ev_al (pc' := 326) (pt_123_325 w) rfl rfl ?_
  refine ev_al (pc' := 327) (pt_123_326 w) rfl rfl ?_
  refine ev_il (pc' := 328) (pt_123_327 w) rfl rfl ?_
  refine ev_k (pc' := 329) (pt_123_328 w) rfl ?_
  refine ev_b (pc' := 330) (pt_123_329 w) rfl ?_
  refine ev_ta (pc' := 331) (pt_123_330 w) rfl rfl b1 ?_
  exact ev_cal (pc' := 334) (pt_123_331 w) (vs := [.ref 148, .int (w.2 (x3 + 1).toNatClampNeg)]) (rest := [.int s0]) (en := [some (.ref 148), some (.int (w.2 (x3 + 1).toNatClampNeg))]) rfl rfl rfl rfl rfl rfl rfl h2

theorem wk_123_334 {w : qS} {M : qM} {x3 s0 s1 : Int32} {post : qR}
    (h1 : (c1 : s1 = s0) → gE w 123 694 [some (.ref 210), some (.ref 0), some (.ref 148), some (.int x3)] [] M post)
    (h2 : (c1 : ¬ s1 = s0) → post (some (.int 0)) M) :
    gE w 123 334 [some (.ref 210), some (.ref 0), some (.ref 148), some (.int x3)] [.int s0, .int s1] M post := by
  refine ev_ceq (pc' := 337) (pt_123_334 w) rfl (fun c1 => ?_) (fun c1 => ?_)
  · exact (h1 c1)
  · refine ev_k (pc' := 338) (pt_123_337 w) rfl ?_
    exact ev_rz (pt_123_338 w) z1_0 (h2 c1)

theorem wk_123_339 {w : qS} {M : qM} {x3 : Int32} {post : qR}
    (b1 : vp_in (x3 + 1) w.1)
    (h2 : gE w 7 0 [some (.ref 0), some (.int (w.2 (x3 + 1).toNatClampNeg)), none] [] M (fun r M' => gE w 123 348 [some (.ref 210), some (.ref 0), some (.ref 148), some (.int x3)] (r.toList ++ []) M' post)) :
    gE w 123 339 [some (.ref 210), some (.ref 0), some (.ref 148), some (.int x3)] [] M post := by
  refine ev_al (pc' := 340) (pt_123_339 w) rfl rfl ?_
  refine ev_al (pc' := 341) (pt_123_340 w) rfl rfl ?_
  refine ev_il (pc' := 342) (pt_123_341 w) rfl rfl ?_
  refine ev_k (pc' := 343) (pt_123_342 w) rfl ?_
  refine ev_b (pc' := 344) (pt_123_343 w) rfl ?_
  refine ev_ta (pc' := 345) (pt_123_344 w) rfl rfl b1 ?_
  exact ev_cal (pc' := 348) (pt_123_345 w) (vs := [.ref 0, .int (w.2 (x3 + 1).toNatClampNeg)]) (rest := []) (en := [some (.ref 0), some (.int (w.2 (x3 + 1).toNatClampNeg)), none]) rfl rfl rfl rfl rfl rfl rfl h2

theorem wk_123_348 {w : qS} {M : qM} {x3 s0 : Int32} {post : qR}
    (b1 : vp_in (x3 + 1) w.1)
    (h2 : gE w 96 0 [some (.ref 148), some (.int (w.2 (x3 + 1).toNatClampNeg)), none] [] M (fun r M' => gE w 123 357 [some (.ref 210), some (.ref 0), some (.ref 148), some (.int x3)] (r.toList ++ [.int s0]) M' post)) :
    gE w 123 348 [some (.ref 210), some (.ref 0), some (.ref 148), some (.int x3)] [.int s0] M post := by
  refine ev_al (pc' := 349) (pt_123_348 w) rfl rfl ?_
  refine ev_al (pc' := 350) (pt_123_349 w) rfl rfl ?_
  refine ev_il (pc' := 351) (pt_123_350 w) rfl rfl ?_
  refine ev_k (pc' := 352) (pt_123_351 w) rfl ?_
  refine ev_b (pc' := 353) (pt_123_352 w) rfl ?_
  refine ev_ta (pc' := 354) (pt_123_353 w) rfl rfl b1 ?_
  exact ev_cal (pc' := 357) (pt_123_354 w) (vs := [.ref 148, .int (w.2 (x3 + 1).toNatClampNeg)]) (rest := [.int s0]) (en := [some (.ref 148), some (.int (w.2 (x3 + 1).toNatClampNeg)), none]) rfl rfl rfl rfl rfl rfl rfl h2

theorem wk_123_357 {w : qS} {M : qM} {x3 s0 s1 : Int32} {post : qR}
    (h1 : (c1 : s1 = s0) → gE w 123 694 [some (.ref 210), some (.ref 0), some (.ref 148), some (.int x3)] [] M post)
    (h2 : (c1 : ¬ s1 = s0) → post (some (.int 0)) M) :
    gE w 123 357 [some (.ref 210), some (.ref 0), some (.ref 148), some (.int x3)] [.int s0, .int s1] M post := by
  refine ev_ceq (pc' := 360) (pt_123_357 w) rfl (fun c1 => ?_) (fun c1 => ?_)
  · exact (h1 c1)
  · refine ev_k (pc' := 361) (pt_123_360 w) rfl ?_
    exact ev_rz (pt_123_361 w) z1_0 (h2 c1)

theorem wk_123_362 {w : qS} {M : qM} {x3 : Int32} {post : qR}
    (b1 : vp_in (x3 + 1) w.1)
    (b2 : vp_in (x3 + (iN 2)) w.1)
    (h3 : gE w 8 0 [some (.ref 0), some (.int (w.2 (x3 + 1).toNatClampNeg)), some (.int (if (w.2 (x3 + (iN 2)).toNatClampNeg) = 0 then 0 else 1 : Int32))] [] M (fun r M' => gE w 123 384 [some (.ref 210), some (.ref 0), some (.ref 148), some (.int x3)] (r.toList ++ []) M' post)) :
    gE w 123 362 [some (.ref 210), some (.ref 0), some (.ref 148), some (.int x3)] [] M post := by
  refine ev_al (pc' := 363) (pt_123_362 w) rfl rfl ?_
  refine ev_al (pc' := 364) (pt_123_363 w) rfl rfl ?_
  refine ev_il (pc' := 365) (pt_123_364 w) rfl rfl ?_
  refine ev_k (pc' := 366) (pt_123_365 w) rfl ?_
  refine ev_b (pc' := 367) (pt_123_366 w) rfl ?_
  refine ev_ta (pc' := 368) (pt_123_367 w) rfl rfl b1 ?_
  refine ev_al (pc' := 369) (pt_123_368 w) rfl rfl ?_
  refine ev_il (pc' := 370) (pt_123_369 w) rfl rfl ?_
  refine ev_k (pc' := 371) (pt_123_370 w) rfl ?_
  refine ev_b (pc' := 372) (pt_123_371 w) rfl ?_
  refine ev_ta (pc' := 373) (pt_123_372 w) rfl rfl b2 ?_
  have j1 : ∀ v1 : Int32, v1 = (if (w.2 (x3 + (iN 2)).toNatClampNeg) = 0 then 0 else 1 : Int32) → gE w 123 381 [some (.ref 210), some (.ref 0), some (.ref 148), some (.int x3)] [.int v1, .int (w.2 (x3 + 1).toNatClampNeg), .ref 0] M post := by
    intro v1 e2
    subst v1
    exact ev_cal (pc' := 384) (pt_123_381 w) (vs := [.ref 0, .int (w.2 (x3 + 1).toNatClampNeg), .int (if (w.2 (x3 + (iN 2)).toNatClampNeg) = 0 then 0 else 1 : Int32)]) (rest := []) (en := [some (.ref 0), some (.int (w.2 (x3 + 1).toNatClampNeg)), some (.int (if (w.2 (x3 + (iN 2)).toNatClampNeg) = 0 then 0 else 1 : Int32))]) rfl rfl rfl rfl rfl rfl rfl h3
  refine ev_zeq (pc' := 376) (pt_123_373 w) rfl (fun c1 => ?_) (fun c1 => ?_)
  · refine ev_k (pc' := 381) (pt_123_380 w) rfl ?_
    exact j1 _ (if_pos c1).symm
  · refine ev_k (pc' := 377) (pt_123_376 w) rfl ?_
    refine ev_g (pt_123_377 w) ?_
    exact j1 _ (if_neg c1).symm

theorem wk_123_384 {w : qS} {M : qM} {x3 s0 : Int32} {post : qR}
    (b1 : vp_in (x3 + 1) w.1)
    (b2 : vp_in (x3 + (iN 2)) w.1)
    (h3 : gE w 97 0 [some (.ref 148), some (.int (w.2 (x3 + 1).toNatClampNeg)), some (.int (if (w.2 (x3 + (iN 2)).toNatClampNeg) = 0 then 0 else 1 : Int32))] [] M (fun r M' => gE w 123 406 [some (.ref 210), some (.ref 0), some (.ref 148), some (.int x3)] (r.toList ++ [.int s0]) M' post)) :
    gE w 123 384 [some (.ref 210), some (.ref 0), some (.ref 148), some (.int x3)] [.int s0] M post := by
  refine ev_al (pc' := 385) (pt_123_384 w) rfl rfl ?_
  refine ev_al (pc' := 386) (pt_123_385 w) rfl rfl ?_
  refine ev_il (pc' := 387) (pt_123_386 w) rfl rfl ?_
  refine ev_k (pc' := 388) (pt_123_387 w) rfl ?_
  refine ev_b (pc' := 389) (pt_123_388 w) rfl ?_
  refine ev_ta (pc' := 390) (pt_123_389 w) rfl rfl b1 ?_
  refine ev_al (pc' := 391) (pt_123_390 w) rfl rfl ?_
  refine ev_il (pc' := 392) (pt_123_391 w) rfl rfl ?_
  refine ev_k (pc' := 393) (pt_123_392 w) rfl ?_
  refine ev_b (pc' := 394) (pt_123_393 w) rfl ?_
  refine ev_ta (pc' := 395) (pt_123_394 w) rfl rfl b2 ?_
  have j1 : ∀ v1 : Int32, v1 = (if (w.2 (x3 + (iN 2)).toNatClampNeg) = 0 then 0 else 1 : Int32) → gE w 123 403 [some (.ref 210), some (.ref 0), some (.ref 148), some (.int x3)] [.int v1, .int (w.2 (x3 + 1).toNatClampNeg), .ref 148, .int s0] M post := by
    intro v1 e2
    subst v1
    exact ev_cal (pc' := 406) (pt_123_403 w) (vs := [.ref 148, .int (w.2 (x3 + 1).toNatClampNeg), .int (if (w.2 (x3 + (iN 2)).toNatClampNeg) = 0 then 0 else 1 : Int32)]) (rest := [.int s0]) (en := [some (.ref 148), some (.int (w.2 (x3 + 1).toNatClampNeg)), some (.int (if (w.2 (x3 + (iN 2)).toNatClampNeg) = 0 then 0 else 1 : Int32))]) rfl rfl rfl rfl rfl rfl rfl h3
  refine ev_zeq (pc' := 398) (pt_123_395 w) rfl (fun c1 => ?_) (fun c1 => ?_)
  · refine ev_k (pc' := 403) (pt_123_402 w) rfl ?_
    exact j1 _ (if_pos c1).symm
  · refine ev_k (pc' := 399) (pt_123_398 w) rfl ?_
    refine ev_g (pt_123_399 w) ?_
    exact j1 _ (if_neg c1).symm

theorem wk_123_406 {w : qS} {M : qM} {x3 s0 s1 : Int32} {post : qR}
    (h1 : (c1 : s1 = s0) → gE w 123 694 [some (.ref 210), some (.ref 0), some (.ref 148), some (.int x3)] [] M post)
    (h2 : (c1 : ¬ s1 = s0) → post (some (.int 0)) M) :
    gE w 123 406 [some (.ref 210), some (.ref 0), some (.ref 148), some (.int x3)] [.int s0, .int s1] M post := by
  refine ev_ceq (pc' := 409) (pt_123_406 w) rfl (fun c1 => ?_) (fun c1 => ?_)
  · exact (h1 c1)
  · refine ev_k (pc' := 410) (pt_123_409 w) rfl ?_
    exact ev_rz (pt_123_410 w) z1_0 (h2 c1)

theorem wk_123_411 {w : qS} {M : qM} {x3 : Int32} {post : qR}
    (b1 : vp_in (x3 + 1) w.1)
    (b2 : vp_in (x3 + (iN 2)) w.1)
    (b3 : vp_in (x3 + (iN 3)) w.1)
    (b4 : vp_in (x3 + (iN 4)) w.1)
    (h5 : gE w 9 0 [some (.ref 0), some (.int (w.2 (x3 + 1).toNatClampNeg)), some (.int (w.2 (x3 + (iN 2)).toNatClampNeg)), some (.int (w.2 (x3 + (iN 3)).toNatClampNeg)), some (.int (w.2 (x3 + (iN 4)).toNatClampNeg)), none, none] [] M (fun r M' => gE w 123 435 [some (.ref 210), some (.ref 0), some (.ref 148), some (.int x3)] (r.toList ++ []) M' post)) :
    gE w 123 411 [some (.ref 210), some (.ref 0), some (.ref 148), some (.int x3)] [] M post := by
  refine ev_al (pc' := 412) (pt_123_411 w) rfl rfl ?_
  refine ev_al (pc' := 413) (pt_123_412 w) rfl rfl ?_
  refine ev_il (pc' := 414) (pt_123_413 w) rfl rfl ?_
  refine ev_k (pc' := 415) (pt_123_414 w) rfl ?_
  refine ev_b (pc' := 416) (pt_123_415 w) rfl ?_
  refine ev_ta (pc' := 417) (pt_123_416 w) rfl rfl b1 ?_
  refine ev_al (pc' := 418) (pt_123_417 w) rfl rfl ?_
  refine ev_il (pc' := 419) (pt_123_418 w) rfl rfl ?_
  refine ev_k (pc' := 420) (pt_123_419 w) rfl ?_
  refine ev_b (pc' := 421) (pt_123_420 w) rfl ?_
  refine ev_ta (pc' := 422) (pt_123_421 w) rfl rfl b2 ?_
  refine ev_al (pc' := 423) (pt_123_422 w) rfl rfl ?_
  refine ev_il (pc' := 424) (pt_123_423 w) rfl rfl ?_
  refine ev_k (pc' := 425) (pt_123_424 w) rfl ?_
  refine ev_b (pc' := 426) (pt_123_425 w) rfl ?_
  refine ev_ta (pc' := 427) (pt_123_426 w) rfl rfl b3 ?_
  refine ev_al (pc' := 428) (pt_123_427 w) rfl rfl ?_
  refine ev_il (pc' := 429) (pt_123_428 w) rfl rfl ?_
  refine ev_k (pc' := 430) (pt_123_429 w) rfl ?_
  refine ev_b (pc' := 431) (pt_123_430 w) rfl ?_
  refine ev_ta (pc' := 432) (pt_123_431 w) rfl rfl b4 ?_
  exact ev_cal (pc' := 435) (pt_123_432 w) (vs := [.ref 0, .int (w.2 (x3 + 1).toNatClampNeg), .int (w.2 (x3 + (iN 2)).toNatClampNeg), .int (w.2 (x3 + (iN 3)).toNatClampNeg), .int (w.2 (x3 + (iN 4)).toNatClampNeg)]) (rest := []) (en := [some (.ref 0), some (.int (w.2 (x3 + 1).toNatClampNeg)), some (.int (w.2 (x3 + (iN 2)).toNatClampNeg)), some (.int (w.2 (x3 + (iN 3)).toNatClampNeg)), some (.int (w.2 (x3 + (iN 4)).toNatClampNeg)), none, none]) rfl rfl rfl rfl rfl rfl rfl h5

theorem wk_123_435 {w : qS} {M : qM} {x3 s0 : Int32} {post : qR}
    (b1 : vp_in (x3 + 1) w.1)
    (b2 : vp_in (x3 + (iN 2)) w.1)
    (b3 : vp_in (x3 + (iN 3)) w.1)
    (b4 : vp_in (x3 + (iN 4)) w.1)
    (h5 : gE w 101 0 [some (.ref 148), some (.int (w.2 (x3 + 1).toNatClampNeg)), some (.int (w.2 (x3 + (iN 2)).toNatClampNeg)), some (.int (w.2 (x3 + (iN 3)).toNatClampNeg)), some (.int (w.2 (x3 + (iN 4)).toNatClampNeg)), none, none, none] [] M (fun r M' => gE w 123 459 [some (.ref 210), some (.ref 0), some (.ref 148), some (.int x3)] (r.toList ++ [.int s0]) M' post)) :
    gE w 123 435 [some (.ref 210), some (.ref 0), some (.ref 148), some (.int x3)] [.int s0] M post := by
  refine ev_al (pc' := 436) (pt_123_435 w) rfl rfl ?_
  refine ev_al (pc' := 437) (pt_123_436 w) rfl rfl ?_
  refine ev_il (pc' := 438) (pt_123_437 w) rfl rfl ?_
  refine ev_k (pc' := 439) (pt_123_438 w) rfl ?_
  refine ev_b (pc' := 440) (pt_123_439 w) rfl ?_
  refine ev_ta (pc' := 441) (pt_123_440 w) rfl rfl b1 ?_
  refine ev_al (pc' := 442) (pt_123_441 w) rfl rfl ?_
  refine ev_il (pc' := 443) (pt_123_442 w) rfl rfl ?_
  refine ev_k (pc' := 444) (pt_123_443 w) rfl ?_
  refine ev_b (pc' := 445) (pt_123_444 w) rfl ?_
  refine ev_ta (pc' := 446) (pt_123_445 w) rfl rfl b2 ?_
  refine ev_al (pc' := 447) (pt_123_446 w) rfl rfl ?_
  refine ev_il (pc' := 448) (pt_123_447 w) rfl rfl ?_
  refine ev_k (pc' := 449) (pt_123_448 w) rfl ?_
  refine ev_b (pc' := 450) (pt_123_449 w) rfl ?_
  refine ev_ta (pc' := 451) (pt_123_450 w) rfl rfl b3 ?_
  refine ev_al (pc' := 452) (pt_123_451 w) rfl rfl ?_
  refine ev_il (pc' := 453) (pt_123_452 w) rfl rfl ?_
  refine ev_k (pc' := 454) (pt_123_453 w) rfl ?_
  refine ev_b (pc' := 455) (pt_123_454 w) rfl ?_
  refine ev_ta (pc' := 456) (pt_123_455 w) rfl rfl b4 ?_
  exact ev_cal (pc' := 459) (pt_123_456 w) (vs := [.ref 148, .int (w.2 (x3 + 1).toNatClampNeg), .int (w.2 (x3 + (iN 2)).toNatClampNeg), .int (w.2 (x3 + (iN 3)).toNatClampNeg), .int (w.2 (x3 + (iN 4)).toNatClampNeg)]) (rest := [.int s0]) (en := [some (.ref 148), some (.int (w.2 (x3 + 1).toNatClampNeg)), some (.int (w.2 (x3 + (iN 2)).toNatClampNeg)), some (.int (w.2 (x3 + (iN 3)).toNatClampNeg)), some (.int (w.2 (x3 + (iN 4)).toNatClampNeg)), none, none, none]) rfl rfl rfl rfl rfl rfl rfl h5

theorem wk_123_459 {w : qS} {M : qM} {x3 s0 s1 : Int32} {post : qR}
    (h1 : (c1 : s1 = s0) → gE w 123 694 [some (.ref 210), some (.ref 0), some (.ref 148), some (.int x3)] [] M post)
    (h2 : (c1 : ¬ s1 = s0) → post (some (.int 0)) M) :
    gE w 123 459 [some (.ref 210), some (.ref 0), some (.ref 148), some (.int x3)] [.int s0, .int s1] M post := by
  refine ev_ceq (pc' := 462) (pt_123_459 w) rfl (fun c1 => ?_) (fun c1 => ?_)
  · exact (h1 c1)
  · refine ev_k (pc' := 463) (pt_123_462 w) rfl ?_
    exact ev_rz (pt_123_463 w) z1_0 (h2 c1)

theorem wk_123_464 {w : qS} {M : qM} {x3 : Int32} {post : qR}
    (b1 : vp_in (x3 + 1) w.1)
    (h2 : gE w 10 0 [some (.ref 0), some (.int (w.2 (x3 + 1).toNatClampNeg))] [] M (fun r M' => gE w 123 473 [some (.ref 210), some (.ref 0), some (.ref 148), some (.int x3)] (r.toList ++ []) M' post)) :
    gE w 123 464 [some (.ref 210), some (.ref 0), some (.ref 148), some (.int x3)] [] M post := by
  refine ev_al (pc' := 465) (pt_123_464 w) rfl rfl ?_
  refine ev_al (pc' := 466) (pt_123_465 w) rfl rfl ?_
  refine ev_il (pc' := 467) (pt_123_466 w) rfl rfl ?_
  refine ev_k (pc' := 468) (pt_123_467 w) rfl ?_
  refine ev_b (pc' := 469) (pt_123_468 w) rfl ?_
  refine ev_ta (pc' := 470) (pt_123_469 w) rfl rfl b1 ?_
  exact ev_cal (pc' := 473) (pt_123_470 w) (vs := [.ref 0, .int (w.2 (x3 + 1).toNatClampNeg)]) (rest := []) (en := [some (.ref 0), some (.int (w.2 (x3 + 1).toNatClampNeg))]) rfl rfl rfl rfl rfl rfl rfl h2

theorem wk_123_473 {w : qS} {M : qM} {x3 s0 : Int32} {post : qR}
    (b1 : vp_in (x3 + 1) w.1)
    (h2 : gE w 102 0 [some (.ref 148), some (.int (w.2 (x3 + 1).toNatClampNeg))] [] M (fun r M' => gE w 123 482 [some (.ref 210), some (.ref 0), some (.ref 148), some (.int x3)] (r.toList ++ [.int s0]) M' post)) :
    gE w 123 473 [some (.ref 210), some (.ref 0), some (.ref 148), some (.int x3)] [.int s0] M post := by
  refine ev_al (pc' := 474) (pt_123_473 w) rfl rfl ?_
  refine ev_al (pc' := 475) (pt_123_474 w) rfl rfl ?_
  refine ev_il (pc' := 476) (pt_123_475 w) rfl rfl ?_
  refine ev_k (pc' := 477) (pt_123_476 w) rfl ?_
  refine ev_b (pc' := 478) (pt_123_477 w) rfl ?_
  refine ev_ta (pc' := 479) (pt_123_478 w) rfl rfl b1 ?_
  exact ev_cal (pc' := 482) (pt_123_479 w) (vs := [.ref 148, .int (w.2 (x3 + 1).toNatClampNeg)]) (rest := [.int s0]) (en := [some (.ref 148), some (.int (w.2 (x3 + 1).toNatClampNeg))]) rfl rfl rfl rfl rfl rfl rfl h2

theorem wk_123_482 {w : qS} {M : qM} {x3 s0 s1 : Int32} {post : qR}
    (h1 : (c1 : s1 = s0) → gE w 123 694 [some (.ref 210), some (.ref 0), some (.ref 148), some (.int x3)] [] M post)
    (h2 : (c1 : ¬ s1 = s0) → post (some (.int 0)) M) :
    gE w 123 482 [some (.ref 210), some (.ref 0), some (.ref 148), some (.int x3)] [.int s0, .int s1] M post := by
  refine ev_ceq (pc' := 485) (pt_123_482 w) rfl (fun c1 => ?_) (fun c1 => ?_)
  · exact (h1 c1)
  · refine ev_k (pc' := 486) (pt_123_485 w) rfl ?_
    exact ev_rz (pt_123_486 w) z1_0 (h2 c1)

theorem wk_123_487 {w : qS} {M : qM} {x3 : Int32} {post : qR}
    (b1 : vp_in (x3 + 1) w.1)
    (h2 : gE w 11 0 [some (.ref 0), some (.int (w.2 (x3 + 1).toNatClampNeg)), none] [] M (fun r M' => gE w 123 496 [some (.ref 210), some (.ref 0), some (.ref 148), some (.int x3)] (r.toList ++ []) M' post)) :
    gE w 123 487 [some (.ref 210), some (.ref 0), some (.ref 148), some (.int x3)] [] M post := by
  refine ev_al (pc' := 488) (pt_123_487 w) rfl rfl ?_
  refine ev_al (pc' := 489) (pt_123_488 w) rfl rfl ?_
  refine ev_il (pc' := 490) (pt_123_489 w) rfl rfl ?_
  refine ev_k (pc' := 491) (pt_123_490 w) rfl ?_
  refine ev_b (pc' := 492) (pt_123_491 w) rfl ?_
  refine ev_ta (pc' := 493) (pt_123_492 w) rfl rfl b1 ?_
  exact ev_cal (pc' := 496) (pt_123_493 w) (vs := [.ref 0, .int (w.2 (x3 + 1).toNatClampNeg)]) (rest := []) (en := [some (.ref 0), some (.int (w.2 (x3 + 1).toNatClampNeg)), none]) rfl rfl rfl rfl rfl rfl rfl h2

theorem wk_123_496 {w : qS} {M : qM} {x3 s0 : Int32} {post : qR}
    (b1 : vp_in (x3 + 1) w.1)
    (h2 : gE w 114 0 [some (.ref 148), some (.int (w.2 (x3 + 1).toNatClampNeg)), none] [] M (fun r M' => gE w 123 505 [some (.ref 210), some (.ref 0), some (.ref 148), some (.int x3)] (r.toList ++ [.int s0]) M' post)) :
    gE w 123 496 [some (.ref 210), some (.ref 0), some (.ref 148), some (.int x3)] [.int s0] M post := by
  refine ev_al (pc' := 497) (pt_123_496 w) rfl rfl ?_
  refine ev_al (pc' := 498) (pt_123_497 w) rfl rfl ?_
  refine ev_il (pc' := 499) (pt_123_498 w) rfl rfl ?_
  refine ev_k (pc' := 500) (pt_123_499 w) rfl ?_
  refine ev_b (pc' := 501) (pt_123_500 w) rfl ?_
  refine ev_ta (pc' := 502) (pt_123_501 w) rfl rfl b1 ?_
  exact ev_cal (pc' := 505) (pt_123_502 w) (vs := [.ref 148, .int (w.2 (x3 + 1).toNatClampNeg)]) (rest := [.int s0]) (en := [some (.ref 148), some (.int (w.2 (x3 + 1).toNatClampNeg)), none]) rfl rfl rfl rfl rfl rfl rfl h2

theorem wk_123_505 {w : qS} {M : qM} {x3 s0 s1 : Int32} {post : qR}
    (h1 : (c1 : s1 = s0) → gE w 123 694 [some (.ref 210), some (.ref 0), some (.ref 148), some (.int x3)] [] M post)
    (h2 : (c1 : ¬ s1 = s0) → post (some (.int 0)) M) :
    gE w 123 505 [some (.ref 210), some (.ref 0), some (.ref 148), some (.int x3)] [.int s0, .int s1] M post := by
  refine ev_ceq (pc' := 508) (pt_123_505 w) rfl (fun c1 => ?_) (fun c1 => ?_)
  · exact (h1 c1)
  · refine ev_k (pc' := 509) (pt_123_508 w) rfl ?_
    exact ev_rz (pt_123_509 w) z1_0 (h2 c1)

theorem wk_123_510 {w : qS} {M : qM} {x3 : Int32} {post : qR}
    (b1 : vp_in (x3 + 1) w.1)
    (h2 : gE w 12 0 [some (.ref 0), some (.int (w.2 (x3 + 1).toNatClampNeg)), none] [] M (fun r M' => gE w 123 519 [some (.ref 210), some (.ref 0), some (.ref 148), some (.int x3)] (r.toList ++ []) M' post)) :
    gE w 123 510 [some (.ref 210), some (.ref 0), some (.ref 148), some (.int x3)] [] M post := by
  refine ev_al (pc' := 511) (pt_123_510 w) rfl rfl ?_
  refine ev_al (pc' := 512) (pt_123_511 w) rfl rfl ?_
  refine ev_il (pc' := 513) (pt_123_512 w) rfl rfl ?_
  refine ev_k (pc' := 514) (pt_123_513 w) rfl ?_
  refine ev_b (pc' := 515) (pt_123_514 w) rfl ?_
  refine ev_ta (pc' := 516) (pt_123_515 w) rfl rfl b1 ?_
  exact ev_cal (pc' := 519) (pt_123_516 w) (vs := [.ref 0, .int (w.2 (x3 + 1).toNatClampNeg)]) (rest := []) (en := [some (.ref 0), some (.int (w.2 (x3 + 1).toNatClampNeg)), none]) rfl rfl rfl rfl rfl rfl rfl h2

theorem wk_123_519 {w : qS} {M : qM} {x3 s0 : Int32} {post : qR}
    (b1 : vp_in (x3 + 1) w.1)
    (h2 : gE w 104 0 [some (.ref 148), some (.int (w.2 (x3 + 1).toNatClampNeg)), none, none, none] [] M (fun r M' => gE w 123 528 [some (.ref 210), some (.ref 0), some (.ref 148), some (.int x3)] (r.toList ++ [.int s0]) M' post)) :
    gE w 123 519 [some (.ref 210), some (.ref 0), some (.ref 148), some (.int x3)] [.int s0] M post := by
  refine ev_al (pc' := 520) (pt_123_519 w) rfl rfl ?_
  refine ev_al (pc' := 521) (pt_123_520 w) rfl rfl ?_
  refine ev_il (pc' := 522) (pt_123_521 w) rfl rfl ?_
  refine ev_k (pc' := 523) (pt_123_522 w) rfl ?_
  refine ev_b (pc' := 524) (pt_123_523 w) rfl ?_
  refine ev_ta (pc' := 525) (pt_123_524 w) rfl rfl b1 ?_
  exact ev_cal (pc' := 528) (pt_123_525 w) (vs := [.ref 148, .int (w.2 (x3 + 1).toNatClampNeg)]) (rest := [.int s0]) (en := [some (.ref 148), some (.int (w.2 (x3 + 1).toNatClampNeg)), none, none, none]) rfl rfl rfl rfl rfl rfl rfl h2

theorem wk_123_528 {w : qS} {M : qM} {x3 s0 s1 : Int32} {post : qR}
    (h1 : (c1 : s1 = s0) → gE w 123 694 [some (.ref 210), some (.ref 0), some (.ref 148), some (.int x3)] [] M post)
    (h2 : (c1 : ¬ s1 = s0) → post (some (.int 0)) M) :
    gE w 123 528 [some (.ref 210), some (.ref 0), some (.ref 148), some (.int x3)] [.int s0, .int s1] M post := by
  refine ev_ceq (pc' := 531) (pt_123_528 w) rfl (fun c1 => ?_) (fun c1 => ?_)
  · exact (h1 c1)
  · refine ev_k (pc' := 532) (pt_123_531 w) rfl ?_
    exact ev_rz (pt_123_532 w) z1_0 (h2 c1)

theorem wk_123_533 {w : qS} {M : qM} {x3 : Int32} {post : qR}
    (h1 : gE w 13 0 [some (.ref 0), none, none, none] [] M (fun r M' => gE w 123 537 [some (.ref 210), some (.ref 0), some (.ref 148), some (.int x3)] (r.toList ++ []) M' post)) :
    gE w 123 533 [some (.ref 210), some (.ref 0), some (.ref 148), some (.int x3)] [] M post := by
  refine ev_al (pc' := 534) (pt_123_533 w) rfl rfl ?_
  exact ev_cal (pc' := 537) (pt_123_534 w) (vs := [.ref 0]) (rest := []) (en := [some (.ref 0), none, none, none]) rfl rfl rfl rfl rfl rfl rfl h1

theorem wk_123_537 {w : qS} {M : qM} {x3 s0 : Int32} {post : qR}
    (h1 : gE w 116 0 [some (.ref 148), none, none, none] [] M (fun r M' => gE w 123 541 [some (.ref 210), some (.ref 0), some (.ref 148), some (.int x3)] (r.toList ++ [.int s0]) M' post)) :
    gE w 123 537 [some (.ref 210), some (.ref 0), some (.ref 148), some (.int x3)] [.int s0] M post := by
  refine ev_al (pc' := 538) (pt_123_537 w) rfl rfl ?_
  exact ev_cal (pc' := 541) (pt_123_538 w) (vs := [.ref 148]) (rest := [.int s0]) (en := [some (.ref 148), none, none, none]) rfl rfl rfl rfl rfl rfl rfl h1

theorem wk_123_541 {w : qS} {M : qM} {x3 s0 s1 : Int32} {post : qR}
    (h1 : (c1 : s1 = s0) → gE w 123 694 [some (.ref 210), some (.ref 0), some (.ref 148), some (.int x3)] [] M post)
    (h2 : (c1 : ¬ s1 = s0) → post (some (.int 0)) M) :
    gE w 123 541 [some (.ref 210), some (.ref 0), some (.ref 148), some (.int x3)] [.int s0, .int s1] M post := by
  refine ev_ceq (pc' := 544) (pt_123_541 w) rfl (fun c1 => ?_) (fun c1 => ?_)
  · exact (h1 c1)
  · refine ev_k (pc' := 545) (pt_123_544 w) rfl ?_
    exact ev_rz (pt_123_545 w) z1_0 (h2 c1)

theorem wk_123_546 {w : qS} {M : qM} {x3 : Int32} {post : qR}
    (b1 : vp_in (x3 + 1) w.1)
    (h2 : gE w 14 0 [some (.ref 0), some (.int (w.2 (x3 + 1).toNatClampNeg))] [] M (fun r M' => gE w 123 555 [some (.ref 210), some (.ref 0), some (.ref 148), some (.int x3)] (r.toList ++ []) M' post)) :
    gE w 123 546 [some (.ref 210), some (.ref 0), some (.ref 148), some (.int x3)] [] M post := by
  refine ev_al (pc' := 547) (pt_123_546 w) rfl rfl ?_
  refine ev_al (pc' := 548) (pt_123_547 w) rfl rfl ?_
  refine ev_il (pc' := 549) (pt_123_548 w) rfl rfl ?_
  refine ev_k (pc' := 550) (pt_123_549 w) rfl ?_
  refine ev_b (pc' := 551) (pt_123_550 w) rfl ?_
  refine ev_ta (pc' := 552) (pt_123_551 w) rfl rfl b1 ?_
  exact ev_cal (pc' := 555) (pt_123_552 w) (vs := [.ref 0, .int (w.2 (x3 + 1).toNatClampNeg)]) (rest := []) (en := [some (.ref 0), some (.int (w.2 (x3 + 1).toNatClampNeg))]) rfl rfl rfl rfl rfl rfl rfl h2

theorem wk_123_555 {w : qS} {M : qM} {x3 s0 : Int32} {post : qR}
    (b1 : vp_in (x3 + 1) w.1)
    (h2 : gE w 103 0 [some (.ref 148), some (.int (w.2 (x3 + 1).toNatClampNeg))] [] M (fun r M' => gE w 123 564 [some (.ref 210), some (.ref 0), some (.ref 148), some (.int x3)] (r.toList ++ [.int s0]) M' post)) :
    gE w 123 555 [some (.ref 210), some (.ref 0), some (.ref 148), some (.int x3)] [.int s0] M post := by
  refine ev_al (pc' := 556) (pt_123_555 w) rfl rfl ?_
  refine ev_al (pc' := 557) (pt_123_556 w) rfl rfl ?_
  refine ev_il (pc' := 558) (pt_123_557 w) rfl rfl ?_
  refine ev_k (pc' := 559) (pt_123_558 w) rfl ?_
  refine ev_b (pc' := 560) (pt_123_559 w) rfl ?_
  refine ev_ta (pc' := 561) (pt_123_560 w) rfl rfl b1 ?_
  exact ev_cal (pc' := 564) (pt_123_561 w) (vs := [.ref 148, .int (w.2 (x3 + 1).toNatClampNeg)]) (rest := [.int s0]) (en := [some (.ref 148), some (.int (w.2 (x3 + 1).toNatClampNeg))]) rfl rfl rfl rfl rfl rfl rfl h2

theorem wk_123_564 {w : qS} {M : qM} {x3 s0 s1 : Int32} {post : qR}
    (h1 : (c1 : s1 = s0) → gE w 123 694 [some (.ref 210), some (.ref 0), some (.ref 148), some (.int x3)] [] M post)
    (h2 : (c1 : ¬ s1 = s0) → post (some (.int 0)) M) :
    gE w 123 564 [some (.ref 210), some (.ref 0), some (.ref 148), some (.int x3)] [.int s0, .int s1] M post := by
  refine ev_ceq (pc' := 567) (pt_123_564 w) rfl (fun c1 => ?_) (fun c1 => ?_)
  · exact (h1 c1)
  · refine ev_k (pc' := 568) (pt_123_567 w) rfl ?_
    exact ev_rz (pt_123_568 w) z1_0 (h2 c1)

theorem wk_123_569 {w : qS} {M : qM} {x3 : Int32} {post : qR}
    (b1 : vp_in (x3 + 1) w.1)
    (b2 : vp_in (x3 + (iN 2)) w.1)
    (h3 : gE w 15 0 [some (.ref 0), some (.int (w.2 (x3 + 1).toNatClampNeg)), some (.int (w.2 (x3 + (iN 2)).toNatClampNeg)), none, none, none] [] M (fun r M' => gE w 123 583 [some (.ref 210), some (.ref 0), some (.ref 148), some (.int x3)] (r.toList ++ []) M' post)) :
    gE w 123 569 [some (.ref 210), some (.ref 0), some (.ref 148), some (.int x3)] [] M post := by
  refine ev_al (pc' := 570) (pt_123_569 w) rfl rfl ?_
  refine ev_al (pc' := 571) (pt_123_570 w) rfl rfl ?_
  refine ev_il (pc' := 572) (pt_123_571 w) rfl rfl ?_
  refine ev_k (pc' := 573) (pt_123_572 w) rfl ?_
  refine ev_b (pc' := 574) (pt_123_573 w) rfl ?_
  refine ev_ta (pc' := 575) (pt_123_574 w) rfl rfl b1 ?_
  refine ev_al (pc' := 576) (pt_123_575 w) rfl rfl ?_
  refine ev_il (pc' := 577) (pt_123_576 w) rfl rfl ?_
  refine ev_k (pc' := 578) (pt_123_577 w) rfl ?_
  refine ev_b (pc' := 579) (pt_123_578 w) rfl ?_
  refine ev_ta (pc' := 580) (pt_123_579 w) rfl rfl b2 ?_
  exact ev_cal (pc' := 583) (pt_123_580 w) (vs := [.ref 0, .int (w.2 (x3 + 1).toNatClampNeg), .int (w.2 (x3 + (iN 2)).toNatClampNeg)]) (rest := []) (en := [some (.ref 0), some (.int (w.2 (x3 + 1).toNatClampNeg)), some (.int (w.2 (x3 + (iN 2)).toNatClampNeg)), none, none, none]) rfl rfl rfl rfl rfl rfl rfl h3

theorem wk_123_583 {w : qS} {M : qM} {x3 s0 : Int32} {post : qR}
    (b1 : vp_in (x3 + 1) w.1)
    (b2 : vp_in (x3 + (iN 2)) w.1)
    (h3 : gE w 118 0 [some (.ref 148), some (.int (w.2 (x3 + 1).toNatClampNeg)), some (.int (w.2 (x3 + (iN 2)).toNatClampNeg)), none, none, none, none] [] M (fun r M' => gE w 123 597 [some (.ref 210), some (.ref 0), some (.ref 148), some (.int x3)] (r.toList ++ [.int s0]) M' post)) :
    gE w 123 583 [some (.ref 210), some (.ref 0), some (.ref 148), some (.int x3)] [.int s0] M post := by
  refine ev_al (pc' := 584) (pt_123_583 w) rfl rfl ?_
  refine ev_al (pc' := 585) (pt_123_584 w) rfl rfl ?_
  refine ev_il (pc' := 586) (pt_123_585 w) rfl rfl ?_
  refine ev_k (pc' := 587) (pt_123_586 w) rfl ?_
  refine ev_b (pc' := 588) (pt_123_587 w) rfl ?_
  refine ev_ta (pc' := 589) (pt_123_588 w) rfl rfl b1 ?_
  refine ev_al (pc' := 590) (pt_123_589 w) rfl rfl ?_
  refine ev_il (pc' := 591) (pt_123_590 w) rfl rfl ?_
  refine ev_k (pc' := 592) (pt_123_591 w) rfl ?_
  refine ev_b (pc' := 593) (pt_123_592 w) rfl ?_
  refine ev_ta (pc' := 594) (pt_123_593 w) rfl rfl b2 ?_
  exact ev_cal (pc' := 597) (pt_123_594 w) (vs := [.ref 148, .int (w.2 (x3 + 1).toNatClampNeg), .int (w.2 (x3 + (iN 2)).toNatClampNeg)]) (rest := [.int s0]) (en := [some (.ref 148), some (.int (w.2 (x3 + 1).toNatClampNeg)), some (.int (w.2 (x3 + (iN 2)).toNatClampNeg)), none, none, none, none]) rfl rfl rfl rfl rfl rfl rfl h3

theorem wk_123_597 {w : qS} {M : qM} {x3 s0 s1 : Int32} {post : qR}
    (h1 : (c1 : s1 = s0) → gE w 123 694 [some (.ref 210), some (.ref 0), some (.ref 148), some (.int x3)] [] M post)
    (h2 : (c1 : ¬ s1 = s0) → post (some (.int 0)) M) :
    gE w 123 597 [some (.ref 210), some (.ref 0), some (.ref 148), some (.int x3)] [.int s0, .int s1] M post := by
  refine ev_ceq (pc' := 600) (pt_123_597 w) rfl (fun c1 => ?_) (fun c1 => ?_)
  · exact (h1 c1)
  · refine ev_k (pc' := 601) (pt_123_600 w) rfl ?_
    exact ev_rz (pt_123_601 w) z1_0 (h2 c1)

theorem wk_123_602 {w : qS} {M : qM} {x3 : Int32} {post : qR}
    (b1 : vp_in (x3 + 1) w.1)
    (b2 : vp_in (x3 + (iN 2)) w.1)
    (h3 : gE w 16 0 [some (.ref 0), some (.int (w.2 (x3 + 1).toNatClampNeg)), some (.int (w.2 (x3 + (iN 2)).toNatClampNeg)), none, none, none, none, none, none] [] M (fun r M' => gE w 123 616 [some (.ref 210), some (.ref 0), some (.ref 148), some (.int x3)] (r.toList ++ []) M' post)) :
    gE w 123 602 [some (.ref 210), some (.ref 0), some (.ref 148), some (.int x3)] [] M post := by
  refine ev_al (pc' := 603) (pt_123_602 w) rfl rfl ?_
  refine ev_al (pc' := 604) (pt_123_603 w) rfl rfl ?_
  refine ev_il (pc' := 605) (pt_123_604 w) rfl rfl ?_
  refine ev_k (pc' := 606) (pt_123_605 w) rfl ?_
  refine ev_b (pc' := 607) (pt_123_606 w) rfl ?_
  refine ev_ta (pc' := 608) (pt_123_607 w) rfl rfl b1 ?_
  refine ev_al (pc' := 609) (pt_123_608 w) rfl rfl ?_
  refine ev_il (pc' := 610) (pt_123_609 w) rfl rfl ?_
  refine ev_k (pc' := 611) (pt_123_610 w) rfl ?_
  refine ev_b (pc' := 612) (pt_123_611 w) rfl ?_
  refine ev_ta (pc' := 613) (pt_123_612 w) rfl rfl b2 ?_
  exact ev_cal (pc' := 616) (pt_123_613 w) (vs := [.ref 0, .int (w.2 (x3 + 1).toNatClampNeg), .int (w.2 (x3 + (iN 2)).toNatClampNeg)]) (rest := []) (en := [some (.ref 0), some (.int (w.2 (x3 + 1).toNatClampNeg)), some (.int (w.2 (x3 + (iN 2)).toNatClampNeg)), none, none, none, none, none, none]) rfl rfl rfl rfl rfl rfl rfl h3

theorem wk_123_616 {w : qS} {M : qM} {x3 s0 : Int32} {post : qR}
    (b1 : vp_in (x3 + 1) w.1)
    (b2 : vp_in (x3 + (iN 2)) w.1)
    (h3 : gE w 119 0 [some (.ref 148), some (.int (w.2 (x3 + 1).toNatClampNeg)), some (.int (w.2 (x3 + (iN 2)).toNatClampNeg)), none, none, none, none, none] [] M (fun r M' => gE w 123 630 [some (.ref 210), some (.ref 0), some (.ref 148), some (.int x3)] (r.toList ++ [.int s0]) M' post)) :
    gE w 123 616 [some (.ref 210), some (.ref 0), some (.ref 148), some (.int x3)] [.int s0] M post := by
  refine ev_al (pc' := 617) (pt_123_616 w) rfl rfl ?_
  refine ev_al (pc' := 618) (pt_123_617 w) rfl rfl ?_
  refine ev_il (pc' := 619) (pt_123_618 w) rfl rfl ?_
  refine ev_k (pc' := 620) (pt_123_619 w) rfl ?_
  refine ev_b (pc' := 621) (pt_123_620 w) rfl ?_
  refine ev_ta (pc' := 622) (pt_123_621 w) rfl rfl b1 ?_
  refine ev_al (pc' := 623) (pt_123_622 w) rfl rfl ?_
  refine ev_il (pc' := 624) (pt_123_623 w) rfl rfl ?_
  refine ev_k (pc' := 625) (pt_123_624 w) rfl ?_
  refine ev_b (pc' := 626) (pt_123_625 w) rfl ?_
  refine ev_ta (pc' := 627) (pt_123_626 w) rfl rfl b2 ?_
  exact ev_cal (pc' := 630) (pt_123_627 w) (vs := [.ref 148, .int (w.2 (x3 + 1).toNatClampNeg), .int (w.2 (x3 + (iN 2)).toNatClampNeg)]) (rest := [.int s0]) (en := [some (.ref 148), some (.int (w.2 (x3 + 1).toNatClampNeg)), some (.int (w.2 (x3 + (iN 2)).toNatClampNeg)), none, none, none, none, none]) rfl rfl rfl rfl rfl rfl rfl h3

theorem wk_123_630 {w : qS} {M : qM} {x3 s0 s1 : Int32} {post : qR}
    (h1 : (c1 : s1 = s0) → gE w 123 694 [some (.ref 210), some (.ref 0), some (.ref 148), some (.int x3)] [] M post)
    (h2 : (c1 : ¬ s1 = s0) → post (some (.int 0)) M) :
    gE w 123 630 [some (.ref 210), some (.ref 0), some (.ref 148), some (.int x3)] [.int s0, .int s1] M post := by
  refine ev_ceq (pc' := 633) (pt_123_630 w) rfl (fun c1 => ?_) (fun c1 => ?_)
  · exact (h1 c1)
  · refine ev_k (pc' := 634) (pt_123_633 w) rfl ?_
    exact ev_rz (pt_123_634 w) z1_0 (h2 c1)

theorem wk_123_635 {w : qS} {M : qM} {x3 : Int32} {post : qR}
    (b1 : vp_in (x3 + 1) w.1)
    (h2 : gE w 17 0 [some (.ref 0), some (.int (w.2 (x3 + 1).toNatClampNeg))] [] M (fun r M' => gE w 123 644 [some (.ref 210), some (.ref 0), some (.ref 148), some (.int x3)] (r.toList ++ []) M' post)) :
    gE w 123 635 [some (.ref 210), some (.ref 0), some (.ref 148), some (.int x3)] [] M post := by
  refine ev_al (pc' := 636) (pt_123_635 w) rfl rfl ?_
  refine ev_al (pc' := 637) (pt_123_636 w) rfl rfl ?_
  refine ev_il (pc' := 638) (pt_123_637 w) rfl rfl ?_
  refine ev_k (pc' := 639) (pt_123_638 w) rfl ?_
  refine ev_b (pc' := 640) (pt_123_639 w) rfl ?_
  refine ev_ta (pc' := 641) (pt_123_640 w) rfl rfl b1 ?_
  exact ev_cal (pc' := 644) (pt_123_641 w) (vs := [.ref 0, .int (w.2 (x3 + 1).toNatClampNeg)]) (rest := []) (en := [some (.ref 0), some (.int (w.2 (x3 + 1).toNatClampNeg))]) rfl rfl rfl rfl rfl rfl rfl h2

theorem wk_123_644 {w : qS} {M : qM} {x3 s0 : Int32} {post : qR}
    (b1 : vp_in (x3 + 1) w.1)
    (h2 : gE w 120 0 [some (.ref 148), some (.int (w.2 (x3 + 1).toNatClampNeg))] [] M (fun r M' => gE w 123 653 [some (.ref 210), some (.ref 0), some (.ref 148), some (.int x3)] (r.toList ++ [.int s0]) M' post)) :
    gE w 123 644 [some (.ref 210), some (.ref 0), some (.ref 148), some (.int x3)] [.int s0] M post := by
  refine ev_al (pc' := 645) (pt_123_644 w) rfl rfl ?_
  refine ev_al (pc' := 646) (pt_123_645 w) rfl rfl ?_
  refine ev_il (pc' := 647) (pt_123_646 w) rfl rfl ?_
  refine ev_k (pc' := 648) (pt_123_647 w) rfl ?_
  refine ev_b (pc' := 649) (pt_123_648 w) rfl ?_
  refine ev_ta (pc' := 650) (pt_123_649 w) rfl rfl b1 ?_
  exact ev_cal (pc' := 653) (pt_123_650 w) (vs := [.ref 148, .int (w.2 (x3 + 1).toNatClampNeg)]) (rest := [.int s0]) (en := [some (.ref 148), some (.int (w.2 (x3 + 1).toNatClampNeg))]) rfl rfl rfl rfl rfl rfl rfl h2

theorem wk_123_653 {w : qS} {M : qM} {x3 s0 s1 : Int32} {post : qR}
    (h1 : (c1 : s1 = s0) → gE w 123 694 [some (.ref 210), some (.ref 0), some (.ref 148), some (.int x3)] [] M post)
    (h2 : (c1 : ¬ s1 = s0) → post (some (.int 0)) M) :
    gE w 123 653 [some (.ref 210), some (.ref 0), some (.ref 148), some (.int x3)] [.int s0, .int s1] M post := by
  refine ev_ceq (pc' := 656) (pt_123_653 w) rfl (fun c1 => ?_) (fun c1 => ?_)
  · exact (h1 c1)
  · refine ev_k (pc' := 657) (pt_123_656 w) rfl ?_
    exact ev_rz (pt_123_657 w) z1_0 (h2 c1)

theorem wk_123_658 {w : qS} {M : qM} {x3 : Int32} {post : qR}
    (b1 : vp_in (x3 + 1) w.1)
    (h2 : gE w 18 0 [some (.ref 0), some (.int (w.2 (x3 + 1).toNatClampNeg)), none, none] [] M (fun r M' => gE w 123 667 [some (.ref 210), some (.ref 0), some (.ref 148), some (.int x3)] (r.toList ++ []) M' post)) :
    gE w 123 658 [some (.ref 210), some (.ref 0), some (.ref 148), some (.int x3)] [] M post := by
  refine ev_al (pc' := 659) (pt_123_658 w) rfl rfl ?_
  refine ev_al (pc' := 660) (pt_123_659 w) rfl rfl ?_
  refine ev_il (pc' := 661) (pt_123_660 w) rfl rfl ?_
  refine ev_k (pc' := 662) (pt_123_661 w) rfl ?_
  refine ev_b (pc' := 663) (pt_123_662 w) rfl ?_
  refine ev_ta (pc' := 664) (pt_123_663 w) rfl rfl b1 ?_
  exact ev_cal (pc' := 667) (pt_123_664 w) (vs := [.ref 0, .int (w.2 (x3 + 1).toNatClampNeg)]) (rest := []) (en := [some (.ref 0), some (.int (w.2 (x3 + 1).toNatClampNeg)), none, none]) rfl rfl rfl rfl rfl rfl rfl h2

theorem wk_123_667 {w : qS} {M : qM} {x3 s0 : Int32} {post : qR}
    (b1 : vp_in (x3 + 1) w.1)
    (h2 : gE w 121 0 [some (.ref 148), some (.int (w.2 (x3 + 1).toNatClampNeg)), none, none] [] M (fun r M' => gE w 123 676 [some (.ref 210), some (.ref 0), some (.ref 148), some (.int x3)] (r.toList ++ [.int s0]) M' post)) :
    gE w 123 667 [some (.ref 210), some (.ref 0), some (.ref 148), some (.int x3)] [.int s0] M post := by
  refine ev_al (pc' := 668) (pt_123_667 w) rfl rfl ?_
  refine ev_al (pc' := 669) (pt_123_668 w) rfl rfl ?_
  refine ev_il (pc' := 670) (pt_123_669 w) rfl rfl ?_
  refine ev_k (pc' := 671) (pt_123_670 w) rfl ?_
  refine ev_b (pc' := 672) (pt_123_671 w) rfl ?_
  refine ev_ta (pc' := 673) (pt_123_672 w) rfl rfl b1 ?_
  exact ev_cal (pc' := 676) (pt_123_673 w) (vs := [.ref 148, .int (w.2 (x3 + 1).toNatClampNeg)]) (rest := [.int s0]) (en := [some (.ref 148), some (.int (w.2 (x3 + 1).toNatClampNeg)), none, none]) rfl rfl rfl rfl rfl rfl rfl h2

theorem wk_123_676 {w : qS} {M : qM} {x3 s0 s1 : Int32} {post : qR}
    (h1 : (c1 : s1 = s0) → gE w 123 694 [some (.ref 210), some (.ref 0), some (.ref 148), some (.int x3)] [] M post)
    (h2 : (c1 : ¬ s1 = s0) → post (some (.int 0)) M) :
    gE w 123 676 [some (.ref 210), some (.ref 0), some (.ref 148), some (.int x3)] [.int s0, .int s1] M post := by
  refine ev_ceq (pc' := 679) (pt_123_676 w) rfl (fun c1 => ?_) (fun c1 => ?_)
  · exact (h1 c1)
  · refine ev_k (pc' := 680) (pt_123_679 w) rfl ?_
    exact ev_rz (pt_123_680 w) z1_0 (h2 c1)

theorem wk_123_681 {w : qS} {M : qM} {x3 : Int32} {post : qR}
    (h1 : gE w 19 0 [some (.ref 0)] [] M (fun r M' => gE w 123 685 [some (.ref 210), some (.ref 0), some (.ref 148), some (.int x3)] (r.toList ++ []) M' post)) :
    gE w 123 681 [some (.ref 210), some (.ref 0), some (.ref 148), some (.int x3)] [] M post := by
  refine ev_al (pc' := 682) (pt_123_681 w) rfl rfl ?_
  exact ev_cal (pc' := 685) (pt_123_682 w) (vs := [.ref 0]) (rest := []) (en := [some (.ref 0)]) rfl rfl rfl rfl rfl rfl rfl h1

theorem wk_123_685 {w : qS} {M : qM} {x3 s0 : Int32} {post : qR}
    (h1 : gE w 83 0 [some (.ref 148), none] [] M (fun r M' => gE w 123 689 [some (.ref 210), some (.ref 0), some (.ref 148), some (.int x3)] (r.toList ++ [.int s0]) M' post)) :
    gE w 123 685 [some (.ref 210), some (.ref 0), some (.ref 148), some (.int x3)] [.int s0] M post := by
  refine ev_al (pc' := 686) (pt_123_685 w) rfl rfl ?_
  exact ev_cal (pc' := 689) (pt_123_686 w) (vs := [.ref 148]) (rest := [.int s0]) (en := [some (.ref 148), none]) rfl rfl rfl rfl rfl rfl rfl h1

theorem wk_123_689 {w : qS} {M : qM} {x3 s0 s1 : Int32} {post : qR}
    (h1 : (c1 : s1 = s0) → gE w 123 694 [some (.ref 210), some (.ref 0), some (.ref 148), some (.int x3)] [] M post)
    (h2 : (c1 : ¬ s1 = s0) → post (some (.int 0)) M) :
    gE w 123 689 [some (.ref 210), some (.ref 0), some (.ref 148), some (.int x3)] [.int s0, .int s1] M post := by
  refine ev_ceq (pc' := 692) (pt_123_689 w) rfl (fun c1 => ?_) (fun c1 => ?_)
  · exact (h1 c1)
  · refine ev_k (pc' := 693) (pt_123_692 w) rfl ?_
    exact ev_rz (pt_123_693 w) z1_0 (h2 c1)

theorem wk_123_694 {w : qS} {M : qM} {x3 : Int32} {post : qR}
    (h1 : gE w 123 18 [some (.ref 210), some (.ref 0), some (.ref 148), some (.int (x3 + (iN 5)))] [] M post) :
    gE w 123 694 [some (.ref 210), some (.ref 0), some (.ref 148), some (.int x3)] [] M post := by
  refine ev_inc (pc' := 697) (loc1 := [some (.ref 210), some (.ref 0), some (.ref 148), some (.int (x3 + (iN 5)))]) (pt_123_694 w) rfl rfl rfl ?_
  refine ev_g (pt_123_697 w) ?_
  exact h1
