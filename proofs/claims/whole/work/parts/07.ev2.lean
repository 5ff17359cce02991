/-! More steps, in the forms that the printed walks use. -/
noncomputable def bi (p : Prop) : Int32 := @ite _ p (Classical.propDecidable p) 1 0
theorem bi_pos {p : Prop} (h : p) : bi p = 1 := by unfold bi; exact if_pos h
theorem bi_neg {p : Prop} (h : ¬ p) : bi p = 0 := by unfold bi; exact if_neg h
theorem bi_ne {p : Prop} (h : ¬ bi p = 0) : p := Classical.byContradiction fun n => h (bi_neg n)
theorem bi_eq {p : Prop} (h : bi p = 0) : ¬ p := fun n => by rw [bi_pos n] at h; exact absurd h (by decide)
theorem bi_congr {p q : Prop} (h : p ↔ q) : bi p = bi q := by rw [propext h]
theorem bi_if {p : Prop} {c : Prop} (d : Decidable c) (h : c ↔ p) : (@ite _ c d (1 : Int32) 0) = bi p := by
  by_cases hc : c
  · rw [if_pos hc, bi_pos (h.mp hc)]
  · rw [if_neg hc, bi_neg (fun q => hc (h.mpr q))]
theorem zb_0 : vp_nar .boolean 0 = 0 := by decide +kernel
theorem zb_1 : vp_nar .boolean 1 = 1 := by decide +kernel
theorem zb_ite {c : Prop} {d : Decidable c} {a b : Int32} (ha : vp_nar .boolean a = a) (hb : vp_nar .boolean b = b) : vp_nar .boolean (@ite _ c d a b) = @ite _ c d a b := by
  by_cases hc : c
  · rw [if_pos hc]; exact ha
  · rw [if_neg hc]; exact hb
theorem zb_bi {p : Prop} : vp_nar .boolean (bi p) = bi p := zb_ite zb_1 zb_0
theorem z1_0 : (0 : Int32) = 0 ∨ (0 : Int32) = 1 := Or.inl rfl
theorem z1_1 : (1 : Int32) = 0 ∨ (1 : Int32) = 1 := Or.inr rfl
theorem z1_ite {c : Prop} {d : Decidable c} {a b : Int32} (ha : a = 0 ∨ a = 1) (hb : b = 0 ∨ b = 1) : (@ite _ c d a b) = 0 ∨ (@ite _ c d a b) = 1 := by
  by_cases hc : c
  · rw [if_pos hc]; exact ha
  · rw [if_neg hc]; exact hb
theorem z1_bi {p : Prop} : bi p = 0 ∨ bi p = 1 := z1_ite z1_1 z1_0
theorem vp_lit {i : Int32} {n : Nat} (h : ¬ (i < 0 ∨ n ≤ i.toNatClampNeg)) : vp_in i n := h
/-- returns v and leaves the memory -/
def qv1 (M : qM) (v : Int32) : qR := fun r M' => r = some (.int v) ∧ M' = M
/-- returns nothing, and the memory is N -/
def qv0 (N : qM) : qR := fun r M' => r = none ∧ M' = N
section QSTEP2
variable {lay : Nat → qL} {mx : Nat → Nat} {P : qP} {mi pc pc' : Nat} {loc : List (Option Value)} {st : List Value} {M : qM} {post : qR}
theorem ev_iac {q n j : Nat} {i : Int32} (hP : P mi pc = some (.inl (qo_ia lay))) (hpc : pc + 1 = pc') (hl : lay q = .inl (0, n)) (hin : vp_in i n) (hj : i.toNatClampNeg = j) (h : qq_Ev lay mx P mi pc' loc (.int (M q j) :: st) M post) : qq_Ev lay mx P mi pc loc (.int i :: .ref q :: st) M post := by
  subst hj
  exact ev_ia hP hpc hl hin h
theorem ev_zac {q n j : Nat} {i : Int32} (hP : P mi pc = some (.inl (qo_za lay))) (hpc : pc + 1 = pc') (hl : lay q = .inl (1, n)) (hin : vp_in i n) (hj : i.toNatClampNeg = j) (h : qq_Ev lay mx P mi pc' loc (.int (M q j) :: st) M post) : qq_Ev lay mx P mi pc loc (.int i :: .ref q :: st) M post := by
  subst hj
  exact ev_za hP hpc hl hin h
theorem ev_iasc {q n j : Nat} {i v : Int32} (hP : P mi pc = some (.inl (qo_ias lay))) (hpc : pc + 1 = pc') (hl : lay q = .inl (0, n)) (hin : vp_in i n) (hj : i.toNatClampNeg = j) (h : qq_Ev lay mx P mi pc' loc st (ms M q j v) post) : qq_Ev lay mx P mi pc loc (.int v :: .int i :: .ref q :: st) M post := by
  subst hj
  exact ev_ias hP hpc hl hin h
theorem ev_zasb {q n : Nat} {i v : Int32} (hP : P mi pc = some (.inl (qo_zas lay))) (hpc : pc + 1 = pc') (hl : lay q = .inl (1, n)) (hin : vp_in i n) (hz : vp_nar .boolean v = v) (h : qq_Ev lay mx P mi pc' loc st (ms M q i.toNatClampNeg v) post) : qq_Ev lay mx P mi pc loc (.int v :: .int i :: .ref q :: st) M post :=
  ev_zas hP hpc hl hin (by rw [hz]; exact h)
theorem ev_zasc {q n j : Nat} {i v : Int32} (hP : P mi pc = some (.inl (qo_zas lay))) (hpc : pc + 1 = pc') (hl : lay q = .inl (1, n)) (hin : vp_in i n) (hj : i.toNatClampNeg = j) (hz : vp_nar .boolean v = v) (h : qq_Ev lay mx P mi pc' loc st (ms M q j v) post) : qq_Ev lay mx P mi pc loc (.int v :: .int i :: .ref q :: st) M post := by
  subst hj
  exact ev_zasb hP hpc hl hin hz h
theorem ev_cpc {q0 q1 n0 n1 a b k : Nat} {n dp sp : Int32} (hP : P mi pc = some (.inl (qo_cp lay))) (hpc : pc + 3 = pc') (h0 : lay q0 = .inl (0, n0)) (h1 : lay q1 = .inl (0, n1)) (hr : (st.map fun v => v.category).sum ≤ 8) (h2 : ¬ sp < 0) (h3 : ¬ dp < 0) (h4 : ¬ n < 0) (ea : sp.toNatClampNeg = a) (eb : dp.toNatClampNeg = b) (ek : n.toNatClampNeg = k) (h5 : a + k ≤ n0) (h6 : b + k ≤ n1)
    (h : qq_Ev lay mx P mi pc' loc st (va_up M q1 (va_cpy (M q0) (M q1) a b k)) post) : qq_Ev lay mx P mi pc loc (.int n :: .int dp :: .ref q1 :: .int sp :: .ref q0 :: st) M post := by
  subst ea eb ek
  exact ev_cp hP hpc h0 h1 hr h2 h3 h4 h5 h6 h
theorem ev_ri1 {v : Int32} (hP : P mi pc = some (.inr (.inr 1))) (h : post (some (.int v)) M) : qq_Ev lay mx P mi pc loc [.int v] M post := ev_ri hP (Or.inl rfl) h
theorem ev_rz {v : Int32} (hP : P mi pc = some (.inr (.inr 2))) (hz : v = 0 ∨ v = 1) (h : post (some (.int v)) M) : qq_Ev lay mx P mi pc loc [.int v] M post := ev_ri hP (Or.inr ⟨rfl, hz⟩) h
theorem ev_cal {mj n : Nat} {rc : Option Nat} {vs rest : List Value} {en : List (Option Value)} (hP : P mi pc = some (.inr (.inl (mj, n, rc)))) (hst : st = vs.reverse ++ rest) (hn : vs.length = n) (hc : (vs.all fun v => v.category == 1) = true) (hr : Nat.ble ((rest.map fun v => v.category).sum) 8 = true) (hv : qq_rcv lay rc vs) (he : qq_ent mx mj vs = en) (hpc : pc + 3 = pc')
    (h : qq_Ev lay mx P mj 0 en [] M (fun r M' => qq_Ev lay mx P mi pc' loc (r.toList ++ rest) M' post)) : qq_Ev lay mx P mi pc loc st M post := by
  subst he hpc
  exact qq_Ev.call hP vs rest hst hn (fun v hv => by simpa using List.all_eq_true.mp hc v hv) (Nat.le_of_ble_eq_true hr) hv h (fun r M' k => k)
theorem ev_cal1 {mj n : Nat} {rc : Option Nat} {vs rest : List Value} {en : List (Option Value)} {v : Int32} (hP : P mi pc = some (.inr (.inl (mj, n, rc)))) (hst : st = vs.reverse ++ rest) (hn : vs.length = n) (hc : (vs.all fun v => v.category == 1) = true) (hr : Nat.ble ((rest.map fun v => v.category).sum) 8 = true) (hv : qq_rcv lay rc vs) (he : qq_ent mx mj vs = en) (hpc : pc + 3 = pc')
    (h : qq_Ev lay mx P mj 0 en [] M (qv1 M v)) (k : qq_Ev lay mx P mi pc' loc (.int v :: rest) M post) : qq_Ev lay mx P mi pc loc st M post := by
  refine ev_cal hP hst hn hc hr hv he hpc (h.mono ?_)
  rintro r M' ⟨rfl, rfl⟩
  exact k
theorem ev_ceq {t : Nat} {x y : Int32} (hP : P mi pc = some (.inl (qo_c (fun x y => x = y) t))) (hpc : pc + 3 = pc') (ht : x = y → qq_Ev lay mx P mi t loc st M post) (hf : ¬ x = y → qq_Ev lay mx P mi pc' loc st M post) : qq_Ev lay mx P mi pc loc (.int y :: .int x :: st) M post :=
  ev_c hP hpc ht hf
theorem ev_cne {t : Nat} {x y : Int32} (hP : P mi pc = some (.inl (qo_c (fun x y => ¬ x = y) t))) (hpc : pc + 3 = pc') (ht : ¬ x = y → qq_Ev lay mx P mi t loc st M post) (hf : x = y → qq_Ev lay mx P mi pc' loc st M post) : qq_Ev lay mx P mi pc loc (.int y :: .int x :: st) M post :=
  ev_c hP hpc ht (fun h => hf (Classical.not_not.mp h))
theorem ev_clt {t : Nat} {x y : Int32} (hP : P mi pc = some (.inl (qo_c (fun x y => x < y) t))) (hpc : pc + 3 = pc') (ht : x < y → qq_Ev lay mx P mi t loc st M post) (hf : ¬ x < y → qq_Ev lay mx P mi pc' loc st M post) : qq_Ev lay mx P mi pc loc (.int y :: .int x :: st) M post :=
  ev_c hP hpc ht hf
theorem ev_cge {t : Nat} {x y : Int32} (hP : P mi pc = some (.inl (qo_c (fun x y => y ≤ x) t))) (hpc : pc + 3 = pc') (ht : ¬ x < y → qq_Ev lay mx P mi t loc st M post) (hf : x < y → qq_Ev lay mx P mi pc' loc st M post) : qq_Ev lay mx P mi pc loc (.int y :: .int x :: st) M post :=
  ev_c hP hpc (fun h => ht (Int32.not_lt.mpr h)) (fun h => hf (Int32.not_le.mp h))
theorem ev_cgt {t : Nat} {x y : Int32} (hP : P mi pc = some (.inl (qo_c (fun x y => y < x) t))) (hpc : pc + 3 = pc') (ht : y < x → qq_Ev lay mx P mi t loc st M post) (hf : ¬ y < x → qq_Ev lay mx P mi pc' loc st M post) : qq_Ev lay mx P mi pc loc (.int y :: .int x :: st) M post :=
  ev_c hP hpc ht hf
theorem ev_cle {t : Nat} {x y : Int32} (hP : P mi pc = some (.inl (qo_c (fun x y => x ≤ y) t))) (hpc : pc + 3 = pc') (ht : ¬ y < x → qq_Ev lay mx P mi t loc st M post) (hf : y < x → qq_Ev lay mx P mi pc' loc st M post) : qq_Ev lay mx P mi pc loc (.int y :: .int x :: st) M post :=
  ev_c hP hpc (fun h => ht (Int32.not_lt.mpr h)) (fun h => hf (Int32.not_le.mp h))
theorem ev_zeq {t : Nat} {x : Int32} (hP : P mi pc = some (.inl (qo_z (fun x => x = 0) t))) (hpc : pc + 3 = pc') (ht : x = 0 → qq_Ev lay mx P mi t loc st M post) (hf : ¬ x = 0 → qq_Ev lay mx P mi pc' loc st M post) : qq_Ev lay mx P mi pc loc (.int x :: st) M post :=
  ev_z hP hpc ht hf
theorem ev_zne {t : Nat} {x : Int32} (hP : P mi pc = some (.inl (qo_z (fun x => ¬ x = 0) t))) (hpc : pc + 3 = pc') (ht : ¬ x = 0 → qq_Ev lay mx P mi t loc st M post) (hf : x = 0 → qq_Ev lay mx P mi pc' loc st M post) : qq_Ev lay mx P mi pc loc (.int x :: st) M post :=
  ev_z hP hpc ht (fun h => hf (Classical.not_not.mp h))
theorem ev_zlt {t : Nat} {x : Int32} (hP : P mi pc = some (.inl (qo_z (fun x => x < 0) t))) (hpc : pc + 3 = pc') (ht : x < 0 → qq_Ev lay mx P mi t loc st M post) (hf : ¬ x < 0 → qq_Ev lay mx P mi pc' loc st M post) : qq_Ev lay mx P mi pc loc (.int x :: st) M post :=
  ev_z hP hpc ht hf
theorem ev_zge {t : Nat} {x : Int32} (hP : P mi pc = some (.inl (qo_z (fun x => 0 ≤ x) t))) (hpc : pc + 3 = pc') (ht : ¬ x < 0 → qq_Ev lay mx P mi t loc st M post) (hf : x < 0 → qq_Ev lay mx P mi pc' loc st M post) : qq_Ev lay mx P mi pc loc (.int x :: st) M post :=
  ev_z hP hpc (fun h => ht (Int32.not_lt.mpr h)) (fun h => hf (Int32.not_le.mp h))
theorem ev_zgt {t : Nat} {x : Int32} (hP : P mi pc = some (.inl (qo_z (fun x => 0 < x) t))) (hpc : pc + 3 = pc') (ht : 0 < x → qq_Ev lay mx P mi t loc st M post) (hf : ¬ 0 < x → qq_Ev lay mx P mi pc' loc st M post) : qq_Ev lay mx P mi pc loc (.int x :: st) M post :=
  ev_z hP hpc ht hf
theorem ev_zle {t : Nat} {x : Int32} (hP : P mi pc = some (.inl (qo_z (fun x => x ≤ 0) t))) (hpc : pc + 3 = pc') (ht : ¬ 0 < x → qq_Ev lay mx P mi t loc st M post) (hf : 0 < x → qq_Ev lay mx P mi pc' loc st M post) : qq_Ev lay mx P mi pc loc (.int x :: st) M post :=
  ev_z hP hpc (fun h => ht (Int32.not_lt.mpr h)) (fun h => hf (Int32.not_le.mp h))
end QSTEP2
