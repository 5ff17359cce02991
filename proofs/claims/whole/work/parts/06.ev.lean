/-! One step of the abstract machine, goal first. -/
def ms (M : qM) (q j : Nat) (v : Int32) : qM := va_up M q (upd (M q) j v)
theorem ms_at (M : qM) (q j : Nat) (v : Int32) : ms M q j v q j = v := by unfold ms; rw [va_up_self]; unfold upd; rw [if_pos rfl]
theorem ms_row {M : qM} {q j i : Nat} {v : Int32} (h : i ≠ j) : ms M q j v q i = M q i := by unfold ms; rw [va_up_self]; unfold upd; rw [if_neg h]
theorem ms_ne {M : qM} {q j a i : Nat} {v : Int32} (h : a ≠ q) : ms M q j v a i = M a i := by unfold ms; rw [va_up_ne _ _ h]
theorem ms_rows {M : qM} {q j a : Nat} {v : Int32} (h : a ≠ q) : ms M q j v a = M a := by unfold ms; rw [va_up_ne _ _ h]
section QSTEP
variable {lay : Nat → qL} {mx : Nat → Nat} {P : qP} {mi pc pc' : Nat} {loc : List (Option Value)} {st : List Value} {M : qM} {post : qR}
theorem ev_k {v : Int32} {n : Nat} (hP : P mi pc = some (.inl (qo_k v n))) (hpc : pc + n = pc') (h : qq_Ev lay mx P mi pc' loc (.int v :: st) M post) : qq_Ev lay mx P mi pc loc st M post := by
  subst hpc
  refine qq_Ev.op hP (qm_k _ _) ?_
  exact h
theorem ev_il {i n : Nat} {x : Int32} (hP : P mi pc = some (.inl (qo_il i n))) (hpc : pc + n = pc') (hl : loc[i]? = some (some (.int x))) (h : qq_Ev lay mx P mi pc' loc (.int x :: st) M post) : qq_Ev lay mx P mi pc loc st M post := by
  subst hpc
  refine qq_Ev.op hP (qm_il _ _) ?_
  unfold qo_il
  rw [hl]
  exact h
theorem ev_al {i n x : Nat} (hP : P mi pc = some (.inl (qo_al i n))) (hpc : pc + n = pc') (hl : loc[i]? = some (some (.ref x))) (h : qq_Ev lay mx P mi pc' loc (.ref x :: st) M post) : qq_Ev lay mx P mi pc loc st M post := by
  subst hpc
  refine qq_Ev.op hP (qm_al _ _) ?_
  unfold qo_al
  rw [hl]
  exact h
theorem ev_is {i n : Nat} {x : Int32} (hP : P mi pc = some (.inl (qo_is i n))) (hpc : pc + n = pc') {loc1 : List (Option Value)} (hl : loc.set i (some (.int x)) = loc1) (h : qq_Ev lay mx P mi pc' loc1 st M post) : qq_Ev lay mx P mi pc loc (.int x :: st) M post := by
  subst hpc
  refine qq_Ev.op hP (qm_is _ _) ?_
  subst hl
  exact h
theorem ev_as {i n x : Nat} (hP : P mi pc = some (.inl (qo_as i n))) (hpc : pc + n = pc') {loc1 : List (Option Value)} (hl : loc.set i (some (.ref x)) = loc1) (h : qq_Ev lay mx P mi pc' loc1 st M post) : qq_Ev lay mx P mi pc loc (.ref x :: st) M post := by
  subst hpc
  refine qq_Ev.op hP (qm_as _ _) ?_
  subst hl
  exact h
theorem ev_inc {i : Nat} {d x : Int32} (hP : P mi pc = some (.inl (qo_inc i d))) (hpc : pc + 3 = pc') (hl : loc[i]? = some (some (.int x))) {loc1 : List (Option Value)} (hs : loc.set i (some (.int (x + d))) = loc1) (h : qq_Ev lay mx P mi pc' loc1 st M post) : qq_Ev lay mx P mi pc loc st M post := by
  subst hpc
  refine qq_Ev.op hP (qm_inc _ _) ?_
  subst hs
  unfold qo_inc
  rw [hl]
  exact h
theorem ev_b {f : Int32 → Int32 → Int32} {x y : Int32} (hP : P mi pc = some (.inl (qo_b f))) (hpc : pc + 1 = pc') (h : qq_Ev lay mx P mi pc' loc (.int (f x y) :: st) M post) : qq_Ev lay mx P mi pc loc (.int y :: .int x :: st) M post := by
  subst hpc
  refine qq_Ev.op hP (qm_b _) ?_
  exact h
theorem ev_d {f : Int32 → Int32 → Int32} {x y : Int32} (hP : P mi pc = some (.inl (qo_d f))) (hpc : pc + 1 = pc') (hy : ¬ y = 0) (h : qq_Ev lay mx P mi pc' loc (.int (f x y) :: st) M post) : qq_Ev lay mx P mi pc loc (.int y :: .int x :: st) M post := by
  subst hpc
  refine qq_Ev.op hP (qm_d _) ?_
  exact ⟨hy, h⟩
theorem ev_u {f : Int32 → Int32} {x : Int32} (hP : P mi pc = some (.inl (qo_u f))) (hpc : pc + 1 = pc') (h : qq_Ev lay mx P mi pc' loc (.int (f x) :: st) M post) : qq_Ev lay mx P mi pc loc (.int x :: st) M post := by
  subst hpc
  refine qq_Ev.op hP (qm_u _) ?_
  exact h
theorem ev_z {c : Int32 → Prop} {t : Nat} {x : Int32} (hP : P mi pc = some (.inl (qo_z c t))) (hpc : pc + 3 = pc') (ht : c x → qq_Ev lay mx P mi t loc st M post) (hf : ¬ c x → qq_Ev lay mx P mi pc' loc st M post) : qq_Ev lay mx P mi pc loc (.int x :: st) M post := by
  subst hpc
  exact qq_Ev.op hP (qm_z _ _) ⟨ht, hf⟩
theorem ev_c {c : Int32 → Int32 → Prop} {t : Nat} {x y : Int32} (hP : P mi pc = some (.inl (qo_c c t))) (hpc : pc + 3 = pc') (ht : c x y → qq_Ev lay mx P mi t loc st M post) (hf : ¬ c x y → qq_Ev lay mx P mi pc' loc st M post) : qq_Ev lay mx P mi pc loc (.int y :: .int x :: st) M post := by
  subst hpc
  exact qq_Ev.op hP (qm_c _ _) ⟨ht, hf⟩
theorem ev_zt {c : Int32 → Prop} {t : Nat} {x : Int32} (hP : P mi pc = some (.inl (qo_z c t))) (hc : c x) (h : qq_Ev lay mx P mi t loc st M post) : qq_Ev lay mx P mi pc loc (.int x :: st) M post := by
  exact qq_Ev.op hP (qm_z _ _) ⟨fun _ => h, fun n => absurd hc n⟩
theorem ev_zf {c : Int32 → Prop} {t : Nat} {x : Int32} (hP : P mi pc = some (.inl (qo_z c t))) (hpc : pc + 3 = pc') (hc : ¬ c x) (h : qq_Ev lay mx P mi pc' loc st M post) : qq_Ev lay mx P mi pc loc (.int x :: st) M post := by
  subst hpc
  exact qq_Ev.op hP (qm_z _ _) ⟨fun n => absurd n hc, fun _ => h⟩
theorem ev_ct {c : Int32 → Int32 → Prop} {t : Nat} {x y : Int32} (hP : P mi pc = some (.inl (qo_c c t))) (hc : c x y) (h : qq_Ev lay mx P mi t loc st M post) : qq_Ev lay mx P mi pc loc (.int y :: .int x :: st) M post := by
  exact qq_Ev.op hP (qm_c _ _) ⟨fun _ => h, fun n => absurd hc n⟩
theorem ev_cf {c : Int32 → Int32 → Prop} {t : Nat} {x y : Int32} (hP : P mi pc = some (.inl (qo_c c t))) (hpc : pc + 3 = pc') (hc : ¬ c x y) (h : qq_Ev lay mx P mi pc' loc st M post) : qq_Ev lay mx P mi pc loc (.int y :: .int x :: st) M post := by
  subst hpc
  exact qq_Ev.op hP (qm_c _ _) ⟨fun n => absurd n hc, fun _ => h⟩
theorem ev_g {t : Nat} (hP : P mi pc = some (.inl (qo_g t)))  (h : qq_Ev lay mx P mi t loc st M post) : qq_Ev lay mx P mi pc loc st M post := by
  exact qq_Ev.op hP (qm_g _) h
theorem ev_sw {lo : Int} {ts : List Nat} {d t : Nat} {x : Int32} (hP : P mi pc = some (.inl (qo_sw lo ts d))) (ht : (if x.toInt < lo then d else ts.getD (x.toInt - lo).toNat d) = t) (h : qq_Ev lay mx P mi t loc st M post) : qq_Ev lay mx P mi pc loc (.int x :: st) M post := by
  subst ht
  exact qq_Ev.op hP (qm_sw _ _ _) h
theorem ev_dup {v : Value} (hP : P mi pc = some (.inl qo_dup)) (hpc : pc + 1 = pc') (hv : v.category = 1) (h : qq_Ev lay mx P mi pc' loc (v :: v :: st) M post) : qq_Ev lay mx P mi pc loc (v :: st) M post := by
  subst hpc
  refine qq_Ev.op hP (qm_dup) ?_
  exact ⟨hv, h⟩
theorem ev_pop {v : Value} (hP : P mi pc = some (.inl qo_pop)) (hpc : pc + 1 = pc') (hv : v.category = 1) (h : qq_Ev lay mx P mi pc' loc st M post) : qq_Ev lay mx P mi pc loc (v :: st) M post := by
  subst hpc
  refine qq_Ev.op hP (qm_pop) ?_
  exact ⟨hv, h⟩
theorem ev_dup2 {v u : Value} (hP : P mi pc = some (.inl qo_dup2)) (hpc : pc + 1 = pc') (hv : v.category = 1) (hu : u.category = 1) (h : qq_Ev lay mx P mi pc' loc (v :: u :: v :: u :: st) M post) : qq_Ev lay mx P mi pc loc (v :: u :: st) M post := by
  subst hpc
  refine qq_Ev.op hP (qm_dup2) ?_
  exact ⟨hv, hu, h⟩
theorem ev_dx1 {v u : Value} (hP : P mi pc = some (.inl qo_dx1)) (hpc : pc + 1 = pc') (hv : v.category = 1) (hu : u.category = 1) (h : qq_Ev lay mx P mi pc' loc (v :: u :: v :: st) M post) : qq_Ev lay mx P mi pc loc (v :: u :: st) M post := by
  subst hpc
  refine qq_Ev.op hP (qm_dx1) ?_
  exact ⟨hv, hu, h⟩
theorem ev_dx2 {v u t : Value} (hP : P mi pc = some (.inl qo_dx2)) (hpc : pc + 1 = pc') (hv : v.category = 1) (hu : u.category = 1) (ht : t.category = 1) (h : qq_Ev lay mx P mi pc' loc (v :: u :: t :: v :: st) M post) : qq_Ev lay mx P mi pc loc (v :: u :: t :: st) M post := by
  subst hpc
  refine qq_Ev.op hP (qm_dx2) ?_
  exact ⟨hv, hu, ht, h⟩
theorem ev_geti {ci j : Nat} {q : Nat} {fl : List (Option (Option Nat))} (hP : P mi pc = some (.inl (qo_get lay ci j))) (hpc : pc + 3 = pc') (hl : lay q = .inr (.inr (.inl (ci, fl)))) (hj : fl[j]? = some none) (h : qq_Ev lay mx P mi pc' loc (.int (M q j) :: st) M post) : qq_Ev lay mx P mi pc loc (.ref q :: st) M post := by
  subst hpc
  refine qq_Ev.op hP (qm_get _ _ _) ?_
  unfold qo_get
  simp only [hl, hj]
  exact ⟨trivial, h⟩
theorem ev_getr {ci j z : Nat} {q : Nat} {fl : List (Option (Option Nat))} (hP : P mi pc = some (.inl (qo_get lay ci j))) (hpc : pc + 3 = pc') (hl : lay q = .inr (.inr (.inl (ci, fl)))) (hj : fl[j]? = some (some (some z))) (h : qq_Ev lay mx P mi pc' loc (.ref z :: st) M post) : qq_Ev lay mx P mi pc loc (.ref q :: st) M post := by
  subst hpc
  refine qq_Ev.op hP (qm_get _ _ _) ?_
  unfold qo_get
  simp only [hl, hj]
  exact ⟨trivial, h⟩
theorem ev_put {ci j : Nat} {v : Int32} {q : Nat} {fl : List (Option (Option Nat))} (hP : P mi pc = some (.inl (qo_put lay ci j))) (hpc : pc + 3 = pc') (hl : lay q = .inr (.inr (.inl (ci, fl)))) (hj : fl[j]? = some none) (h : qq_Ev lay mx P mi pc' loc st (ms M q j v) post) : qq_Ev lay mx P mi pc loc (.int v :: .ref q :: st) M post := by
  subst hpc
  refine qq_Ev.op hP (qm_put _ _ _) ?_
  unfold qo_put
  simp only [hl]
  exact ⟨trivial, hj, h⟩
theorem ev_ia {q n : Nat} {i : Int32} (hP : P mi pc = some (.inl (qo_ia lay))) (hpc : pc + 1 = pc') (hl : lay q = .inl (0, n)) (hin : vp_in i n) (h : qq_Ev lay mx P mi pc' loc (.int (M q i.toNatClampNeg) :: st) M post) : qq_Ev lay mx P mi pc loc (.int i :: .ref q :: st) M post := by
  subst hpc
  refine qq_Ev.op hP (qm_ia _) ?_
  unfold qo_ia
  simp only [hl]
  exact ⟨trivial, hin, h⟩
theorem ev_ta {q n : Nat} {f : Nat → Int32} {i : Int32} (hP : P mi pc = some (.inl (qo_ia lay))) (hpc : pc + 1 = pc') (hl : lay q = .inr (.inr (.inr (n, f)))) (hin : vp_in i n) (h : qq_Ev lay mx P mi pc' loc (.int (f i.toNatClampNeg) :: st) M post) : qq_Ev lay mx P mi pc loc (.int i :: .ref q :: st) M post := by
  subst hpc
  refine qq_Ev.op hP (qm_ia _) ?_
  unfold qo_ia
  simp only [hl]
  exact ⟨hin, h⟩
theorem ev_ias {q n : Nat} {i v : Int32} (hP : P mi pc = some (.inl (qo_ias lay))) (hpc : pc + 1 = pc') (hl : lay q = .inl (0, n)) (hin : vp_in i n) (h : qq_Ev lay mx P mi pc' loc st (ms M q i.toNatClampNeg v) post) : qq_Ev lay mx P mi pc loc (.int v :: .int i :: .ref q :: st) M post := by
  subst hpc
  refine qq_Ev.op hP (qm_ias _) ?_
  unfold qo_ias
  simp only [hl]
  exact ⟨trivial, hin, h⟩
theorem ev_za {q n : Nat} {i : Int32} (hP : P mi pc = some (.inl (qo_za lay))) (hpc : pc + 1 = pc') (hl : lay q = .inl (1, n)) (hin : vp_in i n) (h : qq_Ev lay mx P mi pc' loc (.int (M q i.toNatClampNeg) :: st) M post) : qq_Ev lay mx P mi pc loc (.int i :: .ref q :: st) M post := by
  subst hpc
  refine qq_Ev.op hP (qm_za _) ?_
  unfold qo_za
  simp only [hl]
  exact ⟨trivial, hin, h⟩
theorem ev_zas {q n : Nat} {i v : Int32} (hP : P mi pc = some (.inl (qo_zas lay))) (hpc : pc + 1 = pc') (hl : lay q = .inl (1, n)) (hin : vp_in i n) (h : qq_Ev lay mx P mi pc' loc st (ms M q i.toNatClampNeg (vp_nar .boolean v)) post) : qq_Ev lay mx P mi pc loc (.int v :: .int i :: .ref q :: st) M post := by
  subst hpc
  refine qq_Ev.op hP (qm_zas _) ?_
  unfold qo_zas
  simp only [hl]
  exact ⟨trivial, hin, h⟩
theorem ev_aa {q t n z : Nat} {f : Nat → Option Nat} {i : Int32} (hP : P mi pc = some (.inl (qo_aa lay))) (hpc : pc + 1 = pc') (hl : lay q = .inr (.inl (t, n, f))) (hin : vp_in i n) (hz : f i.toNatClampNeg = some z) (h : qq_Ev lay mx P mi pc' loc (.ref z :: st) M post) : qq_Ev lay mx P mi pc loc (.int i :: .ref q :: st) M post := by
  subst hpc
  refine qq_Ev.op hP (qm_aa _) ?_
  unfold qo_aa
  simp only [hl, hz]
  exact ⟨hin, h⟩
theorem ev_len {q t n : Nat} (hP : P mi pc = some (.inl (qo_len lay))) (hpc : pc + 1 = pc') (hl : lay q = .inl (t, n)) (h : qq_Ev lay mx P mi pc' loc (.int (Int32.ofNat n) :: st) M post) : qq_Ev lay mx P mi pc loc (.ref q :: st) M post := by
  subst hpc
  refine qq_Ev.op hP (qm_len _) ?_
  unfold qo_len
  simp only [hl]
  exact h
theorem ev_tlen {q n : Nat} {f : Nat → Int32} (hP : P mi pc = some (.inl (qo_len lay))) (hpc : pc + 1 = pc') (hl : lay q = .inr (.inr (.inr (n, f)))) (h : qq_Ev lay mx P mi pc' loc (.int (Int32.ofNat n) :: st) M post) : qq_Ev lay mx P mi pc loc (.ref q :: st) M post := by
  subst hpc
  refine qq_Ev.op hP (qm_len _) ?_
  unfold qo_len
  simp only [hl]
  exact h
theorem ev_ss {z : Nat} (hP : P mi pc = some (.inl (qo_ss z))) (hpc : pc + 3 = pc') (h : qq_Ev lay mx P mi pc' loc (.ref z :: st) M post) : qq_Ev lay mx P mi pc loc st M post := by
  subst hpc
  refine qq_Ev.op hP (qm_ss _) ?_
  exact h
theorem ev_mx {x y : Int32} (hP : P mi pc = some (.inl qo_mx)) (hpc : pc + 3 = pc') (hr : (st.map fun v => v.category).sum ≤ 8) (h : qq_Ev lay mx P mi pc' loc (.int (if x < y then y else x) :: st) M post) : qq_Ev lay mx P mi pc loc (.int y :: .int x :: st) M post := by
  subst hpc
  refine qq_Ev.op hP (qm_mx) ?_
  exact ⟨hr, h⟩
theorem ev_mn {x y : Int32} (hP : P mi pc = some (.inl qo_mn)) (hpc : pc + 3 = pc') (hr : (st.map fun v => v.category).sum ≤ 8) (h : qq_Ev lay mx P mi pc' loc (.int (if y < x then y else x) :: st) M post) : qq_Ev lay mx P mi pc loc (.int y :: .int x :: st) M post := by
  subst hpc
  refine qq_Ev.op hP (qm_mn) ?_
  exact ⟨hr, h⟩
theorem ev_cp {q0 q1 n0 n1 : Nat} {n dp sp : Int32} (hP : P mi pc = some (.inl (qo_cp lay))) (hpc : pc + 3 = pc') (h0 : lay q0 = .inl (0, n0)) (h1 : lay q1 = .inl (0, n1)) (hr : (st.map fun v => v.category).sum ≤ 8) (h2 : ¬ sp < 0) (h3 : ¬ dp < 0) (h4 : ¬ n < 0) (h5 : sp.toNatClampNeg + n.toNatClampNeg ≤ n0) (h6 : dp.toNatClampNeg + n.toNatClampNeg ≤ n1) (h : qq_Ev lay mx P mi pc' loc st (va_up M q1 (va_cpy (M q0) (M q1) sp.toNatClampNeg dp.toNatClampNeg n.toNatClampNeg)) post) : qq_Ev lay mx P mi pc loc (.int n :: .int dp :: .ref q1 :: .int sp :: .ref q0 :: st) M post := by
  subst hpc
  refine qq_Ev.op hP (qm_cp _) ?_
  unfold qo_cp
  simp only [h0, h1]
  exact ⟨trivial, trivial, hr, h2, h3, h4, h5, h6, h⟩
theorem ev_ri {b : Nat} {v : Int32} (hP : P mi pc = some (.inr (.inr b))) (hb : b = 1 ∨ (b = 2 ∧ (v = 0 ∨ v = 1))) (h : post (some (.int v)) M) : qq_Ev lay mx P mi pc loc [.int v] M post := qq_Ev.ret hP ⟨hb, h⟩
theorem ev_rv (hP : P mi pc = some (.inr (.inr 0))) (h : post none M) : qq_Ev lay mx P mi pc loc [] M post := qq_Ev.ret hP ⟨rfl, h⟩
end QSTEP
