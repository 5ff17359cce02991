/-! Calls: join, part, rule, bar, erase. -/
theorem own_parts {S : Nat → Nat} {c : Nat} (h : own S c = 0) : pad S c = 0 ∧ S (352 + c) = 0 := by
  unfold own at h
  by_cases y : pad S c = 0
  · rw [if_pos y] at h; exact ⟨y, h⟩
  · rw [if_neg y] at h; exact absurd h y
theorem Ok_cells {S : Nat → Nat} (h : Ok S) {c : Nat} (hc : c < 240) : S (112 + c) ≤ 1 ∧ S (352 + c) ≤ S 0 ∧ (pad S c ≠ 0 → S (352 + c) = 0) ∧ (S (112 + c) ≠ 0 → pad S c = 0 ∧ S (352 + c) = 0) :=
  ⟨(h.2.2.2.2.2.2.1 c hc).1, (h.2.2.2.2.2.2.1 c hc).2, h.2.2.2.2.2.2.2.2.1 c hc, fun x => own_parts (h.2.2.2.2.2.2.2.2.2 c hc x)⟩
-- join
def sjoin (S : Nat → Nat) (p q : Nat) : Nat → Nat := up1 (up1 (up1 S (64 + 2 * S 1) p) (64 + 2 * S 1 + 1) q) 1 (S 1 + 1)
theorem sj_1 {S : Nat → Nat} {p q : Nat} : sjoin S p q 1 = S 1 + 1 := up1_at _ _ _
theorem sj_ne {S : Nat → Nat} {p q i : Nat} (h : i ≠ 1) (h' : i ≠ 64 + 2 * S 1) (h'' : i ≠ 64 + 2 * S 1 + 1) : sjoin S p q i = S i := by unfold sjoin; rw [up1_ne h, up1_ne h'', up1_ne h']
theorem sj_p {S : Nat → Nat} {p q : Nat} : sjoin S p q (64 + 2 * S 1) = p := by unfold sjoin; rw [up1_ne (by omega), up1_ne (by omega), up1_at]
theorem sj_q {S : Nat → Nat} {p q : Nat} : sjoin S p q (64 + 2 * S 1 + 1) = q := by unfold sjoin; rw [up1_ne (by omega), up1_at]
theorem Ok_join {S : Nat → Nat} {p q : Nat} (h : Ok S) (h1 : S 1 < 24) (hp : p < S 0) (hq : q < S 0) : Ok (sjoin S p q) ∧ ∀ c, pad (sjoin S p q) c = pad S c := by
  have h0 := h.1
  have lo : ∀ i, i ≠ 1 → i < 64 ∨ 112 ≤ i → sjoin S p q i = S i := fun i a b => sj_ne a (by omega) (by omega)
  refine Ok_of h (by rw [lo 0 (by omega) (by omega)]; exact Nat.le_refl _) (by rw [lo 0 (by omega) (by omega)]; exact h0) (by rw [sj_1]; omega) (by rw [lo 2 (by omega) (by omega)]; exact h.2.2.1) (fun p hp0 => by rw [lo _ (by omega) (by omega)]; exact h.2.2.2.1 p hp0) (fun p hp0 => lo _ (by omega) (by omega)) (fun i hi => ?_) (fun c hc => ?_)
  · rw [sj_1] at hi
    rw [lo 0 (by omega) (by omega)]
    by_cases a : i = 2 * S 1
    · rw [a, sj_p]; exact hp
    · by_cases b : i = 2 * S 1 + 1
      · rw [b, ← Nat.add_assoc, sj_q]; exact hq
      · rw [sj_ne (by omega) (by omega) (by omega)]; exact h.2.2.2.2.2.1 i (by omega)
  · rw [lo (112 + c) (by omega) (by omega), lo (352 + c) (by omega) (by omega), lo 0 (by omega) (by omega)]
    exact Ok_cells h hc
section API4
variable {w : qS} {M : qM}
theorem ct_38 {S n : Nat → Nat} {p q : Nat} (h : BD S n M) (h1 : S 1 < 24) (hp : p < S 0) (hq : q < S 0) : gE w 38 0 [some (.ref 1), some (.int (iN p)), some (.int (iN q)), none] [] M (fun r M' => r = some (.int (iN (S 1))) ∧ fr [2, 4, 5, 9] M M' ∧ ∃ n', isNet (sjoin S p q 1) (sjoin S p q) n' ∧ BD (sjoin S p q) n' M') := by
  have hO := Ok_join h.1 h1 hp hq
  have h0 := h.1.1
  have lo : ∀ i, i ≠ 1 → i < 64 ∨ 112 ≤ i → sjoin S p q i = S i := fun i a b => sj_ne a (by omega) (by omega)
  have hs : RS (sjoin S p q) (ms (ms (ms M 4 (S 1) (iN p)) 5 (S 1) (iN q)) 2 7 (iN (S 1 + 1))) 2 := by
    refine ⟨⟨?_, ?_, ?_⟩, fun k hk => ?_, fun j hj => ⟨?_, ?_⟩, fun k hk => ?_, fun c hc => ?_⟩
    · rw [ms_row (by decide), ms_rows (by decide), ms_rows (by decide), lo 0 (by omega) (by omega)]; exact rb_pins h
    · rw [ms_at, sj_1]
    · rw [ms_row (by decide), ms_rows (by decide), ms_rows (by decide), lo 2 (by omega) (by omega)]; exact rb_clr h
    · rw [lo 0 (by omega) (by omega)] at hk
      rw [ms_rows (by decide), ms_rows (by decide), ms_rows (by decide), lo _ (by omega) (by omega)]; exact rb_kind h hk
    · rw [sj_1] at hj
      rw [ms_rows (by decide), ms_rows (by decide)]
      show ms M 4 (S 1) (iN p) 4 j = _
      rw [ms_get]
      by_cases x : j = S 1
      · rw [if_pos ⟨rfl, x⟩, x, sj_p]
      · rw [if_neg (fun y => x y.2), sj_ne (by omega) (by omega) (by omega)]; exact rb_e1 h (by omega)
    · rw [sj_1] at hj
      rw [ms_rows (by decide)]
      show ms (ms M 4 (S 1) (iN p)) 5 (S 1) (iN q) 5 j = _
      rw [ms_get]
      by_cases x : j = S 1
      · rw [if_pos ⟨rfl, x⟩, x, sj_q]
      · rw [if_neg (fun y => x y.2), ms_rows (by decide), sj_ne (by omega) (by omega) (by omega)]; exact rb_e2 h (by omega)
    · rw [ms_rows (by decide), ms_rows (by decide), ms_rows (by decide), ms_rows (by decide), ms_rows (by decide), ms_rows (by decide), lo _ (by omega) (by omega)]
      exact h.2.2.1.2.2.2.1 k hk
    · rw [ms_rows (by decide), ms_rows (by decide), ms_rows (by decide), hv_cg (hO.2 c) (lo _ (by omega) (by omega)) (lo _ (by omega) (by omega))]
      exact rb_hold h hc
  refine wk_38_0 (by rw [rb_jn h]; exact iN_in h1 (by omega)) ?_
  rw [ms_ne (show (2 : Nat) ≠ 5 by decide), ms_ne (show (2 : Nat) ≠ 4 by decide), rb_jn h, iN_ix (by omega), iN_succ]
  refine (ct_40 hs hO.1.2.1 (fun i hi => Nat.lt_of_lt_of_le (hO.1.2.2.2.2.2.1 i hi) hO.1.1)).mono ?_
  rintro r M' ⟨rfl, g1, n', g2, g3⟩
  refine wk_38_45 ⟨rfl, fr_tr (fr_tr (fr_tr (fr_ms (by decide)) (fr_ms (by decide))) (fr_ms (by decide))) (fr_sub g1 (by intro q hq; simp only [List.mem_cons, List.not_mem_nil, or_false] at *; omega)), n', g2, hO.1, fun p hp => isNet_lt g2 hp, RS_fr hs (fun k hk => g1 _ (by simp only [List.mem_cons, List.not_mem_nil, or_false]; omega)), fun p hp => g3 p (Nat.lt_of_lt_of_le hp hO.1.1)⟩
def StJoin (A : qA) (x y : Int32) (v : Int32) (A' : qA) : Prop := (¬ ((¬ x < 0 ∧ x < iN (A.1 0)) ∧ (¬ y < 0 ∧ y < iN (A.1 0)) ∧ x ≠ y) ∧ v = -1 ∧ A' = A) ∨ (((¬ x < 0 ∧ x < iN (A.1 0)) ∧ (¬ y < 0 ∧ y < iN (A.1 0)) ∧ x ≠ y) ∧ A.1 1 = 24 ∧ v = -2 ∧ A' = A) ∨ ∃ p q n', p < A.1 0 ∧ q < A.1 0 ∧ x = iN p ∧ y = iN q ∧ x ≠ y ∧ A.1 1 < 24 ∧ v = iN (A.1 1) ∧ isNet (sjoin A.1 p q 1) (sjoin A.1 p q) n' ∧ Cm A (sjoin A.1 p q) n' A'
theorem cl_join {A : qA} {x y : Int32} (hA : RA2 A) (h : RC A M) : gE w 1 0 [some (.ref 0), some (.int x), some (.int y), none] [] M (CLp (StJoin A x y) M) := by
  have hb := RC_BD hA h
  have h0 := hA.1.1.1
  have h1 := hA.1.1.2.1
  have e7 := rb_jn hb
  have no : ¬ ((¬ x < 0 ∧ x < iN (A.1 0)) ∧ (¬ y < 0 ∧ y < iN (A.1 0)) ∧ x ≠ y) → CLp (StJoin A x y) M (some (.int (-1))) M := fun g => ⟨-1, A, rfl, Or.inl ⟨g, rfl, rfl⟩, hA, h, fun _ _ => rfl⟩
  refine wk_1_0 (r1 := bi (¬ x < 0 ∧ x < iN (A.1 0))) (r2 := bi (¬ y < 0 ∧ y < iN (A.1 0))) (ct_29 hb) (fun c1 => no fun z => bi_eq c1 z.1) (fun _ => ct_29 hb) (fun _ c2 => no fun z => bi_eq c2 z.2.1) (fun c1 c2 c3 c4 => ?_) (fun c1 c2 c3 c4 => ?_) (fun _ _ c3 => no fun z => z.2.2 c3)
  · rw [e7, iN_lt (by omega) (by omega)] at c4
    obtain ⟨p, hp, rfl⟩ := rng (bi_ne c1).1 (bi_ne c1).2 (by omega)
    obtain ⟨q, hq, rfl⟩ := rng (bi_ne c2).1 (bi_ne c2).2 (by omega)
    refine (cl_begin hA.1 h).mono ?_
    rintro r M1 ⟨rfl, f1, t, f2⟩
    refine wk_1_61 ?_
    refine (ct_38 f2.1 c4 hp hq).mono ?_
    rintro r M2 ⟨rfl, g1, n', g2, g3⟩
    obtain ⟨A', hC, hRA, hE⟩ := cl_done (w := w) hA f1 f2 g3 (fun q hq => g1 q (by simp only [List.mem_cons, List.not_mem_nil, or_false]; omega)) g2 (BS_up (BS_up (BS_up hA.2.1 (by omega)) (by omega)) (by omega)) (fun _ y => by rw [sj_1] at y; omega)
    refine wk_1_70 (hE.mono ?_)
    rintro r M3 ⟨rfl, k1, k2⟩
    exact wk_1_85 ⟨_, A', rfl, Or.inr (Or.inr ⟨p, q, n', hp, hq, rfl, rfl, c3, c4, rfl, g2, hC⟩), hRA, k1, k2⟩
  · rw [e7, iN_lt (by omega) (by omega)] at c4
    exact ⟨-2, A, rfl, Or.inr (Or.inl ⟨⟨bi_ne c1, bi_ne c2, c3⟩, by omega, rfl, rfl⟩), hA, h, fun _ _ => rfl⟩
theorem rf_join {A A' : qA} {x y v : Int32} (hA : RA2 A) (hSt : StJoin A x y v A') (h : RF A M) : gE w 87 0 [some (.ref 148), some (.int x), some (.int y)] [] M (RFp v A' M) := by
  have h0 := hA.1.1.1
  have h1 := hA.1.1.2.1
  have e1 : M 149 1 = iN (A.1 1) := h.1.1 1 (by omega)
  refine wk_87_0 (r1 := bi (¬ x < 0 ∧ x < iN (A.1 0))) (r2 := bi (¬ y < 0 ∧ y < iN (A.1 0))) (ct_84 (n := A.2.1) h.1.1) (fun c1 => ?_) (fun _ => ct_84 (n := A.2.1) h.1.1) (fun _ c2 => ?_) (fun c1 c2 c3 c4 => ?_) (fun c1 c2 c3 c4 => ?_) (fun _ _ c3 => ?_)
  · rcases hSt with ⟨g, rfl, rfl⟩ | ⟨g, g2, rfl, rfl⟩ | ⟨p, q, n', hp, hq, rfl, rfl, gne, g0, rfl, gn, hC⟩
    · exact ⟨rfl, h, fun _ _ => rfl⟩
    · exact absurd g.1 (bi_eq c1)
    · exact absurd ⟨iN_nn (by omega), (iN_lt (by omega) (by omega)).mpr hp⟩ (bi_eq c1)
  · rcases hSt with ⟨g, rfl, rfl⟩ | ⟨g, g2, rfl, rfl⟩ | ⟨p, q, n', hp, hq, rfl, rfl, gne, g0, rfl, gn, hC⟩
    · exact ⟨rfl, h, fun _ _ => rfl⟩
    · exact absurd g.2.1 (bi_eq c2)
    · exact absurd ⟨iN_nn (by omega), (iN_lt (by omega) (by omega)).mpr hq⟩ (bi_eq c2)
  · rw [e1, iN_eq (by omega) (by omega)] at c4
    rcases hSt with ⟨g, rfl, rfl⟩ | ⟨g, g2, rfl, rfl⟩ | ⟨p, q, n', hp, hq, rfl, rfl, gne, g0, rfl, gn, hC⟩
    · exact absurd ⟨bi_ne c1, bi_ne c2, c3⟩ g
    · exact absurd g2 c4
    · refine (rf_begin h).mono ?_
      rintro r M1 ⟨rfl, f1, f2, f3⟩
      have e1 : M1 149 1 = iN (A.1 1) := f3.1 1 (by omega)
      have i1 : iN 64 + iN 2 * iN (A.1 1) = iN (64 + 2 * A.1 1) := by rw [iN_mul, iN_add]
      refine wk_87_41 (by rw [e1, i1]; exact iN_in (by omega) (by omega)) ?_ ?_
      · rw [e1, i1, iN_ix (by omega), ms_row (by omega), e1, i1, iN_succ]; exact iN_in (by omega) (by omega)
      · rw [e1, i1, iN_ix (by omega), ms_row (show (1 : Nat) ≠ 64 + 2 * A.1 1 by omega), e1, i1, iN_succ, iN_ix (by omega), ms_row (show (1 : Nat) ≠ 64 + 2 * A.1 1 + 1 by omega), ms_row (show (1 : Nat) ≠ 64 + 2 * A.1 1 by omega), e1, iN_succ]
        have hO := Ok_join hA.1.1 g0 hp hq
        refine (rf_done hA hC hO.1 gn (BS_up (BS_up (BS_up hA.2.1 (by omega)) (by omega)) (by omega)) f1 f2 f3 (NW_up (NW_up (NW_up f3.1))) (fr_tr (fr_tr (fr_ms (by decide)) (fr_ms (by decide))) (fr_ms (by decide)))).mono ?_
        rintro r M3 ⟨rfl, l1, l2⟩
        have e3 : M3 149 1 = iN (A.1 1 + 1) := by
          rw [l1.1.1 1 (by omega), hC.1, sj_1]
        refine wk_87_91 ⟨?_, l1, l2⟩
        rw [e3, show iN (A.1 1 + 1) - 1 = iN (A.1 1 + 1 - 1) from iN_sub (a := A.1 1 + 1) (b := 1) (by omega), Nat.add_sub_cancel]
  · rw [e1, iN_eq (by omega) (by omega)] at c4
    rcases hSt with ⟨g, rfl, rfl⟩ | ⟨g, g2, rfl, rfl⟩ | ⟨p, q, n', hp, hq, rfl, rfl, gne, g0, rfl, gn, hC⟩
    · exact absurd ⟨bi_ne c1, bi_ne c2, c3⟩ g
    · exact ⟨rfl, h, fun _ _ => rfl⟩
    · omega
  · rcases hSt with ⟨g, rfl, rfl⟩ | ⟨g, g2, rfl, rfl⟩ | ⟨p, q, n', hp, hq, rfl, rfl, gne, g0, rfl, gn, hC⟩
    · exact ⟨rfl, h, fun _ _ => rfl⟩
    · exact absurd c3 g.2.2
    · exact absurd c3 gne
-- rule
theorem Ok_rule {S : Nat → Nat} {k : Nat} (h : Ok S) (hk : 1 ≤ k ∧ k ≤ 2) : Ok (up1 S 2 k) ∧ ∀ c, pad (up1 S 2 k) c = pad S c := by
  have lo : ∀ i, i ≠ 2 → up1 S 2 k i = S i := fun i hi => up1_ne hi
  refine Ok_of h (by rw [lo 0 (by omega)]; exact Nat.le_refl _) (by rw [lo 0 (by omega)]; exact h.1) (by rw [lo 1 (by omega)]; exact h.2.1) (by rw [up1_at]; exact hk) (fun p hp0 => by rw [lo _ (by omega)]; exact h.2.2.2.1 p hp0) (fun p hp0 => lo _ (by omega)) (fun i hi => ?_) (fun c hc => ?_)
  · rw [lo 1 (by omega)] at hi
    rw [lo 0 (by omega), lo _ (by omega)]
    exact h.2.2.2.2.2.1 i hi
  · rw [lo (112 + c) (by omega), lo (352 + c) (by omega), lo 0 (by omega)]
    exact Ok_cells h hc
def StRule (A : qA) (x : Int32) (v : Int32) (A' : qA) : Prop := ((x < 1 ∨ iN 2 < x) ∧ v = -1 ∧ A' = A) ∨ ∃ k, 1 ≤ k ∧ k ≤ 2 ∧ x = iN k ∧ v = iN (A.1 2) ∧ Cm A (up1 A.1 2 k) A.2.1 A'
theorem rng12 {x : Int32} {m : Nat} (h1 : ¬ x < 1) (h2 : ¬ iN m < x) (hm : m < 1000) : ∃ k, 1 ≤ k ∧ k ≤ m ∧ x = iN k := by
  have h1' : ¬ x < iN 1 := h1
  rw [Int32.lt_iff_toInt_lt, iN_toInt (by decide)] at h1'
  rw [Int32.lt_iff_toInt_lt, iN_toInt (by omega)] at h2
  obtain ⟨k, hk, rfl⟩ := rng (x := x) (n := m + 1) (by rw [Int32.lt_iff_toInt_lt]; show ¬ x.toInt < 0; omega) (by rw [Int32.lt_iff_toInt_lt, iN_toInt (by omega)]; omega) (by omega)
  rw [iN_toInt (by omega)] at h1'
  exact ⟨k, by omega, by omega, rfl⟩
theorem cl_rule {A : qA} {x : Int32} (hA : RA2 A) (h : RC A M) : gE w 7 0 [some (.ref 0), some (.int x), none] [] M (CLp (StRule A x) M) := by
  have hb := RC_BD hA h
  refine wk_7_0 (fun c1 => ⟨-1, A, rfl, Or.inl ⟨Or.inl c1, rfl, rfl⟩, hA, h, fun _ _ => rfl⟩) (fun c1 c2 => ?_) (fun c1 c2 => ⟨-1, A, rfl, Or.inl ⟨Or.inr c2, rfl, rfl⟩, hA, h, fun _ _ => rfl⟩)
  obtain ⟨k, hk1, hk2, rfl⟩ := rng12 c1 c2 (by decide)
  rw [rb_clr hb]
  refine (cl_begin hA.1 h).mono ?_
  rintro r M1 ⟨rfl, f1, t, f2⟩
  refine wk_7_37 ?_
  have hO := Ok_rule hA.1.1 ⟨hk1, hk2⟩
  have lo : ∀ i, i ≠ 2 → up1 A.1 2 k i = A.1 i := fun i hi => up1_ne hi
  have hbd : BD (up1 A.1 2 k) A.2.1 (ms M1 2 8 (iN k)) := by
    refine ⟨hO.1, f2.1.2.1, ⟨⟨?_, ?_, ?_⟩, fun p hp => ?_, fun j hj => ?_, fun p hp => ?_, fun c hc => ?_⟩, fun p hp => by rw [ms_rows (by decide)]; exact rb_net f2.1 hp⟩
    · rw [ms_row (by decide), lo 0 (by omega)]; exact rb_pins f2.1
    · rw [ms_row (by decide), lo 1 (by omega)]; exact rb_jn f2.1
    · rw [ms_at, up1_at]
    · rw [lo 0 (by omega)] at hp
      rw [ms_rows (by decide), lo _ (by omega)]; exact rb_kind f2.1 hp
    · rw [lo 1 (by omega)] at hj
      rw [ms_rows (by decide), ms_rows (by decide), lo _ (by omega), lo _ (by omega)]
      exact f2.1.2.2.1.2.2.1 j hj
    · rw [ms_rows (by decide), ms_rows (by decide), lo _ (by omega)]
      exact f2.1.2.2.1.2.2.2.1 p hp
    · rw [ms_rows (by decide), hv_cg (hO.2 c) (lo _ (by omega)) (lo _ (by omega))]
      exact rb_hold f2.1 hc
  obtain ⟨A', hC, hRA, hE⟩ := cl_done (w := w) hA f1 f2 hbd (fun q hq => ms_rows (by omega)) (by rw [lo 1 (by omega)]; exact isNet_cg (fun i _ => lo _ (by omega)) hA.1.2.1) (BS_up hA.2.1 (by omega)) (fun _ _ i hi => (lo i (by omega)).symm)
  refine hE.mono ?_
  rintro r M3 ⟨rfl, k1, k2⟩
  exact wk_7_62 ⟨_, A', rfl, Or.inr ⟨k, hk1, hk2, rfl, rfl, hC⟩, hRA, k1, k2⟩
theorem rf_rule {A A' : qA} {x v : Int32} (hA : RA2 A) (hSt : StRule A x v A') (h : RF A M) : gE w 96 0 [some (.ref 148), some (.int x), none] [] M (RFp v A' M) := by
  have e2 : M 149 2 = iN (A.1 2) := h.1.1 2 (by omega)
  rcases hSt with ⟨g, rfl, rfl⟩ | ⟨k, hk1, hk2, rfl, rfl, hC⟩
  · exact wk_96_0 (fun _ => ⟨rfl, h, fun _ _ => rfl⟩) (fun c1 c2 => absurd g (fun z => z.elim c1 c2)) (fun _ _ => ⟨rfl, h, fun _ _ => rfl⟩)
  · refine wk_96_0 (fun c1 => absurd ((iN_lt (b := 1) (by omega) (by omega)).mp c1) (by omega)) (fun _ _ => ?_) (fun _ c2 => absurd ((iN_lt (by omega) (by omega)).mp c2) (by omega))
    rw [e2]
    refine (rf_begin h).mono ?_
    rintro r M1 ⟨rfl, f1, f2, f3⟩
    refine wk_96_23 ?_
    have lo : ∀ i, i ≠ 2 → up1 A.1 2 k i = A.1 i := fun i hi => up1_ne hi
    have hO := Ok_rule hA.1.1 ⟨hk1, hk2⟩
    refine (rf_done hA hC hO.1 (by rw [lo 1 (by omega)]; exact isNet_cg (fun i _ => lo _ (by omega)) hA.1.2.1) (BS_up hA.2.1 (by omega)) f1 f2 f3 (NW_up f3.1) (fr_ms (by decide))).mono ?_
    rintro r M3 ⟨rfl, l1, l2⟩
    exact wk_96_34 ⟨rfl, l1, l2⟩
end API4
