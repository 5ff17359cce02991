/-! Calls: pin, join, part, rule, bar, erase. -/
theorem BS_up {S : Nat → Nat} (h : BS S) {a v : Nat} (hv : v < 1000) : BS (up1 S a v) := fun i hi => by
  unfold up1
  split
  · exact hv
  · exact h i hi
theorem NW_up {S : Nat → Nat} {M : qM} (h : NW S M) {a v : Nat} : NW (up1 S a v) (ms M 149 a (iN v)) := by
  intro i hi
  rw [ms_get]
  by_cases x : i = a
  · rw [if_pos ⟨rfl, x⟩, x, up1_at]
  · rw [if_neg (fun y => x y.2), up1_ne x]; exact h i hi
theorem isNet_cg {k : Nat} {S S' n : Nat → Nat} (e : ∀ i, i < 2 * k → S' (64 + i) = S (64 + i)) (h : isNet k S n) : isNet k S' n := by
  have hj : ∀ f, jC k S' f ↔ jC k S f := by
    intro f
    have e1 : ∀ j, j < k → S' (64 + 2 * j) = S (64 + 2 * j) ∧ S' (64 + 2 * j + 1) = S (64 + 2 * j + 1) := fun j hj => ⟨e _ (by omega), e (2 * j + 1) (by omega)⟩
    constructor
    · intro x j hj
      have := x j hj
      rw [(e1 j hj).1, (e1 j hj).2] at this
      exact this
    · intro x j hj
      rw [(e1 j hj).1, (e1 j hj).2]
      exact x j hj
  exact ⟨(hj n).mpr h.1, h.2.1, fun f hf p hp => h.2.2 f ((hj f).mp hf) p hp⟩
theorem Ok_of {S S' : Nat → Nat} (h : Ok S) (h00 : S 0 ≤ S' 0) (h0 : S' 0 ≤ 16) (h1 : S' 1 ≤ 24) (h2 : 1 ≤ S' 2 ∧ S' 2 ≤ 2) (hk : ∀ p, p < 16 → S' (16 + p) < 4) (hpl : ∀ p, p < 16 → S' (32 + p) = S (32 + p)) (he : ∀ i, i < 2 * S' 1 → S' (64 + i) < S' 0)
    (hc : ∀ c, c < 240 → S' (112 + c) ≤ 1 ∧ S' (352 + c) ≤ S' 0 ∧ (pad S c ≠ 0 → S' (352 + c) = 0) ∧ (S' (112 + c) ≠ 0 → pad S c = 0 ∧ S' (352 + c) = 0)) : Ok S' ∧ ∀ c, pad S' c = pad S c := by
  have hhp : ∀ p c, p < 16 → (hp S' p c ↔ hp S p c) := fun p c hp0 => by unfold hp; rw [hpl p hp0]
  have hlo : ∀ p c, p < 16 → hp S' p c → p < S 0 := by
    intro p c hp0 x
    rcases h.2.2.2.2.1 p hp0 with y | y
    · exact absurd ((hhp p c hp0).mp x) (hp_z y)
    · exact y.2.2
  have hpad : ∀ c, pad S' c = pad S c := by
    intro c
    unfold pad
    have a1 : ∀ k, k ≤ S 0 → padF S' k c = padF S k c := by
      intro k
      induction k with
      | zero => intro _; rfl
      | succ k ih =>
        intro hk
        simp only [padF, hp]
        rw [hpl k (by omega), ih (by omega)]
    have a2 : ∀ d, S 0 + d ≤ 16 → padF S' (S 0 + d) c = padF S (S 0) c := by
      intro d
      induction d with
      | zero => intro _; exact a1 _ (Nat.le_refl _)
      | succ d ih =>
        intro hd
        show padF S' (S 0 + d + 1) c = _
        simp only [padF]
        rw [if_neg (fun x => by have := hlo _ c (by omega) x; omega), ih (by omega)]
    have := a2 (S' 0 - S 0) (by omega)
    rw [show S 0 + (S' 0 - S 0) = S' 0 by omega] at this
    exact this
  refine ⟨⟨h0, h1, h2, hk, fun p hp0 => ?_, he, fun c hc0 => ⟨(hc c hc0).1, (hc c hc0).2.1⟩, fun p q c hp0 hq0 hc0 a b => ?_, fun c hc0 x => (hc c hc0).2.2.1 (by rw [← hpad]; exact x), fun c hc0 x => ?_⟩, hpad⟩
  · rw [hpl p hp0]
    rcases h.2.2.2.2.1 p hp0 with y | y
    · exact Or.inl y
    · exact Or.inr ⟨y.1, y.2.1, by omega⟩
  · exact h.2.2.2.2.2.2.2.1 p q c (hlo p c (by omega) a) (hlo q c (by omega) b) hc0 ((hhp p c (by omega)).mp a) ((hhp q c (by omega)).mp b)
  · have := (hc c hc0).2.2.2 x
    unfold own
    rw [hpad, if_pos this.1]
    exact this.2
theorem hv_cg {S S' : Nat → Nat} {c : Nat} (h1 : pad S' c = pad S c) (h2 : S' (352 + c) = S (352 + c)) (h3 : S' (112 + c) = S (112 + c)) : hv S' c = hv S c := by
  have : own S' c = own S c := by unfold own; rw [h1, h2]
  unfold hv
  rw [this, h3]
section DONE
variable {w : qS}
theorem cl_done {A : qA} {S' n' : Nat → Nat} {t : Nat} {M0 M1 M2 : qM} (hA : RA2 A) (f1 : ∀ q, q < 29 ∨ 148 ≤ q → M1 q = M0 q) (f2 : MD A A.1 A.2.1 t M1) (g : BD S' n' M2) (e : ∀ q, q = 10 ∨ q = 25 ∨ q = 26 ∨ 29 ≤ q → M2 q = M1 q) (hn : isNet (S' 1) S' n') (hb : BS S')
    (hj : A.1 0 = S' 0 → A.1 1 = S' 1 → ∀ i, (3 ≤ i ∧ i < 32) ∨ (48 ≤ i ∧ i < 112) → A.1 i = S' i) :
    ∃ A', Cm A S' n' A' ∧ RA2 A' ∧ gE w 60 0 [some (.ref 10), some (.ref 2)] [] M2 (fun r M3 => r = none ∧ RC A' M3 ∧ ∀ q, 148 ≤ q → M3 q = M0 q) := by
  obtain ⟨A', hC⟩ := Cm_ex A S' n'
  refine ⟨A', hC, Cm_RA hA hC g.1 hn hb, (cl_finish hA.1 (MD_op f2 (fun q hq => e q (by omega)) g) hC hj).mono ?_⟩
  rintro r M3 ⟨rfl, k1, k2⟩
  refine ⟨rfl, k2, fun q hq => ?_⟩
  rw [k1 q (by simp only [List.mem_cons, List.not_mem_nil, or_false]; omega), e q (by omega), f1 q (by omega)]
theorem rf_done {A A' : qA} {S' n' : Nat → Nat} {M0 M1 M2 : qM} (hA : RA2 A) (hC : Cm A S' n' A') (hS : Ok S') (hn : isNet (S' 1) S' n') (hb : BS S') (f1 : fr [150] M0 M1) (f2 : MR A A.1 M1) (f3 : FB A.1 A.2.1 M1) (hw : NW S' M2) (e : fr [149] M1 M2) :
    gE w 82 0 [some (.ref 148), none, none] [] M2 (fun r M3 => r = none ∧ RF A' M3 ∧ ∀ q, q < 148 → M3 q = M0 q) := by
  have e' : ∀ q, q ≠ 149 → M2 q = M1 q := fun q hq => e q (fun x => hq (List.mem_singleton.mp x))
  refine (rf_end hA hC hS hn hb (MR_op f2 (fun q hq => e' q (by omega)) hw) (fun same => ?_)).mono ?_
  · have h0 := hA.1.1.1
    have h1 := hA.1.1.2.1
    have b : FB A.1 A.2.1 M2 := ⟨fun i hi => by rw [hw i hi, same i hi], fun p hp => by rw [e' 152 (by decide)]; exact f3.2.1 p hp, fun c hc => by rw [e' 153 (by decide)]; exact f3.2.2.1 c hc, fun c hc => by rw [e' 154 (by decide)]; exact f3.2.2.2 c hc⟩
    have b2 := FB_congr same h0 b
    have hn2 : isNet (S' 1) S' A.2.1 := by
      rw [← same 1 (by omega)]
      exact isNet_cg (fun i hi => (same _ (by omega)).symm) hA.1.2.1
    have en : ∀ p, p < 16 → n' p = A.2.1 p := fun p hp => isNet_uniq hn hn2 p hp
    refine ⟨b2.1, fun p hp => by rw [en p hp]; exact b2.2.1 p hp, b2.2.2.1, fun c hc => ?_⟩
    have ho := own_le hS hc
    have : ow S' n' c = ow S' A.2.1 c := by
      unfold ow
      split
      · rfl
      · rw [en _ (by omega)]
    rw [this]
    exact b2.2.2.2 c hc
  · rintro r M3 ⟨rfl, k1, k2⟩
    refine ⟨rfl, k2, fun q hq => ?_⟩
    rw [k1 q hq, e' q (by omega), f1 q (by simp only [List.mem_cons, List.not_mem_nil, or_false]; omega)]
end DONE
-- pin
def spin (S : Nat → Nat) (k : Nat) : Nat → Nat := up1 (up1 S (16 + S 0) k) 0 (S 0 + 1)
theorem spin_0 {S : Nat → Nat} {k : Nat} : spin S k 0 = S 0 + 1 := up1_at _ _ _
theorem spin_ne {S : Nat → Nat} {k i : Nat} (h : i ≠ 0) (h' : i ≠ 16 + S 0) : spin S k i = S i := by unfold spin; rw [up1_ne h, up1_ne h']
theorem spin_k {S : Nat → Nat} {k : Nat} : spin S k (16 + S 0) = k := by unfold spin; rw [up1_ne (by omega), up1_at]
theorem Ok_pin {S : Nat → Nat} {k : Nat} (h : Ok S) (h0 : S 0 < 16) (hk : k < 4) : Ok (spin S k) ∧ ∀ c, pad (spin S k) c = pad S c := by
  have h1 := h.2.1
  refine Ok_of h (by rw [spin_0]; omega) (by rw [spin_0]; omega) (by rw [spin_ne (by omega) (by omega)]; exact h1) (by rw [spin_ne (by omega) (by omega)]; exact h.2.2.1) (fun p hp0 => ?_) (fun p hp0 => spin_ne (by omega) (by omega)) (fun i hi => ?_) (fun c hc => ?_)
  · by_cases x : p = S 0
    · rw [x, spin_k]; exact hk
    · rw [spin_ne (by omega) (by omega)]; exact h.2.2.2.1 p hp0
  · rw [spin_ne (by omega) (by omega)] at hi
    have := h.2.2.2.2.2.1 i hi
    rw [spin_ne (by omega) (by omega), spin_0]
    omega
  · rw [spin_ne (by omega) (by omega), spin_ne (by omega) (by omega), spin_0]
    have a := h.2.2.2.2.2.2.1 c hc
    refine ⟨a.1, by omega, h.2.2.2.2.2.2.2.2.1 c hc, fun x => ?_⟩
    have b := h.2.2.2.2.2.2.2.2.2 c hc x
    unfold own at b
    by_cases y : pad S c = 0
    · rw [if_pos y] at b; exact ⟨y, b⟩
    · rw [if_neg y] at b; exact absurd b y
section API3
variable {w : qS} {M : qM}
theorem ct_37 {S n : Nat → Nat} {k : Nat} (h : BD S n M) (h0 : S 0 < 16) (hk : k < 4) : gE w 37 0 [some (.ref 1), some (.int (iN k)), none] [] M (fun r M' => r = some (.int (iN (S 0))) ∧ fr [2, 3, 9] M M' ∧ ∃ n', isNet (spin S k 1) (spin S k) n' ∧ BD (spin S k) n' M') := by
  have hO := Ok_pin h.1 h0 hk
  have h1 := h.1.2.1
  have hs : RS (spin S k) (ms (ms M 3 (S 0) (iN k)) 2 6 (iN (S 0 + 1))) 2 := by
    refine ⟨⟨?_, ?_, ?_⟩, fun p hp0 => ?_, fun j hj => ?_, fun p hp0 => ?_, fun c hc => ?_⟩
    · rw [ms_at, spin_0]
    · rw [ms_row (by decide), ms_rows (by decide), spin_ne (by omega) (by omega)]; exact rb_jn h
    · rw [ms_row (by decide), ms_rows (by decide), spin_ne (by omega) (by omega)]; exact rb_clr h
    · rw [spin_0] at hp0
      rw [ms_rows (by decide)]
      show ms M 3 (S 0) (iN k) 3 p = _
      rw [ms_get]
      by_cases x : p = S 0
      · rw [if_pos ⟨rfl, x⟩, x, spin_k]
      · rw [if_neg (fun y => x y.2), spin_ne (by omega) (by omega)]; exact rb_kind h (by omega)
    · rw [spin_ne (by omega) (by omega)] at hj
      rw [ms_rows (by decide), ms_rows (by decide), ms_rows (by decide), ms_rows (by decide), spin_ne (by omega) (by omega), spin_ne (by omega) (by omega)]
      exact h.2.2.1.2.2.1 j hj
    · rw [ms_rows (by decide), ms_rows (by decide), ms_rows (by decide), ms_rows (by decide), spin_ne (by omega) (by omega)]
      exact h.2.2.1.2.2.2.1 p hp0
    · rw [ms_rows (by decide), ms_rows (by decide), hv_cg (hO.2 c) (spin_ne (by omega) (by omega)) (spin_ne (by omega) (by omega))]
      exact rb_hold h hc
  refine wk_37_0 (by rw [rb_pins h]; exact iN_in h0 (by omega)) ?_
  rw [ms_ne (show (2 : Nat) ≠ 3 by decide), rb_pins h, iN_ix (by omega), iN_succ]
  refine (ct_40 hs hO.1.2.1 (fun i hi => Nat.lt_of_lt_of_le (hO.1.2.2.2.2.2.1 i hi) hO.1.1)).mono ?_
  rintro r M' ⟨rfl, g1, n', g2, g3⟩
  refine wk_37_35 ⟨rfl, fr_tr (fr_tr (fr_ms (by decide)) (fr_ms (by decide))) (fr_sub g1 (by intro q hq; simp only [List.mem_cons, List.not_mem_nil, or_false] at *; omega)), n', g2, hO.1, fun p hp => isNet_lt g2 hp, RS_fr hs (fun k hk => g1 _ (by simp only [List.mem_cons, List.not_mem_nil, or_false]; omega)), fun p hp => g3 p (Nat.lt_of_lt_of_le hp hO.1.1)⟩
def StPin (A : qA) (x : Int32) (v : Int32) (A' : qA) : Prop := (¬ (¬ x < 0 ∧ x < iN 4) ∧ v = -1 ∧ A' = A) ∨ ((¬ x < 0 ∧ x < iN 4) ∧ A.1 0 = 16 ∧ v = -2 ∧ A' = A) ∨ ∃ k n', k < 4 ∧ x = iN k ∧ A.1 0 < 16 ∧ v = iN (A.1 0) ∧ isNet (spin A.1 k 1) (spin A.1 k) n' ∧ Cm A (spin A.1 k) n' A'
theorem cl_pin {A : qA} {x : Int32} (hA : RA2 A) (h : RC A M) : gE w 0 0 [some (.ref 0), some (.int x), none] [] M (CLp (StPin A x) M) := by
  have hb := RC_BD hA h
  have h0 := hA.1.1.1
  have e6 := rb_pins hb
  refine wk_0_0 (fun c1 => ⟨-1, A, rfl, Or.inl ⟨fun y => y.1 c1, rfl, rfl⟩, hA, h, fun _ _ => rfl⟩) (fun c1 c2 c3 => ?_) (fun c1 c2 c3 => ⟨-2, A, rfl, Or.inr (Or.inl ⟨⟨c1, c2⟩, ?_, rfl, rfl⟩), hA, h, fun _ _ => rfl⟩) (fun c1 c2 => ⟨-1, A, rfl, Or.inl ⟨fun y => c2 y.2, rfl, rfl⟩, hA, h, fun _ _ => rfl⟩)
  · rw [e6, iN_lt (by omega) (by omega)] at c3
    obtain ⟨k, hk, rfl⟩ := rng c1 c2 (by decide)
    refine (cl_begin hA.1 h).mono ?_
    rintro r M1 ⟨rfl, f1, t, f2⟩
    refine wk_0_43 ?_
    refine (ct_37 f2.1 c3 hk).mono ?_
    rintro r M2 ⟨rfl, g1, n', g2, g3⟩
    obtain ⟨A', hC, hRA, hE⟩ := cl_done (w := w) hA f1 f2 g3 (fun q hq => g1 q (by simp only [List.mem_cons, List.not_mem_nil, or_false]; omega)) g2 (BS_up (BS_up hA.2.1 (by omega)) (by omega)) (fun y => by rw [spin_0] at y; omega)
    refine wk_0_51 (hE.mono ?_)
    rintro r M3 ⟨rfl, k1, k2⟩
    exact wk_0_66 ⟨_, A', rfl, Or.inr (Or.inr ⟨k, n', hk, rfl, c3, rfl, g2, hC⟩), hRA, k1, k2⟩
  · rw [e6, iN_lt (by omega) (by omega)] at c3
    omega
theorem rf_pin {A A' : qA} {x v : Int32} (hA : RA2 A) (hSt : StPin A x v A') (h : RF A M) : gE w 86 0 [some (.ref 148), some (.int x)] [] M (RFp v A' M) := by
  have h0 := hA.1.1.1
  have e0 : M 149 0 = iN (A.1 0) := h.1.1 0 (by omega)
  have h3 : ∀ y : Int32, (iN 3 < y ↔ ¬ y < iN 4) := by
    intro y
    rw [Int32.lt_iff_toInt_lt, Int32.lt_iff_toInt_lt, iN_toInt (by decide), iN_toInt (by decide)]
    omega
  rcases hSt with ⟨g, rfl, rfl⟩ | ⟨g, g2, rfl, rfl⟩ | ⟨k, n', hk, rfl, g0, rfl, gn, hC⟩
  · exact wk_86_0 (fun _ => ⟨rfl, h, fun _ _ => rfl⟩) (fun c1 c2 => absurd ⟨c1, Classical.byContradiction fun z => c2 ((h3 x).mpr z)⟩ g) (fun c1 c2 => absurd ⟨c1, Classical.byContradiction fun z => c2 ((h3 x).mpr z)⟩ g) (fun _ _ => ⟨rfl, h, fun _ _ => rfl⟩)
  · exact wk_86_0 (fun c1 => absurd c1 g.1) (fun _ _ c3 => absurd (by rw [e0, g2]) c3) (fun _ _ _ => ⟨rfl, h, fun _ _ => rfl⟩) (fun _ c2 => absurd g.2 ((h3 x).mp c2))
  · refine wk_86_0 (fun c1 => absurd c1 (iN_nn (by omega))) (fun _ _ _ => ?_) (fun _ _ c3 => by rw [e0, iN_eq (by omega) (by omega)] at c3; omega) (fun _ c2 => by rw [iN_lt (by omega) (by omega)] at c2; omega)
    refine (rf_begin h).mono ?_
    rintro r M1 ⟨rfl, f1, f2, f3⟩
    have e1 : M1 149 0 = iN (A.1 0) := f3.1 0 (by omega)
    refine wk_86_29 (by rw [e1, iN_add]; exact iN_in (by omega) (by omega)) ?_
    rw [e1, iN_add, iN_ix (by omega), ms_row (by omega), e1, iN_succ]
    have hO := Ok_pin hA.1.1 g0 hk
    refine (rf_done hA hC hO.1 gn (BS_up (BS_up hA.2.1 (by omega)) (by omega)) f1 f2 f3 (NW_up (NW_up f3.1)) (fr_tr (fr_ms (by decide)) (fr_ms (by decide)))).mono ?_
    rintro r M3 ⟨rfl, l1, l2⟩
    have e3 : M3 149 0 = iN (A.1 0 + 1) := by
      rw [l1.1.1 0 (by omega), hC.1, spin_0]
    refine wk_86_58 ⟨?_, l1, l2⟩
    rw [e3, show iN (A.1 0 + 1) - 1 = iN (A.1 0 + 1 - 1) from iN_sub (a := A.1 0 + 1) (b := 1) (by omega), Nat.add_sub_cancel]
end API3
