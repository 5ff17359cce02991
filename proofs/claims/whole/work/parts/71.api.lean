/-! Calls: what both sides answer, and what they keep. -/
def RA2 (A : qA) : Prop := RA A ∧ BS A.1 ∧ ∀ i, i < A.2.2.1 → BS (A.2.2.2.1 i)
/-- the class: some answer and some state behind it, that the call allows -/
def CLp (St : Int32 → qA → Prop) (M : qM) : qR := fun r M' => ∃ v A', r = some (.int v) ∧ St v A' ∧ RA2 A' ∧ RC A' M' ∧ ∀ q, 148 ≤ q → M' q = M q
/-- the reference: this answer and this state -/
def RFp (v : Int32) (A' : qA) (M : qM) : qR := fun r M' => r = some (.int v) ∧ RF A' M' ∧ ∀ q, q < 148 → M' q = M q
theorem Cm_RA {A A' : qA} {S' n' : Nat → Nat} (h : RA2 A) (hC : Cm A S' n' A') (hS : Ok S') (hn : isNet (S' 1) S' n') (hb : BS S') : RA2 A' := by
  obtain ⟨S, n, u, H, tp⟩ := A
  obtain ⟨S1, n1, u1, H1, tp1⟩ := A'
  obtain ⟨e1, e2, e3, e4⟩ := hC
  obtain ⟨⟨h1, h2, h3, h4, h5, h6⟩, h7, h8⟩ := h
  dsimp only at *
  subst e1 e2 e3
  rcases e4 with ⟨-, rfl, rfl⟩ | ⟨-, rfl, rfl⟩
  · exact ⟨⟨hS, hn, h3, h4, h5, h6⟩, hb, h8⟩
  · have hpu : pu u ≤ 16 := by unfold pu; split <;> omega
    have hcase : ∀ (P : (Nat → Nat) → Prop), P S → (∀ i, i < u → P (H i)) → ∀ i, i < pu u → P (pH u H S i) := by
      intro P p0 p1 i hi
      unfold pu at hi
      unfold pH
      by_cases x : u = 16
      · rw [if_pos x] at hi ⊢
        by_cases y : i < 15
        · rw [if_pos y]; exact p1 _ (by omega)
        · rw [if_neg y]; exact p0
      · rw [if_neg x] at hi ⊢
        by_cases y : i < u
        · rw [if_pos y]; exact p1 _ y
        · rw [if_neg y]; exact p0
    exact ⟨⟨hS, hn, hpu, hcase Ok h1 h4, h5, h6⟩, hb, hcase BS h7 h8⟩
theorem FB_congr {S S' n : Nat → Nat} {M : qM} (e : ∀ i, i < 592 → S i = S' i) (h0 : S 0 ≤ 16) (h : FB S n M) : FB S' n M := by
  have hp : ∀ c, pad S' c = pad S c := fun c => pad_congr c (e 0 (by omega)).symm (fun p hp => (e _ (by omega)).symm)
  refine ⟨fun i hi => by rw [← e i hi]; exact h.1 i hi, h.2.1, fun c hc => by rw [hp]; exact h.2.2.1 c hc, fun c hc => ?_⟩
  have ho : own S' c = own S c := by unfold own; rw [hp, e (352 + c) (by omega)]
  have : ow S' n c = ow S n c := by unfold ow; rw [ho]
  rw [this]
  exact h.2.2.2 c hc
/-- the reference in the midst of a change -/
def MR (A : qA) (S' : Nat → Nat) (M : qM) : Prop := NW S' M ∧ (∀ i, i < 592 → M 150 i = iN (A.1 i)) ∧ FH A.2.2.1 A.2.2.2.1 M ∧ FT A.2.2.2.2.1 A.2.2.2.2.2 M
theorem MR_op {A : qA} {S S' : Nat → Nat} {M M' : qM} (h : MR A S M) (e : ∀ q, q = 148 ∨ q = 150 ∨ q = 151 ∨ q = 158 → M' q = M q) (hw : NW S' M') : MR A S' M' :=
  ⟨hw, fun i hi => by rw [e 150 (by omega)]; exact h.2.1 i hi, ⟨by rw [e 148 (by omega)]; exact h.2.2.1.1, fun i k hi hk => by rw [e 151 (by omega)]; exact h.2.2.1.2 i k hi hk⟩, by rw [e 148 (by omega)]; exact h.2.2.2.1, fun i hi => by rw [e 158 (by omega)]; exact h.2.2.2.2 i hi⟩
theorem wayF_lo (C : Nat → Nat) (m : Nat) : ∀ f c left S i, i < 352 → wayF C m f c left S i = S i
  | 0, _, _, _, _, _ => rfl
  | f + 1, c, left, S, i, hi => by
    rw [wayF_s]
    split
    · rfl
    · rw [wayF_lo C m f _ _ _ i hi, lay1_lo hi]
theorem Rt_lo {S n S' : Nat → Nat} {net : Nat} {v : Int32} (h : Rt S n net v S') : ∀ i, i < 352 → S' i = S i := by
  intro i hi
  rcases h with ⟨-, -, rfl⟩ | ⟨I, -, ⟨-, -, rfl⟩ | ⟨m, C, -, -, ⟨-, -, rfl⟩ | ⟨-, -, rfl⟩⟩⟩
  · rfl
  · rfl
  · rfl
  · exact wayF_lo C m _ _ _ _ i hi
theorem BS_lo {S S' : Nat → Nat} (h : BS S) (hS : Ok S') (e : ∀ i, i < 352 → S' i = S i) : BS S' := by
  intro i hi
  by_cases x : i < 352
  · rw [e i x]; exact h i hi
  · have h1 := (hS.2.2.2.2.2.2.1 (i - 352) (by omega)).2
    have h2 := hS.1
    rw [show 352 + (i - 352) = i by omega] at h1
    omega
section API
variable {w : qS} {M : qM}
theorem rf_begin {A : qA} (h : RF A M) : gE w 81 0 [some (.ref 148), none] [] M (fun r M' => r = none ∧ fr [150] M M' ∧ MR A A.1 M' ∧ FB A.1 A.2.1 M') := by
  refine (ct_81 h.1.1).mono ?_
  rintro r M' ⟨rfl, f1, f2⟩
  have e : ∀ q, q ≠ 150 → M' q = M q := fun q hq => f1 q (fun x => hq (List.mem_singleton.mp x))
  refine ⟨rfl, f1, ⟨NW_fr h.1.1 (e 149 (by decide)), f2, ⟨by rw [e 148 (by decide)]; exact h.2.1.1, fun i k hi hk => by rw [e 151 (by decide)]; exact h.2.1.2 i k hi hk⟩, by rw [e 148 (by decide)]; exact h.2.2.1, fun i hi => by rw [e 158 (by decide)]; exact h.2.2.2 i hi⟩, NW_fr h.1.1 (e 149 (by decide)), fun p hp => by rw [e 152 (by decide)]; exact h.1.2.1 p hp, fun c hc => by rw [e 153 (by decide)]; exact h.1.2.2.1 c hc, fun c hc => by rw [e 154 (by decide)]; exact h.1.2.2.2 c hc⟩
theorem rf_end {A A' : qA} {S' n' : Nat → Nat} (hA : RA2 A) (hC : Cm A S' n' A') (hS : Ok S') (hn : isNet (S' 1) S' n') (hb : BS S') (h : MR A S' M) (hsame : (∀ i, i < 592 → A.1 i = S' i) → FB S' n' M) :
    gE w 82 0 [some (.ref 148), none, none] [] M (fun r M' => r = none ∧ (∀ q, q < 148 → M' q = M q) ∧ RF A' M') := by
  obtain ⟨S, n, u, H, tp⟩ := A
  obtain ⟨S1, n1, u1, H1, tp1⟩ := A'
  obtain ⟨e1, e2, e3, e4⟩ := hC
  dsimp only at *
  subst e1 e2 e3
  refine (ct_82 hS hn hA.2.1 hb h.1 h.2.1 hA.1.2.2.1 h.2.2.1).mono ?_
  rintro r M' ⟨rfl, ⟨g1, rfl⟩ | ⟨g1, g2, g3, g4, g5⟩⟩
  · rcases e4 with ⟨-, rfl, rfl⟩ | ⟨k1, -⟩
    · exact ⟨rfl, fun _ _ => rfl, hsame g1, h.2.2.1, h.2.2.2⟩
    · exact absurd g1 k1
  · rcases e4 with ⟨k1, -⟩ | ⟨-, rfl, rfl⟩
    · exact absurd k1 g1
    · refine ⟨rfl, fun q hq => g2 q (fun x => ?_), g4, g5, by rw [g3]; exact h.2.2.2.1, fun i hi => by rw [g2 158 (by decide)]; exact h.2.2.2.2 i hi⟩
      simp only [List.mem_cons, List.not_mem_nil, or_false] at x
      omega
theorem ct_84 {S n : Nat → Nat} (h : NW S M) {x : Int32} : gE w 84 0 [some (.ref 148), some (.int x)] [] M (qv1 M (bi (¬ x < 0 ∧ x < iN (S 0)))) := wk_84_0 (qv1_i (by rw [h 0 (by omega)]; exact bi_nd))
-- route
def StRoute (A : qA) (x : Int32) (v : Int32) (A' : qA) : Prop := (¬ (¬ x < 0 ∧ x < iN (A.1 0)) ∧ v = -1 ∧ A' = A) ∨ ∃ p S', p < A.1 0 ∧ x = iN p ∧ Rt A.1 A.2.1 (A.2.1 p) v S' ∧ Ok S' ∧ Cm A S' A.2.1 A'
theorem cl_route {A : qA} {x : Int32} (hA : RA2 A) (h : RC A M) : gE w 11 0 [some (.ref 0), some (.int x), none] [] M (CLp (StRoute A x) M) := by
  have hb : BD A.1 A.2.1 M := ⟨hA.1.1, fun p hp => isNet_lt hA.1.2.1 hp, h.1⟩
  have h0 := hA.1.1.1
  have h1 := hA.1.1.2.1
  refine wk_11_0 (r1 := bi (¬ x < 0 ∧ x < iN (A.1 0))) (ct_29 hb) (fun c1 => ?_) (fun c1 => ⟨-1, A, rfl, Or.inl ⟨bi_eq c1, rfl, rfl⟩, hA, h, fun _ _ => rfl⟩)
  obtain ⟨p, hp, rfl⟩ := rng (bi_ne c1).1 (bi_ne c1).2 (by omega)
  refine (cl_begin hA.1 h).mono ?_
  rintro r M1 ⟨rfl, f1, t, f2⟩
  have hnp := isNet_lt hA.1.2.1 (show p < 16 by omega)
  refine wk_11_27 (r1 := iN (A.2.1 p)) (ct_31 f2.1 (by omega)) ?_
  refine (ct_63 f2.1 hnp).mono ?_
  rintro r M2 ⟨v, S', rfl, g1, g2, g3⟩
  have hlo := Rt_lo g1
  have hMD : MD A S' A.2.1 t M2 := MD_op f2 (fun q hq => g3 q (fun y => by
    simp only [List.mem_cons, List.not_mem_nil, or_false] at y
    omega)) g2
  obtain ⟨A', hC⟩ := Cm_ex A S' A.2.1
  refine wk_11_46 ?_
  refine (cl_finish hA.1 hMD hC (fun _ _ i hi => (hlo i (by omega)).symm)).mono ?_
  rintro r M3 ⟨rfl, k1, k2⟩
  have hn' : isNet (S' 1) S' A.2.1 := by rw [hlo 1 (by omega)]; exact isNet_congr h1 hlo hA.1.2.1
  refine wk_11_61 ⟨v, A', rfl, Or.inr ⟨p, S', hp, rfl, g1, g2.1, hC⟩, Cm_RA hA hC g2.1 hn' (BS_lo hA.2.1 g2.1 hlo), k2, fun q hq => ?_⟩
  rw [k1 q (by simp only [List.mem_cons, List.not_mem_nil, or_false]; omega), g3 q (by simp only [List.mem_cons, List.not_mem_nil, or_false]; omega), f1 q (by omega)]
theorem rf_route {A A' : qA} {x v : Int32} (hA : RA2 A) (hSt : StRoute A x v A') (h : RF A M) : gE w 114 0 [some (.ref 148), some (.int x), none] [] M (RFp v A' M) := by
  have h0 := hA.1.1.1
  have h1 := hA.1.1.2.1
  refine wk_114_0 (r1 := bi (¬ x < 0 ∧ x < iN (A.1 0))) (ct_84 (n := A.2.1) h.1.1) (fun c1 => ?_) (fun c1 => ?_)
  · rcases hSt with ⟨k, -⟩ | ⟨p, S', hp, rfl, k1, k2, k3⟩
    · exact absurd (bi_ne c1) k
    · refine (rf_begin h).mono ?_
      rintro r M1 ⟨rfl, f1, f2, f3⟩
      have hnp := isNet_lt hA.1.2.1 (show p < 16 by omega)
      refine wk_114_14 (iN_in (by omega) (by omega)) ?_
      rw [iN_ix (by omega), f3.2.1 p (by omega)]
      refine (ct_113 ⟨hA.1.1, fun p hp => isNet_lt hA.1.2.1 hp, f3⟩ hA.1.2.1 hnp).mono ?_
      rintro r M2 ⟨v2, S2, rfl, g1, g2, g3, g4⟩
      obtain ⟨rfl, rfl⟩ := Rt_uniq k1 g1
      have hlo := Rt_lo k1
      refine wk_114_24 ?_
      refine (rf_end hA k3 k2 g3 (BS_lo hA.2.1 k2 hlo) (MR_op f2 (fun q hq => g4 q (by simp only [List.mem_cons, List.not_mem_nil, or_false]; omega)) g2.2.2.1) (fun _ => g2.2.2)).mono ?_
      rintro r M3 ⟨rfl, l1, l2⟩
      refine wk_114_29 ⟨rfl, l2, fun q hq => ?_⟩
      rw [l1 q hq, g4 q (by simp only [List.mem_cons, List.not_mem_nil, or_false]; omega), f1 q (by simp only [List.mem_cons, List.not_mem_nil, or_false]; omega)]
  · rcases hSt with ⟨-, rfl, rfl⟩ | ⟨p, S', hp, rfl, -⟩
    · exact ⟨rfl, h, fun _ _ => rfl⟩
    · exact absurd ⟨iN_nn (by omega), (iN_lt (by omega) (by omega)).mpr hp⟩ (bi_eq c1)
end API
