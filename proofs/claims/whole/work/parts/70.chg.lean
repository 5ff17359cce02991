/-! A change, in the class: before it, and behind it. -/
theorem AG_eq {S S' : Nat → Nat} (hS : Ok S) (hS' : Ok S') (hj : S 0 = S' 0 → S 1 = S' 1 → ∀ i, (3 ≤ i ∧ i < 32) ∨ (48 ≤ i ∧ i < 112) → S i = S' i) : AG S S' ↔ ∀ i, i < 592 → S i = S' i := by
  have h0 := hS.1
  constructor
  · rintro ⟨e0, e1, e2, e3, e4⟩ i hi
    have hpad : ∀ c, pad S' c = pad S c := fun c => pad_congr c e0.symm (fun p hp => (e3 p (by omega)).symm)
    have hcell : ∀ c, c < 240 → S (112 + c) = S' (112 + c) ∧ S (352 + c) = S' (352 + c) := by
      intro c hc
      have e := e4 c hc
      have l1 := own_le hS hc
      have l2 := own_le hS' hc
      have hp := hpad c
      have q1 := (hS.2.2.2.2.2.2.1 c hc).1
      have q2 := (hS'.2.2.2.2.2.2.1 c hc).1
      by_cases z : own S c = 0
      · have z' : own S' c = 0 := (hv_neg hS' hc).mp (by rw [← e]; exact (hv_neg hS hc).mpr z)
        have hp0 : pad S c = 0 := by
          apply Classical.byContradiction
          intro x
          unfold own at z
          rw [if_neg x] at z
          exact x z
        have k1 : S (352 + c) = 0 := by unfold own at z; rw [if_pos hp0] at z; exact z
        have k2 : S' (352 + c) = 0 := by unfold own at z'; rw [if_pos (by rw [hp]; exact hp0)] at z'; exact z'
        refine ⟨?_, by omega⟩
        by_cases y : S (112 + c) = 0
        · have := (hv_m1 hS' hc).mp (by rw [← e]; exact (hv_m1 hS hc).mpr ⟨z, y⟩)
          omega
        · have := (hv_m2 hS' hc).mp (by rw [← e]; exact (hv_m2 hS hc).mpr y)
          omega
      · have z' : own S' c ≠ 0 := fun x => z ((hv_neg hS hc).mp (by rw [e]; exact (hv_neg hS' hc).mpr x))
        have eo : own S c = own S' c := by
          rw [hv_of z, hv_of z', iN_eq (by omega) (by omega)] at e
          omega
        refine ⟨?_, ?_⟩
        · have k1 : S (112 + c) = 0 := Classical.byContradiction fun x => z (hS.2.2.2.2.2.2.2.2.2 c hc x)
          have k2 : S' (112 + c) = 0 := Classical.byContradiction fun x => z' (hS'.2.2.2.2.2.2.2.2.2 c hc x)
          omega
        · by_cases y : pad S c = 0
          · unfold own at eo
            rw [if_pos y, if_pos (by rw [hp]; exact y)] at eo
            exact eo
          · rw [hS.2.2.2.2.2.2.2.2.1 c hc y, hS'.2.2.2.2.2.2.2.2.1 c hc (by rw [hp]; exact y)]
    by_cases a : i < 3
    · rcases (show i = 0 ∨ i = 1 ∨ i = 2 by omega) with rfl | rfl | rfl
      · exact e0
      · exact e1
      · exact e2
    · by_cases b : (3 ≤ i ∧ i < 32) ∨ (48 ≤ i ∧ i < 112)
      · exact hj e0 e1 i b
      · by_cases d : i < 48
        · have := e3 (i - 32) (by omega)
          rw [show 32 + (i - 32) = i by omega] at this
          exact this
        · by_cases f : i < 352
          · have := (hcell (i - 112) (by omega)).1
            rw [show 112 + (i - 112) = i by omega] at this
            exact this
          · have := (hcell (i - 352) (by omega)).2
            rw [show 352 + (i - 352) = i by omega] at this
            exact this
  · intro e
    refine ⟨e 0 (by omega), e 1 (by omega), e 2 (by omega), fun p hp => e _ (by omega), fun c hc => ?_⟩
    have hp : pad S' c = pad S c := pad_congr c (e 0 (by omega)).symm (fun p hp => (e _ (by omega)).symm)
    have ho : own S' c = own S c := by
      unfold own
      rw [hp, e (352 + c) (by omega)]
    unfold hv
    rw [ho, e (112 + c) (by omega)]
/-- in the midst of a change: the sheet S' with its nets, the sheet before it in the next place -/
def MD (A : qA) (S' n' : Nat → Nat) (t : Nat) (M : qM) : Prop := BD S' n' M ∧ RS A.1 M (29 + 7 * t) ∧ RH A.2.2.1 A.2.2.2.1 t M ∧ RT A.2.2.2.2.1 A.2.2.2.2.2 M
theorem MD_op {A : qA} {S n S' n' : Nat → Nat} {t : Nat} {M M' : qM} (h : MD A S n t M) (e : ∀ q, q = 10 ∨ q = 25 ∨ q = 26 ∨ (29 ≤ q ∧ q < 148) → M' q = M q) (hb : BD S' n' M') : MD A S' n' t M' := by
  have ht := h.2.2.1.1
  refine ⟨hb, RS_fr h.2.1 (fun k hk => e _ (by omega)), ⟨ht, by rw [e 10 (by omega)]; exact h.2.2.1.2.1, by rw [e 10 (by omega)]; exact h.2.2.1.2.2.1, fun i hi => RS_fr (h.2.2.1.2.2.2 i hi) (fun k hk => e _ (by have := Nat.mod_lt (t + 17 - A.2.2.1 + i) (show 17 > 0 by omega); omega))⟩, by rw [e 25 (by omega)]; exact h.2.2.2.1, fun i hi => by rw [e 26 (by omega)]; exact h.2.2.2.2 i hi⟩
/-- behind a change -/
def Cm (A : qA) (S' n' : Nat → Nat) (A' : qA) : Prop := A'.1 = S' ∧ A'.2.1 = n' ∧ A'.2.2.2.2 = A.2.2.2.2 ∧ (((∀ i, i < 592 → A.1 i = S' i) ∧ A'.2.2.1 = A.2.2.1 ∧ A'.2.2.2.1 = A.2.2.2.1) ∨ ((¬ ∀ i, i < 592 → A.1 i = S' i) ∧ A'.2.2.1 = pu A.2.2.1 ∧ A'.2.2.2.1 = pH A.2.2.1 A.2.2.2.1 A.1))
theorem Cm_ex (A : qA) (S' n' : Nat → Nat) : ∃ A', Cm A S' n' A' := by
  by_cases h : ∀ i, i < 592 → A.1 i = S' i
  · exact ⟨(S', n', A.2.2.1, A.2.2.2.1, A.2.2.2.2), rfl, rfl, rfl, Or.inl ⟨h, rfl, rfl⟩⟩
  · exact ⟨(S', n', pu A.2.2.1, pH A.2.2.1 A.2.2.2.1 A.1, A.2.2.2.2), rfl, rfl, rfl, Or.inr ⟨h, rfl, rfl⟩⟩
section CHG
variable {w : qS} {M : qM}
theorem cl_begin {A : qA} (hA : RA A) (h : RC A M) : gE w 59 0 [some (.ref 10), some (.ref 2)] [] M (fun r M' => r = none ∧ (∀ q, q < 29 ∨ 148 ≤ q → M' q = M q) ∧ ∃ t, MD A A.1 A.2.1 t M') := by
  obtain ⟨h1, ⟨t, h2⟩, h3⟩ := h
  have ht := h2.1
  have hu := hA.2.2.1
  have hb : BD A.1 A.2.1 M := ⟨hA.1, fun p hp => isNet_lt hA.2.1 hp, h1⟩
  refine (ct_59 ht h2.2.1 hA.1 h1.1).mono ?_
  rintro r M' ⟨rfl, f1, f2⟩
  have fo : ∀ q, q < 29 + 7 * t ∨ 29 + 7 * t + 6 < q → M' q = M q := fun q hq => f1 q (shL_not hq)
  refine ⟨rfl, fun q hq => fo q (by omega), t, BD_fr hb (fun q hq => fo q (by omega)), f2, ⟨ht, by rw [fo 10 (by omega)]; exact h2.2.1, by rw [fo 10 (by omega)]; exact h2.2.2.1, fun i hi => RS_fr (h2.2.2.2 i hi) (fun k hk => fo _ ?_)⟩, by rw [fo 25 (by omega)]; exact h3.1, fun i hi => by rw [fo 26 (by omega)]; exact h3.2 i hi⟩
  have hm := Nat.mod_lt (t + 17 - A.2.2.1 + i) (show 17 > 0 by omega)
  have hne : (t + 17 - A.2.2.1 + i) % 17 ≠ t := by omega
  generalize (t + 17 - A.2.2.1 + i) % 17 = y at *
  omega
theorem cl_finish {A A' : qA} {S' n' : Nat → Nat} {t : Nat} (hA : RA A) (h : MD A S' n' t M) (hC : Cm A S' n' A') (hj : A.1 0 = S' 0 → A.1 1 = S' 1 → ∀ i, (3 ≤ i ∧ i < 32) ∨ (48 ≤ i ∧ i < 112) → A.1 i = S' i) :
    gE w 60 0 [some (.ref 10), some (.ref 2)] [] M (fun r M' => r = none ∧ fr [10] M M' ∧ RC A' M') := by
  obtain ⟨hb, hs, hh, htp⟩ := h
  obtain ⟨S, n, u, H, tp⟩ := A
  obtain ⟨S1, n1, u1, H1, tp1⟩ := A'
  obtain ⟨e1, e2, e3, e4⟩ := hC
  dsimp only at *
  subst e1 e2 e3
  have ht := hh.1
  have hu : u ≤ 16 := hA.2.2.1
  refine (ct_60 ht hu hh.2.1 hh.2.2.1 hA.1 hb.1 hs hb.2.2.1).mono ?_
  rintro r M' ⟨rfl, f1, f2⟩
  have hag := AG_eq hA.1 hb.1 hj
  have hRB : RB S1 n1 M' := RB_fr hb.2.2 (fr_lo f1 (by decide))
  have hRT : RT tp1.1 tp1.2 M' := ⟨by rw [f1 25 (by decide)]; exact htp.1, fun i hi => by rw [f1 26 (by decide)]; exact htp.2 i hi⟩
  have hrow : ∀ (Z : Nat → Nat) b, 29 ≤ b → RS Z M b → RS Z M' b := fun Z b hb x => RS_fr x (fun k hk => f1 _ (by
    intro y
    have := List.mem_singleton.mp y
    omega))
  rcases f2 with ⟨g1, rfl⟩ | ⟨g1, g2, g3⟩
  · rcases e4 with ⟨-, rfl, rfl⟩ | ⟨k1, -⟩
    · exact ⟨rfl, f1, hRB, ⟨t, hh⟩, hRT⟩
    · exact absurd (hag.mp g1) k1
  · rcases e4 with ⟨k1, -⟩ | ⟨-, rfl, rfl⟩
    · exact absurd (hag.mpr k1) g1
    · have epu : pu u = if 16 < u + 1 then 16 else u + 1 := by
        unfold pu
        by_cases x : u = 16
        · rw [if_pos x, if_pos (by omega)]
        · rw [if_neg x, if_neg (by omega)]
      refine ⟨rfl, f1, hRB, ⟨(t + 1) % 17, Nat.mod_lt _ (by omega), g2, by rw [epu]; exact g3, fun i hi => ?_⟩, hRT⟩
      dsimp only at hi ⊢
      unfold pu at hi ⊢
      unfold pH
      by_cases x : u = 16
      · rw [if_pos x] at hi
        rw [if_pos x, if_pos x]
        by_cases y : i < 15
        · rw [if_pos y, show ((t + 1) % 17 + 17 - 16 + i) % 17 = (t + 17 - u + (i + 1)) % 17 by omega]
          exact hrow _ _ (by omega) (hh.2.2.2 (i + 1) (by omega))
        · rw [if_neg y, show ((t + 1) % 17 + 17 - 16 + i) % 17 = t by omega]
          exact hrow _ _ (by omega) hs
      · rw [if_neg x] at hi
        rw [if_neg x, if_neg x]
        by_cases y : i < u
        · rw [if_pos y, show ((t + 1) % 17 + 17 - (u + 1) + i) % 17 = (t + 17 - u + i) % 17 by omega]
          exact hrow _ _ (by omega) (hh.2.2.2 i y)
        · rw [if_neg y, show ((t + 1) % 17 + 17 - (u + 1) + i) % 17 = t by omega]
          exact hrow _ _ (by omega) hs
end CHG
