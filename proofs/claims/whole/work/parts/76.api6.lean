/-! Calls: part, place, lift. -/
theorem lt_no {α : Prop} {x : Int32} (h : x < x) : α := absurd h Int32.lt_irrefl
def spart (S : Nat → Nat) (j k : Nat) : Nat → Nat := fun x => if x = 1 then S 1 - 1 else if 64 + 2 * j ≤ x ∧ x < 64 + k then S (x + 2) else S x
def spartE (S : Nat → Nat) (j : Nat) : Nat → Nat := up1 (up1 (spart S j (2 * (S 1 - 1))) (64 + 2 * (S 1 - 1)) 0) (64 + 2 * (S 1 - 1) + 1) 0
theorem sp_1 {S : Nat → Nat} {j k : Nat} : spart S j k 1 = S 1 - 1 := by unfold spart; rw [if_pos rfl]
theorem sp_in {S : Nat → Nat} {j k x : Nat} (h : x ≠ 1) (h' : 64 + 2 * j ≤ x ∧ x < 64 + k) : spart S j k x = S (x + 2) := by unfold spart; rw [if_neg h, if_pos h']
theorem sp_out {S : Nat → Nat} {j k x : Nat} (h : x ≠ 1) (h' : ¬ (64 + 2 * j ≤ x ∧ x < 64 + k)) : spart S j k x = S x := by unfold spart; rw [if_neg h, if_neg h']
theorem spE_1 {S : Nat → Nat} {j : Nat} : spartE S j 1 = S 1 - 1 := by unfold spartE; rw [up1_ne (by omega), up1_ne (by omega), sp_1]
theorem spE_lo {S : Nat → Nat} {j x : Nat} (h1 : S 1 ≤ 24) (hj : j < S 1) (h : x ≠ 1) (h' : x < 64 ∨ 112 ≤ x) : spartE S j x = S x := by
  unfold spartE
  rw [up1_ne (by omega), up1_ne (by omega), sp_out h (by omega)]
theorem spE_mid {S : Nat → Nat} {j x : Nat} (h : 64 ≤ x) (h' : x < 64 + 2 * (S 1 - 1)) : spartE S j x = if 64 + 2 * j ≤ x then S (x + 2) else S x := by
  unfold spartE
  rw [up1_ne (by omega), up1_ne (by omega)]
  by_cases y : 64 + 2 * j ≤ x
  · rw [sp_in (by omega) ⟨y, h'⟩, if_pos y]
  · rw [sp_out (by omega) (by omega), if_neg y]
theorem Ok_part {S : Nat → Nat} {j : Nat} (h : Ok S) (hj : j < S 1) : Ok (spartE S j) ∧ ∀ c, pad (spartE S j) c = pad S c := by
  have h1 := h.2.1
  have lo : ∀ x, x ≠ 1 → x < 64 ∨ 112 ≤ x → spartE S j x = S x := fun x a b => spE_lo h1 hj a b
  refine Ok_of h (by rw [lo 0 (by omega) (by omega)]; exact Nat.le_refl _) (by rw [lo 0 (by omega) (by omega)]; exact h.1) (by rw [spE_1]; omega) (by rw [lo 2 (by omega) (by omega)]; exact h.2.2.1) (fun p hp0 => by rw [lo _ (by omega) (by omega)]; exact h.2.2.2.1 p hp0) (fun p hp0 => lo _ (by omega) (by omega)) (fun i hi => ?_) (fun c hc => ?_)
  · rw [spE_1] at hi
    rw [lo 0 (by omega) (by omega), spE_mid (by omega) (by omega)]
    split
    · rw [Nat.add_assoc]; exact h.2.2.2.2.2.1 (i + 2) (by omega)
    · exact h.2.2.2.2.2.1 i (by omega)
  · rw [lo (112 + c) (by omega) (by omega), lo (352 + c) (by omega) (by omega), lo 0 (by omega) (by omega)]
    exact Ok_cells h hc
theorem BS_part {S : Nat → Nat} {j : Nat} (h : BS S) (h1 : S 1 ≤ 24) : BS (spartE S j) := by
  refine BS_up (BS_up (fun i hi => ?_) (by omega)) (by omega)
  unfold spart
  split
  · omega
  · split
    · exact h _ (by omega)
    · exact h i hi
section API6
variable {w : qS} {M : qM}
theorem ct_39 {S n : Nat → Nat} {j : Nat} (h : BD S n M) (hj : j < S 1) : gE w 39 0 [some (.ref 1), some (.int (iN j)), none] [] M (fun r M' => r = none ∧ fr [2, 4, 5, 9] M M' ∧ ∃ n', isNet (spartE S j 1) (spartE S j) n' ∧ BD (spartE S j) n' M') := by
  have h0 := h.1.1
  have h1 := h.1.2.1
  have hO := Ok_part h.1 hj
  refine wk_39_0 ?_
  rw [rb_jn h, show iN (S 1) - 1 = iN (S 1 - 1) from iN_sub (a := S 1) (b := 1) (by omega)]
  refine ev_for (S 1 - 1) (Inv := fun i loc M' => (j ≤ i ∧ fr [2, 4, 5] M M' ∧ M' 2 = ms M 2 7 (iN (S 1 - 1)) 2 ∧ ∀ k, k < 24 → (M' 4 k = if j ≤ k ∧ k < i then M 4 (k + 1) else M 4 k) ∧ (M' 5 k = if j ≤ k ∧ k < i then M 5 (k + 1) else M 5 k)) ∧ loc = [some (.ref 1), some (.int (iN j)), some (.int (iN i))]) ?_ ?_ j _ _ (by omega) ⟨⟨Nat.le_refl _, fr_ms (by decide), rfl, fun k _ => ?_⟩, rfl⟩
  · rintro i loc M1 hi ⟨⟨a0, a1, a2, a3⟩, rfl⟩ rec
    have e7 : M1 2 7 = iN (S 1 - 1) := by rw [a2, ms_at]
    refine wk_39_15 (fun c1 => absurd (by rw [e7]; exact (iN_lt (by omega) (by omega)).mpr hi) c1) (fun _ => by rw [iN_succ]; exact iN_in (by omega) (by omega)) (fun _ => iN_in (by omega) (by omega)) (fun _ => ?_)
    rw [iN_succ, iN_ix (by omega), iN_ix (by omega)]
    have e4 : M1 4 (i + 1) = M 4 (i + 1) := by rw [(a3 (i + 1) (by omega)).1, if_neg (by omega)]
    have e5 : M1 5 (i + 1) = M 5 (i + 1) := by rw [(a3 (i + 1) (by omega)).2, if_neg (by omega)]
    rw [ms_rows (show (5 : Nat) ≠ 4 by decide), e4, e5]
    refine rec _ _ ⟨⟨by omega, fr_tr a1 (fr_tr (fr_ms (by decide)) (fr_ms (by decide))), by rw [ms_rows (by decide), ms_rows (by decide)]; exact a2, fun k hk => ⟨?_, ?_⟩⟩, rfl⟩
    · rw [ms_rows (by decide), ms_get]
      by_cases x : k = i
      · rw [if_pos ⟨rfl, x⟩, x, if_pos ⟨a0, by omega⟩]
      · rw [if_neg (fun y => x y.2), (a3 k hk).1]
        by_cases y : j ≤ k ∧ k < i
        · rw [if_pos y, if_pos (by omega)]
        · rw [if_neg y, if_neg (by omega)]
    · rw [ms_get]
      by_cases x : k = i
      · rw [if_pos ⟨rfl, x⟩, x, if_pos ⟨a0, by omega⟩]
      · rw [if_neg (fun y => x y.2), ms_rows (by decide), (a3 k hk).2]
        by_cases y : j ≤ k ∧ k < i
        · rw [if_pos y, if_pos (by omega)]
        · rw [if_neg y, if_neg (by omega)]
  · rintro loc M1 ⟨⟨a0, a1, a2, a3⟩, rfl⟩
    have e7 : M1 2 7 = iN (S 1 - 1) := by rw [a2, ms_at]
    have lo : ∀ x, x ≠ 1 → x < 64 ∨ 112 ≤ x → spartE S j x = S x := fun x a b => spE_lo h1 hj a b
    have hno : ∀ {α : Prop}, iN (S 1 - 1) < M1 2 7 → α := fun c1 => by rw [e7] at c1; exact lt_no c1
    have hs : RS (spartE S j) M1 2 := by
      refine ⟨⟨?_, ?_, ?_⟩, fun k hk => ?_, fun k hk => ?_, fun k hk => ?_, fun c hc => ?_⟩
      · rw [a2, ms_row (by decide), lo 0 (by omega) (by omega)]; exact rb_pins h
      · rw [e7, spE_1]
      · rw [a2, ms_row (by decide), lo 2 (by omega) (by omega)]; exact rb_clr h
      · rw [lo 0 (by omega) (by omega)] at hk
        rw [a1 3 (by decide), lo _ (by omega) (by omega)]; exact rb_kind h hk
      · rw [spE_1] at hk
        have b := a3 k (by omega)
        rw [spE_mid (by omega) (by omega), spE_mid (by omega) (by omega)]
        show M1 4 k = _ ∧ M1 5 k = _
        by_cases y : j ≤ k
        · rw [b.1, b.2, if_pos (show j ≤ k ∧ k < S 1 - 1 from ⟨y, hk⟩), if_pos (show j ≤ k ∧ k < S 1 - 1 from ⟨y, hk⟩), if_pos (show 64 + 2 * j ≤ 64 + 2 * k by omega), if_pos (show 64 + 2 * j ≤ 64 + 2 * k + 1 by omega), rb_e1 h (by omega), rb_e2 h (by omega)]
          exact ⟨rfl, rfl⟩
        · rw [b.1, b.2, if_neg (show ¬ (j ≤ k ∧ k < S 1 - 1) from fun z => y z.1), if_neg (show ¬ (j ≤ k ∧ k < S 1 - 1) from fun z => y z.1), if_neg (show ¬ 64 + 2 * j ≤ 64 + 2 * k by omega), if_neg (show ¬ 64 + 2 * j ≤ 64 + 2 * k + 1 by omega), rb_e1 h (by omega), rb_e2 h (by omega)]
          exact ⟨rfl, rfl⟩
      · rw [a1 6 (by decide), a1 7 (by decide), lo _ (by omega) (by omega)]
        exact h.2.2.1.2.2.2.1 k hk
      · rw [a1 8 (by decide), hv_cg (hO.2 c) (lo _ (by omega) (by omega)) (lo _ (by omega) (by omega))]
        exact rb_hold h hc
    refine wk_39_15 (fun _ => ?_) (fun c1 => hno c1) (fun c1 => hno c1) (fun c1 => hno c1)
    refine (ct_40 hs hO.1.2.1 (fun i hi => Nat.lt_of_lt_of_le (hO.1.2.2.2.2.2.1 i hi) hO.1.1)).mono ?_
    rintro r M' ⟨rfl, g1, n', g2, g3⟩
    refine wk_39_76 ⟨rfl, fr_tr (fr_sub a1 (by intro q hq; simp only [List.mem_cons, List.not_mem_nil, or_false] at *; omega)) (fr_sub g1 (by intro q hq; simp only [List.mem_cons, List.not_mem_nil, or_false] at *; omega)), n', g2, hO.1, fun p hp => isNet_lt g2 hp, RS_fr hs (fun k hk => g1 _ (by simp only [List.mem_cons, List.not_mem_nil, or_false]; omega)), fun p hp => g3 p (Nat.lt_of_lt_of_le hp hO.1.1)⟩
  · rw [ms_rows (by decide), ms_rows (by decide), if_neg (by omega), if_neg (by omega)]
    exact ⟨rfl, rfl⟩
def StPart (A : qA) (x : Int32) (v : Int32) (A' : qA) : Prop := (¬ (¬ x < 0 ∧ x < iN (A.1 1)) ∧ v = -1 ∧ A' = A) ∨ ∃ j n', j < A.1 1 ∧ x = iN j ∧ v = iN (A.1 1 - 1) ∧ isNet (spartE A.1 j 1) (spartE A.1 j) n' ∧ Cm A (spartE A.1 j) n' A'
theorem cl_part {A : qA} {x : Int32} (hA : RA2 A) (h : RC A M) : gE w 2 0 [some (.ref 0), some (.int x)] [] M (CLp (StPart A x) M) := by
  have hb := RC_BD hA h
  have h1 := hA.1.1.2.1
  have e7 := rb_jn hb
  refine wk_2_0 (fun c1 => ⟨-1, A, rfl, Or.inl ⟨fun y => y.1 c1, rfl, rfl⟩, hA, h, fun _ _ => rfl⟩) (fun c1 c2 => ?_) (fun c1 c2 => ⟨-1, A, rfl, Or.inl ⟨fun y => c2 (by rw [e7]; exact y.2), rfl, rfl⟩, hA, h, fun _ _ => rfl⟩)
  rw [e7] at c2
  obtain ⟨j, hj, rfl⟩ := rng c1 c2 (by omega)
  refine (cl_begin hA.1 h).mono ?_
  rintro r M1 ⟨rfl, f1, t, f2⟩
  refine wk_2_34 ?_
  refine (ct_39 f2.1 hj).mono ?_
  rintro r M2 ⟨rfl, g1, n', g2, g3⟩
  obtain ⟨A', hC, hRA, hE⟩ := cl_done (w := w) hA f1 f2 g3 (fun q hq => g1 q (by simp only [List.mem_cons, List.not_mem_nil, or_false]; omega)) g2 (BS_part hA.2.1 h1) (fun _ y => by rw [spE_1] at y; omega)
  refine wk_2_42 (hE.mono ?_)
  rintro r M3 ⟨rfl, k1, k2⟩
  have e3 : M3 2 7 = iN (A.1 1 - 1) := by
    rw [rb_jn (RC_BD hRA k1), hC.1, spE_1]
  exact wk_2_56 ⟨_, A', rfl, Or.inr ⟨j, n', hj, rfl, e3, g2, hC⟩, hRA, k1, k2⟩
theorem rf_part {A A' : qA} {x v : Int32} (hA : RA2 A) (hSt : StPart A x v A') (h : RF A M) : gE w 88 0 [some (.ref 148), some (.int x), none] [] M (RFp v A' M) := by
  have h1 := hA.1.1.2.1
  have e1 : M 149 1 = iN (A.1 1) := h.1.1 1 (by omega)
  rcases hSt with ⟨g, rfl, rfl⟩ | ⟨j, n', hj, rfl, rfl, gn, hC⟩
  · exact wk_88_0 (fun _ => ⟨rfl, h, fun _ _ => rfl⟩) (fun c1 c2 => absurd ⟨c1, by rw [← e1]; exact c2⟩ g) (fun _ _ => ⟨rfl, h, fun _ _ => rfl⟩)
  · refine wk_88_0 (fun c1 => absurd c1 (iN_nn (by omega))) (fun _ _ => ?_) (fun _ c2 => absurd (by rw [e1]; exact (iN_lt (by omega) (by omega)).mpr hj) c2)
    refine (rf_begin h).mono ?_
    rintro r M1 ⟨rfl, f1, f2, f3⟩
    have e1 : M1 149 1 = iN (A.1 1) := f3.1 1 (by omega)
    have i2 : ∀ k, iN 2 * iN k = iN (2 * k) := fun k => iN_mul 2 k
    refine wk_88_20 ?_
    rw [e1, i2, show iN (A.1 1) - 1 = iN (A.1 1 - 1) from iN_sub (a := A.1 1) (b := 1) (by omega)]
    refine ev_for (2 * (A.1 1 - 1)) (Inv := fun i loc M' => (2 * j ≤ i ∧ fr [149] M1 M' ∧ NW (spart A.1 j i) M') ∧ loc = [some (.ref 148), some (.int (iN j)), some (.int (iN i))]) ?_ ?_ (2 * j) _ _ (by omega) ⟨⟨Nat.le_refl _, fr_ms (by decide), fun i hi => ?_⟩, rfl⟩
    · rintro i loc M2 hi ⟨⟨a0, a1, a2⟩, rfl⟩ rec
      have b1 : M2 149 1 = iN (A.1 1 - 1) := by rw [a2 1 (by omega), sp_1]
      have i3 : iN 64 + iN i + iN 2 = iN (64 + i + 2) := by rw [iN_add, iN_add]
      refine wk_88_34 (fun c1 => absurd (by rw [b1, i2]; exact (iN_lt (by omega) (by omega)).mpr hi) c1) (fun c1 => absurd (by rw [b1, i2]; exact (iN_lt (by omega) (by omega)).mpr hi) c1) (fun c1 => absurd (by rw [b1, i2]; exact (iN_lt (by omega) (by omega)).mpr hi) c1) (fun _ => by rw [i3]; exact iN_in (by omega) (by omega)) (fun _ => by rw [iN_add]; exact iN_in (by omega) (by omega)) (fun _ => ?_)
      rw [i3, iN_add 64 i, iN_ix (by omega), iN_ix (by omega), iN_succ, a2 (64 + i + 2) (by omega), sp_out (by omega) (by omega)]
      refine rec _ _ ⟨⟨by omega, fr_tr a1 (fr_ms (by decide)), fun k hk => ?_⟩, rfl⟩
      rw [ms_get]
      by_cases x : k = 64 + i
      · rw [if_pos ⟨rfl, x⟩, x, sp_in (by omega) (by omega)]
      · rw [if_neg (fun y => x y.2), a2 k hk]
        congr 1
        unfold spart
        by_cases z : k = 1
        · rw [if_pos z, if_pos z]
        · rw [if_neg z, if_neg z]
          by_cases u : 64 + 2 * j ≤ k ∧ k < 64 + i
          · rw [if_pos u, if_pos (by omega)]
          · rw [if_neg u, if_neg (by omega)]
    · rintro loc M2 ⟨⟨a0, a1, a2⟩, rfl⟩
      have b1 : M2 149 1 = iN (A.1 1 - 1) := by rw [a2 1 (by omega), sp_1]
      have hno : ∀ {α : Prop}, iN (2 * (A.1 1 - 1)) < iN 2 * M2 149 1 → α := fun c1 => by rw [b1, i2] at c1; exact lt_no c1
      refine wk_88_34 (fun _ => by rw [b1, i2, iN_add]; exact iN_in (by omega) (by omega)) (fun _ => ?_) (fun _ => ?_) (fun c1 => hno c1) (fun c1 => hno c1) (fun c1 => hno c1)
      · rw [b1, i2, iN_add, iN_ix (by omega), ms_row (by omega), b1, i2, iN_add, iN_succ]
        exact iN_in (by omega) (by omega)
      · rw [b1, i2, iN_add 64 (2 * (A.1 1 - 1)), iN_ix (by omega), ms_row (show (1 : Nat) ≠ 64 + 2 * (A.1 1 - 1) by omega), b1, i2, iN_add 64 (2 * (A.1 1 - 1)), iN_succ, iN_ix (by omega)]
        have hO := Ok_part hA.1.1 hj
        refine (rf_done hA hC hO.1 gn (BS_part hA.2.1 h1) f1 f2 f3 (NW_up (v := 0) (NW_up (v := 0) a2)) (fr_tr a1 (fr_tr (fr_ms (by decide)) (fr_ms (by decide))))).mono ?_
        rintro r M3 ⟨rfl, l1, l2⟩
        have e3 : M3 149 1 = iN (A.1 1 - 1) := by
          rw [l1.1.1 1 (by omega), hC.1, spE_1]
        exact wk_88_112 ⟨by rw [e3], l1, l2⟩
    · rw [ms_get]
      by_cases x : i = 1
      · rw [if_pos ⟨rfl, x⟩, x, sp_1]
      · rw [if_neg (fun y => x y.2), f3.1 i hi, sp_out x (by omega)]
end API6
