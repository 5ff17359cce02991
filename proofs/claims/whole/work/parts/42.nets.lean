/-! The class: names of nets. -/
theorem ms_get (M : qM) (q j a i : Nat) (v : Int32) : ms M q j v a i = if a = q ∧ i = j then v else M a i := by
  by_cases e : a = q
  · subst e
    by_cases f : i = j
    · subst f; rw [ms_at, if_pos ⟨rfl, rfl⟩]
    · rw [ms_row f, if_neg (fun x => f x.2)]
  · rw [ms_ne e, if_neg (fun x => e x.1)]
theorem iN_max (a b : Nat) (ha : a < 2 ^ 31) (hb : b < 2 ^ 31) : (if iN a < iN b then iN b else iN a) = iN (if a < b then b else a) := by
  by_cases h : a < b
  · rw [if_pos h, if_pos ((iN_lt ha hb).mpr h)]
  · rw [if_neg h, if_neg (fun x => h ((iN_lt ha hb).mp x))]
theorem iN_min (a b : Nat) (ha : a < 2 ^ 31) (hb : b < 2 ^ 31) : (if iN b < iN a then iN b else iN a) = iN (if b < a then b else a) := by
  by_cases h : b < a
  · rw [if_pos h, if_pos ((iN_lt hb ha).mpr h)]
  · rw [if_neg h, if_neg (fun x => h ((iN_lt hb ha).mp x))]
section BNETS
variable {w : qS} {M : qM}
theorem ct_41 {f : Nat → Nat} {a b : Nat} (hf : ∀ p, p < 16 → M 9 p = iN (f p)) (hl : ∀ p, p < 16 → f p < 16) (ha : a < 16) :
    gE w 41 0 [some (.ref 1), some (.int (iN a)), some (.int (iN b)), none] [] M (fun r M' => r = none ∧ fr [9] M M' ∧ ∀ p, p < 16 → M' 9 p = iN (nnRen f a b p)) := by
  refine wk_41_0 ?_
  refine ev_for 16 (Inv := fun i loc M' => (fr [9] M M' ∧ ∀ p, p < 16 → M' 9 p = iN (if p < i then nnRen f a b p else f p)) ∧ loc = [some (.ref 1), some (.int (iN a)), some (.int (iN b)), some (.int (iN i))]) ?_ ?_ 0 _ _ (Nat.zero_le _) ⟨⟨fr_rfl, fun p hp => by rw [if_neg (by omega)]; exact hf p hp⟩, rfl⟩
  · rintro i loc M' hi ⟨⟨h1, h2⟩, rfl⟩ rec
    have e := h2 i hi
    rw [if_neg (by omega)] at e
    have hfi := hl i hi
    refine wk_41_2 (fun c1 => absurd ((iN_lt (by omega) (by omega)).mpr hi) c1) (fun _ => iN_in hi (by omega)) (fun _ c2 => ?_) (fun _ c2 => ?_)
    · rw [iN_ix (by omega), e, iN_eq (by omega) (by omega)] at c2
      rw [iN_succ]
      refine rec _ _ ⟨⟨h1, fun p hp => ?_⟩, rfl⟩
      rw [h2 p hp]
      by_cases c : p = i
      · subst c
        rw [if_neg (by omega), if_pos (by omega)]
        unfold nnRen
        rw [if_neg c2]
      · by_cases d : p < i
        · rw [if_pos d, if_pos (by omega)]
        · rw [if_neg d, if_neg (by omega)]
    · rw [iN_ix (by omega), e, iN_eq (by omega) (by omega)] at c2
      rw [iN_succ, iN_ix (by omega)]
      refine rec _ _ ⟨⟨fr_tr h1 (fr_ms (by decide)), fun p hp => ?_⟩, rfl⟩
      rw [ms_get]
      by_cases c : p = i
      · subst c
        rw [if_pos ⟨rfl, rfl⟩, if_pos (by omega)]
        unfold nnRen
        rw [if_pos c2]
      · rw [if_neg (fun x => c x.2), h2 p hp]
        by_cases d : p < i
        · rw [if_pos d, if_pos (by omega)]
        · rw [if_neg d, if_neg (by omega)]
  · rintro loc M' ⟨⟨h1, h2⟩, rfl⟩
    refine wk_41_2 (fun c1 => ⟨rfl, h1, fun p hp => ?_⟩) (fun c1 => absurd ((iN_lt (by omega) (by omega)).mp c1) (by omega)) (fun c1 => absurd ((iN_lt (by omega) (by omega)).mp c1) (by omega)) (fun c1 => absurd ((iN_lt (by omega) (by omega)).mp c1) (by omega))
    rw [h2 p hp, if_pos hp]
theorem ct_40 {S : Nat → Nat} (hR : RS S M 2) (h1 : S 1 ≤ 24) (he : ∀ i, i < 2 * S 1 → S (64 + i) < 16) :
    gE w 40 0 [some (.ref 1), none, none, none] [] M (fun r M' => r = none ∧ fr [9] M M' ∧ ∃ n, isNet (S 1) S n ∧ ∀ p, p < 16 → M' 9 p = iN (n p)) := by
  refine wk_40_0 ?_
  refine ev_for 16 (Inv := fun i loc M' => (fr [9] M M' ∧ ∀ p, p < i → M' 9 p = iN p) ∧ ∃ o2 o3, loc = [some (.ref 1), some (.int (iN i)), o2, o3]) ?_ ?_ 0 _ _ (Nat.zero_le _) ⟨⟨fr_rfl, fun p hp => absurd hp (by omega)⟩, _, _, rfl⟩
  · rintro i loc M' hi ⟨⟨a1, a2⟩, o2, o3, rfl⟩ rec
    refine wk_40_2 (fun c1 => absurd ((iN_lt (by omega) (by omega)).mpr hi) c1) (fun _ => iN_in hi (by omega)) (fun _ => ?_)
    rw [iN_succ, iN_ix (by omega)]
    refine rec _ _ ⟨⟨fr_tr a1 (fr_ms (by decide)), fun p hp => ?_⟩, _, _, rfl⟩
    rw [ms_get]
    by_cases c : p = i
    · subst c; rw [if_pos ⟨rfl, rfl⟩]
    · rw [if_neg (fun x => c x.2), a2 p (by omega)]
  · rintro loc M' ⟨⟨a1, a2⟩, o2, o3, rfl⟩
    refine wk_40_2 (fun _ => ?_) (fun c1 => absurd ((iN_lt (by omega) (by omega)).mp c1) (by omega)) (fun c1 => absurd ((iN_lt (by omega) (by omega)).mp c1) (by omega))
    refine ev_for (S 1) (Inv := fun j loc M1 => (fr [9] M M1 ∧ ∃ f, isNet j S f ∧ ∀ p, p < 16 → M1 9 p = iN (f p)) ∧ ∃ o2 o3, loc = [some (.ref 1), some (.int (iN j)), o2, o3]) ?_ ?_ 0 _ _ (Nat.zero_le _) ⟨⟨a1, fun p => p, isNet_zero S, a2⟩, _, _, rfl⟩
    · rintro j loc M1 hj ⟨⟨b1, f, hf, b2⟩, o2, o3, rfl⟩ rec
      have ej : M1 2 7 = iN (S 1) := by rw [b1 2 (by decide)]; exact hR.1.2.1
      have e1 : M1 4 j = iN (S (64 + 2 * j)) := by rw [b1 4 (by decide)]; exact (hR.2.2.1 j hj).1
      have e2 : M1 5 j = iN (S (64 + 2 * j + 1)) := by rw [b1 5 (by decide)]; exact (hR.2.2.1 j hj).2
      have p1 := he (2 * j) (by omega)
      have p2 := he (2 * j + 1) (by omega)
      rw [← Nat.add_assoc] at p2
      have q1 := isNet_lt hf p1
      have q2 := isNet_lt hf p2
      refine wk_40_23 (fun c1 => absurd (by rw [ej]; exact (iN_lt (by omega) (by omega)).mpr hj) c1) (fun _ => iN_in (by omega) (by omega)) (fun _ => ?_) (fun _ => ?_) (fun _ => ?_)
      · rw [iN_ix (by omega), e1]; exact iN_in p1 (by omega)
      · rw [iN_ix (by omega), e2]; exact iN_in p2 (by omega)
      · rw [iN_ix (by omega), e1, e2, iN_ix (by omega), iN_ix (by omega), b2 _ p1, b2 _ p2, iN_max _ _ (by omega) (by omega), iN_min _ _ (by omega) (by omega)]
        refine (ct_41 b2 (fun p hp => isNet_lt hf hp) (by split <;> omega)).mono ?_
        rintro r M2 ⟨rfl, d1, d2⟩
        refine wk_40_78 ?_
        rw [iN_succ]
        exact rec _ _ ⟨⟨fr_tr b1 d1, _, isNet_succ hf p1 p2, d2⟩, _, _, rfl⟩
    · rintro loc M1 ⟨⟨b1, f, hf, b2⟩, o2, o3, rfl⟩
      have ej : M1 2 7 = iN (S 1) := by rw [b1 2 (by decide)]; exact hR.1.2.1
      refine wk_40_23 (fun _ => ⟨rfl, b1, f, hf, b2⟩) (fun c1 => absurd (by rw [ej] at c1; exact (iN_lt (by omega) (by omega)).mp c1) (by omega)) (fun c1 => absurd (by rw [ej] at c1; exact (iN_lt (by omega) (by omega)).mp c1) (by omega)) (fun c1 => absurd (by rw [ej] at c1; exact (iN_lt (by omega) (by omega)).mp c1) (by omega)) (fun c1 => absurd (by rw [ej] at c1; exact (iN_lt (by omega) (by omega)).mp c1) (by omega))
end BNETS
