/-! The class: the lanes. -/
def LN (C : Nat → Nat) (T : Nat → Prop) (hd tl : Nat → Nat) (q : Nat → Nat → Nat) (M : qM) : Prop := (∀ c, c < 240 → M 16 c = iN (C c)) ∧ (∀ c, c < 240 → M 24 c = bi (T c)) ∧ (∀ l, l < 3 → M 22 l = iN (hd l) ∧ M 23 l = iN (tl l)) ∧ ∀ l i, l < 3 → i < tl l → M (19 + l) i = iN (q l i)
/-- bounds that go with it -/
def LB (C hd tl : Nat → Nat) (q : Nat → Nat → Nat) : Prop := (∀ c, c < 240 → C c ≤ 1000000) ∧ (∀ l, l < 3 → hd l ≤ tl l ∧ tl l ≤ 240) ∧ ∀ l i, l < 3 → i < tl l → q l i < 240
section BLANES
variable {w : qS} {M : qM}
theorem ct_122 {q0 n : Nat} {x : Int32} (hq : gL w q0 = .inl (0, n)) (hn : n < 2 ^ 31) : gE w 122 0 [some (.ref q0), some (.int x), none, none] [] M (fun r M' => r = none ∧ fr [q0] M M' ∧ ∀ j, j < n → M' q0 j = x) := by
  refine wk_122_0 hq ?_
  refine ev_for n (Inv := fun i loc M' => (fr [q0] M M' ∧ ∀ j, j < i → M' q0 j = x) ∧ loc = [some (.ref q0), some (.int x), some (.int (iN i)), some (.int (iN n))]) ?_ ?_ 0 _ _ (Nat.zero_le _) ⟨⟨fr_rfl, fun j hj => absurd hj (by omega)⟩, rfl⟩
  · rintro i loc M' hi ⟨⟨a1, a2⟩, rfl⟩ rec
    refine wk_122_5 hq (fun c1 => absurd ((iN_lt (by omega) hn).mpr hi) c1) (fun _ => iN_in hi (by omega)) (fun _ => ?_)
    rw [iN_succ, iN_ix (by omega)]
    refine rec _ _ ⟨⟨fr_tr a1 (fr_ms List.mem_cons_self), fun j hj => ?_⟩, rfl⟩
    rw [ms_get]
    by_cases y : j = i
    · rw [if_pos ⟨rfl, y⟩]
    · rw [if_neg (fun k => y k.2), a2 j (by omega)]
  · rintro loc M' ⟨⟨a1, a2⟩, rfl⟩
    exact wk_122_5 hq (fun _ => ⟨rfl, a1, a2⟩) (fun c1 => absurd ((iN_lt hn hn).mp c1) (by omega)) (fun c1 => absurd ((iN_lt hn hn).mp c1) (by omega))
theorem ct_73 : gE w 73 0 [some (.ref 17), none] [] M (fun r M' => r = none ∧ fr [22, 23, 24] M M' ∧ (∀ l, l < 3 → M' 22 l = 0 ∧ M' 23 l = 0) ∧ ∀ c, c < 240 → M' 24 c = 0) := by
  refine wk_73_0 ((ct_122 (n := 3) rfl (by decide)).mono ?_)
  rintro r M1 ⟨rfl, a1, a2⟩
  refine wk_73_8 ((ct_122 (n := 3) rfl (by decide)).mono ?_)
  rintro r M2 ⟨rfl, b1, b2⟩
  refine wk_73_16 ?_
  have f2 : fr [22, 23, 24] M M2 := fr_tr (fr_sub a1 (by decide)) (fr_sub b1 (by decide))
  have z2 : ∀ l, l < 3 → M2 22 l = 0 ∧ M2 23 l = 0 := fun l hl => ⟨by rw [b1 22 (by decide)]; exact a2 l hl, b2 l hl⟩
  refine ev_for 240 (Inv := fun i loc M' => (fr [22, 23, 24] M M' ∧ (∀ l, l < 3 → M' 22 l = 0 ∧ M' 23 l = 0) ∧ ∀ j, j < i → M' 24 j = 0) ∧ loc = [some (.ref 17), some (.int (iN i))]) ?_ ?_ 0 _ _ (Nat.zero_le _) ⟨⟨f2, z2, fun j hj => absurd hj (by omega)⟩, rfl⟩
  · rintro i loc M' hi ⟨⟨c1, c2, c3⟩, rfl⟩ rec
    refine wk_73_18 (fun c1 => absurd ((iN_lt (by omega) (by omega)).mpr hi) c1) (fun _ => iN_in hi (by omega)) (fun _ => ?_)
    rw [iN_succ, iN_ix (by omega)]
    refine rec _ _ ⟨⟨fr_tr c1 (fr_ms (by decide)), fun l hl => by rw [ms_ne (by decide), ms_ne (by decide)]; exact c2 l hl, fun j hj => ?_⟩, rfl⟩
    rw [ms_get]
    by_cases y : j = i
    · rw [if_pos ⟨rfl, y⟩]
    · rw [if_neg (fun k => y k.2), c3 j (by omega)]
  · rintro loc M' ⟨⟨c1, c2, c3⟩, rfl⟩
    exact wk_73_18 (fun _ => ⟨rfl, c1, c2, c3⟩) (fun c1 => absurd ((iN_lt (by omega) (by omega)).mp c1) (by omega)) (fun c1 => absurd ((iN_lt (by omega) (by omega)).mp c1) (by omega))
theorem ct_74 {C : Nat → Nat} {T : Nat → Prop} {hd tl : Nat → Nat} {q : Nat → Nat → Nat} {l c : Nat} (h : LN C T hd tl q M) (hl : l < 3) (ht : tl l < 240) :
    gE w 74 0 [some (.ref 17), some (.int (iN l)), some (.int (iN c))] [] M (fun r M' => r = none ∧ fr [19, 20, 21, 23] M M' ∧ LN C T hd (up1 tl l (tl l + 1)) (fun l' => if l' = l then up1 (q l') (tl l') c else q l') M') := by
  obtain ⟨h1, h2, h3, h4⟩ := h
  have e : M 23 (iN l).toNatClampNeg = iN (tl l) := by rw [iN_ix (by omega)]; exact (h3 l hl).2
  refine wk_74_0 (iN_in hl (by omega)) (fun c1 => absurd (by rw [e]; exact (iN_lt (by omega) (by omega)).mpr ht) c1) (fun _ => by rw [e]; exact iN_in ht (by omega)) (fun _ => ?_)
  have e2 : ms M (19 + (iN l).toNatClampNeg) (M 23 (iN l).toNatClampNeg).toNatClampNeg (iN c) 23 (iN l).toNatClampNeg = iN (tl l) := by rw [iN_ix (by omega), ms_ne (by omega)]; exact (h3 l hl).2
  rw [e2, e, iN_ix (by omega), iN_ix (by omega), iN_succ]
  refine ⟨rfl, fr_tr (fr_ms ?_) (fr_ms (by decide)), fun x hx => ?_, fun x hx => ?_, fun l' hl' => ⟨?_, ?_⟩, fun l' i hl' hi => ?_⟩
  · match l, hl with
    | 0, _ => decide
    | 1, _ => decide
    | 2, _ => decide
  · rw [ms_ne (by decide), ms_ne (by omega)]; exact h1 x hx
  · rw [ms_ne (by decide), ms_ne (by omega)]; exact h2 x hx
  · rw [ms_ne (by decide), ms_ne (by omega)]; exact (h3 l' hl').1
  · rw [ms_get]
    by_cases y : l' = l
    · rw [if_pos ⟨rfl, y⟩, y, up1_at]
    · rw [if_neg (fun k => y k.2), ms_ne (by omega), up1_ne y]; exact (h3 l' hl').2
  · rw [ms_ne (by omega), ms_get]
    by_cases y : l' = l
    · subst y
      rw [up1_at] at hi
      dsimp only
      rw [if_pos (rfl : l' = l')]
      by_cases z : i = tl l'
      · rw [if_pos ⟨rfl, z⟩, z, up1_at]
      · rw [if_neg (fun k => z k.2), up1_ne z]; exact h4 l' i hl' (by omega)
    · rw [up1_ne y] at hi
      dsimp only
      rw [if_neg (show ¬ (19 + l' = 19 + l ∧ i = tl l) from fun k => y (by omega)), if_neg y]; exact h4 l' i hl' hi
theorem ct_76 {C : Nat → Nat} {T : Nat → Prop} {hd tl : Nat → Nat} {q : Nat → Nat → Nat} {l : Nat} (h : LN C T hd tl q M) (hb : LB C hd tl q) (hl : l < 3) :
    gE w 76 0 [some (.ref 17), some (.int (iN l))] [] M (fun r M' => fr [22] M M' ∧ ∃ h1, hd l ≤ h1 ∧ h1 ≤ tl l ∧ (∀ i, hd l ≤ i → i < h1 → T (q l i)) ∧ (h1 < tl l → ¬ T (q l h1)) ∧ LN C T (up1 hd l h1) tl q M' ∧ r = some (.int (if h1 < tl l then iN (q l h1) else -1))) := by
  have hb2 := hb.2.1 l hl
  refine ev_loop (Inv := fun k loc M' => ∃ h1, k = tl l - h1 ∧ hd l ≤ h1 ∧ h1 ≤ tl l ∧ (∀ i, hd l ≤ i → i < h1 → T (q l i)) ∧ fr [22] M M' ∧ LN C T (up1 hd l h1) tl q M' ∧ loc = [some (.ref 17), some (.int (iN l))]) ?_ (tl l - hd l) _ _ ⟨hd l, rfl, Nat.le_refl _, hb2.1, fun i h1 h2 => absurd h1 (by omega), fr_rfl, ?_, rfl⟩
  · rintro k loc M' ⟨h1, rfl, a1, a2, a3, a4, a5, rfl⟩ rec
    obtain ⟨b1, b2, b3, b4⟩ := a5
    have e22 : M' 22 (iN l).toNatClampNeg = iN h1 := by rw [iN_ix (by omega), (b3 l hl).1, up1_at]
    have e23 : M' 23 (iN l).toNatClampNeg = iN (tl l) := by rw [iN_ix (by omega), (b3 l hl).2]
    by_cases c : h1 < tl l
    · have hq := hb.2.2 l h1 hl c
      have eq : M' (19 + (iN l).toNatClampNeg) (M' 22 (iN l).toNatClampNeg).toNatClampNeg = iN (q l h1) := by rw [e22, iN_ix (by omega), iN_ix (by omega), b4 l h1 hl c]
      have hlt : M' 22 (iN l).toNatClampNeg < M' 23 (iN l).toNatClampNeg := by rw [e22, e23]; exact (iN_lt (by omega) (by omega)).mpr c
      refine wk_76_0 (iN_in hl (by omega)) (fun c1 => absurd hlt c1) (fun c1 => absurd hlt c1) (fun _ => by rw [e22]; exact iN_in (by omega) (by omega)) (fun _ => by rw [eq]; exact iN_in hq (by omega)) (fun _ c3 => ?_) (fun _ c3 => ?_)
      · rw [eq, iN_ix (by omega), b2 _ hq] at c3
        refine ⟨a4, h1, a1, a2, a3, fun _ => bi_eq c3, ⟨b1, b2, b3, b4⟩, ?_⟩
        rw [if_pos hlt, eq, if_pos c]
      · rw [eq, iN_ix (by omega), b2 _ hq] at c3
        rw [e22, iN_succ, iN_ix (by omega)]
        refine rec (tl l - (h1 + 1)) _ _ (by omega) ⟨h1 + 1, rfl, by omega, by omega, fun i i1 i2 => ?_, fr_tr a4 (fr_ms (by decide)), ⟨fun x hx => by rw [ms_ne (by decide)]; exact b1 x hx, fun x hx => by rw [ms_ne (by decide)]; exact b2 x hx, fun l' hl' => ⟨?_, by rw [ms_ne (by decide)]; exact (b3 l' hl').2⟩, fun l' i hl' hi => by rw [ms_ne (by omega)]; exact b4 l' i hl' hi⟩, rfl⟩
        · by_cases y : i = h1
          · rw [y]; exact bi_ne c3
          · exact a3 i i1 (by omega)
        · rw [ms_get]
          by_cases y : l' = l
          · rw [if_pos ⟨rfl, y⟩, y, up1_at]
          · have := (b3 l' hl').1
            rw [up1_ne y] at this
            rw [if_neg (fun k => y k.2), up1_ne y]; exact this
    · have hge : ¬ M' 22 (iN l).toNatClampNeg < M' 23 (iN l).toNatClampNeg := by rw [e22, e23]; exact fun x => c ((iN_lt (by omega) (by omega)).mp x)
      refine wk_76_0 (iN_in hl (by omega)) (fun _ => ?_) (fun _ c2 => absurd c2 hge) (fun c1 => absurd c1 hge) (fun c1 => absurd c1 hge) (fun c1 => absurd c1 hge) (fun c1 => absurd c1 hge)
      refine ⟨a4, h1, a1, a2, a3, fun x => absurd x c, ⟨b1, b2, b3, b4⟩, ?_⟩
      rw [if_neg hge, if_neg c]
  · refine ⟨h.1, h.2.1, fun l' hl' => ⟨?_, (h.2.2.1 l' hl').2⟩, h.2.2.2⟩
    by_cases y : l' = l
    · rw [y, up1_at]; exact (h.2.2.1 l hl).1
    · rw [up1_ne y]; exact (h.2.2.1 l' hl').1
/-- heads have moved over taken cells alone -/
def hdM (T : Nat → Prop) (hd hd' tl : Nat → Nat) (q : Nat → Nat → Nat) : Prop := ∀ l, l < 3 → hd l ≤ hd' l ∧ hd' l ≤ tl l ∧ ∀ i, hd l ≤ i → i < hd' l → T (q l i)
theorem ct_75 {C : Nat → Nat} {T : Nat → Prop} {hd tl : Nat → Nat} {q : Nat → Nat → Nat} (h : LN C T hd tl q M) (hb : LB C hd tl q) :
    gE w 75 0 [some (.ref 17), some (.ref 16), none, none, none] [] M (fun r M' => fr [22, 24] M M' ∧ ∃ hd', hdM T hd hd' tl q ∧ ((r = some (.int (-1)) ∧ (∀ l, l < 3 → ¬ hd' l < tl l) ∧ LN C T hd' tl q M') ∨ ∃ b l0, r = some (.int (iN b)) ∧ l0 < 3 ∧ hd' l0 < tl l0 ∧ b = q l0 (hd' l0) ∧ (∀ l, l < 3 → hd' l < tl l → ¬ T (q l (hd' l)) ∧ C b ≤ C (q l (hd' l))) ∧ LN C (fun c => T c ∨ c = b) hd' tl q M')) := by
  refine wk_75_0 ?_
  refine ev_for 3 (Inv := fun l loc M' => fr [22, 24] M M' ∧ ∃ hd' x2 o4, loc = [some (.ref 17), some (.ref 16), some (.int x2), some (.int (iN l)), o4] ∧ hdM T hd hd' tl q ∧ LN C T hd' tl q M' ∧ (∀ l', l ≤ l' → hd' l' = hd l') ∧ (∀ l', l' < l → hd' l' < tl l' → ¬ T (q l' (hd' l'))) ∧ ((x2 = -1 ∧ ∀ l', l' < l → ¬ hd' l' < tl l') ∨ ∃ b l0, x2 = iN b ∧ l0 < l ∧ hd' l0 < tl l0 ∧ b = q l0 (hd' l0) ∧ ∀ l', l' < l → hd' l' < tl l' → C b ≤ C (q l' (hd' l')))) ?_ ?_ 0 _ _ (Nat.zero_le _) ⟨fr_rfl, hd, _, _, rfl, fun l hl => ⟨Nat.le_refl _, (hb.2.1 l hl).1, fun i h1 h2 => absurd h1 (by omega)⟩, h, fun _ _ => rfl, fun l' hl' => absurd hl' (by omega), Or.inl ⟨rfl, fun l' hl' => absurd hl' (by omega)⟩⟩
  · rintro l loc M' hl ⟨a1, hd', x2, o4, rfl, a2, a3, a4, a5, a6⟩ rec
    have hb' : LB C hd' tl q := ⟨hb.1, fun l' hl' => ⟨(a2 l' hl').2.1, (hb.2.1 l' hl').2⟩, hb.2.2⟩
    refine wk_75_4 (fun c1 => absurd ((iN_lt (by omega) (by omega)).mpr hl) c1) (fun c1 => absurd ((iN_lt (by omega) (by omega)).mpr hl) c1) (fun c1 => absurd ((iN_lt (by omega) (by omega)).mpr hl) c1) (fun _ => ?_)
    refine (ct_76 a3 hb' hl).mono ?_
    rintro r M2 ⟨b1, h1, b2, b3, b4, b5, b6, rfl⟩
    show gE w 75 14 _ [.int (if h1 < tl l then iN (q l h1) else -1)] M2 _
    have e4 := a4 l (Nat.le_refl _)
    have hf2 : fr [22, 24] M M2 := fr_tr a1 (fr_sub b1 (by decide))
    have hM2 : hdM T hd (up1 hd' l h1) tl q := by
      intro l' hl'
      by_cases y : l' = l
      · subst y; rw [up1_at]; exact ⟨by omega, b3, fun i i1 i2 => b4 i (by omega) i2⟩
      · rw [up1_ne y]; exact a2 l' hl'
    have hkeep : ∀ l', l + 1 ≤ l' → up1 hd' l h1 l' = hd l' := fun l' hl' => by rw [up1_ne (by omega)]; exact a4 l' (by omega)
    have hnT : ∀ l', l' < l + 1 → up1 hd' l h1 l' < tl l' → ¬ T (q l' (up1 hd' l h1 l')) := by
      intro l' hl' hx
      by_cases y : l' = l
      · subst y; rw [up1_at] at hx ⊢; exact b5 hx
      · rw [up1_ne y] at hx ⊢; exact a5 l' (by omega) hx
    by_cases c : h1 < tl l
    · have hq := hb.2.2 l h1 hl c
      rw [if_pos c]
      have ns : ¬ iN (q l h1) = -1 := fun x => iN_nn (a := q l h1) (by omega) (by rw [x]; decide)
      refine wk_75_14 ?_ (fun _ _ => iN_in hq (by omega)) (fun _ c2 => ?_)
      · rw [iN_succ, if_neg ns]
        rcases a6 with ⟨rfl, a7⟩ | ⟨b, l0, rfl, a7, a8, a9, a10⟩
        · rw [if_pos rfl]
          refine rec _ _ ⟨hf2, up1 hd' l h1, _, _, rfl, hM2, b6, hkeep, hnT, Or.inr ⟨q l h1, l, rfl, by omega, by rw [up1_at]; exact c, by rw [up1_at], fun l' hl' hx => ?_⟩⟩
          by_cases y : l' = l
          · subst y; rw [up1_at]; exact Nat.le_refl _
          · rw [up1_ne y] at hx; exact absurd hx (a7 l' (by omega))
        · have hbq : b < 240 := by rw [a9]; exact hb.2.2 l0 _ (by omega) a8
          have nb : ¬ iN b = -1 := fun x => iN_nn (a := b) (by omega) (by rw [x]; decide)
          have l1 := hb.1 b hbq
          have l2 := hb.1 _ hq
          rw [if_neg nb, iN_ix (by omega), iN_ix (by omega), b6.1 _ hq, b6.1 _ hbq]
          by_cases d : C (q l h1) < C b
          · rw [if_pos ((iN_lt (by omega) (by omega)).mpr d)]
            refine rec _ _ ⟨hf2, up1 hd' l h1, _, _, rfl, hM2, b6, hkeep, hnT, Or.inr ⟨q l h1, l, rfl, by omega, by rw [up1_at]; exact c, by rw [up1_at], fun l' hl' hx => ?_⟩⟩
            by_cases y : l' = l
            · subst y; rw [up1_at]; exact Nat.le_refl _
            · rw [up1_ne y] at hx ⊢
              have := a10 l' (by omega) hx
              omega
          · rw [if_neg (fun x => d ((iN_lt (by omega) (by omega)).mp x))]
            refine rec _ _ ⟨hf2, up1 hd' l h1, _, _, rfl, hM2, b6, hkeep, hnT, Or.inr ⟨b, l0, rfl, by omega, by rw [up1_ne (by omega)]; exact a8, by rw [up1_ne (by omega)]; exact a9, fun l' hl' hx => ?_⟩⟩
            by_cases y : l' = l
            · subst y; rw [up1_at]; omega
            · rw [up1_ne y] at hx ⊢
              exact a10 l' (by omega) hx
      · rcases a6 with ⟨rfl, a7⟩ | ⟨b, l0, rfl, a7, a8, a9, a10⟩
        · exact absurd rfl c2
        · rw [a9]; exact iN_in (hb.2.2 l0 _ (by omega) a8) (by have := hb.2.2 l0 _ (by omega) a8; omega)
    · rw [if_neg c]
      refine wk_75_14 ?_ (fun c1 => absurd rfl c1) (fun c1 => absurd rfl c1)
      rw [iN_succ, if_pos rfl]
      refine rec _ _ ⟨hf2, up1 hd' l h1, x2, _, rfl, hM2, b6, hkeep, hnT, ?_⟩
      rcases a6 with ⟨e, a7⟩ | ⟨b, l0, e, a7, a8, a9, a10⟩
      · refine Or.inl ⟨e, fun l' hl' => ?_⟩
        by_cases y : l' = l
        · subst y; rw [up1_at]; exact c
        · rw [up1_ne y]; exact a7 l' (by omega)
      · refine Or.inr ⟨b, l0, e, by omega, by rw [up1_ne (by omega)]; exact a8, by rw [up1_ne (by omega)]; exact a9, fun l' hl' hx => ?_⟩
        by_cases y : l' = l
        · subst y; rw [up1_at] at hx; exact absurd hx c
        · rw [up1_ne y] at hx ⊢; exact a10 l' (by omega) hx
  · rintro loc M' ⟨a1, hd', x2, o4, rfl, a2, a3, a4, a5, a6⟩
    refine wk_75_4 (fun _ c2 => ?_) (fun _ c2 => ?_) (fun _ c2 => ?_) (fun c1 => absurd ((iN_lt (by omega) (by omega)).mp c1) (by omega))
    · rcases a6 with ⟨rfl, a7⟩ | ⟨b, l0, rfl, a7, a8, a9, a10⟩
      · exact ⟨a1, hd', a2, Or.inl ⟨rfl, a7, a3⟩⟩
      · have := hb.2.2 l0 _ (by omega) a8
        exact absurd (by rw [c2]; decide) (iN_nn (a := b) (by rw [a9]; omega))
    · rcases a6 with ⟨rfl, a7⟩ | ⟨b, l0, rfl, a7, a8, a9, a10⟩
      · exact absurd rfl c2
      · have := hb.2.2 l0 _ (by omega) a8
        exact iN_in (by rw [a9]; exact this) (by rw [a9]; omega)
    · rcases a6 with ⟨rfl, a7⟩ | ⟨b, l0, rfl, a7, a8, a9, a10⟩
      · exact absurd rfl c2
      · have hbq : b < 240 := by rw [a9]; exact hb.2.2 l0 _ (by omega) a8
        rw [iN_ix (by omega)]
        refine ⟨fr_tr a1 (fr_ms (by decide)), hd', a2, Or.inr ⟨b, l0, rfl, by omega, a8, a9, fun l hl hx => ⟨a5 l (by omega) hx, a10 l (by omega) hx⟩, fun x hx => by rw [ms_ne (by decide)]; exact a3.1 x hx, fun x hx => ?_, fun l hl => by rw [ms_ne (by decide), ms_ne (by decide)]; exact a3.2.2.1 l hl, fun l i hl hi => by rw [ms_ne (by omega)]; exact a3.2.2.2 l i hl hi⟩⟩
        rw [ms_get]
        by_cases y : x = b
        · rw [if_pos ⟨rfl, y⟩, bi_pos (Or.inr y)]
        · rw [if_neg (fun k => y k.2), a3.2.1 x hx]
          exact bi_congr ⟨fun k => Or.inl k, fun k => k.resolve_right y⟩
end BLANES
