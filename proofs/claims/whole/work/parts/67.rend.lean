/-! The reference: changes are kept. -/
/-- all numbers of a sheet are small -/
def BS (S : Nat → Nat) : Prop := ∀ i, i < 592 → S i < 1000
/-- one more sheet is kept, sixteen at most -/
def pu (u : Nat) : Nat := if u = 16 then 16 else u + 1
def pH (u : Nat) (H : Nat → Nat → Nat) (S : Nat → Nat) : Nat → Nat → Nat := fun i => if u = 16 then (if i < 15 then H (i + 1) else S) else (if i < u then H i else S)
section REND
variable {w : qS} {S S0 n : Nat → Nat} {M : qM}
theorem ct_81 (h : NW S M) : gE w 81 0 [some (.ref 148), none] [] M (fun r M' => r = none ∧ fr [150] M M' ∧ ∀ i, i < 592 → M' 150 i = iN (S i)) := by
  refine wk_81_0 ?_
  refine ev_for 592 (Inv := fun i loc M' => (fr [150] M M' ∧ ∀ j, j < i → M' 150 j = iN (S j)) ∧ loc = [some (.ref 148), some (.int (iN i))]) ?_ ?_ 0 _ _ (Nat.zero_le _) ⟨⟨fr_rfl, fun p hp => absurd hp (by omega)⟩, rfl⟩
  · rintro i loc M' hi ⟨⟨a1, a2⟩, rfl⟩ rec
    refine wk_81_2 (fun c1 => absurd ((iN_lt (by omega) (by omega)).mpr hi) c1) (fun _ => iN_in hi (by omega)) (fun _ => ?_)
    rw [iN_succ, iN_ix (by omega), a1 149 (by decide), h i hi]
    refine rec _ _ ⟨⟨fr_tr a1 (fr_ms (by decide)), fun j hj => ?_⟩, rfl⟩
    rw [ms_get]
    by_cases x : j = i
    · rw [if_pos ⟨rfl, x⟩, x]
    · rw [if_neg (fun y => x y.2)]; exact a2 j (by omega)
  · rintro loc M' ⟨⟨a1, a2⟩, rfl⟩
    exact wk_81_2 (fun _ => ⟨rfl, a1, a2⟩) (fun c1 => absurd ((iN_lt (by omega) (by omega)).mp c1) (by omega)) (fun c1 => absurd ((iN_lt (by omega) (by omega)).mp c1) (by omega))
theorem ct_82 {u : Nat} {H : Nat → Nat → Nat} (hS : Ok S) (hn : isNet (S 1) S n) (b0 : BS S0) (b1 : BS S) (hw : NW S M) (hws : ∀ i, i < 592 → M 150 i = iN (S0 i)) (hu : u ≤ 16) (hH : FH u H M) :
    gE w 82 0 [some (.ref 148), none, none] [] M (fun r M' => r = none ∧ (((∀ i, i < 592 → S0 i = S i) ∧ M' = M) ∨ (¬ (∀ i, i < 592 → S0 i = S i)) ∧ fr [148, 151, 152, 153, 154] M M' ∧ M' 148 11 = M 148 11 ∧ FB S n M' ∧ FH (pu u) (pH u H S0) M')) := by
  refine wk_82_0 ?_
  refine ev_for 592 (Inv := fun i loc M' => M' = M ∧ loc = [some (.ref 148), some (.int (bi (∀ j, j < i → S0 j = S j))), some (.int (iN i))]) ?_ ?_ 0 _ _ (Nat.zero_le _) ⟨rfl, by rw [bi_pos (fun j hj => absurd hj (by omega))]; rfl⟩
  · rintro i loc M' hi ⟨eM, rfl⟩ rec
    subst eM
    have q0 := b0 i hi
    have q1 := b1 i hi
    refine wk_82_4 (fun c1 => absurd ((iN_lt (by omega) (by omega)).mpr hi) c1) (fun c1 => absurd ((iN_lt (by omega) (by omega)).mpr hi) c1) (fun c1 => absurd ((iN_lt (by omega) (by omega)).mpr hi) c1) (fun _ => ?_) (fun _ _ => iN_in hi (by omega))
    have e : (if bi (∀ j, j < i → S0 j = S j) = 0 then (0 : Int32) else (if M' 150 (iN i).toNatClampNeg = M' 149 (iN i).toNatClampNeg then 1 else 0)) = bi (∀ j, j < i + 1 → S0 j = S j) := by
      rw [iN_ix (by omega), hws i hi, hw i hi]
      by_cases x : ∀ j, j < i → S0 j = S j
      · rw [bi_pos x, if_neg (by decide)]
        by_cases y : S0 i = S i
        · rw [if_pos (by rw [y])]
          refine (bi_pos (fun j hj => ?_)).symm
          by_cases k : j = i
          · rw [k]; exact y
          · exact x j (by omega)
        · rw [if_neg (fun z => y ((iN_eq (by omega) (by omega)).mp z))]
          exact (bi_neg (fun z => y (z i (by omega)))).symm
      · rw [bi_neg x, if_pos rfl]
        exact (bi_neg (fun z => x (fun j hj => z j (by omega)))).symm
    rw [e, iN_succ]
    exact rec _ _ ⟨rfl, rfl⟩
  · rintro loc M' ⟨eM, rfl⟩
    subst eM
    have e3 : M' 148 3 = iN u := hH.1
    have hno : ∀ {α : Prop}, iN 592 < iN 592 → α := fun c1 => absurd ((iN_lt (by omega) (by omega)).mp c1) (by omega)
    -- what is stored, from any memory with u1 < 16 sheets kept
    have hstore : ∀ (M1 : qM) (o1 : Option Value) (u1 : Nat), u1 < 16 → ¬ (∀ i, i < 592 → S0 i = S i) → fr [148, 151] M' M1 → M1 148 11 = M' 148 11 → M1 148 3 = iN u1 → pu u = u1 + 1 → (∀ i k, i < u1 → k < 592 → M1 151 (592 * i + k) = iN (pH u H S0 i k)) → pH u H S0 u1 = S0 →
        gE w 82 99 [some (.ref 148), o1, some (.int 0)] [] M1 (fun r M'' => r = none ∧ (((∀ i, i < 592 → S0 i = S i) ∧ M'' = M') ∨ (¬ (∀ i, i < 592 → S0 i = S i)) ∧ fr [148, 151, 152, 153, 154] M' M'' ∧ M'' 148 11 = M' 148 11 ∧ FB S n M'' ∧ FH (pu u) (pH u H S0) M'')) := by
      intro M1 o1 u1 hu1 hne f1 f11 f3 fpu fk fs
      refine ev_for 592 (Inv := fun i loc M2 => (fr [151] M1 M2 ∧ (∀ j, j < 592 * u1 → M2 151 j = M1 151 j) ∧ ∀ j, j < i → M2 151 (592 * u1 + j) = iN (S0 j)) ∧ loc = [some (.ref 148), o1, some (.int (iN i))]) ?_ ?_ 0 _ _ (Nat.zero_le _) ⟨⟨fr_rfl, fun _ _ => rfl, fun p hp => absurd hp (by omega)⟩, rfl⟩
      · rintro i loc M2 hi ⟨⟨a1, a2, a3⟩, rfl⟩ rec
        have e4 : M2 148 3 = iN u1 := by rw [a1 148 (by decide)]; exact f3
        have e5 : M2 150 (iN i).toNatClampNeg = iN (S0 i) := by rw [iN_ix (by omega), a1 150 (by decide), f1 150 (by decide)]; exact hws i hi
        have e6 : iN 592 * M2 148 3 + iN i = iN (592 * u1 + i) := by rw [e4, iN_mul, iN_add]
        refine wk_82_99 (fun c1 => absurd ((iN_lt (by omega) (by omega)).mpr hi) c1) (fun _ => iN_in hi (by omega)) (fun _ => by rw [e6]; exact iN_in (by omega) (by omega)) (fun _ => ?_)
        rw [e6, e5, iN_succ, iN_ix (by omega)]
        refine rec _ _ ⟨⟨fr_tr a1 (fr_ms (by decide)), fun j hj => ?_, fun j hj => ?_⟩, rfl⟩
        · rw [ms_row (by omega)]; exact a2 j hj
        · rw [ms_get]
          by_cases x : j = i
          · rw [if_pos ⟨rfl, by omega⟩, x]
          · rw [if_neg (fun y => x (by omega))]; exact a3 j (by omega)
      · rintro loc M2 ⟨⟨a1, a2, a3⟩, rfl⟩
        have e4 : M2 148 3 = iN u1 := by rw [a1 148 (by decide)]; exact f3
        refine wk_82_99 (fun _ => ?_) (fun c1 => hno c1) (fun c1 => hno c1) (fun c1 => hno c1)
        rw [e4, iN_succ]
        have fm : fr [148, 151] M' (ms M2 148 3 (iN (u1 + 1))) := fr_tr f1 (fr_tr (fr_sub a1 (by decide)) (fr_ms (by decide)))
        refine (ct_80 hS hn (NW_fr hw (fm 149 (by decide)))).mono ?_
        rintro r M3 ⟨rfl, g1, g2⟩
        refine wk_82_147 ⟨rfl, Or.inr ⟨hne, fr_tr (fr_sub fm (by decide)) (fr_sub g1 (by decide)), ?_, g2, ?_, fun i k hi hk => ?_⟩⟩
        · rw [g1 148 (by decide), ms_row (by decide), a1 148 (by decide)]; exact f11
        · rw [g1 148 (by decide), ms_at, fpu]
        · rw [g1 151 (by decide), ms_ne (by decide)]
          by_cases x : i = u1
          · rw [x, a3 k hk, fs]
          · rw [a2 _ (by omega)]; exact fk i k (by omega) hk
    by_cases hsame : ∀ i, i < 592 → S0 i = S i
    · have hb : ¬ bi (∀ j, j < 592 → S0 j = S j) = 0 := by rw [bi_pos hsame]; decide
      exact wk_82_4 (fun _ c2 => absurd c2 hb) (fun _ c2 => absurd c2 hb) (fun _ _ => ⟨rfl, Or.inl ⟨hsame, rfl⟩⟩) (fun c1 => hno c1) (fun c1 => hno c1)
    · have hb : bi (∀ j, j < 592 → S0 j = S j) = 0 := bi_neg hsame
      refine wk_82_4 (fun _ _ c3 => ?_) (fun _ _ c3 => ?_) (fun _ c2 => absurd hb c2) (fun c1 => hno c1) (fun c1 => hno c1)
      · have hu16 : u ≠ 16 := fun x => c3 (by rw [e3, x])
        refine hstore M' _ u (by omega) hsame fr_rfl rfl e3 (by unfold pu; rw [if_neg hu16]) (fun i k hi hk => ?_) ?_
        · rw [hH.2 i k hi hk]; unfold pH; rw [if_neg hu16, if_pos hi]
        · unfold pH; rw [if_neg hu16, if_neg (by omega)]
      · have hu16 : u = 16 := by rw [e3, iN_eq (by omega) (by omega)] at c3; exact c3
        subst hu16
        refine ev_for 8880 (Inv := fun i loc M2 => (fr [151] M' M2 ∧ (∀ j, j < i → M2 151 j = M' 151 (j + 592)) ∧ ∀ j, i ≤ j → M2 151 j = M' 151 j) ∧ ∃ o1, loc = [some (.ref 148), o1, some (.int (iN i))]) ?_ ?_ 0 _ _ (Nat.zero_le _) ⟨⟨fr_rfl, fun p hp => absurd hp (by omega), fun _ _ => rfl⟩, _, rfl⟩
        · rintro i loc M2 hi ⟨⟨a1, a2, a3⟩, o1, rfl⟩ rec
          refine wk_82_58 (fun c1 => absurd ((iN_lt (by omega) (by omega)).mpr hi) c1) (fun _ => by rw [iN_add]; exact iN_in (by omega) (by omega)) (fun _ => iN_in (by omega) (by omega)) (fun _ => ?_)
          rw [iN_succ, iN_add, iN_ix (by omega), iN_ix (by omega), a3 (i + 592) (by omega)]
          refine rec _ _ ⟨⟨fr_tr a1 (fr_ms (by decide)), fun j hj => ?_, fun j hj => ?_⟩, _, rfl⟩
          · rw [ms_get]
            by_cases x : j = i
            · rw [if_pos ⟨rfl, x⟩, x]
            · rw [if_neg (fun y => x y.2)]; exact a2 j (by omega)
          · rw [ms_row (by omega)]; exact a3 j (by omega)
        · rintro loc M2 ⟨⟨a1, a2, a3⟩, o1, rfl⟩
          have hno2 : ∀ {α : Prop}, iN 8880 < iN 8880 → α := fun c1 => absurd ((iN_lt (by omega) (by omega)).mp c1) (by omega)
          refine wk_82_58 (fun _ => ?_) (fun c1 => hno2 c1) (fun c1 => hno2 c1) (fun c1 => hno2 c1)
          have e5 : M2 148 3 - 1 = iN 15 := by rw [a1 148 (by decide), e3]; rfl
          rw [e5]
          refine hstore _ _ 15 (by omega) hsame (fr_tr (fr_sub a1 (by decide)) (fr_ms (by decide))) ?_ (by rw [ms_at]) rfl (fun i k hi hk => ?_) ?_
          · rw [ms_row (by decide), a1 148 (by decide)]
          · rw [ms_ne (by decide), a2 _ (by omega), show 592 * i + k + 592 = 592 * (i + 1) + k by omega, hH.2 (i + 1) k (by omega) hk]
            unfold pH; rw [if_pos rfl, if_pos hi]
          · unfold pH; rw [if_pos rfl, if_neg (by omega)]
end REND
