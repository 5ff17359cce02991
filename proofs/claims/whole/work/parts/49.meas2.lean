/-! The class: costs are measured, whole. -/
section BMEAS2
variable {w : qS} {S n : Nat → Nat} {M : qM}
theorem ct_67 {I : Nat → Prop} {z : Nat} {pq : Nat → Nat} {net m : Nat} (h : BD S n M) (hnet : net < 16) (hm : m < 16) (hP : PS I z pq M) :
    gE w 67 0 [some (.ref 12), some (.ref 1), some (.int (iN net)), some (.int (iN m)), none, none] [] M (fun r M' => r = none ∧ fr [15, 16, 19, 20, 21, 22, 23, 24] M M' ∧ (∀ c, c < 240 → M' 15 c = bi (fre S n c net)) ∧ ∃ C T hd tl q D, LN C T hd tl q M' ∧ dInv I (fun c => fre S n c net) (fun c => hp S m c) C T hd tl q D 999 0 ∧ ∀ c, c < 240 → C c < 1000000 → T c) := by
  have hz := hP.2.2.1
  refine wk_67_0 ?_
  refine ev_for 240 (Inv := fun i loc M' => (fr [15, 16, 19, 20, 21, 22, 23, 24] M M' ∧ ∀ c, c < i → M' 15 c = bi (fre S n c net) ∧ M' 16 c = iN 1000000) ∧ ∃ o5, loc = [some (.ref 12), some (.ref 1), some (.int (iN net)), some (.int (iN m)), some (.int (iN i)), o5]) ?_ ?_ 0 _ _ (Nat.zero_le _) ⟨⟨fr_rfl, fun c hc => absurd hc (by omega)⟩, _, rfl⟩
  · rintro i loc M' hi ⟨⟨a1, a2⟩, o5, rfl⟩ rec
    have hbd : BD S n M' := BD_fr h (fr_lo a1 (by decide))
    refine wk_67_3 (r1 := bi (fre S n i net)) (fun c1 => absurd ((iN_lt (by omega) (by omega)).mpr hi) c1) (fun _ => ct_36 hbd hi hnet) (fun _ => zb_bi) (fun _ => iN_in hi (by omega)) (fun _ => ?_)
    rw [iN_succ, iN_ix (by omega)]
    refine rec _ _ ⟨⟨fr_tr a1 (fr_tr (fr_ms (by decide)) (fr_ms (by decide))), fun c hc => ?_⟩, _, rfl⟩
    rw [ms_ne (by decide), ms_get, ms_get]
    by_cases y : c = i
    · rw [if_pos ⟨rfl, y⟩, if_pos ⟨rfl, y⟩, y]; exact ⟨rfl, rfl⟩
    · rw [if_neg (fun k => y k.2), if_neg (fun k => y k.2), ms_ne (by decide)]; exact a2 c (by omega)
  · rintro loc M1 ⟨⟨a1, a2⟩, o5, rfl⟩
    refine wk_67_3 (r1 := 0) (fun _ => ?_) (fun c1 => absurd ((iN_lt (by omega) (by omega)).mp c1) (by omega)) (fun c1 => absurd ((iN_lt (by omega) (by omega)).mp c1) (by omega)) (fun c1 => absurd ((iN_lt (by omega) (by omega)).mp c1) (by omega)) (fun c1 => absurd ((iN_lt (by omega) (by omega)).mp c1) (by omega))
    refine ct_73.mono ?_
    rintro r M2 ⟨rfl, b1, b2, b3⟩
    refine wk_67_47 ?_
    have f2 : fr [15, 16, 19, 20, 21, 22, 23, 24] M M2 := fr_tr a1 (fr_sub b1 (by decide))
    have hF2 : ∀ c, c < 240 → M2 15 c = bi (fre S n c net) := fun c hc => by rw [b1 15 (by decide)]; exact (a2 c hc).1
    -- the piece's cells come into the first lane
    refine ev_for z (Inv := fun i loc M' => (fr [15, 16, 19, 20, 21, 22, 23, 24] M M' ∧ (∀ c, c < 240 → M' 15 c = bi (fre S n c net)) ∧ ∃ C tl q, LN C (fun _ => False) (fun _ => 0) tl q M' ∧ (∀ c, c < 240 → (∃ k, k < i ∧ pq k = c) → C c = 0) ∧ (∀ c, c < 240 → ¬ (∃ k, k < i ∧ pq k = c) → C c = 1000000) ∧ tl 0 = i ∧ tl 1 = 0 ∧ tl 2 = 0 ∧ ∀ k, k < i → q 0 k = pq k) ∧ ∃ o2 o5, loc = [some (.ref 12), some (.ref 1), o2, some (.int (iN m)), some (.int (iN i)), o5]) ?_ ?_ 0 _ _ (Nat.zero_le _) ⟨⟨f2, hF2, fun _ => 1000000, fun _ => 0, fun _ _ => 0, ⟨fun c hc => by rw [b1 16 (by decide)]; exact (a2 c hc).2, fun c hc => by rw [b3 c hc, bi_neg (fun x => x)], b2, fun l i _ hi => absurd hi (Nat.not_lt_zero _)⟩, fun c _ hx => ?_, fun _ _ _ => rfl, rfl, rfl, rfl, fun k hk => absurd hk (by omega)⟩, _, _, rfl⟩
    · rintro i loc M' hi ⟨⟨c1, c2, C, tl, q, c3, c4, c5, c6, c7, c8, c9⟩, o2, o5, rfl⟩ rec
      have ez : M' 12 2 = iN z := by rw [c1 12 (by decide)]; exact hP.2.1
      have hq := hP.2.2.2.1 i hi
      have e14 : M' 14 (iN i).toNatClampNeg = iN (pq i) := by rw [iN_ix (by omega), c1 14 (by decide)]; exact hq.1
      refine wk_67_50 (fun c1 => absurd (by rw [ez]; exact (iN_lt (by omega) (by omega)).mpr hi) c1) (fun _ => iN_in (by omega) (by omega)) (fun _ => by rw [e14]; exact iN_in hq.2.1 (by omega)) (fun _ => ?_)
      have e14b : ms M' 16 (M' 14 (iN i).toNatClampNeg).toNatClampNeg 0 14 (iN i).toNatClampNeg = iN (pq i) := by rw [ms_ne (by decide)]; exact e14
      rw [e14b, e14, iN_ix (by omega)]
      refine (ct_74 (l := 0) (LN_cost c3 (pq i) 0) (by omega) (by rw [c6]; omega)).mono ?_
      rintro r M3 ⟨rfl, d1, d2⟩
      refine wk_67_87 ?_
      rw [iN_succ]
      refine rec _ _ ⟨⟨fr_tr c1 (fr_tr (fr_ms (by decide)) (fr_sub d1 (by decide))), fun c hc => by rw [d1 15 (by decide), ms_ne (by decide)]; exact c2 c hc, _, _, _, d2, fun c hc hx => ?_, fun c hc hx => ?_, ?_, ?_, ?_, fun k hk => ?_⟩, _, _, rfl⟩
      · by_cases y : c = pq i
        · rw [y, up1_at]
        · rw [up1_ne y]
          obtain ⟨k, hk, e⟩ := hx
          refine c4 c hc ⟨k, ?_, e⟩
          have : k ≠ i := fun x => y (by rw [← e, x])
          omega
      · rw [up1_ne (fun y => hx ⟨i, by omega, y.symm⟩)]
        exact c5 c hc (fun ⟨k, hk, e⟩ => hx ⟨k, by omega, e⟩)
      · rw [up1_at, c6]
      · rw [up1_ne (by decide)]; exact c7
      · rw [up1_ne (by decide)]; exact c8
      · simp only [if_true]
        rw [c6]
        by_cases y : k = i
        · rw [y, up1_at]
        · rw [up1_ne y]; exact c9 k (by omega)
    · rintro loc M' ⟨⟨c1, c2, C, tl, q, c3, c4, c5, c6, c7, c8, c9⟩, o2, o5, rfl⟩
      have ez : M' 12 2 = iN z := by rw [c1 12 (by decide)]; exact hP.2.1
      have hno : ∀ {α : Prop}, iN z < M' 12 2 → α := fun c1 => absurd (by rw [ez] at c1; exact (iN_lt (by omega) (by omega)).mp c1) (by omega)
      refine wk_67_50 (fun _ => ?_) (fun c1 => hno c1) (fun c1 => hno c1) (fun c1 => hno c1)
      have hIC : ∀ c, c < 240 → (I c → C c = 0) ∧ (¬ I c → C c = 1000000) := fun c hc => ⟨fun hI => c4 c hc (hP.2.2.2.2.2 c hc hI), fun hI => c5 c hc (fun ⟨k, hk, e⟩ => hI (e ▸ (hP.2.2.2.1 k hk).2.2))⟩
      have htl : ∀ l i, l < 3 → i < tl l → l = 0 ∧ i < z := by
        intro l i hl hi
        match l, hl with
        | 0, _ => exact ⟨rfl, by omega⟩
        | 1, _ => omega
        | 2, _ => omega
      have hInv : dInv I (fun c => fre S n c net) (fun c => hp S m c) C (fun _ => False) (fun _ => 0) tl q 0 999 0 := by
        refine ⟨fun _ _ => 0, fun l hl => ⟨Nat.zero_le _, ?_⟩, fun l i hl hi => ?_, fun _ _ _ _ _ _ => Nat.le_refl _, fun l i j hl hij hj => ?_, fun c hc hf _ => ?_, fun c _ x => x.elim, fun _ _ _ => Nat.zero_le _, fun c hc hI => (hIC c hc).1 hI, fun c hc => ?_, fun c hc hI hf => ?_, fun c d _ _ x => x.elim⟩
        · match l, hl with
          | 0, _ => omega
          | 1, _ => omega
          | 2, _ => omega
        · obtain ⟨el, hi0⟩ := htl l i hl hi
          subst el
          have hq := hP.2.2.2.1 i hi0
          rw [c9 i hi0, (hIC _ hq.2.1).1 hq.2.2]
          exact ⟨hq.2.1, Nat.le_refl _, Nat.zero_le _⟩
        · obtain ⟨el, hj0⟩ := htl l j hl hj
          subst el
          rw [c9 i (by omega), c9 j hj0]
          exact hP.2.2.2.2.1 i j hij hj0
        · have hI : I c := Classical.byContradiction fun x => by have := (hIC c hc).2 x; omega
          obtain ⟨i, hi, e⟩ := hP.2.2.2.2.2 c hc hI
          exact ⟨0, i, by omega, Nat.zero_le _, by omega, by rw [c9 i hi]; exact e, ((hIC c hc).1 hI).symm⟩
        · by_cases hI : I c
          · rw [(hIC c hc).1 hI]; omega
          · rw [(hIC c hc).2 hI]; omega
        · have := (hIC c hc).2 hI
          omega
      obtain ⟨N, hN⟩ : ∃ N, N = 240 := ⟨_, rfl⟩
      have h13 : ∀ M3, fr [15, 16, 19, 20, 21, 22, 23, 24] M M3 → ∀ c, c < 240 → M3 13 c = bi (I c) := fun M3 f3 c hc => by rw [f3 13 (by decide)]; exact hP.1 c hc
      refine ev_for 240 (Inv := fun i loc M3 => (fr [15, 16, 19, 20, 21, 22, 23, 24] M M3 ∧ (∀ c, c < 240 → M3 15 c = bi (fre S n c net)) ∧ ∃ C T hd tl q D, LN C T hd tl q M3 ∧ dInv I (fun c => fre S n c net) (fun c => hp S m c) C T hd tl q D 999 0 ∧ cnt N T = i ∧ FN C tl q) ∧ ∃ o2 o5, loc = [some (.ref 12), some (.ref 1), o2, some (.int (iN m)), some (.int (iN i)), o5]) ?_ ?_ 0 _ _ (Nat.zero_le _) ⟨⟨c1, c2, C, _, _, tl, q, 0, c3, hInv, cnt_none N (fun _ _ x => x), fun l i hl hi => ?_⟩, _, _, rfl⟩
      · rintro i loc M3 hi ⟨⟨d1, d2, C3, T, hd, tl3, q3, D, d3, d4, d5, d6⟩, o2, o5, rfl⟩ rec
        have hbd : BD S n M3 := BD_fr h (fr_lo d1 (by decide))
        refine wk_67_96 (fun c1 => absurd ((iN_lt (by omega) (by omega)).mpr hi) c1) (fun _ => ?_)
        refine (ct_75 d3 (LB_of d4)).mono ?_
        rintro r M4 ⟨e1, hd', e2, e3⟩
        have f4 : fr [15, 16, 19, 20, 21, 22, 23, 24] M M4 := fr_tr d1 (fr_sub e1 (by decide))
        have h15 : ∀ c, c < 240 → M4 15 c = bi (fre S n c net) := fun c hc => by rw [e1 15 (by decide)]; exact d2 c hc
        rcases e3 with ⟨rfl, e4, e5⟩ | ⟨b, l0, rfl, e4, e5, e6, e7, e8⟩
        · refine wk_67_115 (r1 := 0) (fun c1 => absurd rfl c1) (fun c1 => absurd rfl c1) (fun c1 => absurd rfl c1) (fun _ => ?_)
          exact ⟨rfl, f4, h15, C3, T, hd', tl3, q3, D, e5, dInv_heads d4 e2, dInv_none d4 e2 e4⟩
        · have hb0 : b < 240 := by rw [e6]; exact (LB_of d4).2.2 l0 _ e4 e5
          have hbT : ¬ T b := by rw [e6]; exact (e7 l0 e4 e5).1
          have hbf : C3 b < 1000000 := by rw [e6]; exact d6 l0 _ e4 e5
          obtain ⟨t1, t2, t3⟩ := dInv_take (best := b) d4 e2 (fun l hl hx => (e7 l hl hx).1) e4 e5 e6 hbf (fun l hl hx => (e7 l hl hx).2)
          have ncnt : cnt N (fun c => T c ∨ c = b) = i + 1 := by rw [cnt_one N b (by omega) hbT (fun _ _ => Iff.rfl), d5]
          have nb : ¬ iN b = -1 := fun x => iN_nn (a := b) (by omega) (by rw [x]; decide)
          refine wk_67_115 (r1 := bi (I b ∨ fre S n b net)) (fun _ => ct_68 (h13 M4 f4) h15 hb0) (fun _ c2 => ?_) (fun _ c2 => ?_) (fun c1 => absurd c1 nb)
          · refine wk_67_143 ?_
            rw [iN_succ]
            exact rec _ _ ⟨⟨f4, h15, C3, _, hd', tl3, q3, _, e8, dInv_done t1 (Or.inr (bi_eq c2)), ncnt, d6⟩, _, _, rfl⟩
          · refine (ct_69 (BD_fr h (fr_lo f4 (by decide))) hm h15 e8 t1 hb0 (Or.inr rfl) (bi_ne c2) hbf d6).mono ?_
            rintro r M5 ⟨rfl, g1, C5, tl5, q5, g0, g2, g3⟩
            refine wk_67_143 ?_
            rw [iN_succ]
            exact rec _ _ ⟨⟨fr_tr f4 (fr_sub g1 (by decide)), fun c hc => by rw [g1 15 (by decide)]; exact h15 c hc, C5, _, hd', tl5, q5, _, g2, g3, ncnt, g0⟩, _, _, rfl⟩
      · rintro loc M3 ⟨⟨d1, d2, C3, T, hd, tl3, q3, D, d3, d4, d5, d6⟩, o2, o5, rfl⟩
        refine wk_67_96 (fun _ => ⟨rfl, d1, d2, C3, T, hd, tl3, q3, D, d3, d4, fun c hc _ => cnt_all N (by omega) c (by omega)⟩) (fun c1 => absurd ((iN_lt (by omega) (by omega)).mp c1) (by omega))
      · obtain ⟨el, hi0⟩ := htl l i hl hi
        subst el
        have hq := hP.2.2.2.1 i hi0
        rw [c9 i hi0, (hIC _ hq.2.1).1 hq.2.2]
        decide
    · obtain ⟨k, hk, _⟩ := hx
      omega
end BMEAS2
