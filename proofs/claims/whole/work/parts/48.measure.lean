/-! The class: costs are measured. -/
theorem LB_of {I F Pd : Nat → Prop} {C : Nat → Nat} {T : Nat → Prop} {h t : Nat → Nat} {q : Nat → Nat → Nat} {D b dd : Nat} (v : dInv I F Pd C T h t q D b dd) : LB C h t q := by
  obtain ⟨K, v1, v2, v3, v4, v5, v6, v7, v8, v9, v10, v11⟩ := v
  exact ⟨v9, v1, fun l i hl hi => (v2 l i hl hi).1⟩
/-- what waits in a lane can be reached -/
def FN (C tl : Nat → Nat) (q : Nat → Nat → Nat) : Prop := ∀ l i, l < 3 → i < tl l → C (q l i) < 1000000
theorem FN_add {C tl : Nat → Nat} {q : Nat → Nat → Nat} (h : FN C tl q) {l e v : Nat} (hv : v < 1000000) : FN (up1 C e v) (up1 tl l (tl l + 1)) (fun l' => if l' = l then up1 (q l') (tl l') e else q l') := by
  have hle : ∀ x, C x < 1000000 → up1 C e v x < 1000000 := by
    intro x hx
    by_cases y : x = e
    · rw [y, up1_at]; exact hv
    · rw [up1_ne y]; exact hx
  intro l' i hl' hi
  by_cases y : l' = l
  · subst y
    rw [up1_at] at hi
    simp only [if_true]
    by_cases k : i = tl l'
    · rw [k, up1_at, up1_at]; exact hv
    · rw [up1_ne k]; exact hle _ (h l' i hl' (by omega))
  · rw [up1_ne y] at hi
    simp only [if_neg y]
    exact hle _ (h l' i hl' hi)
theorem lane_tab : ∀ d : Fin 9, (if iN d.val = iN 8 then iN 2 else (iN d.val &&& 1)) = iN (ln d.val) := by decide +kernel
theorem cost_tab : ∀ d : Fin 9, tb_cost d.val = iN (prc d.val) := by decide +kernel
section BMEAS
variable {w : qS} {S n : Nat → Nat} {M : qM}
theorem ct_68 {I F : Nat → Prop} {c : Nat} (h1 : ∀ c, c < 240 → M 13 c = bi (I c)) (h2 : ∀ c, c < 240 → M 15 c = bi (F c)) (hc : c < 240) : gE w 68 0 [some (.ref 12), some (.int (iN c))] [] M (qv1 M (bi (I c ∨ F c))) := by
  refine wk_68_0 (iN_in hc (by omega)) (qv1_i ?_)
  rw [iN_ix (by omega), h1 c hc, h2 c hc]
  by_cases a : I c
  · rw [bi_pos a, if_neg (by decide), bi_pos (Or.inl a)]
  · by_cases b : F c
    · rw [bi_neg a, if_pos rfl, bi_pos b, if_neg (by decide), bi_pos (Or.inr b)]
    · rw [bi_neg a, if_pos rfl, bi_neg b, if_pos rfl, bi_neg (fun x => x.elim a b)]
theorem LN_cost {C : Nat → Nat} {T : Nat → Prop} {hd tl : Nat → Nat} {q : Nat → Nat → Nat} (h : LN C T hd tl q M) (e v : Nat) : LN (up1 C e v) T hd tl q (ms M 16 e (iN v)) := by
  refine ⟨fun c hc => ?_, fun c hc => by rw [ms_ne (by decide)]; exact h.2.1 c hc, fun l hl => by rw [ms_ne (by decide), ms_ne (by decide)]; exact h.2.2.1 l hl, fun l i hl hi => by rw [ms_ne (by omega)]; exact h.2.2.2 l i hl hi⟩
  rw [ms_get]
  by_cases y : c = e
  · rw [if_pos ⟨rfl, y⟩, y, up1_at]
  · rw [if_neg (fun k => y k.2), up1_ne y]; exact h.1 c hc
theorem ct_69 {I F : Nat → Prop} {C : Nat → Nat} {T : Nat → Prop} {hd tl : Nat → Nat} {q : Nat → Nat → Nat} {b m : Nat} (h : BD S n M) (hm : m < 16) (hF : ∀ c, c < 240 → M 15 c = bi (F c)) (hL : LN C T hd tl q M) (hv : dInv I F (fun c => hp S m c) C T hd tl q (C b) b 0) (hb : b < 240) (hT : T b) (hp0 : I b ∨ F b) (hCb : C b < 1000000) (hfn : FN C tl q) :
    gE w 69 0 [some (.ref 12), some (.ref 1), some (.int (iN b)), some (.int (iN m)), none, none, none] [] M (fun r M' => r = none ∧ fr [16, 19, 20, 21, 23] M M' ∧ ∃ C' tl' q', FN C' tl' q' ∧ LN C' T hd tl' q' M' ∧ dInv I F (fun c => hp S m c) C' T hd tl' q' (C b) 999 0) := by
  refine wk_69_0 ?_
  refine ev_for 9 (Inv := fun d loc M' => fr [16, 19, 20, 21, 23] M M' ∧ (∃ C' tl' q', (C' b = C b ∧ FN C' tl' q') ∧ LN C' T hd tl' q' M' ∧ dInv I F (fun c => hp S m c) C' T hd tl' q' (C b) b d) ∧ ∃ o5 o6, loc = [some (.ref 12), some (.ref 1), some (.int (iN b)), some (.int (iN m)), some (.int (iN d)), o5, o6]) ?_ ?_ 0 _ _ (Nat.zero_le _) ⟨fr_rfl, ⟨C, tl, q, ⟨rfl, hfn⟩, hL, hv⟩, _, _, rfl⟩
  · rintro d loc M' hd9 ⟨a1, ⟨C', tl', q', ⟨a2, afn⟩, a3, a4⟩, o5, o6, rfl⟩ rec
    have hbd : BD S n M' := BD_fr h (fr_lo a1 (by decide))
    have hF' : ∀ c, c < 240 → M' 15 c = bi (F c) := fun c hc => by rw [a1 15 (by decide)]; exact hF c hc
    have hlb := LB_of a4
    have hw := wl_ln hd9
    have hpp := prc_pos d
    have hnx : nx b d ≤ 240 := by
      by_cases y : nx b d = 0
      · omega
      · exact (nx_ok hb hd9 y).1
    have hgo : ∀ (M1 : qM) (o5 o6 : Option Value), fr [16, 19, 20, 21, 23] M M1 → (∃ C' tl' q', (C' b = C b ∧ FN C' tl' q') ∧ LN C' T hd tl' q' M1 ∧ dInv I F (fun c => hp S m c) C' T hd tl' q' (C b) b (d + 1)) → gE w 69 107 [some (.ref 12), some (.ref 1), some (.int (iN b)), some (.int (iN m)), some (.int (iN d)), o5, o6] [] M1 (fun r M' => r = none ∧ fr [16, 19, 20, 21, 23] M M' ∧ ∃ C' tl' q', FN C' tl' q' ∧ LN C' T hd tl' q' M' ∧ dInv I F (fun c => hp S m c) C' T hd tl' q' (C b) 999 0) := by
      intro M1 o5 o6 f1 g1
      refine wk_69_107 ?_
      rw [iN_succ]
      exact rec _ _ ⟨f1, g1, _, _, rfl⟩
    by_cases y : nx b d = 0
    · have er : pm (nx b d) = -1 := by rw [y]; rfl
      refine wk_69_3 (r1 := pm (nx b d)) (r2 := 0) (fun c1 => absurd ((iN_lt (by omega) (by omega)).mpr hd9) c1) (fun _ => ct_28 hb hd9) (fun _ _ => hgo M' _ _ a1 ⟨C', tl', q', ⟨a2, afn⟩, a3, dInv_skip a4 (Or.inl y)⟩) (fun _ c2 => absurd er c2) (fun _ c2 => absurd er c2) (fun _ c2 => absurd er c2) (fun _ c2 => absurd er c2) (fun _ c2 => absurd er c2) (fun _ c2 => absurd er c2) (fun _ c2 => absurd er c2) (fun _ c2 => absurd er c2) (fun _ c2 => absurd er c2) (fun _ c2 => absurd er c2) (fun _ c2 => absurd er c2)
    · have he : nx b d - 1 < 240 := by omega
      have hce := hlb.1 _ he
      have e15 : M' 15 (iN (nx b d - 1)).toNatClampNeg = bi (F (nx b d - 1)) := by rw [iN_ix (by omega), hF' _ he]
      have esum : M' 16 (iN b).toNatClampNeg + tb_cost (iN d).toNatClampNeg = iN (C b + prc d) := by
        have := cost_tab ⟨d, hd9⟩
        dsimp only at this
        rw [iN_ix (by omega), iN_ix (by omega), a3.1 b hb, this, a2, iN_add]
      have e16 : M' 16 (iN (nx b d - 1)).toNatClampNeg = iN (C' (nx b d - 1)) := by rw [iN_ix (by omega), a3.1 _ he]
      have elane : (if iN d = iN 8 then iN 2 else (iN d &&& 1)) = iN (ln d) := lane_tab ⟨d, hd9⟩
      -- the cost is lowered
      have hrelax : (F (nx b d - 1) ∨ hp S m (nx b d - 1)) → C b + prc d < C' (nx b d - 1) → ∀ o5 o6, gE w 74 0 [some (.ref 17), some (.int (iN (ln d))), some (.int (iN (nx b d - 1)))] [] (ms M' 16 (nx b d - 1) (iN (C b + prc d))) (fun r M1 => gE w 69 107 [some (.ref 12), some (.ref 1), some (.int (iN b)), some (.int (iN m)), some (.int (iN d)), o5, o6] (r.toList ++ []) M1 (fun r M' => r = none ∧ fr [16, 19, 20, 21, 23] M M' ∧ ∃ C' tl' q', FN C' tl' q' ∧ LN C' T hd tl' q' M' ∧ dInv I F (fun c => hp S m c) C' T hd tl' q' (C b) 999 0)) := by
        intro hfp hlt o5 o6
        refine (ct_74 (LN_cost a3 (nx b d - 1) (C b + prc d)) hw.2 (dInv_room (e := nx b d - 1) a4 hw.2 he (by rw [hw.1]; omega))).mono ?_
        rintro r M1 ⟨rfl, k1, k2⟩
        refine hgo M1 _ _ (fr_tr a1 (fr_tr (fr_ms (by decide)) (fr_sub k1 (by decide)))) ⟨_, _, _, ⟨?_, FN_add afn (by omega)⟩, k2, ?_⟩
        · rw [up1_ne (fun x => by rw [← x] at hlt; omega)]; exact a2
        · have := dInv_relax a4 hb hT a2 hp0 hd9 y hfp (by rw [a2]; exact hlt)
          rw [a2] at this
          exact this
      rw [← elane] at hrelax
      have er : ¬ pm (nx b d) = -1 := fun x => y ((pm_m1 (by omega)).mp x)
      refine wk_69_3 (r1 := pm (nx b d)) (r2 := bi (hp S m (nx b d - 1))) (fun c1 => absurd ((iN_lt (by omega) (by omega)).mpr hd9) c1) (fun _ => ct_28 hb hd9) (fun _ c2 => absurd c2 er) (fun _ _ => ?_) (fun _ _ _ => iN_in hb (by omega)) (fun _ _ _ => iN_in hd9 (by omega)) (fun _ _ c3 c4 => ?_) (fun _ _ c3 c4 => ?_) (fun _ _ c3 => ?_) (fun _ _ _ _ => iN_in hb (by omega)) (fun _ _ _ _ => iN_in hd9 (by omega)) (fun _ _ c3 c6 c7 => ?_) (fun _ _ c3 c6 c7 => ?_) (fun _ _ c3 c6 => ?_)
      · rw [pm_of y]; exact iN_in he (by omega)
      · rw [pm_of y] at c4 ⊢
        rw [esum, e16] at c4
        refine hgo M' _ _ a1 ⟨C', tl', q', ⟨a2, afn⟩, a3, dInv_skip a4 (Or.inr (Or.inr ?_))⟩
        rw [a2]
        exact Nat.le_of_not_lt (fun x => c4 ((iN_lt (by omega) (by omega)).mpr x))
      · rw [pm_of y] at c3 c4 ⊢
        rw [esum, e16] at c4
        rw [e15] at c3
        rw [esum, iN_ix (a := nx b d - 1) (by omega)]
        exact hrelax (Or.inl (bi_ne c3)) ((iN_lt (by omega) (by omega)).mp c4) _ _
      · rw [pm_of y]; exact ct_33 hbd hm he
      · rw [pm_of y] at c7 ⊢
        rw [esum, e16] at c7
        refine hgo M' _ _ a1 ⟨C', tl', q', ⟨a2, afn⟩, a3, dInv_skip a4 (Or.inr (Or.inr ?_))⟩
        rw [a2]
        exact Nat.le_of_not_lt (fun x => c7 ((iN_lt (by omega) (by omega)).mpr x))
      · rw [pm_of y] at c7 ⊢
        rw [esum, e16] at c7
        rw [esum, iN_ix (a := nx b d - 1) (by omega)]
        exact hrelax (Or.inr (bi_ne c6)) ((iN_lt (by omega) (by omega)).mp c7) _ _
      · rw [pm_of y, e15] at c3
        exact hgo M' _ _ a1 ⟨C', tl', q', ⟨a2, afn⟩, a3, dInv_skip a4 (Or.inr (Or.inl (fun x => x.elim (bi_eq c3) (bi_eq c6))))⟩
  · rintro loc M' ⟨a1, ⟨C', tl', q', ⟨a2, afn⟩, a3, a4⟩, o5, o6, rfl⟩
    have hno : ∀ {α : Prop}, iN 9 < iN 9 → α := fun c1 => absurd ((iN_lt (by omega) (by omega)).mp c1) (by omega)
    exact wk_69_3 (r1 := 0) (r2 := 0) (fun _ => ⟨rfl, a1, C', tl', q', afn, a3, dInv_done a4 (Or.inl rfl)⟩) (fun c1 => hno c1) (fun c1 => hno c1) (fun c1 => hno c1) (fun c1 => hno c1) (fun c1 => hno c1) (fun c1 => hno c1) (fun c1 => hno c1) (fun c1 => hno c1) (fun c1 => hno c1) (fun c1 => hno c1) (fun c1 => hno c1) (fun c1 => hno c1) (fun c1 => hno c1)
end BMEAS
