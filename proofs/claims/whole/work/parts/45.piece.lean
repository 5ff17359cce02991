/-! The class: the piece of the first placed pin, the missing pin. -/
theorem BD_fr {S n : Nat → Nat} {M M' : qM} (h : BD S n M) (e : ∀ q, q < 10 → M' q = M q) : BD S n M' := ⟨h.1, h.2.1, RB_fr h.2.2 e⟩
theorem fr_lo {L : List Nat} {M M' : qM} (h : fr L M M') (hl : L.all (fun q => 10 ≤ q) = true) : ∀ q, q < 10 → M' q = M q := fun q hq => h q (fun x => by
  have := List.all_eq_true.mp hl q x
  simp at this
  omega)
/-- I is in the piece's table, its cells stand in a row -/
def PS (I : Nat → Prop) (z : Nat) (q : Nat → Nat) (M : qM) : Prop := (∀ c, c < 240 → M 13 c = bi (I c)) ∧ M 12 2 = iN z ∧ z ≤ 240 ∧ (∀ i, i < z → M 14 i = iN (q i) ∧ q i < 240 ∧ I (q i)) ∧ (∀ i j, i < j → j < z → q i ≠ q j) ∧ ∀ c, c < 240 → I c → ∃ i, i < z ∧ q i = c
section BPIECE
variable {w : qS} {S n : Nat → Nat} {M : qM}
theorem ct_66 {I : Nat → Prop} {z : Nat} {q : Nat → Nat} {c : Nat} (h : PS I z q M) (hc : c < 240) :
    gE w 66 0 [some (.ref 12), some (.int (iN c))] [] M (fun r M' => r = none ∧ fr [12, 13, 14] M M' ∧ ∃ I' z' q', PS I' z' q' M' ∧ (∀ x, x < 240 → (I' x ↔ I x ∨ x = c)) ∧ z ≤ z' ∧ ∀ i, i < z → q' i = q i) := by
  obtain ⟨h1, h2, h3, h4, h5, h6⟩ := h
  have e : M 13 (iN c).toNatClampNeg = bi (I c) := by rw [iN_ix (by omega), h1 c hc]
  have hz : ¬ I c → z < 240 := fun hn => pigeon1 (f := q) (fun i hi => (h4 i hi).2.1) h5 hc (fun i hi x => hn (x ▸ (h4 i hi).2.2))
  refine wk_66_0 (iN_in hc (by omega)) (fun c1 => ?_) (fun c1 c2 => ?_) (fun c1 c2 => ?_) (fun c1 c2 => ?_)
  · rw [e] at c1
    have hI := bi_ne c1
    refine ⟨rfl, fr_rfl, I, z, q, ⟨h1, h2, h3, h4, h5, h6⟩, fun x _ => ⟨fun y => Or.inl y, fun y => ?_⟩, Nat.le_refl _, fun _ _ => rfl⟩
    rcases y with y | y
    · exact y
    · rw [y]; exact hI
  · rw [e] at c1
    rw [h2] at c2
    exact absurd ((iN_lt (by omega) (by omega)).mpr (hz (bi_eq c1))) c2
  · rw [e] at c1
    rw [ms_ne (by decide), h2]
    exact iN_in (hz (bi_eq c1)) (by omega)
  · rw [e] at c1
    have hn := bi_eq c1
    have hz := hz hn
    have ez : ms M 13 (iN c).toNatClampNeg 1 12 2 = iN z := by rw [ms_ne (by decide), h2]
    rw [ez, iN_ix (by omega), iN_ix (by omega)]
    have ez2 : ms (ms M 13 c 1) 14 z (iN c) 12 2 = iN z := by rw [ms_ne (by decide), ms_ne (by decide), h2]
    rw [ez2, iN_succ]
    refine ⟨rfl, fr_tr (fr_ms (by decide)) (fr_tr (fr_ms (by decide)) (fr_ms (by decide))), fun x => I x ∨ x = c, z + 1, up1 q z c, ⟨fun x hx => ?_, ?_, by omega, fun i hi => ?_, fun i j hij hj => ?_, fun x hx hI => ?_⟩, fun x _ => Iff.rfl, by omega, fun i hi => up1_ne (by omega)⟩
    · rw [ms_ne (by decide), ms_ne (by decide), ms_get]
      by_cases y : x = c
      · rw [if_pos ⟨rfl, y⟩, bi_pos (Or.inr y)]
      · rw [if_neg (fun k => y k.2), h1 x hx]
        exact bi_congr ⟨fun k => Or.inl k, fun k => k.resolve_right y⟩
    · rw [ms_at]
    · rw [ms_ne (by decide), ms_get]
      by_cases y : i = z
      · subst y
        rw [if_pos ⟨rfl, rfl⟩, up1_at]
        exact ⟨rfl, hc, Or.inr rfl⟩
      · rw [if_neg (fun k => y k.2), ms_ne (by decide), up1_ne y]
        have := h4 i (by omega)
        exact ⟨this.1, this.2.1, Or.inl this.2.2⟩
    · rw [up1_ne (show i ≠ z by omega)]
      by_cases y : j = z
      · subst y
        rw [up1_at]
        intro x
        exact hn (x ▸ (h4 i (by omega)).2.2)
      · rw [up1_ne y]
        exact h5 i j hij (by omega)
    · rcases hI with hI | hI
      · obtain ⟨i, hi, e⟩ := h6 x hx hI
        exact ⟨i, by omega, by rw [up1_ne (by omega)]; exact e⟩
      · exact ⟨z, by omega, by rw [up1_at]; exact hI.symm⟩
theorem ct_65 (h : BD S n M) {net s : Nat} (hnet : net < 16) (hs : s < 240) (hQ : ow S n s = net + 1) :
    gE w 65 0 [some (.ref 12), some (.ref 1), some (.int (iN net)), some (.int (iN s)), none, none, none] [] M (fun r M' => r = none ∧ fr [12, 13, 14] M M' ∧ ∃ I z q, isPc (fun c => ow S n c = net + 1) s I ∧ PS I z q M') := by
  refine wk_65_0 ?_
  refine ev_for 240 (Inv := fun i loc M' => (fr [12, 13, 14] M M' ∧ ∀ c, c < i → M' 13 c = 0) ∧ ∃ o5 o6, loc = [some (.ref 12), some (.ref 1), some (.int (iN net)), some (.int (iN s)), some (.int (iN i)), o5, o6]) ?_ ?_ 0 _ _ (Nat.zero_le _) ⟨⟨fr_rfl, fun c hc => absurd hc (by omega)⟩, _, _, rfl⟩
  · rintro i loc M' hi ⟨⟨a1, a2⟩, o5, o6, rfl⟩ rec
    refine wk_65_3 (fun c1 => absurd ((iN_lt (by omega) (by omega)).mpr hi) c1) (fun _ => iN_in hi (by omega)) (fun _ => ?_)
    rw [iN_succ, iN_ix (by omega)]
    refine rec _ _ ⟨⟨fr_tr a1 (fr_ms (by decide)), fun c hc => ?_⟩, _, _, rfl⟩
    rw [ms_get]
    by_cases y : c = i
    · rw [if_pos ⟨rfl, y⟩]
    · rw [if_neg (fun k => y k.2), a2 c (by omega)]
  · rintro loc M1 ⟨⟨a1, a2⟩, o5, o6, rfl⟩
    refine wk_65_3 (fun _ => ?_) (fun c1 => absurd ((iN_lt (by omega) (by omega)).mp c1) (by omega)) (fun c1 => absurd ((iN_lt (by omega) (by omega)).mp c1) (by omega))
    have p0 : PS (fun _ => False) 0 (fun _ => 0) (ms M1 12 2 0) := ⟨fun c hc => by rw [ms_ne (by decide), a2 c hc, bi_neg (fun x => x)], by rw [ms_at]; rfl, by omega, fun i hi => absurd hi (by omega), fun i j _ hj => absurd hj (by omega), fun c _ x => x.elim⟩
    refine (ct_66 p0 hs).mono ?_
    rintro r M2 ⟨rfl, b1, I, z, q, hP, hI, -, -⟩
    refine wk_65_35 ?_
    have hf2 : fr [12, 13, 14] M M2 := fr_tr a1 (fr_tr (fr_ms (by decide)) b1)
    refine ev_loop (Inv := fun k loc M' => ∃ dn I z q, k = 240 - dn ∧ fr [12, 13, 14] M M' ∧ PS I z q M' ∧ I s ∧ (∀ c, c < 240 → I c → ow S n c = net + 1) ∧ (∀ f, eC (fun c => ow S n c = net + 1) f → ∀ c, c < 240 → I c → f c = f s) ∧ (∀ i d, i < dn → d < 9 → nx (q i) d ≠ 0 → ow S n (nx (q i) d - 1) = net + 1 → I (nx (q i) d - 1)) ∧ dn ≤ z ∧ ∃ o3 o5 o6, loc = [some (.ref 12), some (.ref 1), some (.int (iN net)), o3, some (.int (iN dn)), o5, o6]) ?_ 240 _ _ ⟨0, I, z, q, rfl, hf2, hP, (hI s hs).mpr (Or.inr rfl), fun c hc x => ?_, fun f _ c hc x => ?_, fun i d hi => absurd hi (by omega), Nat.zero_le _, _, _, _, rfl⟩
    · clear hP hI b1 hf2 p0 a1 a2
      rintro k loc M' ⟨dn, I, z, q, rfl, hf, hP, hIs, hIQ, hIf, hcl, hdz, o3, o5, o6, rfl⟩ rec
      have hz := hP.2.2.1
      have ez : M' 12 2 = iN z := hP.2.1
      by_cases hend : dn = z
      · have hpc : isPc (fun c => ow S n c = net + 1) s I := by
          refine ⟨hIs, hIQ, fun c e hc he hI hQe hE => ?_, hIf⟩
          obtain ⟨i, hi, rfl⟩ := hP.2.2.2.2.2 c hc hI
          obtain ⟨d, hd, hx⟩ := hE
          have := hcl i d (by omega) hd (by omega)
          rw [hx, Nat.add_sub_cancel] at this
          exact this hQe
        refine wk_65_38 (fun _ => ⟨rfl, hf, I, z, q, hpc, hP⟩) (fun _ _ => ⟨rfl, hf, I, z, q, hpc, hP⟩) (fun _ c2 => ?_)
        rw [ez] at c2
        exact absurd ((iN_lt (by omega) (by omega)).mp c2) (by omega)
      · refine wk_65_38 (fun c1 => absurd ((iN_lt (by omega) (by omega)).mpr (by omega)) c1) (fun _ c2 => absurd (by rw [ez]; exact (iN_lt (by omega) (by omega)).mpr (by omega)) c2) (fun _ _ => ?_)
        refine ev_for 9 (Inv := fun d loc M1 => ∃ I1 z1 q1, fr [12, 13, 14] M M1 ∧ PS I1 z1 q1 M1 ∧ I1 s ∧ (∀ c, c < 240 → I1 c → ow S n c = net + 1) ∧ (∀ f, eC (fun c => ow S n c = net + 1) f → ∀ c, c < 240 → I1 c → f c = f s) ∧ (∀ i d', i < dn → d' < 9 → nx (q1 i) d' ≠ 0 → ow S n (nx (q1 i) d' - 1) = net + 1 → I1 (nx (q1 i) d' - 1)) ∧ (∀ d', d' < d → nx (q1 dn) d' ≠ 0 → ow S n (nx (q1 dn) d' - 1) = net + 1 → I1 (nx (q1 dn) d' - 1)) ∧ dn < z1 ∧ ∃ o3 o6, loc = [some (.ref 12), some (.ref 1), some (.int (iN net)), o3, some (.int (iN dn)), some (.int (iN d)), o6]) ?_ ?_ 0 _ _ (Nat.zero_le _) ⟨I, z, q, hf, hP, hIs, hIQ, hIf, hcl, fun d' hd' => absurd hd' (by omega), by omega, _, _, rfl⟩
        · rintro d loc M1 hd ⟨I1, z1, q1, g1, g2, g3, g4, g5, g6, g7, g8, o3, o6, rfl⟩ rec2
          have hb1 : BD S n M1 := BD_fr h (fr_lo g1 (by decide))
          have hq := g2.2.2.2.1 dn g8
          have hz1 := g2.2.2.1
          have hnx : nx (q1 dn) d ≤ 240 := by
            by_cases y : nx (q1 dn) d = 0
            · omega
            · exact (nx_ok hq.2.1 hd y).1
          have eq1 : M1 14 (iN dn).toNatClampNeg = iN (q1 dn) := by rw [iN_ix (by omega), hq.1]
          have hskip : (nx (q1 dn) d ≠ 0 → ow S n (nx (q1 dn) d - 1) = net + 1 → I1 (nx (q1 dn) d - 1)) → ∀ v, gE w 65 101 [some (.ref 12), some (.ref 1), some (.int (iN net)), o3, some (.int (iN dn)), some (.int (iN d)), v] [] M1 (fun r M' => r = none ∧ fr [12, 13, 14] M M' ∧ ∃ I z q, isPc (fun c => ow S n c = net + 1) s I ∧ PS I z q M') := by
            intro hok v
            refine wk_65_101 ?_
            rw [iN_succ]
            refine rec2 _ _ ⟨I1, z1, q1, g1, g2, g3, g4, g5, g6, fun d' hd' => ?_, g8, _, _, rfl⟩
            by_cases y : d' = d
            · rw [y]; exact hok
            · exact g7 d' (by omega)
          refine wk_65_58 (r1 := pm (nx (q1 dn) d)) (r2 := pm (ow S n (nx (q1 dn) d - 1))) (fun c1 => absurd ((iN_lt (by omega) (by omega)).mpr hd) c1) (fun _ => iN_in (by omega) (by omega)) (fun _ => by rw [eq1]; exact ct_28 hq.2.1 hd) (fun _ c2 => ?_) (fun _ c2 => ?_) (fun _ c2 c3 => ?_) (fun _ c2 c3 => ?_)
          · have y := (pm_m1 (by omega)).mp c2
            exact hskip (fun x => absurd y x) _
          · have y : nx (q1 dn) d ≠ 0 := fun x => c2 ((pm_m1 (by omega)).mpr x)
            rw [pm_of y]
            exact ct_32 hb1 (by omega)
          · refine hskip (fun y x => ?_) _
            exact absurd (by rw [x]; rfl) c3
          · have y : nx (q1 dn) d ≠ 0 := fun x => c2 ((pm_m1 (by omega)).mpr x)
            have hol := ow_le h.1 h.2.1 (n := n) (c := nx (q1 dn) d - 1) (by omega)
            have hQe : ow S n (nx (q1 dn) d - 1) = net + 1 := (pm_iN (by omega) (by omega)).mp c3
            have hnE : nE (q1 dn) (nx (q1 dn) d - 1) := ⟨d, hd, by omega⟩
            rw [pm_of y]
            refine (ct_66 g2 (show nx (q1 dn) d - 1 < 240 by omega)).mono ?_
            rintro r M3 ⟨rfl, k1, I2, z2, q2, k2, k3, k4, k5⟩
            refine wk_65_101 ?_
            rw [iN_succ]
            refine rec2 _ _ ⟨I2, z2, q2, fr_tr g1 k1, k2, (k3 s hs).mpr (Or.inl g3), fun c hc x => ?_, fun f hf c hc x => ?_, fun i d' hi hd' hn' ho' => ?_, fun d' hd' hn' ho' => ?_, by omega, _, _, rfl⟩
            · rcases (k3 c hc).mp x with x | x
              · exact g4 c hc x
              · rw [x]; exact hQe
            · rcases (k3 c hc).mp x with x | x
              · exact g5 f hf c hc x
              · rw [x, ← g5 f hf (q1 dn) hq.2.1 hq.2.2]
                exact (hf (q1 dn) _ hq.2.1 (by omega) (g4 _ hq.2.1 hq.2.2) hQe hnE).symm
            · rw [k5 i (by omega)] at hn' ho' ⊢
              have hl := (g2.2.2.2.1 i (by omega)).2.1
              have := (nx_ok hl hd' hn').1
              exact (k3 _ (by omega)).mpr (Or.inl (g6 i d' hi hd' hn' ho'))
            · rw [k5 dn g8] at hn' ho' ⊢
              have := (nx_ok hq.2.1 (show d' < 9 by omega) hn').1
              by_cases e : d' = d
              · rw [e]; exact (k3 _ (by omega)).mpr (Or.inr rfl)
              · exact (k3 _ (by omega)).mpr (Or.inl (g7 d' (by omega) hn' ho'))
        · rintro loc M1 ⟨I1, z1, q1, g1, g2, g3, g4, g5, g6, g7, g8, o3, o6, rfl⟩
          refine wk_65_58 (r1 := 0) (r2 := 0) (fun _ => ?_) (fun c1 => absurd ((iN_lt (by omega) (by omega)).mp c1) (by omega)) (fun c1 => absurd ((iN_lt (by omega) (by omega)).mp c1) (by omega)) (fun c1 => absurd ((iN_lt (by omega) (by omega)).mp c1) (by omega)) (fun c1 => absurd ((iN_lt (by omega) (by omega)).mp c1) (by omega)) (fun c1 => absurd ((iN_lt (by omega) (by omega)).mp c1) (by omega)) (fun c1 => absurd ((iN_lt (by omega) (by omega)).mp c1) (by omega))
          rw [iN_succ]
          refine rec (240 - (dn + 1)) _ _ (by omega) ⟨dn + 1, I1, z1, q1, rfl, g1, g2, g3, g4, g5, fun i d hi hd hn ho => ?_, by omega, _, _, _, rfl⟩
          by_cases e : i = dn
          · rw [e] at hn ho ⊢; exact g7 d hd hn ho
          · exact g6 i d (by omega) hd hn ho
    · rcases (hI c hc).mp x with y | y
      · exact y.elim
      · rw [y]; exact hQ
    · rcases (hI c hc).mp x with y | y
      · exact y.elim
      · rw [y]
end BPIECE
