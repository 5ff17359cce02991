/-! Calls: place, track. -/
theorem nlt {x : Int32} {m : Nat} (hm : m < 1000) : (¬ iN m < x) ↔ x < iN (m + 1) := by
  rw [Int32.lt_iff_toInt_lt, Int32.lt_iff_toInt_lt, iN_toInt (by omega), iN_toInt (by omega)]
  omega
def PLc (A : qA) (x1 x2 x3 x4 : Int32) (p x y l : Nat) : Prop := p < A.1 0 ∧ x < 12 ∧ y < 10 ∧ (1 ≤ l ∧ l < 4) ∧ (x1 = iN p ∧ x2 = iN x ∧ x3 = iN y ∧ x4 = iN l) ∧ A.1 (32 + p) = 0 ∧ GdP A.1 A.2.1 (A.2.1 p) x y l 2
def StPlace (A : qA) (x1 x2 x3 x4 : Int32) (v : Int32) (A' : qA) : Prop := ((¬ ∃ p x y l, PLc A x1 x2 x3 x4 p x y l) ∧ v = 0 ∧ A' = A) ∨ ∃ p x y l, PLc A x1 x2 x3 x4 p x y l ∧ v = 1 ∧ Cm A (up1 A.1 (32 + p) (120 * l + (12 * y + x))) A.2.1 A'
def R3 (x2 x3 x4 : Int32) : Prop := ∃ x y l, x < 12 ∧ y < 10 ∧ (1 ≤ l ∧ l < 4) ∧ x2 = iN x ∧ x3 = iN y ∧ x4 = iN l
theorem mkR3 {x2 x3 x4 : Int32} (c3 : ¬ x4 < 1) (c4 : ¬ iN 3 < x4) (c5 : ¬ x2 < 0) (c6 : x2 < iN 12) (c7 : ¬ x3 < 0) (c8 : x3 < iN 10) : R3 x2 x3 x4 := by
  obtain ⟨x, hx, rfl⟩ := rng c5 c6 (by decide)
  obtain ⟨y, hy, rfl⟩ := rng c7 c8 (by decide)
  obtain ⟨l, hl1, hl2, rfl⟩ := rng12 c3 c4 (by decide)
  exact ⟨x, y, l, hx, hy, ⟨hl1, by omega⟩, rfl, rfl, rfl⟩
section API8
variable {w : qS} {M : qM}
theorem cl_place {A : qA} {x1 x2 x3 x4 : Int32} (hA : RA2 A) (h : RC A M) : gE w 5 0 [some (.ref 0), some (.int x1), some (.int x2), some (.int x3), some (.int x4), none] [] M (CLp (StPlace A x1 x2 x3 x4) M) := by
  have hb := RC_BD hA h
  have h0 := hA.1.1.1
  have no : (¬ ∃ p x y l, PLc A x1 x2 x3 x4 p x y l) → CLp (StPlace A x1 x2 x3 x4) M (some (.int 0)) M := fun g => ⟨0, A, rfl, Or.inl ⟨g, rfl, rfl⟩, hA, h, fun _ _ => rfl⟩
  by_cases g : ¬ x1 < 0 ∧ x1 < iN (A.1 0)
  · obtain ⟨p, hp, rfl⟩ := rng g.1 g.2 (by omega)
    have hnp := isNet_lt hA.1.2.1 (show p < 16 by omega)
    have e0 : ∀ {α : Prop}, bi (¬ iN p < 0 ∧ iN p < iN (A.1 0)) = 0 → α := fun c1 => absurd g (bi_eq c1)
    by_cases q : R3 x2 x3 x4
    · obtain ⟨x, y, l, hx, hy, hl, rfl, rfl, rfl⟩ := q
      have n4 : ¬ iN l < 1 := fun z => by have := (iN_lt (b := 1) (by omega) (by omega)).mp z; omega
      have n5 : ¬ iN 3 < iN l := fun z => by have := (iN_lt (by omega) (by omega)).mp z; omega
      have n6 : iN x < iN 12 := (iN_lt (by omega) (by omega)).mpr hx
      have n7 : iN y < iN 10 := (iN_lt (by omega) (by omega)).mpr hy
      have es : iN y * iN 12 + iN x = iN (12 * y + x) := by rw [iN_mul, iN_add, Nat.mul_comm]
      refine wk_5_0 (r1 := bi (¬ iN p < 0 ∧ iN p < iN (A.1 0))) (r2 := bi (A.1 (32 + p) ≠ 0)) (r3 := iN (A.2.1 p)) (r4 := bi (GdP A.1 A.2.1 (A.2.1 p) x y l 2)) (ct_29 hb) (fun c1 => e0 c1) (fun _ => ct_30 hb (by omega)) (fun _ c2 => no ?_) (fun _ _ c3 => absurd c3 n4) (fun _ _ _ _ c5 => absurd c5 (iN_nn (by omega))) (fun _ _ _ _ _ c6 => absurd n6 c6) (fun _ _ _ _ _ _ c7 => absurd c7 (iN_nn (by omega))) (fun _ _ _ _ _ _ _ _ => ct_31 hb (by omega)) (fun _ _ _ _ _ _ _ _ => by rw [es]; exact ct_44 hb hnp hx hy hl.2) (fun _ c2 _ _ _ _ _ _ c9 => ?_) (fun _ _ _ _ _ _ _ _ c9 => no ?_) (fun _ _ _ _ _ _ _ c8 => absurd n7 c8) (fun _ _ _ c4 => absurd c4 n5)
      · rintro ⟨p', x', y', l', h1, h2, h3, h4, ⟨e1, e2, e3, e4⟩, h6, h7⟩
        have : p = p' := (iN_eq (by omega) (by omega)).mp e1
        subst this
        exact bi_ne c2 h6
      · have hz : A.1 (32 + p) = 0 := Classical.byContradiction fun z => bi_eq c2 z
        have hg := bi_ne c9
        rw [es]
        refine (cl_begin hA.1 h).mono ?_
        rintro r M1 ⟨rfl, f1, t, f2⟩
        refine wk_5_104 ?_
        refine (ct_45 f2.1 hp hz (by omega) hl (fun i hi hbt => ⟨(hg i hi hbt).1, (hg i hi hbt).2.1⟩)).mono ?_
        rintro r M2 ⟨rfl, g1, g2⟩
        obtain ⟨A', hC, hRA, hE⟩ := cl_done (w := w) hA f1 f2 g2 (fun q hq => g1 q (by simp only [List.mem_cons, List.not_mem_nil, or_false]; omega)) (net_pl hA hp) (BS_up hA.2.1 (by omega)) (fun _ _ i hi => (up1_ne (by omega)).symm)
        refine wk_5_116 (hE.mono ?_)
        rintro r M3 ⟨rfl, k1, k2⟩
        exact wk_5_130 ⟨1, A', rfl, Or.inr ⟨p, x, y, l, ⟨hp, hx, hy, hl, ⟨rfl, rfl, rfl, rfl⟩, hz, hg⟩, rfl, hC⟩, hRA, k1, k2⟩
      · rintro ⟨p', x', y', l', h1, h2, h3, h4, ⟨e1, e2, e3, e4⟩, h6, h7⟩
        have a1 : p = p' := (iN_eq (by omega) (by omega)).mp e1
        have a2 : x = x' := (iN_eq (by omega) (by omega)).mp e2
        have a3 : y = y' := (iN_eq (by omega) (by omega)).mp e3
        have a4 : l = l' := (iN_eq (by omega) (by omega)).mp e4
        subst a1 a2 a3 a4
        exact bi_eq c9 h7
    · have hno : ¬ ∃ p x y l, PLc A (iN p) x2 x3 x4 p x y l := fun ⟨p', x, y, l, h1, h2, h3, h4, ⟨e1, e2, e3, e4⟩, h6, h7⟩ => q ⟨x, y, l, h2, h3, h4, e2, e3, e4⟩
      have hno : ¬ ∃ p' x y l, PLc A (iN p) x2 x3 x4 p' x y l := fun ⟨p', x, y, l, h1, h2, h3, h4, ⟨e1, e2, e3, e4⟩, h6, h7⟩ => q ⟨x, y, l, h2, h3, h4, e2, e3, e4⟩
      exact wk_5_0 (r1 := bi (¬ iN p < 0 ∧ iN p < iN (A.1 0))) (r2 := bi (A.1 (32 + p) ≠ 0)) (r3 := 0) (r4 := 0) (ct_29 hb) (fun c1 => e0 c1) (fun _ => ct_30 hb (by omega)) (fun _ c2 => no hno) (fun _ _ c3 => no hno) (fun _ _ _ _ c5 => no hno) (fun _ _ _ _ _ c6 => no hno) (fun _ _ _ _ _ _ c7 => no hno) (fun _ _ c3 c4 c5 c6 c7 c8 => absurd (mkR3 c3 c4 c5 c6 c7 c8) q) (fun _ _ c3 c4 c5 c6 c7 c8 => absurd (mkR3 c3 c4 c5 c6 c7 c8) q) (fun _ _ c3 c4 c5 c6 c7 c8 => absurd (mkR3 c3 c4 c5 c6 c7 c8) q) (fun _ _ c3 c4 c5 c6 c7 c8 => absurd (mkR3 c3 c4 c5 c6 c7 c8) q) (fun _ _ _ _ _ _ _ c8 => no hno) (fun _ _ _ c4 => no hno)
  · have hno : ¬ ∃ p x y l, PLc A x1 x2 x3 x4 p x y l := fun ⟨p', x, y, l, h1, h2, h3, h4, ⟨e1, e2, e3, e4⟩, h6, h7⟩ => g (by rw [e1]; exact ⟨iN_nn (by omega), (iN_lt (by omega) (by omega)).mpr h1⟩)
    exact wk_5_0 (r1 := bi (¬ x1 < 0 ∧ x1 < iN (A.1 0))) (r2 := 0) (r3 := 0) (r4 := 0) (ct_29 hb) (fun c1 => no hno) (fun c1 => absurd (bi_ne c1) g) (fun c1 => absurd (bi_ne c1) g) (fun c1 => absurd (bi_ne c1) g) (fun c1 => absurd (bi_ne c1) g) (fun c1 => absurd (bi_ne c1) g) (fun c1 => absurd (bi_ne c1) g) (fun c1 => absurd (bi_ne c1) g) (fun c1 => absurd (bi_ne c1) g) (fun c1 => absurd (bi_ne c1) g) (fun c1 => absurd (bi_ne c1) g) (fun c1 => absurd (bi_ne c1) g) (fun c1 => absurd (bi_ne c1) g)
theorem rf_place {A A' : qA} {x1 x2 x3 x4 v : Int32} (hA : RA2 A) (hSt : StPlace A x1 x2 x3 x4 v A') (h : RF A M) : gE w 94 0 [some (.ref 148), some (.int x1), some (.int x2), some (.int x3), some (.int x4), none, none, none] [] M (RFp v A' M) := by
  have h0 := hA.1.1.1
  have hd := RF_RD hA h
  have no : (¬ ∃ p x y l, PLc A x1 x2 x3 x4 p x y l) → RFp v A' M (some (.int 0)) M := by
    intro g
    rcases hSt with ⟨-, rfl, rfl⟩ | ⟨p, x, y, l, k, -⟩
    · exact ⟨rfl, h, fun _ _ => rfl⟩
    · exact absurd ⟨p, x, y, l, k⟩ g
  by_cases g : ¬ x1 < 0 ∧ x1 < iN (A.1 0)
  · obtain ⟨p, hp, rfl⟩ := rng g.1 g.2 (by omega)
    have hnp := isNet_lt hA.1.2.1 (show p < 16 by omega)
    have e0 : ∀ {α : Prop}, bi (¬ iN p < 0 ∧ iN p < iN (A.1 0)) = 0 → α := fun c1 => absurd g (bi_eq c1)
    have ep : M 149 (iN 32 + iN p).toNatClampNeg = iN (A.1 (32 + p)) := by rw [iN_add, iN_ix (by omega)]; exact h.1.1 _ (by omega)
    have hbp := hA.2.1 (32 + p) (by omega)
    by_cases q : R3 x2 x3 x4
    · obtain ⟨x, y, l, hx, hy, hl, rfl, rfl, rfl⟩ := q
      have n4 : ¬ iN l < 1 := fun z => by have := (iN_lt (b := 1) (by omega) (by omega)).mp z; omega
      have n5 : ¬ iN 3 < iN l := fun z => by have := (iN_lt (by omega) (by omega)).mp z; omega
      have n6 : ¬ iN 11 < iN x := fun z => by have := (iN_lt (by omega) (by omega)).mp z; omega
      have n7 : ¬ iN 9 < iN y := fun z => by have := (iN_lt (by omega) (by omega)).mp z; omega
      refine wk_94_0 (r1 := bi (¬ iN p < 0 ∧ iN p < iN (A.1 0))) (ct_84 (n := A.2.1) h.1.1) (fun c1 => e0 c1) (fun _ c2 => absurd c2 (iN_nn (by omega))) (fun _ _ c3 => absurd c3 n6) (fun _ _ _ c4 => absurd c4 (iN_nn (by omega))) (fun _ _ _ _ c5 => absurd c5 n7) (fun _ _ _ _ _ c6 => absurd c6 n4) (fun _ _ _ _ _ _ c7 => absurd c7 n5) (fun _ _ _ _ _ _ _ => by rw [iN_add]; exact iN_in (by omega) (by omega)) (fun _ _ _ _ _ _ _ c8 => ?_) (fun _ _ _ _ _ _ _ c8 => no ?_)
      · rw [ep, iN_pos (by omega)] at c8
        have hz : A.1 (32 + p) = 0 := by omega
        refine ev_for 2 (Inv := fun i loc M' => M' = M ∧ ∃ o7, loc = [some (.ref 148), some (.int (iN p)), some (.int (iN x)), some (.int (iN y)), some (.int (iN l)), some (.int (bi (GdP A.1 A.2.1 (A.2.1 p) x y l i))), some (.int (iN i)), o7]) ?_ ?_ 0 _ _ (Nat.zero_le _) ⟨rfl, none, by rw [bi_pos (show GdP A.1 A.2.1 (A.2.1 p) x y l 0 from fun i hi => absurd hi (by omega))]; rfl⟩
        · rintro i loc M1 hi ⟨eM, o7, rfl⟩ rec
          subst eM
          have b1 := bit_tab ⟨l, hl.2⟩ ⟨i, hi⟩
          have b2 := bit_one ⟨l, hl.2⟩ ⟨i, hi⟩
          dsimp only at b1 b2
          have ec : iN 120 * iN i + iN 12 * iN y + iN x = iN (120 * i + (12 * y + x)) := by rw [iN_mul, iN_mul, iN_add, iN_add, Nat.add_assoc]
          generalize hcd : 120 * i + (12 * y + x) = c at ec
          have hc : c < 240 := by omega
          have e3 : M1 153 (iN c).toNatClampNeg = pm (pad A.1 c) := by rw [iN_ix (by omega)]; exact h.1.2.2.1 c hc
          have e4 : M1 149 (iN 352 + iN c).toNatClampNeg = iN (A.1 (352 + c)) := by rw [iN_add, iN_ix (by omega)]; exact h.1.1 _ (by omega)
          have e5 : M1 152 (iN p).toNatClampNeg = iN (A.2.1 p) := by rw [iN_ix (by omega)]; exact h.1.2.1 p (by omega)
          have hbc := hA.2.1 (352 + c) (by omega)
          have hpl := pad_le hA.1.1 c
          refine wk_94_60 (r1 := bi (fre A.1 A.2.1 c (A.2.1 p))) (fun c1 => absurd ((iN_lt (by omega) (by omega)).mpr hi) c1) (fun c1 => absurd ((iN_lt (by omega) (by omega)).mpr hi) c1) (fun _ => ?_) (fun _ _ _ => by rw [ec]; exact iN_in hc (by omega)) (fun _ _ _ _ => by rw [ec, iN_add]; exact iN_in (by omega) (by omega)) (fun _ _ _ _ _ => iN_in (by omega) (by omega)) (fun _ _ _ _ _ => by rw [ec, e5]; exact ct_93 hd hc hnp)
          rw [ec, e3, e4, iN_succ]
          have hgo : ∀ z : Int32, z = bi (GdP A.1 A.2.1 (A.2.1 p) x y l (i + 1)) → gE w 94 60 [some (.ref 148), some (.int (iN p)), some (.int (iN x)), some (.int (iN y)), some (.int (iN l)), some (.int z), some (.int (iN (i + 1))), some (.int (iN c))] [] M1 (RFp v A' M1) := fun z ez => by subst ez; exact rec _ _ ⟨rfl, _, rfl⟩
          apply hgo
          by_cases a1 : GdP A.1 A.2.1 (A.2.1 p) x y l i
          · rw [bi_pos a1, if_neg (show ¬ (1 : Int32) = 0 by decide)]
            by_cases a2 : ((iN l >>> (iN i &&& 31)) &&& 1) = 0
            · rw [if_pos a2, bi_pos (GdP_s a1 fun z => by have := b1.mp a2; omega)]
            · rw [if_neg a2]
              have hbt : bt l i = 1 := by
                have : bt l i ≠ 0 := fun z => a2 (b1.mpr z)
                omega
              by_cases a3 : pad A.1 c = 0
              · rw [if_pos ((pm_neg (by omega)).mpr a3)]
                by_cases a4 : A.1 (352 + c) = 0
                · rw [if_pos ((iN_z (by omega)).mpr a4), bi_n]
                  refine bi_congr ⟨fun z => GdP_s a1 fun _ => ?_, fun z => ?_⟩
                  · rw [hcd]
                    exact ⟨by unfold own; rw [if_pos a3]; exact a4, bi_ne z⟩
                  · have := (z i (by omega) hbt).2
                    rw [hcd] at this
                    rw [bi_pos this]
                    decide
                · rw [if_neg (fun z => a4 ((iN_z (by omega)).mp z)), bi_neg]
                  intro z
                  have := (z i (by omega) hbt).1
                  rw [hcd] at this
                  exact a4 (own_parts this).2
              · rw [if_neg (fun z => a3 ((pm_neg (by omega)).mp z)), bi_neg]
                intro z
                have := (z i (by omega) hbt).1
                rw [hcd] at this
                exact a3 (own_parts this).1
          · rw [bi_neg a1, if_pos rfl, bi_neg (fun z => a1 fun j hj => z j (by omega))]
        · rintro loc M1 ⟨eM, o7, rfl⟩
          subst eM
          refine wk_94_60 (r1 := 0) (fun _ c2 => ?_) (fun _ c2 => no ?_) (fun c1 => lt_no c1) (fun c1 => lt_no c1) (fun c1 => lt_no c1) (fun c1 => lt_no c1) (fun c1 => lt_no c1)
          · have hg := bi_ne c2
            rcases hSt with ⟨k, -, -⟩ | ⟨p', x', y', l', ⟨h1, h2, h3, h4, ⟨e1, e2, e3, e4⟩, h6, h7⟩, rfl, hC⟩
            · exact absurd ⟨p, x, y, l, hp, hx, hy, hl, ⟨rfl, rfl, rfl, rfl⟩, hz, hg⟩ k
            · have a1 : p = p' := (iN_eq (by omega) (by omega)).mp e1
              have a2 : x = x' := (iN_eq (by omega) (by omega)).mp e2
              have a3 : y = y' := (iN_eq (by omega) (by omega)).mp e3
              have a4 : l = l' := (iN_eq (by omega) (by omega)).mp e4
              subst a1 a2 a3 a4
              refine (rf_begin h).mono ?_
              rintro r M2 ⟨rfl, f1, f2, f3⟩
              refine wk_94_158 (by rw [iN_add]; exact iN_in (by omega) (by omega)) ?_
              rw [iN_add, iN_ix (by omega), show iN 120 * iN l + iN 12 * iN y + iN x = iN (120 * l + (12 * y + x)) by rw [iN_mul, iN_mul, iN_add, iN_add, Nat.add_assoc]]
              have hO : Ok (up1 A.1 (32 + p) (120 * l + (12 * y + x))) := by
                refine Ok_place hA.1.1 hp hz (by omega) (fun c hc z => ?_)
                rw [hp_at, show (120 * l + (12 * y + x)) / 120 = l by omega, show (120 * l + (12 * y + x)) % 120 = 12 * y + x by omega] at z
                have := hg (c / 120) (by omega) z.1
                rw [show 120 * (c / 120) + (12 * y + x) = c by omega] at this
                exact ⟨this.1, this.2.1⟩
              refine (rf_done hA hC hO (net_pl hA hp) (BS_up hA.2.1 (by omega)) f1 f2 f3 (NW_up f3.1) (fr_ms (by decide))).mono ?_
              rintro r M3 ⟨rfl, l1, l2⟩
              exact wk_94_183 ⟨rfl, l1, l2⟩
          · rintro ⟨p', x', y', l', h1, h2, h3, h4, ⟨e1, e2, e3, e4⟩, h6, h7⟩
            have a1 : p = p' := (iN_eq (by omega) (by omega)).mp e1
            have a2 : x = x' := (iN_eq (by omega) (by omega)).mp e2
            have a3 : y = y' := (iN_eq (by omega) (by omega)).mp e3
            have a4 : l = l' := (iN_eq (by omega) (by omega)).mp e4
            subst a1 a2 a3 a4
            exact bi_eq c2 h7
      · rintro ⟨p', x', y', l', h1, h2, h3, h4, ⟨e1, e2, e3, e4⟩, h6, h7⟩
        have : p = p' := (iN_eq (by omega) (by omega)).mp e1
        subst this
        rw [ep, iN_pos (by omega)] at c8
        omega
    · have hno : ¬ ∃ p' x y l, PLc A (iN p) x2 x3 x4 p' x y l := fun ⟨p', x, y, l, h1, h2, h3, h4, ⟨e1, e2, e3, e4⟩, h6, h7⟩ => q ⟨x, y, l, h2, h3, h4, e2, e3, e4⟩
      exact wk_94_0 (r1 := bi (¬ iN p < 0 ∧ iN p < iN (A.1 0))) (ct_84 (n := A.2.1) h.1.1) (fun c1 => e0 c1) (fun _ c2 => no hno) (fun _ _ c3 => no hno) (fun _ _ _ c4 => no hno) (fun _ _ _ _ c5 => no hno) (fun _ _ _ _ _ c6 => no hno) (fun _ _ _ _ _ _ c7 => no hno) (fun _ _ _ _ _ _ _ => by rw [iN_add]; exact iN_in (by omega) (by omega)) (fun _ c2 c3 c4 c5 c6 c7 c8 => absurd (mkR3 c6 c7 c2 ((nlt (by decide)).mp c3) c4 ((nlt (by decide)).mp c5)) q) (fun _ c2 c3 c4 c5 c6 c7 c8 => absurd (mkR3 c6 c7 c2 ((nlt (by decide)).mp c3) c4 ((nlt (by decide)).mp c5)) q)
  · have hno : ¬ ∃ p x y l, PLc A x1 x2 x3 x4 p x y l := fun ⟨p', x, y, l, h1, h2, h3, h4, ⟨e1, e2, e3, e4⟩, h6, h7⟩ => g (by rw [e1]; exact ⟨iN_nn (by omega), (iN_lt (by omega) (by omega)).mpr h1⟩)
    exact wk_94_0 (r1 := bi (¬ x1 < 0 ∧ x1 < iN (A.1 0))) (ct_84 (n := A.2.1) h.1.1) (fun c1 => no hno) (fun c1 => absurd (bi_ne c1) g) (fun c1 => absurd (bi_ne c1) g) (fun c1 => absurd (bi_ne c1) g) (fun c1 => absurd (bi_ne c1) g) (fun c1 => absurd (bi_ne c1) g) (fun c1 => absurd (bi_ne c1) g) (fun c1 => absurd (bi_ne c1) g) (fun c1 => absurd (bi_ne c1) g) (fun c1 => absurd (bi_ne c1) g)
end API8
