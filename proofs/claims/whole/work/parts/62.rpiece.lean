/-! The reference: labels of pieces. -/
def sm : Nat → (Nat → Nat) → Nat
  | 0, _ => 0
  | k + 1, f => sm k f + f k
theorem sm_le {f g : Nat → Nat} : ∀ k, (∀ i, i < k → f i ≤ g i) → sm k f ≤ sm k g
  | 0, _ => Nat.le_refl _
  | k + 1, h => by
    have h1 := sm_le k (fun i hi => h i (by omega))
    have h2 := h k (by omega)
    simp only [sm]
    omega
theorem sm_lt {f g : Nat → Nat} : ∀ k, (∀ i, i < k → f i ≤ g i) → (∃ i, i < k ∧ f i < g i) → sm k f < sm k g
  | 0, _, ⟨_, h, _⟩ => absurd h (by omega)
  | k + 1, h, ⟨i, hi, hl⟩ => by
    have h2 := h k (by omega)
    simp only [sm]
    by_cases e : i = k
    · subst e
      have h1 := sm_le i (fun j hj => h j (by omega))
      omega
    · have h1 := sm_lt k (fun j hj => h j (by omega)) ⟨i, by omega, hl⟩
      omega
theorem up1_le {f : Nat → Nat} {e v : Nat} (h : v ≤ f e) (i : Nat) : up1 f e v i ≤ f i := by
  unfold up1
  split
  · rename_i x; rw [x]; exact h
  · exact Nat.le_refl _
/-- labels under way -/
def labJ (Q : Nat → Prop) (L : Nat → Nat) : Prop := ∀ c, c < 240 → Q c → L c ≤ c ∧ Q (L c) ∧ ∀ f, eC Q f → f (L c) = f c
def labM (Q : Nat → Prop) (L : Nat → Nat) (M : qM) : Prop := ∀ c, c < 240 → (Q c → M 155 c = iN (L c)) ∧ (¬ Q c → M 155 c = -1)
section RPIECE
variable {w : qS} {S n : Nat → Nat} {M : qM}
theorem RD_fr {M' : qM} (h : RD S n M) (e : ∀ q, q = 149 ∨ q = 152 ∨ q = 153 ∨ q = 154 → M' q = M q) : RD S n M' := ⟨h.1, h.2.1, fun i hi => by rw [e 149 (by omega)]; exact h.2.2.1 i hi, fun p hp => by rw [e 152 (by omega)]; exact h.2.2.2.1 p hp, fun c hc => by rw [e 153 (by omega)]; exact h.2.2.2.2.1 c hc, fun c hc => by rw [e 154 (by omega)]; exact h.2.2.2.2.2 c hc⟩
theorem ct_105 (h : RD S n M) {net : Nat} (hnet : net < 16) :
    gE w 105 0 [some (.ref 148), some (.int (iN net)), none, none, none, none] [] M (fun r M' => r = none ∧ fr [155] M M' ∧ ∃ L, isLab (fun c => ow S n c = net + 1) L ∧ labM (fun c => ow S n c = net + 1) L M') := by
  refine wk_105_0 ?_
  refine ev_for 240 (Inv := fun i loc M' => (fr [155] M M' ∧ ∀ c, c < i → (ow S n c = net + 1 → M' 155 c = iN c) ∧ (¬ ow S n c = net + 1 → M' 155 c = -1)) ∧ ∃ o3 o4 o5, loc = [some (.ref 148), some (.int (iN net)), some (.int (iN i)), o3, o4, o5]) ?_ ?_ 0 _ _ (Nat.zero_le _) ⟨⟨fr_rfl, fun p hp => absurd hp (by omega)⟩, _, _, _, rfl⟩
  · rintro i loc M' hi ⟨⟨a1, a2⟩, o3, o4, o5, rfl⟩ rec
    have hol := ow_le h.1 h.2.1 (n := n) hi
    have e : M' 154 (iN i).toNatClampNeg = pm (ow S n i) := by rw [iN_ix (by omega), a1 154 (by decide)]; exact h.2.2.2.2.2 i hi
    refine wk_105_2 (fun c1 => absurd ((iN_lt (by omega) (by omega)).mpr hi) c1) (fun _ => iN_in hi (by omega)) (fun _ => ?_)
    rw [iN_succ, e, iN_ix (by omega)]
    refine rec _ _ ⟨⟨fr_tr a1 (fr_ms (by decide)), fun c hc => ?_⟩, _, _, _, rfl⟩
    rw [ms_get]
    by_cases x : c = i
    · subst x
      rw [if_pos ⟨rfl, rfl⟩]
      refine ⟨fun y => ?_, fun y => ?_⟩
      · rw [if_pos ((pm_iN (by omega) (by omega)).mpr y)]
      · rw [if_neg (fun z => y ((pm_iN (by omega) (by omega)).mp z))]
    · rw [if_neg (fun y => x y.2)]
      exact a2 c (by omega)
  · rintro loc M1 ⟨⟨a1, a2⟩, o3, o4, o5, rfl⟩
    refine wk_105_2 (fun _ => ?_) (fun c1 => absurd ((iN_lt (by omega) (by omega)).mp c1) (by omega)) (fun c1 => absurd ((iN_lt (by omega) (by omega)).mp c1) (by omega))
    obtain ⟨N, hN⟩ : ∃ N, N = 240 := ⟨_, rfl⟩
    generalize hQd : (fun c => ow S n c = net + 1) = Q at *
    have hQe : ∀ c, Q c ↔ ow S n c = net + 1 := fun c => by rw [← hQd]
    have hJ0 : labJ Q (fun c => c) := fun c hc hq => ⟨Nat.le_refl _, hq, fun _ _ => rfl⟩
    have hM0 : labM Q (fun c => c) M1 := fun c hc => ⟨fun x => (a2 c hc).1 ((hQe c).mp x), fun x => (a2 c hc).2 (fun y => x ((hQe c).mpr y))⟩
    refine ev_loop (Inv := fun k loc M' => ∃ L x2, fr [155] M M' ∧ labJ Q L ∧ labM Q L M' ∧ ((x2 = (0 : Int32) ∧ k = sm N L ∧ ∀ c d, c < 240 → d < 9 → Q c → nx c d ≠ 0 → Q (nx c d - 1) → L (nx c d - 1) ≤ L c) ∨ (x2 = 1 ∧ k = sm N L + 1)) ∧ ∃ o1 o3 o4 o5, loc = [some (.ref 148), o1, some (.int x2), o3, o4, o5]) ?_ (sm N (fun c => c) + 1) _ _ ⟨fun c => c, 1, a1, hJ0, hM0, Or.inr ⟨rfl, rfl⟩, _, _, _, _, rfl⟩
    clear a1 a2 hJ0 hM0
    rintro k loc M2 ⟨L0, x2, b1, b2, b3, b4, o1, o3, o4, o5, rfl⟩ rec
    rcases b4 with ⟨rfl, -, b4⟩ | ⟨rfl, rfl⟩
    · refine wk_105_38 (fun _ => ⟨rfl, b1, L0, ⟨fun c e hc he qc qe hE => ?_, fun c hc qc => ⟨by have := (b2 c hc qc).1; omega, (b2 c hc qc).2.1⟩, fun f hf c hc qc => (b2 c hc qc).2.2 f hf⟩, b3⟩) (fun c1 => absurd rfl c1)
      have g1 : ∀ c e, c < 240 → e < 240 → Q c → Q e → nE c e → L0 e ≤ L0 c := by
        rintro c e hc he qc qe ⟨d, hd, hx⟩
        have := b4 c d hc hd qc (by omega)
        rw [hx, Nat.add_sub_cancel] at this
        exact this qe
      exact Nat.le_antisymm (g1 e c he hc qe qc (nE_sym hc hE)) (g1 c e hc he qc qe hE)
    · refine wk_105_38 (fun c1 => absurd c1 (by decide)) (fun _ => ?_)
      -- one pass
      refine ev_for 240 (Inv := fun c loc M' => ∃ L x2, fr [155] M M' ∧ labJ Q L ∧ labM Q L M' ∧ ((x2 = (0 : Int32) ∧ sm N L = sm N L0 ∧ ∀ c' d, c' < c → d < 9 → Q c' → nx c' d ≠ 0 → Q (nx c' d - 1) → L (nx c' d - 1) ≤ L c') ∨ (x2 = 1 ∧ sm N L < sm N L0)) ∧ ∃ o1 o4 o5, loc = [some (.ref 148), o1, some (.int x2), some (.int (iN c)), o4, o5]) ?_ ?_ 0 _ _ (Nat.zero_le _) ⟨L0, 0, b1, b2, b3, Or.inl ⟨rfl, rfl, fun c' d hc' => absurd hc' (by omega)⟩, _, _, _, rfl⟩
      · clear b1 b2 b3
        rintro c loc M3 hc ⟨L, x2, d1, d2, d3, d4, o1, o4, o5, rfl⟩ rec2
        refine wk_105_46 (fun c1 => absurd ((iN_lt (by omega) (by omega)).mpr hc) c1) (fun _ => ?_)
        refine ev_for 9 (Inv := fun d loc M' => ∃ L x2, fr [155] M M' ∧ labJ Q L ∧ labM Q L M' ∧ ((x2 = (0 : Int32) ∧ sm N L = sm N L0 ∧ (∀ c' d, c' < c → d < 9 → Q c' → nx c' d ≠ 0 → Q (nx c' d - 1) → L (nx c' d - 1) ≤ L c') ∧ ∀ d', d' < d → Q c → nx c d' ≠ 0 → Q (nx c d' - 1) → L (nx c d' - 1) ≤ L c) ∨ (x2 = 1 ∧ sm N L < sm N L0)) ∧ ∃ o1 o5, loc = [some (.ref 148), o1, some (.int x2), some (.int (iN c)), some (.int (iN d)), o5]) ?_ ?_ 0 _ _ (Nat.zero_le _) ⟨L, x2, d1, d2, d3, ?_, _, _, rfl⟩
        · clear d1 d2 d3 d4
          rintro d loc M4 hd ⟨L1, x2, f1, f2, f3, f4, o1, o5, rfl⟩ rec3
          have hnext : ∀ (x2 : Int32) (o4 o5 : Option Value), ¬ Q c → ((x2 = (0 : Int32) ∧ sm N L1 = sm N L0 ∧ (∀ c' d, c' < c → d < 9 → Q c' → nx c' d ≠ 0 → Q (nx c' d - 1) → L1 (nx c' d - 1) ≤ L1 c') ∧ ∀ d', d' < d → Q c → nx c d' ≠ 0 → Q (nx c d' - 1) → L1 (nx c d' - 1) ≤ L1 c) ∨ (x2 = 1 ∧ sm N L1 < sm N L0)) → gE w 105 46 [some (.ref 148), o1, some (.int x2), some (.int (iN c + 1)), o4, o5] [] M4 (fun r M' => r = none ∧ fr [155] M M' ∧ ∃ L, isLab Q L ∧ labM Q L M') := by
            intro x2 o4 o5 hn hx
            rw [iN_succ]
            refine rec2 _ _ ⟨L1, x2, f1, f2, f3, ?_, _, _, _, rfl⟩
            rcases hx with ⟨e1, e2, e3, e4⟩ | hx
            · refine Or.inl ⟨e1, e2, fun c' d hc' hd qc => ?_⟩
              by_cases k : c' = c
              · rw [k] at qc; exact absurd qc hn
              · exact e3 c' d (by omega) hd qc
            · exact Or.inr hx
          by_cases qc : Q c
          · have ec : M4 155 (iN c).toNatClampNeg = iN (L1 c) := by rw [iN_ix (by omega)]; exact (f3 c hc).1 qc
            have lc := (f2 c hc qc).1
            have nneg : ¬ M4 155 (iN c).toNatClampNeg < 0 := by rw [ec]; exact iN_nn (by omega)
            have hsame : (nx c d ≠ 0 → Q (nx c d - 1) → L1 (nx c d - 1) ≤ L1 c) → ∀ o5, gE w 105 56 [some (.ref 148), o1, some (.int x2), some (.int (iN c)), some (.int (iN d + 1)), o5] [] M4 (fun r M' => r = none ∧ fr [155] M M' ∧ ∃ L, isLab Q L ∧ labM Q L M') := by
              intro hok o5
              rw [iN_succ]
              refine rec3 _ _ ⟨L1, x2, f1, f2, f3, ?_, _, _, rfl⟩
              rcases f4 with ⟨e1, e2, e3, e4⟩ | f4
              · refine Or.inl ⟨e1, e2, e3, fun d' hd' q1 q2 q3 => ?_⟩
                by_cases k : d' = d
                · rw [k] at q2 q3 ⊢; exact hok q2 q3
                · exact e4 d' (by omega) q1 q2 q3
              · exact Or.inr f4
            have hnx : nx c d ≤ 240 := by
              by_cases y : nx c d = 0
              · omega
              · exact (nx_ok hc hd y).1
            refine wk_105_56 (r1 := pm (nx c d)) (fun c1 => absurd ((iN_lt (by omega) (by omega)).mpr hd) c1) (fun _ => iN_in hc (by omega)) (fun _ c2 => absurd c2 nneg) (fun _ _ => ct_100 hc hd) (fun _ _ c3 => ?_) (fun _ _ c3 => ?_) (fun _ _ c3 c4 => ?_) (fun _ _ c3 c4 => ?_)
            · have y := (pm_neg (by omega)).mp c3
              exact hsame (fun x => absurd y x) _
            · have y : nx c d ≠ 0 := fun x => c3 ((pm_neg (by omega)).mpr x)
              rw [pm_of y]; exact iN_in (by omega) (by omega)
            · have y : nx c d ≠ 0 := fun x => c3 ((pm_neg (by omega)).mpr x)
              refine hsame (fun _ qe => ?_) _
              have le := (f2 _ (show nx c d - 1 < 240 by omega) qe).1
              rw [ec, pm_of y, iN_ix (by omega), (f3 _ (by omega)).1 qe] at c4
              exact Nat.le_of_not_lt (fun x => c4 ((iN_lt (by omega) (by omega)).mpr x))
            · have y : nx c d ≠ 0 := fun x => c3 ((pm_neg (by omega)).mpr x)
              rw [pm_of y] at c4 ⊢
              rw [ec, iN_ix (a := nx c d - 1) (by omega)] at c4
              have qe : Q (nx c d - 1) := by
                apply Classical.byContradiction
                intro x
                rw [(f3 _ (by omega)).2 x] at c4
                have k1 : (-1 : Int32) < 0 := by decide
                have k2 := iN_nn (a := L1 c) (by omega)
                exact k2 (Int32.lt_trans c4 k1)
              have le := (f2 _ (show nx c d - 1 < 240 by omega) qe).1
              rw [(f3 _ (by omega)).1 qe] at c4
              have hlt : L1 c < L1 (nx c d - 1) := (iN_lt (by omega) (by omega)).mp c4
              have hE : nE c (nx c d - 1) := ⟨d, hd, by omega⟩
              rw [iN_succ, ec, iN_ix (a := nx c d - 1) (by omega)]
              have hsm : sm N (up1 L1 (nx c d - 1) (L1 c)) < sm N L1 := sm_lt N (fun i _ => up1_le (by omega) i) ⟨nx c d - 1, by omega, by rw [up1_at]; exact hlt⟩
              refine rec3 _ _ ⟨up1 L1 (nx c d - 1) (L1 c), 1, fr_tr f1 (fr_ms (by decide)), fun x hx qx => ?_, fun x hx => ?_, Or.inr ⟨rfl, ?_⟩, _, _, rfl⟩
              · by_cases k : x = nx c d - 1
                · subst k
                  rw [up1_at]
                  refine ⟨by omega, (f2 c hc qc).2.1, fun f hf => ?_⟩
                  rw [(f2 c hc qc).2.2 f hf]
                  exact hf c _ hc hx qc qx hE
                · rw [up1_ne k]; exact f2 x hx qx
              · rw [ms_get]
                by_cases k : x = nx c d - 1
                · rw [if_pos ⟨rfl, k⟩, k, up1_at]
                  exact ⟨fun _ => rfl, fun z => absurd qe z⟩
                · rw [if_neg (fun z => k z.2), up1_ne k]; exact f3 x hx
              · rcases f4 with ⟨-, e2, -⟩ | ⟨-, e2⟩ <;> omega
          · have ec : M4 155 (iN c).toNatClampNeg = -1 := by rw [iN_ix (by omega)]; exact (f3 c hc).2 qc
            have neg : M4 155 (iN c).toNatClampNeg < 0 := by rw [ec]; decide
            exact wk_105_56 (r1 := 0) (fun c1 => absurd ((iN_lt (by omega) (by omega)).mpr hd) c1) (fun _ => iN_in hc (by omega)) (fun _ _ => hnext x2 _ _ qc f4) (fun _ c2 => absurd neg c2) (fun _ c2 => absurd neg c2) (fun _ c2 => absurd neg c2) (fun _ c2 => absurd neg c2) (fun _ c2 => absurd neg c2)
        · clear d1 d2 d3 d4
          rintro loc M4 ⟨L1, x2, f1, f2, f3, f4, o1, o5, rfl⟩
          have hno : ∀ {α : Prop}, iN 9 < iN 9 → α := fun c1 => absurd ((iN_lt (by omega) (by omega)).mp c1) (by omega)
          refine wk_105_56 (r1 := 0) (fun _ => ?_) (fun c1 => hno c1) (fun c1 => hno c1) (fun c1 => hno c1) (fun c1 => hno c1) (fun c1 => hno c1) (fun c1 => hno c1) (fun c1 => hno c1)
          rw [iN_succ]
          refine rec2 _ _ ⟨L1, x2, f1, f2, f3, ?_, _, _, _, rfl⟩
          rcases f4 with ⟨e1, e2, e3, e4⟩ | f4
          · refine Or.inl ⟨e1, e2, fun c' d hc' hd qc => ?_⟩
            by_cases k : c' = c
            · subst k; exact e4 d hd qc
            · exact e3 c' d (by omega) hd qc
          · exact Or.inr f4
        · rcases d4 with ⟨e1, e2, e3⟩ | d4
          · exact Or.inl ⟨e1, e2, e3, fun d' hd' => absurd hd' (by omega)⟩
          · exact Or.inr d4
      · clear b1 b2 b3
        rintro loc M3 ⟨L, x2, d1, d2, d3, d4, o1, o4, o5, rfl⟩
        have hno : ∀ {α : Prop}, iN 240 < iN 240 → α := fun c1 => absurd ((iN_lt (by omega) (by omega)).mp c1) (by omega)
        refine wk_105_46 (fun _ => ?_) (fun c1 => hno c1)
        rcases d4 with ⟨e1, e2, e3⟩ | ⟨e1, e2⟩
        · exact rec (sm N L) _ _ (by omega) ⟨L, x2, d1, d2, d3, Or.inl ⟨e1, rfl, e3⟩, _, _, _, _, rfl⟩
        · exact rec (sm N L + 1) _ _ (by omega) ⟨L, x2, d1, d2, d3, Or.inr ⟨e1, rfl⟩, _, _, _, _, rfl⟩
end RPIECE
