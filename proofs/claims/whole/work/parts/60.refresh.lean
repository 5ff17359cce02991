/-! The reference: what it keeps ready. -/
def NW (S : Nat → Nat) (M : qM) : Prop := ∀ i, i < 592 → M 149 i = iN (S i)
theorem NW_fr {S : Nat → Nat} {M M' : qM} (h : NW S M) (e : M' 149 = M 149) : NW S M' := fun i hi => by rw [e]; exact h i hi
theorem bit1_tab : ∀ v : Fin 4, ∀ l : Fin 2, (((iN v.val >>> (iN l.val &&& 31)) &&& 1) = 1 ↔ bt v.val l.val = 1) := by decide +kernel
theorem iN_p1 (k : Nat) : iN k - 1 = pm k := by
  by_cases h : k = 0
  · subst h; rfl
  · rw [pm_of h]
    exact iN_sub (a := k) (b := 1) (by omega)
section RREF
variable {w : qS} {S n : Nat → Nat} {M : qM}
theorem ct_80 (hS : Ok S) (hn : isNet (S 1) S n) (h : NW S M) : gE w 80 0 [some (.ref 148), none, none, none, none, none] [] M (fun r M' => r = none ∧ fr [152, 153, 154] M M' ∧ FB S n M') := by
  have s0 := hS.1
  have s1 := hS.2.1
  have hends : ∀ i, i < 2 * S 1 → S (64 + i) < 16 := fun i hi => Nat.lt_of_lt_of_le (hS.2.2.2.2.2.1 i hi) s0
  have g0 : nnInv n (fun p => p) := fun q _ => ⟨Nat.le_refl _, rfl⟩
  have hnw : ∀ M', fr [152, 153, 154] M M' → NW S M' := fun M' f => NW_fr h (f 149 (by decide))
  refine wk_80_0 ?_
  -- each pin its own net
  refine ev_for 16 (Inv := fun i loc M' => (fr [152, 153, 154] M M' ∧ ∀ p, p < i → M' 152 p = iN p) ∧ ∃ o2 o3 o4 o5, loc = [some (.ref 148), some (.int (iN i)), o2, o3, o4, o5]) ?_ ?_ 0 _ _ (Nat.zero_le _) ⟨⟨fr_rfl, fun p hp => absurd hp (by omega)⟩, _, _, _, _, rfl⟩
  · rintro i loc M' hi ⟨⟨a1, a2⟩, o2, o3, o4, o5, rfl⟩ rec
    refine wk_80_2 (fun c1 => absurd ((iN_lt (by omega) (by omega)).mpr hi) c1) (fun _ => iN_in hi (by omega)) (fun _ => ?_)
    rw [iN_succ, iN_ix (by omega)]
    refine rec _ _ ⟨⟨fr_tr a1 (fr_ms (by decide)), fun p hp => ?_⟩, _, _, _, _, rfl⟩
    rw [ms_get]
    by_cases c : p = i
    · rw [if_pos ⟨rfl, c⟩, c]
    · rw [if_neg (fun x => c x.2), a2 p (by omega)]
  · rintro loc M1 ⟨⟨a1, a2⟩, o2, o3, o4, o5, rfl⟩
    refine wk_80_2 (fun _ => ?_) (fun c1 => absurd ((iN_lt (by omega) (by omega)).mp c1) (by omega)) (fun c1 => absurd ((iN_lt (by omega) (by omega)).mp c1) (by omega))
    -- sixteen turns over the joints
    refine ev_for 16 (Inv := fun t loc M' => (fr [152, 153, 154] M M' ∧ ∀ p, p < 16 → M' 152 p = iN (nnTurn (S 1) S (fun p => p) t p)) ∧ ∃ o2 o3 o4 o5, loc = [some (.ref 148), some (.int (iN t)), o2, o3, o4, o5]) ?_ ?_ 0 _ _ (Nat.zero_le _) ⟨⟨a1, a2⟩, _, _, _, _, rfl⟩
    · clear a1 a2
      rintro t loc M2 ht ⟨⟨b1, b2⟩, o2, o3, o4, o5, rfl⟩ rec
      refine wk_80_23 (fun c1 => absurd ((iN_lt (by omega) (by omega)).mpr ht) c1) (fun _ => ?_)
      have gt := nnTurn_inv hn hends g0 t
      refine ev_for (S 1) (Inv := fun j loc M' => (fr [152, 153, 154] M M' ∧ ∀ p, p < 16 → M' 152 p = iN (nnRow S (nnTurn (S 1) S (fun p => p) t) j p)) ∧ ∃ o3 o4 o5, loc = [some (.ref 148), some (.int (iN t)), some (.int (iN j)), o3, o4, o5]) ?_ ?_ 0 _ _ (Nat.zero_le _) ⟨⟨b1, b2⟩, _, _, _, rfl⟩
      · rintro j loc M3 hj ⟨⟨c1, c2⟩, o3, o4, o5, rfl⟩ rec2
        have hw3 := hnw M3 c1
        have e1 : M3 149 1 = iN (S 1) := hw3 1 (by omega)
        have p1 := hends (2 * j) (by omega)
        have p2 := hends (2 * j + 1) (by omega)
        rw [← Nat.add_assoc] at p2
        have gr := (nnRow_inv hn hends gt j (by omega)).1
        have q1 := (gr _ p1).1
        have q2 := (gr _ p2).1
        have ei : iN 64 + iN 2 * iN j = iN (64 + 2 * j) := by rw [iN_mul, iN_add]
        have ea : M3 149 (iN 64 + iN 2 * iN j).toNatClampNeg = iN (S (64 + 2 * j)) := by rw [ei, iN_ix (by omega)]; exact hw3 _ (by omega)
        have eb : M3 149 (iN 64 + iN 2 * iN j + 1).toNatClampNeg = iN (S (64 + 2 * j + 1)) := by rw [ei, iN_succ, iN_ix (by omega)]; exact hw3 _ (by omega)
        refine wk_80_31 (fun k1 => absurd (by rw [e1]; exact (iN_lt (by omega) (by omega)).mpr hj) k1) (fun _ => by rw [ei]; exact iN_in (by omega) (by omega)) (fun _ => by rw [ei, iN_succ]; exact iN_in (by omega) (by omega)) (fun _ => by rw [ea]; exact iN_in p1 (by omega)) (fun _ => by rw [eb]; exact iN_in p2 (by omega)) (fun _ => ?_)
        rw [ea, eb, iN_ix (a := S (64 + 2 * j)) (by omega), iN_ix (a := S (64 + 2 * j + 1)) (by omega), c2 _ p1, c2 _ p2]
        have em : (if iN (nnRow S (nnTurn (S 1) S (fun p => p) t) j (S (64 + 2 * j))) < iN (nnRow S (nnTurn (S 1) S (fun p => p) t) j (S (64 + 2 * j + 1))) then iN (nnRow S (nnTurn (S 1) S (fun p => p) t) j (S (64 + 2 * j))) else iN (nnRow S (nnTurn (S 1) S (fun p => p) t) j (S (64 + 2 * j + 1)))) = iN (if nnRow S (nnTurn (S 1) S (fun p => p) t) j (S (64 + 2 * j)) < nnRow S (nnTurn (S 1) S (fun p => p) t) j (S (64 + 2 * j + 1)) then nnRow S (nnTurn (S 1) S (fun p => p) t) j (S (64 + 2 * j)) else nnRow S (nnTurn (S 1) S (fun p => p) t) j (S (64 + 2 * j + 1))) := by
          by_cases x : nnRow S (nnTurn (S 1) S (fun p => p) t) j (S (64 + 2 * j)) < nnRow S (nnTurn (S 1) S (fun p => p) t) j (S (64 + 2 * j + 1))
          · rw [if_pos x, if_pos ((iN_lt (by omega) (by omega)).mpr x)]
          · rw [if_neg x, if_neg (fun y => x ((iN_lt (by omega) (by omega)).mp y))]
        rw [em, iN_succ]
        refine rec2 _ _ ⟨⟨fr_tr c1 (fr_tr (fr_ms (by decide)) (fr_ms (by decide))), fun p hp => ?_⟩, _, _, _, rfl⟩
        rw [ms_get, ms_get, c2 p hp, show nnRow S (nnTurn (S 1) S (fun p => p) t) (j + 1) p = nnPull S (nnRow S (nnTurn (S 1) S (fun p => p) t) j) j p from rfl]
        unfold nnPull
        by_cases x : p = S (64 + 2 * j + 1)
        · rw [if_pos ⟨rfl, x⟩, if_pos (Or.inr x)]
        · by_cases y : p = S (64 + 2 * j)
          · rw [if_neg (fun k => x k.2), if_pos ⟨rfl, y⟩, if_pos (Or.inl y)]
          · rw [if_neg (fun k => x k.2), if_neg (fun k => y k.2), if_neg (fun k => k.elim y x)]
      · rintro loc M3 ⟨⟨c1, c2⟩, o3, o4, o5, rfl⟩
        have e1 : M3 149 1 = iN (S 1) := hnw M3 c1 1 (by omega)
        have hno : ∀ {α : Prop}, iN (S 1) < M3 149 1 → α := fun k1 => absurd (by rw [e1] at k1; exact (iN_lt (by omega) (by omega)).mp k1) (by omega)
        refine wk_80_31 (fun _ => ?_) (fun k1 => hno k1) (fun k1 => hno k1) (fun k1 => hno k1) (fun k1 => hno k1) (fun k1 => hno k1)
        rw [iN_succ]
        exact rec _ _ ⟨⟨c1, c2⟩, _, _, _, _, rfl⟩
    · clear a1 a2
      rintro loc M2 ⟨⟨b1, b2⟩, o2, o3, o4, o5, rfl⟩
      have hnets : ∀ p, p < 16 → M2 152 p = iN (n p) := fun p hp => by rw [b2 p hp, nnTurn_end hn hends hp]
      refine wk_80_23 (fun _ => ?_) (fun c1 => absurd ((iN_lt (by omega) (by omega)).mp c1) (by omega))
      clear b2
      -- no pads
      refine ev_for 240 (Inv := fun i loc M' => ((fr [152, 153, 154] M M' ∧ ∀ p, p < 16 → M' 152 p = iN (n p)) ∧ ∀ c, c < i → M' 153 c = -1) ∧ ∃ o2 o3 o4 o5, loc = [some (.ref 148), some (.int (iN i)), o2, o3, o4, o5]) ?_ ?_ 0 _ _ (Nat.zero_le _) ⟨⟨⟨b1, hnets⟩, fun p hp => absurd hp (by omega)⟩, _, _, _, _, rfl⟩
      · rintro i loc M' hi ⟨⟨⟨c1, c2⟩, c3⟩, o2, o3, o4, o5, rfl⟩ rec
        refine wk_80_133 (fun c1 => absurd ((iN_lt (by omega) (by omega)).mpr hi) c1) (fun _ => iN_in hi (by omega)) (fun _ => ?_)
        rw [iN_succ, iN_ix (by omega)]
        refine rec _ _ ⟨⟨⟨fr_tr c1 (fr_ms (by decide)), fun p hp => by rw [ms_ne (by decide)]; exact c2 p hp⟩, fun p hp => ?_⟩, _, _, _, _, rfl⟩
        rw [ms_get]
        by_cases c : p = i
        · rw [if_pos ⟨rfl, c⟩]
        · rw [if_neg (fun x => c x.2), c3 p (by omega)]
      · rintro loc M3 ⟨⟨⟨c1, c2⟩, c3⟩, o2, o3, o4, o5, rfl⟩
        refine wk_80_133 (fun _ => ?_) (fun c1 => absurd ((iN_lt (by omega) (by omega)).mp c1) (by omega)) (fun c1 => absurd ((iN_lt (by omega) (by omega)).mp c1) (by omega))
        clear hnets b1
        -- the pins' pads
        refine ev_for (S 0) (Inv := fun p loc M' => ((fr [152, 153, 154] M M' ∧ ∀ p, p < 16 → M' 152 p = iN (n p)) ∧ ∀ c, c < 240 → M' 153 c = pm (padF S p c)) ∧ ∃ o2 o3 o4 o5, loc = [some (.ref 148), some (.int (iN p)), o2, o3, o4, o5]) ?_ ?_ 0 _ _ (Nat.zero_le _) ⟨⟨⟨c1, c2⟩, fun c hc => by rw [c3 c hc]; rfl⟩, _, _, _, _, rfl⟩
        · clear c1 c2 c3
          rintro p loc M4 hpS ⟨⟨⟨d1, d2⟩, d3⟩, o2, o3, o4, o5, rfl⟩ rec
          have hw4 := hnw M4 d1
          have e0 : M4 149 0 = iN (S 0) := hw4 0 (by omega)
          have hl := ok_pl hS (show p < 16 by omega)
          have eat : M4 149 (iN 32 + iN p).toNatClampNeg = iN (S (32 + p)) := by rw [iN_add, iN_ix (by omega)]; exact hw4 _ (by omega)
          refine wk_80_155 (fun k1 => absurd (by rw [e0]; exact (iN_lt (by omega) (by omega)).mpr hpS) k1) (fun _ => by rw [iN_add]; exact iN_in (by omega) (by omega)) (fun _ => ?_)
          rw [eat]
          refine ev_for 2 (Inv := fun l loc M' => ((fr [152, 153, 154] M M' ∧ ∀ p, p < 16 → M' 152 p = iN (n p)) ∧ ∀ c, c < 240 → M' 153 c = if c / 120 < l ∧ hp S p c then iN p else pm (padF S p c)) ∧ ∃ o4 o5, loc = [some (.ref 148), some (.int (iN p)), some (.int (iN (S (32 + p)))), some (.int (iN l)), o4, o5]) ?_ ?_ 0 _ _ (Nat.zero_le _) ⟨⟨⟨d1, d2⟩, fun c hc => by rw [if_neg (fun x => by omega)]; exact d3 c hc⟩, _, _, rfl⟩
          · rintro l loc M5 hl2 ⟨⟨⟨f1, f2⟩, f3⟩, o4, o5, rfl⟩ rec2
            have hb := bit1_tab ⟨S (32 + p) / 120, by omega⟩ ⟨l, hl2⟩
            dsimp only at hb
            have ex : iN 120 * iN l + (iN (S (32 + p)) - iN (S (32 + p)) / iN 120 * iN 120) = iN (120 * l + S (32 + p) % 120) := by rw [iN_rem (by omega) (by omega), iN_mul, iN_add]
            have ed : iN (S (32 + p)) / iN 120 = iN (S (32 + p) / 120) := iN_div (by omega) (by omega)
            refine wk_80_177 (fun k1 => absurd ((iN_lt (by omega) (by omega)).mpr hl2) k1) (fun _ k2 => ?_) (fun _ k2 => by rw [ex]; exact iN_in (by omega) (by omega)) (fun _ k2 => ?_)
            · rw [ed, hb] at k2
              rw [iN_succ]
              refine rec2 _ _ ⟨⟨⟨f1, f2⟩, fun c hc => ?_⟩, _, _, rfl⟩
              rw [f3 c hc]
              by_cases x : c / 120 < l ∧ hp S p c
              · rw [if_pos x, if_pos ⟨by omega, x.2⟩]
              · rw [if_neg x, if_neg (fun y => ?_)]
                have y1 := y.1
                by_cases z : c / 120 = l
                · exact k2 (z ▸ y.2.1)
                · exact x ⟨by omega, y.2⟩
            · rw [ed, hb] at k2
              rw [iN_succ, ex, iN_ix (by omega)]
              refine rec2 _ _ ⟨⟨⟨fr_tr f1 (fr_ms (by decide)), fun p hp => by rw [ms_ne (by decide)]; exact f2 p hp⟩, fun c hc => ?_⟩, _, _, rfl⟩
              rw [ms_get]
              by_cases z : c = 120 * l + S (32 + p) % 120
              · have hpc : hp S p c := ⟨by rw [show c / 120 = l by omega]; exact k2, by omega⟩
                rw [if_pos ⟨rfl, z⟩, if_pos ⟨by omega, hpc⟩]
              · rw [if_neg (fun y => z y.2), f3 c hc]
                by_cases x : c / 120 < l ∧ hp S p c
                · rw [if_pos x, if_pos ⟨by omega, x.2⟩]
                · rw [if_neg x, if_neg (fun y => ?_)]
                  have y1 := y.1
                  have y2 := y.2.2
                  by_cases z2 : c / 120 = l
                  · omega
                  · exact x ⟨by omega, y.2⟩
          · rintro loc M5 ⟨⟨⟨f1, f2⟩, f3⟩, o4, o5, rfl⟩
            refine wk_80_177 (fun _ => ?_) (fun k1 => absurd ((iN_lt (by omega) (by omega)).mp k1) (by omega)) (fun k1 => absurd ((iN_lt (by omega) (by omega)).mp k1) (by omega)) (fun k1 => absurd ((iN_lt (by omega) (by omega)).mp k1) (by omega))
            rw [iN_succ]
            refine rec _ _ ⟨⟨⟨f1, f2⟩, fun c hc => ?_⟩, _, _, _, _, rfl⟩
            rw [f3 c hc]
            simp only [padF]
            by_cases x : hp S p c
            · rw [if_pos ⟨by omega, x⟩, if_pos x]; rfl
            · rw [if_neg (fun y => x y.2), if_neg x]
        · clear c1 c2 c3
          rintro loc M4 ⟨⟨⟨d1, d2⟩, d3⟩, o2, o3, o4, o5, rfl⟩
          have hw4 := hnw M4 d1
          have e0 : M4 149 0 = iN (S 0) := hw4 0 (by omega)
          have hno : ∀ {α : Prop}, iN (S 0) < M4 149 0 → α := fun k1 => absurd (by rw [e0] at k1; exact (iN_lt (by omega) (by omega)).mp k1) (by omega)
          refine wk_80_155 (fun _ => ?_) (fun k1 => hno k1) (fun k1 => hno k1)
          refine ev_for 240 (Inv := fun i loc M' => ((fr [152, 153, 154] M M' ∧ ∀ p, p < 16 → M' 152 p = iN (n p)) ∧ (∀ c, c < 240 → M' 153 c = pm (pad S c)) ∧ ∀ c, c < i → M' 154 c = pm (ow S n c)) ∧ ∃ o2 o3 o4 o5, loc = [some (.ref 148), some (.int (iN i)), o2, o3, o4, o5]) ?_ ?_ 0 _ _ (Nat.zero_le _) ⟨⟨⟨d1, d2⟩, d3, fun p hp => absurd hp (by omega)⟩, _, _, _, _, rfl⟩
          · rintro i loc M5 hi ⟨⟨⟨f1, f2⟩, f3, f4⟩, o2, o3, o4, o5, rfl⟩ rec
            have hw5 := hnw M5 f1
            have hpl := pad_le hS i
            have ho := own_le hS hi
            have ecp : M5 149 (iN 352 + iN i).toNatClampNeg = iN (S (352 + i)) := by rw [iN_add, iN_ix (by omega)]; exact hw5 _ (by omega)
            have epin : (if M5 153 (iN i).toNatClampNeg < 0 then M5 149 (iN 352 + iN i).toNatClampNeg - 1 else M5 153 (iN i).toNatClampNeg) = pm (own S i) := by
              rw [ecp, iN_ix (by omega), f3 i hi, iN_p1]
              unfold own
              by_cases x : pad S i = 0
              · rw [if_pos ((pm_neg (by omega)).mpr x), if_pos x]
              · rw [if_neg (fun y => x ((pm_neg (by omega)).mp y)), if_neg x]
            refine wk_80_223 (fun k1 => absurd ((iN_lt (by omega) (by omega)).mpr hi) k1) (fun _ => iN_in hi (by omega)) (fun _ => ?_) (fun _ k2 => ?_) (fun _ _ => by rw [iN_add]; exact iN_in (by omega) (by omega))
            · rw [epin, iN_succ, iN_ix (by omega)]
              refine rec _ _ ⟨⟨⟨fr_tr f1 (fr_ms (by decide)), fun p hp => by rw [ms_ne (by decide)]; exact f2 p hp⟩, fun c hc => by rw [ms_ne (by decide)]; exact f3 c hc, fun c hc => ?_⟩, _, _, _, _, rfl⟩
              rw [ms_get]
              by_cases x : c = i
              · subst x
                rw [if_pos ⟨rfl, rfl⟩]
                unfold ow
                by_cases y : own S c = 0
                · rw [if_pos ((pm_neg (by omega)).mpr y), if_pos y]; rfl
                · rw [if_neg (fun z => y ((pm_neg (by omega)).mp z)), if_neg y, pm_of y, iN_ix (by omega), f2 _ (by omega)]; rfl
              · rw [if_neg (fun y => x y.2)]; exact f4 c (by omega)
            · rw [epin] at k2 ⊢
              have y : own S i ≠ 0 := fun z => k2 ((pm_neg (by omega)).mpr z)
              rw [pm_of y]
              exact iN_in (by omega) (by omega)
          · rintro loc M5 ⟨⟨⟨f1, f2⟩, f3, f4⟩, o2, o3, o4, o5, rfl⟩
            have hno2 : ∀ {α : Prop}, iN 240 < iN 240 → α := fun k1 => absurd ((iN_lt (by omega) (by omega)).mp k1) (by omega)
            exact wk_80_223 (fun _ => ⟨rfl, f1, hnw M5 f1, f2, f3, f4⟩) (fun k1 => hno2 k1) (fun k1 => hno2 k1) (fun k1 => hno2 k1) (fun k1 => hno2 k1)
end RREF
