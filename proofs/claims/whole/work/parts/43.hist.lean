/-! The class: sheets are copied and compared; the history. -/
theorem RS_fr {S : Nat → Nat} {M M' : qM} {b : Nat} (h : RS S M b) (e : ∀ k, k ≤ 6 → M' (b + k) = M (b + k)) : RS S M' b := by
  have e0 := e 0 (by omega)
  rw [Nat.add_zero] at e0
  refine ⟨?_, ?_, ?_, ?_, ?_⟩
  · rw [e0]; exact h.1
  · rw [e 1 (by omega)]; exact h.2.1
  · rw [e 2 (by omega), e 3 (by omega)]; exact h.2.2.1
  · rw [e 4 (by omega), e 5 (by omega)]; exact h.2.2.2.1
  · rw [e 6 (by omega)]; exact h.2.2.2.2
def shL (b : Nat) : List Nat := [b, b + 1, b + 2, b + 3, b + 4, b + 5, b + 6]
theorem shL_not {b q : Nat} (h : q < b ∨ b + 6 < q) : q ∉ shL b := by
  unfold shL
  simp only [List.mem_cons, List.not_mem_nil, or_false]
  omega
theorem sh_apart {s t : Nat} (hs : isSh s) (ht : isSh t) (h : s ≠ t) : t + 6 < s ∨ s + 6 < t := by
  rcases hs with rfl | ⟨i, hi, rfl⟩ <;> rcases ht with rfl | ⟨j, hj, rfl⟩ <;> omega
theorem sh_lo {s : Nat} (hs : isSh s) : s = 2 ∨ (29 ≤ s ∧ s + 6 < 148) := by
  rcases hs with rfl | ⟨i, hi, rfl⟩ <;> omega
section BHIST
variable {w : qS} {M : qM}
theorem ct_56 {S : Nat → Nat} {s t : Nat} (hs : isSh s) (ht : isSh t) (hne : s ≠ t) (hS : Ok S) (hR : RS S M t) :
    gE w 56 0 [some (.ref s), some (.ref t)] [] M (fun r M' => r = none ∧ fr (shL s) M M' ∧ RS S M' s) := by
  have hd := sh_apart hs ht hne
  refine wk_56_0 hs ht ?_
  generalize hC : (mc (mc (mc (mc (mc (mc M (t + 1) (s + 1) 16) (t + 2) (s + 2) 24) (t + 3) (s + 3) 24) (t + 4) (s + 4) 16) (t + 5) (s + 5) 16) (t + 6) (s + 6) 240) = C
  have hCt : ∀ q, (q < s ∨ s + 6 < q ∨ q = s) → C q = M q := by
    intro q hq
    rw [← hC, mc_ne (by omega), mc_ne (by omega), mc_ne (by omega), mc_ne (by omega), mc_ne (by omega), mc_ne (by omega)]
  have hC1 : ∀ j, j < 16 → C (s + 1) j = M (t + 1) j := by
    intro j hj
    rw [← hC, mc_ne (by omega), mc_ne (by omega), mc_ne (by omega), mc_ne (by omega), mc_ne (by omega), mc_at hj]
  have hC2 : ∀ j, j < 24 → C (s + 2) j = M (t + 2) j := by
    intro j hj
    rw [← hC, mc_ne (by omega), mc_ne (by omega), mc_ne (by omega), mc_ne (by omega), mc_at hj, mc_ne (by omega)]
  have hC3 : ∀ j, j < 24 → C (s + 3) j = M (t + 3) j := by
    intro j hj
    rw [← hC, mc_ne (by omega), mc_ne (by omega), mc_ne (by omega), mc_at hj, mc_ne (by omega), mc_ne (by omega)]
  have hC4 : ∀ j, j < 16 → C (s + 4) j = M (t + 4) j := by
    intro j hj
    rw [← hC, mc_ne (by omega), mc_ne (by omega), mc_at hj, mc_ne (by omega), mc_ne (by omega), mc_ne (by omega)]
  have hC5 : ∀ j, j < 16 → C (s + 5) j = M (t + 5) j := by
    intro j hj
    rw [← hC, mc_ne (by omega), mc_at hj, mc_ne (by omega), mc_ne (by omega), mc_ne (by omega), mc_ne (by omega)]
  have hC6 : ∀ j, j < 240 → C (s + 6) j = M (t + 6) j := by
    intro j hj
    rw [← hC, mc_at hj, mc_ne (by omega), mc_ne (by omega), mc_ne (by omega), mc_ne (by omega), mc_ne (by omega)]
  have et : C t = M t := hCt t (by omega)
  have e7 : ms C s 6 (C t 6) t 7 = M t 7 := by rw [ms_ne (by omega), et]
  have e8 : ms (ms C s 6 (C t 6)) s 7 (ms C s 6 (C t 6) t 7) t 8 = M t 8 := by rw [ms_ne (by omega), ms_ne (by omega), et]
  rw [e8, e7, et]
  have hrow : ∀ k, 1 ≤ k → k ≤ 6 → ms (ms (ms C s 6 (M t 6)) s 7 (M t 7)) s 8 (M t 8) (s + k) = C (s + k) := by
    intro k h1 h2
    rw [ms_rows (by omega), ms_rows (by omega), ms_rows (by omega)]
  refine ⟨rfl, fun q hq => ?_, ⟨?_, ?_, ?_⟩, ?_, ?_, ?_, ?_⟩
  · have hq' : q < s ∨ s + 6 < q := by
      apply Classical.byContradiction
      intro x
      apply hq
      unfold shL
      simp only [List.mem_cons, List.not_mem_nil, or_false]
      omega
    rw [ms_rows (by omega), ms_rows (by omega), ms_rows (by omega), hCt q (by omega)]
  · rw [ms_row (by decide), ms_row (by decide), ms_at]; exact hR.1.1
  · rw [ms_row (by decide), ms_at]; exact hR.1.2.1
  · rw [ms_at]; exact hR.1.2.2
  · intro p hp
    have := hS.1
    rw [hrow 1 (by omega) (by omega), hC1 p (by omega)]; exact hR.2.1 p hp
  · intro j hj
    have := hS.2.1
    rw [hrow 2 (by omega) (by omega), hrow 3 (by omega) (by omega), hC2 j (by omega), hC3 j (by omega)]; exact hR.2.2.1 j hj
  · intro p hp
    rw [hrow 4 (by omega) (by omega), hrow 5 (by omega) (by omega), hC4 p hp, hC5 p hp]; exact hR.2.2.2.1 p hp
  · intro c hc
    rw [hrow 6 (by omega) (by omega), hC6 c hc]; exact hR.2.2.2.2 c hc
theorem ct_58 {q0 q1 n : Nat} (h0 : gL w q0 = .inl (0, n)) (h1 : gL w q1 = .inl (0, n)) (hn : n < 2 ^ 31) : gE w 58 0 [some (.ref q0), some (.ref q1), none] [] M (qv1 M (bi (∀ j, j < n → M q0 j = M q1 j))) := by
  refine wk_58_0 h0 h1 ?_
  refine ev_for n (Inv := fun i loc M' => (M' = M ∧ ∀ j, j < i → M q0 j = M q1 j) ∧ loc = [some (.ref q0), some (.ref q1), some (.int (iN i))]) ?_ ?_ 0 _ _ (Nat.zero_le _) ⟨⟨rfl, fun j hj => absurd hj (by omega)⟩, rfl⟩
  · rintro i loc M' hi ⟨⟨eM, hj⟩, rfl⟩ rec
    subst eM
    refine wk_58_2 h0 h1 (fun c1 => absurd ((iN_lt (by omega) hn).mpr hi) c1) (fun _ c2 => absurd ((iN_lt (by omega) hn).mpr hi) c2) (fun _ _ => iN_in hi (by omega)) (fun _ _ => iN_in hi (by omega)) (fun _ _ c3 => ?_) (fun _ _ c3 => qv1_i ?_)
    · rw [iN_ix (by omega)] at c3
      rw [iN_succ]
      refine rec _ _ ⟨⟨rfl, fun j hji => ?_⟩, rfl⟩
      by_cases e : j = i
      · rw [e]; exact c3
      · exact hj j (by omega)
    · rw [iN_ix (by omega)] at c3
      exact (bi_neg (fun x => c3 (x i hi))).symm
  · rintro loc M' ⟨⟨eM, hj⟩, rfl⟩
    subst eM
    exact wk_58_2 h0 h1 (fun _ => qv1_i (bi_pos hj).symm) (fun c1 => absurd ((iN_lt hn hn).mp c1) (by omega)) (fun c1 => absurd ((iN_lt hn hn).mp c1) (by omega)) (fun c1 => absurd ((iN_lt hn hn).mp c1) (by omega)) (fun c1 => absurd ((iN_lt hn hn).mp c1) (by omega)) (fun c1 => absurd ((iN_lt hn hn).mp c1) (by omega))
/-- what the class compares -/
def AG (S S' : Nat → Nat) : Prop := S 0 = S' 0 ∧ S 1 = S' 1 ∧ S 2 = S' 2 ∧ (∀ p, p < 16 → S (32 + p) = S' (32 + p)) ∧ ∀ c, c < 240 → hv S c = hv S' c
theorem ct_57 {S S' : Nat → Nat} {s t : Nat} (hs : isSh s) (ht : isSh t) (hS : Ok S) (hS' : Ok S') (hR : RS S M s) (hR' : RS S' M t) : gE w 57 0 [some (.ref s), some (.ref t)] [] M (qv1 M (bi (AG S S'))) := by
  refine wk_57_0 hs ht (r1 := bi (∀ j, j < 16 → M (s + 4) j = M (t + 4) j)) (r2 := bi (∀ j, j < 16 → M (s + 5) j = M (t + 5) j)) (r3 := bi (∀ j, j < 240 → M (s + 6) j = M (t + 6) j)) (qv1_i ?_) (fun _ _ _ => ct_58 (ly_s4 hs) (ly_s4 ht) (by decide)) (fun _ _ _ _ => ct_58 (ly_s5 hs) (ly_s5 ht) (by decide)) (fun _ _ _ _ _ => ct_58 (ly_s6 hs) (ly_s6 ht) (by decide))
  have a0 := hS.1
  have a1 := hS.2.1
  have a2 := hS.2.2.1
  have b0 := hS'.1
  have b1 := hS'.2.1
  have b2 := hS'.2.2.1
  rw [hR.1.1, hR.1.2.1, hR.1.2.2, hR'.1.1, hR'.1.2.1, hR'.1.2.2]
  simp only [iN_eq (show S 0 < 2 ^ 31 by omega) (show S' 0 < 2 ^ 31 by omega), iN_eq (show S 1 < 2 ^ 31 by omega) (show S' 1 < 2 ^ 31 by omega), iN_eq (show S 2 < 2 ^ 31 by omega) (show S' 2 < 2 ^ 31 by omega)]
  by_cases c1 : S 0 = S' 0
  · by_cases c2 : S 1 = S' 1
    · by_cases c3 : S 2 = S' 2
      · rw [if_pos c1, if_pos c2, if_pos c3]
        by_cases d1 : ∀ j, j < 16 → M (s + 4) j = M (t + 4) j
        · rw [bi_pos d1, if_neg (by decide)]
          by_cases d2 : ∀ j, j < 16 → M (s + 5) j = M (t + 5) j
          · rw [bi_pos d2, if_neg (by decide)]
            by_cases d3 : ∀ j, j < 240 → M (s + 6) j = M (t + 6) j
            · rw [bi_pos d3, if_neg (by decide)]
              refine (bi_pos ⟨c1, c2, c3, fun p hp => ?_, fun c hc => ?_⟩).symm
              · have e1 := d1 p hp
                have e2 := d2 p hp
                have l1 := ok_pl hS hp
                have l2 := ok_pl hS' hp
                rw [(hR.2.2.2.1 p hp).1, (hR'.2.2.2.1 p hp).1, iN_eq (by omega) (by omega)] at e1
                rw [(hR.2.2.2.1 p hp).2, (hR'.2.2.2.1 p hp).2, iN_eq (by omega) (by omega)] at e2
                omega
              · have e3 := d3 c hc
                rw [hR.2.2.2.2 c hc, hR'.2.2.2.2 c hc] at e3
                exact e3
            · rw [bi_neg d3, if_pos rfl]
              refine (bi_neg (fun x => d3 (fun c hc => ?_))).symm
              rw [hR.2.2.2.2 c hc, hR'.2.2.2.2 c hc]
              exact x.2.2.2.2 c hc
          · rw [bi_neg d2, if_pos rfl]
            refine (bi_neg (fun x => d2 (fun p hp => ?_))).symm
            rw [(hR.2.2.2.1 p hp).2, (hR'.2.2.2.1 p hp).2, x.2.2.2.1 p hp]
        · rw [bi_neg d1, if_pos rfl]
          refine (bi_neg (fun x => d1 (fun p hp => ?_))).symm
          rw [(hR.2.2.2.1 p hp).1, (hR'.2.2.2.1 p hp).1, x.2.2.2.1 p hp]
      · rw [if_pos c1, if_pos c2, if_neg c3]
        exact (bi_neg (fun x => c3 x.2.2.1)).symm
    · rw [if_pos c1, if_neg c2]
      exact (bi_neg (fun x => c2 x.2.1)).symm
  · rw [if_neg c1]
    exact (bi_neg (fun x => c1 x.1)).symm
theorem kept_sh {t : Nat} (h : t < 17) : isSh (29 + 7 * t) := Or.inr ⟨t, h, rfl⟩
theorem ct_59 {S : Nat → Nat} {t : Nat} (ht : t < 17) (e : M 10 1 = iN t) (hS : Ok S) (hR : RS S M 2) : gE w 59 0 [some (.ref 10), some (.ref 2)] [] M (fun r M' => r = none ∧ fr (shL (29 + 7 * t)) M M' ∧ RS S M' (29 + 7 * t)) := by
  refine wk_59_0 (by rw [e]; exact iN_in ht (by omega)) ?_
  rw [e, iN_ix (by omega)]
  refine (ct_56 (kept_sh ht) (Or.inl rfl) (by omega) hS hR).mono ?_
  rintro r M' ⟨rfl, h1, h2⟩
  exact wk_59_13 ⟨rfl, h1, h2⟩
theorem ct_60 {S S' : Nat → Nat} {t u : Nat} (ht : t < 17) (hu : u ≤ 16) (e1 : M 10 1 = iN t) (e2 : M 10 2 = iN u) (hS : Ok S) (hS' : Ok S') (hR : RS S M (29 + 7 * t)) (hR' : RS S' M 2) :
    gE w 60 0 [some (.ref 10), some (.ref 2)] [] M (fun r M' => r = none ∧ fr [10] M M' ∧ ((AG S S' ∧ M' = M) ∨ (¬ AG S S' ∧ M' 10 1 = iN ((t + 1) % 17) ∧ M' 10 2 = iN (if 16 < u + 1 then 16 else u + 1)))) := by
  refine wk_60_0 (r1 := bi (AG S S')) (by rw [e1]; exact iN_in ht (by omega)) ?_ (fun c1 => ⟨rfl, ?_, Or.inr ⟨bi_eq c1, ?_, ?_⟩⟩) (fun c1 => ⟨rfl, fr_rfl, Or.inl ⟨bi_ne c1, rfl⟩⟩)
  · rw [e1, iN_ix (by omega)]
    exact ct_57 (kept_sh ht) (Or.inl rfl) hS hS' hR hR'
  · exact fr_tr (fr_ms (by decide)) (fr_ms (by decide))
  · rw [ms_row (by decide), ms_at, e1, iN_succ, iN_rem (by omega) (by omega)]
  · rw [ms_at, ms_row (by decide), e2, iN_succ]
    exact iN_min (u + 1) 16 (by omega) (by omega)
theorem ct_61 {S : Nat → Nat} {t u : Nat} (ht : t < 17) (hu : u ≤ 16) (hu0 : 0 < u) (e1 : M 10 1 = iN t) (e2 : M 10 2 = iN u) (hS : Ok S) (hR : RS S M (29 + 7 * ((t + 16) % 17))) :
    gE w 61 0 [some (.ref 10), some (.ref 2)] [] M (fun r M' => r = none ∧ fr (10 :: shL 2) M M' ∧ M' 10 1 = iN ((t + 16) % 17) ∧ M' 10 2 = iN (u - 1) ∧ RS S M' 2) := by
  have ex : iN t + iN 17 - 1 - (iN t + iN 17 - 1) / iN 17 * iN 17 = iN ((t + 16) % 17) := by
    have : iN t + iN 17 - 1 = iN (t + 16) := by
      rw [iN_add]
      exact iN_sub (a := t + 17) (b := 1) (by omega)
    rw [this, iN_rem (by omega) (by omega)]
  have eu : iN u - 1 = iN (u - 1) := iN_sub (a := u) (b := 1) hu0
  have hb : ms (ms M 10 1 (iN ((t + 16) % 17))) 10 2 (iN (u - 1)) 10 1 = iN ((t + 16) % 17) := by rw [ms_row (by decide), ms_at]
  have hb2 : ms M 10 1 (iN ((t + 16) % 17)) 10 2 = iN u := by rw [ms_row (by decide), e2]
  have hl : (t + 16) % 17 < 17 := Nat.mod_lt _ (by omega)
  refine wk_61_0 ?_ ?_
  · rw [e1, ex, hb2, eu, hb]
    exact iN_in hl (by omega)
  · rw [e1, ex, hb2, eu, hb, iN_ix (by omega)]
    refine (ct_56 (S := S) (Or.inl rfl) (kept_sh hl) (by omega) hS (RS_fr hR (fun k hk => ?_))).mono ?_
    · rw [ms_rows (by omega), ms_rows (by omega)]
    · rintro r M' ⟨rfl, h1, h2⟩
      refine wk_61_39 ⟨rfl, fun q hq => ?_, ?_, ?_, h2⟩
      · have hq1 : q ≠ 10 := fun x => hq (by rw [x]; exact List.mem_cons_self)
        rw [h1 q (fun x => hq (List.mem_cons_of_mem _ x)), ms_rows hq1, ms_rows hq1]
      · rw [h1 10 (by decide), hb]
      · rw [h1 10 (by decide), ms_at]
end BHIST
