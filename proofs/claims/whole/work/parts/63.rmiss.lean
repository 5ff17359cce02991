/-! The reference: first and missing pin. -/
def FstK (S n : Nat → Nat) (net k : Nat) : Prop := (k = 0 ∧ ∀ p, ¬ inN S n net p) ∨ ∃ p, k = p + 1 ∧ isFst S n net p
theorem least_ex {P : Nat → Prop} : ∀ k, P k → ∃ m, P m ∧ ∀ q, q < m → ¬ P q := by
  intro k
  induction k using Nat.strongRecOn with
  | _ k ih =>
    intro h
    by_cases e : ∃ q, q < k ∧ P q
    · obtain ⟨q, hq, hp⟩ := e
      exact ih q hq hp
    · exact ⟨k, h, fun q hq hp => e ⟨q, hq, hp⟩⟩
theorem FstK_ex (S n : Nat → Nat) (net : Nat) : ∃ k, FstK S n net k := by
  by_cases e : ∃ p, inN S n net p
  · obtain ⟨p, hp⟩ := e
    obtain ⟨m, h1, h2⟩ := least_ex p hp
    exact ⟨m + 1, Or.inr ⟨m, rfl, h1, h2⟩⟩
  · exact ⟨0, Or.inl ⟨rfl, fun p hp => e ⟨p, hp⟩⟩⟩
theorem FstK_uniq {S n : Nat → Nat} {net k l : Nat} (h : FstK S n net k) (g : FstK S n net l) : k = l := by
  rcases h with ⟨rfl, h⟩ | ⟨p, rfl, h⟩
  · rcases g with ⟨rfl, g⟩ | ⟨q, rfl, g⟩
    · rfl
    · exact absurd g.1 (h q)
  · rcases g with ⟨rfl, g⟩ | ⟨q, rfl, g⟩
    · exact absurd h.1 (g p)
    · rw [isFst_uniq h g]
theorem pm_dec {i : Nat} (h : 0 < i) : pm i + (-1) = pm (i - 1) := by
  rw [pm_of (by omega)]
  by_cases e : i = 1
  · subst e; rfl
  · rw [iN_m1 (by omega), pm_of (by omega)]
section RMISS
variable {w : qS} {S n : Nat → Nat} {M : qM}
theorem ct_107 (h : RD S n M) {net k : Nat} (hnet : net < 16) (hk : FstK S n net k) : gE w 107 0 [some (.ref 148), some (.int (iN net)), none, none] [] M (qv1 M (pm k)) := by
  have h0 := h.1.1
  refine wk_107_0 ?_
  rw [rd_now h (show 0 < 592 by omega), iN_p1]
  refine ev_loop (Inv := fun i loc M' => M' = M ∧ i ≤ S 0 ∧ ∃ k1, loc = [some (.ref 148), some (.int (iN net)), some (.int (pm k1)), some (.int (pm i))] ∧ ((k1 = 0 ∧ ∀ p, i ≤ p → ¬ inN S n net p) ∨ ∃ p, k1 = p + 1 ∧ i ≤ p ∧ inN S n net p ∧ ∀ q, i ≤ q → q < p → ¬ inN S n net q)) ?_ (S 0) _ _ ⟨rfl, Nat.le_refl _, 0, rfl, Or.inl ⟨rfl, fun p hp hi => by have := hi.1; omega⟩⟩
  rintro i loc M' ⟨eM, hi, k1, rfl, hk1⟩ rec
  subst eM
  by_cases z : i = 0
  · subst z
    refine wk_107_11 (fun _ => qv1_i ?_) (fun c1 => absurd (by decide) c1) (fun c1 => absurd (by decide) c1) (fun c1 => absurd (by decide) c1)
    have : FstK S n net k1 := by
      rcases hk1 with ⟨e, x⟩ | ⟨p, e, -, x1, x2⟩
      · exact Or.inl ⟨e, fun p => x p (by omega)⟩
      · exact Or.inr ⟨p, e, x1, fun q hq => x2 q (by omega) hq⟩
    rw [FstK_uniq this hk]
  · have hnn : ¬ pm i < 0 := fun x => z ((pm_neg (by omega)).mp x)
    have hl := ok_pl h.1 (show i - 1 < 16 by omega)
    have hnp := h.2.1 (i - 1) (by omega)
    have e1 : M' 152 (pm i).toNatClampNeg = iN (n (i - 1)) := by rw [pm_of z, iN_ix (by omega)]; exact h.2.2.2.1 _ (by omega)
    have e2 : M' 149 (iN 32 + pm i).toNatClampNeg = iN (S (32 + (i - 1))) := by rw [pm_of z, iN_add, iN_ix (by omega)]; exact rd_now h (by omega)
    have hgo : ∀ k2, ((k2 = 0 ∧ ∀ p, i - 1 ≤ p → ¬ inN S n net p) ∨ ∃ p, k2 = p + 1 ∧ i - 1 ≤ p ∧ inN S n net p ∧ ∀ q, i - 1 ≤ q → q < p → ¬ inN S n net q) → gE w 107 11 [some (.ref 148), some (.int (iN net)), some (.int (pm k2)), some (.int (pm i + (-1)))] [] M' (qv1 M' (pm k)) := by
      intro k2 hk2
      rw [pm_dec (by omega)]
      exact rec (i - 1) _ _ (by omega) ⟨rfl, by omega, k2, rfl, hk2⟩
    have hkeep : ¬ inN S n net (i - 1) → ((k1 = 0 ∧ ∀ p, i - 1 ≤ p → ¬ inN S n net p) ∨ ∃ p, k1 = p + 1 ∧ i - 1 ≤ p ∧ inN S n net p ∧ ∀ q, i - 1 ≤ q → q < p → ¬ inN S n net q) := by
      intro hno
      rcases hk1 with ⟨e, x⟩ | ⟨p, e, x0, x1, x2⟩
      · refine Or.inl ⟨e, fun p hp hi => ?_⟩
        by_cases c : p = i - 1
        · rw [c] at hi; exact hno hi
        · exact x p (by omega) hi
      · refine Or.inr ⟨p, e, by omega, x1, fun q hq hqp hi => ?_⟩
        by_cases c : q = i - 1
        · rw [c] at hi; exact hno hi
        · exact x2 q (by omega) hqp hi
    refine wk_107_11 (fun c1 => absurd c1 hnn) (fun _ => by rw [pm_of z]; exact iN_in (by omega) (by omega)) (fun _ => ?_) (fun _ _ => by rw [pm_of z, iN_add]; exact iN_in (by omega) (by omega))
    rw [e1, e2]
    by_cases a : n (i - 1) = net
    · rw [if_pos (show iN (n (i - 1)) = iN net by rw [a])]
      by_cases b : S (32 + (i - 1)) = 0
      · rw [if_neg (fun x => by have := (iN_pos (by omega)).mp x; omega)]
        exact hgo k1 (hkeep (fun x => x.2.2 b))
      · rw [if_pos ((iN_pos (by omega)).mpr (by omega))]
        refine hgo i (Or.inr ⟨i - 1, by omega, by omega, ⟨by omega, a, b⟩, fun q hq hqp => absurd hqp (by omega)⟩)
    · rw [if_neg (fun x => a ((iN_eq (by omega) (by omega)).mp x))]
      exact hgo k1 (hkeep (fun x => a x.2.1))
/-- what 'missing' of the reference answers and leaves -/
def RMs (S n : Nat → Nat) (net : Nat) (M : qM) : qR := fun r M' => ∃ k, k ≤ 16 ∧ r = some (.int (pm k)) ∧ fr [155] M M' ∧ ((k = 0 ∧ Mis S n net 0) ∨ ∃ m p0 I L, k = m + 1 ∧ isFst S n net p0 ∧ isPc (fun c => ow S n c = net + 1) (fp S p0) I ∧ isMis S n net I m ∧ isLab (fun c => ow S n c = net + 1) L ∧ labM (fun c => ow S n c = net + 1) L M')
theorem ct_108 (h : RD S n M) {net : Nat} (hnet : net < 16) : gE w 108 0 [some (.ref 148), some (.int (iN net)), none, none, none, none] [] M (RMs S n net M) := by
  have h0 := h.1.1
  obtain ⟨k, hk⟩ := FstK_ex S n net
  rcases hk with ⟨rfl, hk⟩ | ⟨p0, rfl, hk⟩
  · refine wk_108_0 (r1 := pm 0) (ct_107 h hnet (Or.inl ⟨rfl, hk⟩)) (fun c1 => absurd (by decide) c1) (fun _ => ⟨0, by omega, rfl, fr_rfl, Or.inl ⟨rfl, Or.inl ⟨rfl, hk⟩⟩⟩)
  · have hp0 : p0 < S 0 := hk.1.1
    have hnn : ¬ pm (p0 + 1) < 0 := by rw [pm_s]; exact iN_nn (by omega)
    refine wk_108_0 (r1 := pm (p0 + 1)) (ct_107 h hnet (Or.inr ⟨p0, rfl, hk⟩)) (fun _ => ?_) (fun c1 => absurd c1 hnn)
    refine (ct_105 h hnet).mono ?_
    rintro r M1 ⟨rfl, a1, L, a2, a3⟩
    have h1 : RD S n M1 := RD_fr h (fun q hq => a1 q (by rcases hq with rfl | rfl | rfl | rfl <;> decide))
    refine wk_108_17 ?_
    rw [rd_now h1 (show 0 < 592 by omega), iN_p1, pm_s]
    -- the piece
    let I : Nat → Prop := fun c => ow S n c = net + 1 ∧ L c = L (fp S p0)
    have hQ0 : ow S n (fp S p0) = net + 1 := fp_ow h.1 hk.1
    have hpc : isPc (fun c => ow S n c = net + 1) (fp S p0) I := by
      refine ⟨⟨hQ0, rfl⟩, fun c _ x => x.1, fun c e hc he x qe hE => ⟨qe, ?_⟩, fun f hf c hc x => ?_⟩
      · rw [← x.2]; exact (a2.1 c e hc he x.1 qe hE).symm
      · have e1 := a2.2.2 f hf c hc x.1
        have e2 := a2.2.2 f hf (fp S p0) (fp_lt p0) hQ0
        rw [← e1, ← e2, x.2]
    have hfst : I (fp S p0) := ⟨hQ0, rfl⟩
    refine ev_loop (Inv := fun i loc M' => M' = M1 ∧ i ≤ S 0 ∧ ∃ k1 o5, loc = [some (.ref 148), some (.int (iN net)), some (.int (iN p0)), some (.int (pm k1)), some (.int (pm i)), o5] ∧ k1 ≤ 16 ∧ ((k1 = 0 ∧ ∀ p, i ≤ p → ¬ (inN S n net p ∧ ¬ I (fp S p))) ∨ ∃ p, k1 = p + 1 ∧ i ≤ p ∧ (inN S n net p ∧ ¬ I (fp S p)) ∧ ∀ q, i ≤ q → q < p → ¬ (inN S n net q ∧ ¬ I (fp S q)))) ?_ (S 0) _ _ ⟨rfl, Nat.le_refl _, 0, _, rfl, by omega, Or.inl ⟨rfl, fun p hp hi => by have := hi.1.1; omega⟩⟩
    rintro i loc M' ⟨eM, hi, k1, o5, rfl, hk16, hk1⟩ rec
    subst eM
    have hlow : ∀ q, q < p0 + 1 → ¬ (inN S n net q ∧ ¬ I (fp S q)) := by
      intro q hq x
      by_cases c : q = p0
      · rw [c] at x; exact x.2 hfst
      · exact hk.2 q (by omega) x.1
    by_cases z : i ≤ p0 + 1
    · have hge : ¬ iN p0 < pm i := by
        by_cases z0 : i = 0
        · subst z0; exact fun x => iN_nn (a := p0) (by omega) (Int32.lt_trans x (by decide))
        · rw [pm_of z0]; exact fun x => by have := (iN_lt (by omega) (by omega)).mp x; omega
      refine wk_108_29 (r1 := 0) (r2 := 0) (fun _ => ⟨k1, hk16, rfl, a1, ?_⟩) (fun c1 => absurd c1 hge) (fun c1 => absurd c1 hge) (fun c1 => absurd c1 hge) (fun c1 => absurd c1 hge) (fun c1 => absurd c1 hge) (fun c1 => absurd c1 hge) (fun c1 => absurd c1 hge)
      rcases hk1 with ⟨e, x⟩ | ⟨p, e, x0, x1, x2⟩
      · refine Or.inl ⟨e, Or.inr ⟨I, ⟨p0, hk, hpc⟩, Or.inl ⟨rfl, fun p hp => ?_⟩⟩⟩
        by_cases c : i ≤ p
        · exact x p c hp
        · exact hlow p (by omega) hp
      · refine Or.inr ⟨p, p0, I, L, e, hk, hpc, ⟨x1, fun q hq y => ?_⟩, a2, a3⟩
        by_cases c : i ≤ q
        · exact x2 q c hq y
        · exact hlow q (by omega) y
    · have hpi : pm i = iN (i - 1) := pm_of (by omega)
      have hlt : iN p0 < pm i := by rw [hpi]; exact (iN_lt (by omega) (by omega)).mpr (by omega)
      have hl := ok_pl h.1 (show i - 1 < 16 by omega)
      have hnp := h.2.1 (i - 1) (by omega)
      have hflt := fp_lt (S := S) (i - 1)
      have hflt0 := fp_lt (S := S) p0
      have e1 : M' 152 (pm i).toNatClampNeg = iN (n (i - 1)) := by rw [hpi, iN_ix (by omega)]; exact h1.2.2.2.1 _ (by omega)
      have e2 : M' 149 (iN 32 + pm i).toNatClampNeg = iN (S (32 + (i - 1))) := by rw [hpi, iN_add, iN_ix (by omega)]; exact rd_now h1 (by omega)
      have hgo : ∀ (x : Int32) k2 o5, x = pm k2 → k2 ≤ 16 → ((k2 = 0 ∧ ∀ p, i - 1 ≤ p → ¬ (inN S n net p ∧ ¬ I (fp S p))) ∨ ∃ p, k2 = p + 1 ∧ i - 1 ≤ p ∧ (inN S n net p ∧ ¬ I (fp S p)) ∧ ∀ q, i - 1 ≤ q → q < p → ¬ (inN S n net q ∧ ¬ I (fp S q))) → gE w 108 29 [some (.ref 148), some (.int (iN net)), some (.int (iN p0)), some (.int x), some (.int (pm i + (-1))), o5] [] M' (RMs S n net M) := by
        intro x k2 o5 ex h16 hk2
        rw [pm_dec (by omega), ex]
        exact rec (i - 1) _ _ (by omega) ⟨rfl, by omega, k2, _, rfl, h16, hk2⟩
      have hkeep : ¬ (inN S n net (i - 1) ∧ ¬ I (fp S (i - 1))) → ((k1 = 0 ∧ ∀ p, i - 1 ≤ p → ¬ (inN S n net p ∧ ¬ I (fp S p))) ∨ ∃ p, k1 = p + 1 ∧ i - 1 ≤ p ∧ (inN S n net p ∧ ¬ I (fp S p)) ∧ ∀ q, i - 1 ≤ q → q < p → ¬ (inN S n net q ∧ ¬ I (fp S q))) := by
        intro hno
        rcases hk1 with ⟨e, x⟩ | ⟨p, e, x0, x1, x2⟩
        · refine Or.inl ⟨e, fun p hp hi => ?_⟩
          by_cases c : p = i - 1
          · rw [c] at hi; exact hno hi
          · exact x p (by omega) hi
        · refine Or.inr ⟨p, e, by omega, x1, fun q hq hqp hi => ?_⟩
          by_cases c : q = i - 1
          · rw [c] at hi; exact hno hi
          · exact x2 q (by omega) hqp hi
      refine wk_108_29 (r1 := iN (fp S (i - 1))) (r2 := iN (fp S p0)) (fun c1 => absurd hlt c1) (fun _ => by rw [hpi]; exact iN_in (by omega) (by omega)) (fun _ => ?_) (fun _ _ => by rw [hpi, iN_add]; exact iN_in (by omega) (by omega)) (fun _ _ _ => by rw [hpi]; exact ct_106 h1 (by omega)) (fun _ _ _ => iN_in hflt (by omega)) (fun _ _ _ => ct_106 h1 (by omega)) (fun _ _ _ => iN_in hflt0 (by omega))
      rw [e1, e2, iN_ix (a := fp S (i - 1)) (by omega), iN_ix (a := fp S p0) (by omega)]
      by_cases a : n (i - 1) = net
      · rw [if_pos (show iN (n (i - 1)) = iN net by rw [a])]
        by_cases b : S (32 + (i - 1)) = 0
        · rw [if_neg (show ¬ 0 < iN (S (32 + (i - 1))) from fun x => by have := (iN_pos (by omega)).mp x; omega), if_pos rfl]
          exact hgo _ k1 _ rfl hk16 (hkeep (fun x => x.1.2.2 b))
        · have hin : inN S n net (i - 1) := ⟨by omega, a, b⟩
          have hq := fp_ow h.1 hin
          have l1 := (a2.2.1 _ hflt hq).1
          have l2 := (a2.2.1 _ hflt0 hQ0).1
          rw [if_pos ((iN_pos (by omega)).mpr (by omega)), (a3 _ hflt).1 hq, (a3 _ hflt0).1 hQ0]
          by_cases c : L (fp S (i - 1)) = L (fp S p0)
          · rw [if_pos (show iN (L (fp S (i - 1))) = iN (L (fp S p0)) by rw [c]), if_pos rfl]
            exact hgo _ k1 _ rfl hk16 (hkeep (fun x => x.2 ⟨hq, c⟩))
          · rw [if_neg (fun x => c ((iN_eq (by omega) (by omega)).mp x)), if_neg (by decide)]
            exact hgo _ i _ rfl (by omega) (Or.inr ⟨i - 1, by omega, by omega, ⟨hin, fun x => c x.2⟩, fun q hq hqp => absurd hqp (by omega)⟩)
      · rw [if_neg (fun x => a ((iN_eq (by omega) (by omega)).mp x)), if_pos rfl]
        exact hgo _ k1 _ rfl hk16 (hkeep (fun x => a x.1.2.1))
end RMISS
