/-! Calls: auto. -/
def ordX (S n : Nat → Nat) (x : Nat) : Prop := sp S n (x % 16) = x / 16 + 1
def Sq (S n : Nat → Nat) : Nat → (Nat → Nat) → Nat → Prop
  | 0, S', W => S' = S ∧ W = 0
  | x + 1, S', W => (¬ ordX S n x ∧ Sq S n x S' W) ∨ (ordX S n x ∧ ∃ S1 W1 v, Sq S n x S1 W1 ∧ Rs S1 n (x % 16) v S' ∧ W = W1 + (if v = 0 then 1 else 0))
theorem Sq_uniq {S n : Nat → Nat} : ∀ x {S1 S2 W1 W2}, Sq S n x S1 W1 → Sq S n x S2 W2 → S1 = S2 ∧ W1 = W2
  | 0, _, _, _, _, h, g => ⟨h.1.trans g.1.symm, h.2.trans g.2.symm⟩
  | x + 1, _, _, _, _, h, g => by
    rcases h with ⟨h0, h1⟩ | ⟨h0, Sa, Wa, va, h1, h2, rfl⟩
    · rcases g with ⟨-, g1⟩ | ⟨g0, -⟩
      · exact Sq_uniq x h1 g1
      · exact absurd g0 h0
    · rcases g with ⟨g0, -⟩ | ⟨-, Sb, Wb, vb, g1, g2, rfl⟩
      · exact absurd h0 g0
      · obtain ⟨rfl, rfl⟩ := Sq_uniq x h1 g1
        obtain ⟨rfl, rfl⟩ := Rs_uniq h2 g2
        exact ⟨rfl, rfl⟩
theorem Sq_flat {S n S1 : Nat → Nat} {x W : Nat} (h : Sq S n x S1 W) : ∀ d, (∀ z, x ≤ z → z < x + d → ¬ ordX S n z) → Sq S n (x + d) S1 W
  | 0, _ => h
  | d + 1, g => Or.inl ⟨g (x + d) (by omega) (by omega), Sq_flat h d (fun z h1 h2 => g z h1 (by omega))⟩
theorem Sq_to {S n S1 : Nat → Nat} {x y W : Nat} (h : Sq S n x S1 W) (hxy : x ≤ y) (g : ∀ z, x ≤ z → z < y → ¬ ordX S n z) : Sq S n y S1 W := by
  have := Sq_flat h (y - x) (fun z h1 h2 => g z h1 (by omega))
  rw [show x + (y - x) = y by omega] at this
  exact this
theorem Sq_Ok {S n : Nat → Nat} (hS : Ok S) : ∀ x {S1 W}, Sq S n x S1 W → Ok S1 ∧ (∀ i, i < 352 → S1 i = S i) ∧ W = cnt x (fun y => ordX S n y ∧ mk S1 n (y % 16) = 0)
  | 0, _, _, h => by
    obtain ⟨rfl, rfl⟩ := h
    exact ⟨hS, fun _ _ => rfl, rfl⟩
  | x + 1, S1, W, h => by
    rcases h with ⟨h0, h1⟩ | ⟨h0, Sa, Wa, va, h1, h2, rfl⟩
    · have ih := Sq_Ok hS x h1
      refine ⟨ih.1, ih.2.1, ?_⟩
      rw [cnt_n (fun y => h0 y.1)]
      exact ih.2.2
    · have ih := Sq_Ok hS x h1
      have k := Rs_Ok ih.1 h2
      refine ⟨k.1, fun i hi => by rw [k.2.1 i hi, ih.2.1 i hi], ?_⟩
      have e : cnt x (fun y => ordX S n y ∧ mk S1 n (y % 16) = 0) = cnt x (fun y => ordX S n y ∧ mk Sa n (y % 16) = 0) := cnt_congr x (fun i hi => by
        have hne : ordX S n i → i % 16 ≠ x % 16 := by
          intro hi2 e
          unfold ordX at hi2 h0
          rw [e] at hi2
          omega
        constructor
        · rintro ⟨q1, q2⟩
          rw [k.2.2.1 _ (hne q1)] at q2
          exact ⟨q1, q2⟩
        · rintro ⟨q1, q2⟩
          rw [← k.2.2.1 _ (hne q1)] at q2
          exact ⟨q1, q2⟩)
      rw [ih.2.2, ← e]
      by_cases z : va = 0
      · rw [if_pos z, cnt_y ⟨h0, k.2.2.2.mp z⟩]
      · rw [if_neg z, cnt_n (fun y => z (k.2.2.2.mpr y.2))]
        rfl
/-- nets that are still to come -/
def rm (S n : Nat → Nat) (x net : Nat) : Prop := sp S n net ≠ 0 ∧ x ≤ 16 * (sp S n net - 1) + net
theorem ord_rm {S n : Nat → Nat} {x z : Nat} (h : ordX S n z) (hx : x ≤ z) : rm S n x (z % 16) := by
  unfold ordX at h
  unfold rm
  rw [h]
  omega
theorem rm_ord {S n : Nat → Nat} {x net : Nat} (hn : net < 16) (h : rm S n x net) : ordX S n (16 * (sp S n net - 1) + net) := by
  obtain ⟨h1, h2⟩ := h
  unfold ordX
  rw [show (16 * (sp S n net - 1) + net) % 16 = net by omega]
  omega
theorem ord_rem (S n : Nat → Nat) : ∀ x, cnt x (ordX S n) + cnt 16 (rm S n x) ≤ 16
  | 0 => by
    have := cnt_le (rm S n 0) 16
    have e : cnt 0 (ordX S n) = 0 := rfl
    omega
  | x + 1 => by
    have ih := ord_rem S n x
    have hm : ∀ i, i < 16 → rm S n (x + 1) i → rm S n x i := fun i _ h => ⟨h.1, by have := h.2; omega⟩
    by_cases h : ordX S n x
    · rw [cnt_y h]
      have := cnt_lt (p := rm S n (x + 1)) (q := rm S n x) 16 hm ⟨x % 16, by omega, fun y => by
        have h2 := y.2
        unfold ordX at h
        rw [h] at h2
        omega, ord_rm h (Nat.le_refl _)⟩
      omega
    · rw [cnt_n h]
      have := cnt_mono (p := rm S n (x + 1)) (q := rm S n x) 16 hm
      omega
theorem cnt_find {p : Nat → Prop} : ∀ k i, i < cnt k p → ∃ y, y < k ∧ p y ∧ cnt y p = i
  | 0, i, h => absurd h (by show ¬ i < 0; omega)
  | k + 1, i, h => by
    by_cases hp : p k
    · rw [cnt_y hp] at h
      by_cases e : i = cnt k p
      · exact ⟨k, by omega, hp, e.symm⟩
      · obtain ⟨y, h1, h2, h3⟩ := cnt_find (p := p) k i (by omega)
        exact ⟨y, by omega, h2, h3⟩
    · rw [cnt_n hp] at h
      obtain ⟨y, h1, h2, h3⟩ := cnt_find k i h
      exact ⟨y, by omega, h2, h3⟩
theorem cnt_nxt {p : Nat → Prop} {x k : Nat} (h : cnt x p < cnt k p) : ∃ y, x ≤ y ∧ y < k ∧ p y ∧ cnt y p = cnt x p ∧ ∀ z, x ≤ z → z < y → ¬ p z := by
  obtain ⟨y, h1, h2, h3⟩ := cnt_find k _ h
  refine ⟨y, ?_, h1, h2, h3, fun z hz1 hz2 hz3 => ?_⟩
  · apply Classical.byContradiction
    intro n
    have := cnt_lt2 h2 (show y < x by omega)
    omega
  · have a := cnt_lt2 hz3 hz2
    have b := cnt_up p x (z - x)
    rw [show x + (z - x) = z by omega] at b
    omega
theorem cnt_gap {p : Nat → Prop} {x y z : Nat} (h : cnt y p ≤ cnt x p) (hz1 : x ≤ z) (hz2 : z < y) : ¬ p z := fun hz3 => by
  have a := cnt_lt2 hz3 hz2
  have b := cnt_up p x (z - x)
  rw [show x + (z - x) = z by omega] at b
  omega
theorem cnt_to {p : Nat → Prop} {x y : Nat} (hxy : x ≤ y) (h : ∀ z, x ≤ z → z < y → ¬ p z) : cnt y p = cnt x p := by
  have := cnt_flat (p := p) (a := x) (y - x) (fun i h1 h2 => h i h1 (by omega))
  rw [show x + (y - x) = y by omega] at this
  exact this
/-- the least that is left -/
def leF (f : Nat → Nat) : Nat → Nat
  | 0 => 0
  | k + 1 => if f k = 0 then leF f k else if leF f k = 0 then k + 1 else if f k < f (leF f k - 1) then k + 1 else leF f k
theorem leF_s (f : Nat → Nat) (k : Nat) : leF f (k + 1) = if f k = 0 then leF f k else if leF f k = 0 then k + 1 else if f k < f (leF f k - 1) then k + 1 else leF f k := rfl
theorem leF_ok (f : Nat → Nat) : ∀ k, leF f k ≤ k ∧ (leF f k = 0 → ∀ j, j < k → f j = 0) ∧ (leF f k ≠ 0 → f (leF f k - 1) ≠ 0 ∧ ∀ j, j < k → f j ≠ 0 → f (leF f k - 1) < f j ∨ (f (leF f k - 1) = f j ∧ leF f k - 1 ≤ j))
  | 0 => ⟨Nat.le_refl _, fun _ j hj => absurd hj (by omega), fun h => absurd rfl h⟩
  | k + 1 => by
    obtain ⟨h1, h2, h3⟩ := leF_ok f k
    rw [leF_s]
    by_cases a : f k = 0
    · rw [if_pos a]
      refine ⟨by omega, fun z j hj => ?_, fun z => ⟨(h3 z).1, fun j hj hf => ?_⟩⟩
      · by_cases e : j = k
        · rw [e]; exact a
        · exact h2 z j (by omega)
      · by_cases e : j = k
        · rw [e] at hf; exact absurd a hf
        · exact (h3 z).2 j (by omega) hf
    · rw [if_neg a]
      by_cases b : leF f k = 0
      · rw [if_pos b]
        refine ⟨Nat.le_refl _, fun z => by omega, fun _ => ?_⟩
        rw [Nat.add_sub_cancel]
        refine ⟨a, fun j hj hf => ?_⟩
        by_cases e : j = k
        · rw [e]; exact Or.inr ⟨rfl, Nat.le_refl _⟩
        · exact absurd (h2 b j (by omega)) hf
      · rw [if_neg b]
        by_cases c : f k < f (leF f k - 1)
        · rw [if_pos c]
          refine ⟨Nat.le_refl _, fun z => by omega, fun _ => ?_⟩
          rw [Nat.add_sub_cancel]
          refine ⟨a, fun j hj hf => ?_⟩
          by_cases e : j = k
          · rw [e]; exact Or.inr ⟨rfl, Nat.le_refl _⟩
          · have := (h3 b).2 j (by omega) hf
            omega
        · rw [if_neg c]
          refine ⟨by omega, fun z => absurd z b, fun _ => ⟨(h3 b).1, fun j hj hf => ?_⟩⟩
          by_cases e : j = k
          · subst e
            omega
          · exact (h3 b).2 j (by omega) hf
noncomputable def pn (S n : Nat → Nat) (x net : Nat) : Nat := @ite _ (rm S n x net) (Classical.propDecidable _) (sp S n net) 0
theorem pn_le (S n : Nat → Nat) (x net : Nat) : pn S n x net ≤ 21 := by
  have := sp_le S n net
  unfold pn
  split <;> omega
theorem pn_nz {S n : Nat → Nat} {x net : Nat} : pn S n x net ≠ 0 ↔ rm S n x net := by
  unfold pn
  by_cases h : rm S n x net
  · rw [if_pos h]; exact ⟨fun _ => h, fun _ => h.1⟩
  · rw [if_neg h]; exact ⟨fun x => absurd rfl x, fun x => absurd x h⟩
theorem pn_of {S n : Nat → Nat} {x net : Nat} (h : rm S n x net) : pn S n x net = sp S n net := by unfold pn; rw [if_pos h]
theorem pn_not {S n : Nat → Nat} {x net : Nat} (h : ¬ rm S n x net) : pn S n x net = 0 := by unfold pn; rw [if_neg h]
def StAuto (A : qA) (v : Int32) (A' : qA) : Prop := ∃ S' W, Sq A.1 A.2.1 336 S' W ∧ v = iN W ∧ Cm A S' A.2.1 A'
section AUTO
variable {w : qS} {S n : Nat → Nat} {M : qM}
theorem ct_20 {f : Nat → Nat} (hf : ∀ p, p < 16 → M 28 p = pm (f p)) (hl : ∀ p, p < 16 → f p ≤ 21) : gE w 20 0 [some (.ref 0), none, none] [] M (qv1 M (pm (leF f 16))) := by
  refine wk_20_0 ?_
  refine ev_for 16 (Inv := fun i loc M' => M' = M ∧ loc = [some (.ref 0), some (.int (pm (leF f i))), some (.int (iN i))]) ?_ ?_ 0 _ _ (Nat.zero_le _) ⟨rfl, rfl⟩
  · rintro i loc M' hi ⟨eM, rfl⟩ rec
    subst eM
    have hk := (leF_ok f i).1
    have hfi := hl i hi
    have e28 : M' 28 (iN i).toNatClampNeg = pm (f i) := by rw [iN_ix (by omega)]; exact hf i hi
    refine wk_20_4 (fun c => absurd ((iN_lt (by omega) (by omega)).mpr hi) c) (fun _ => iN_in hi (by omega)) (fun _ => ?_) (fun _ _ c3 => ?_)
    · refine rec _ _ ⟨rfl, ?_⟩
      rw [e28, iN_succ, leF_s]
      by_cases a : f i = 0
      · rw [if_pos a, if_pos ((pm_m1 (by omega)).mpr a)]
      · rw [if_neg a, if_neg (fun x => a ((pm_m1 (by omega)).mp x))]
        by_cases b : leF f i = 0
        · rw [if_pos b, if_pos ((pm_m1 (by omega)).mpr b)]; rfl
        · have e2 : M' 28 (pm (leF f i)).toNatClampNeg = pm (f (leF f i - 1)) := by rw [pm_of b, iN_ix (by omega)]; exact hf _ (by omega)
          have hfl := hl (leF f i - 1) (by omega)
          have nz := ((leF_ok f i).2.2 b).1
          rw [if_neg b, if_neg (fun x => b ((pm_m1 (by omega)).mp x)), e2, pm_of a, pm_of nz]
          by_cases c : f i < f (leF f i - 1)
          · rw [if_pos c, if_pos ((iN_lt (by omega) (by omega)).mpr (by omega))]; rfl
          · rw [if_neg c, if_neg (fun x => by have := (iN_lt (by omega) (by omega)).mp x; omega)]
    · have b : leF f i ≠ 0 := fun x => c3 ((pm_m1 (by omega)).mpr x)
      rw [pm_of b]
      exact iN_in (by omega) (by omega)
  · rintro loc M' ⟨eM, rfl⟩
    subst eM
    exact wk_20_4 (fun _ => qv1_i rfl) (fun c => lt_no c) (fun c => lt_no c) (fun c => lt_no c)
theorem ct_62 (h : BD S n M) {net : Nat} (hnet : net < 16) : gE w 62 0 [some (.ref 12), some (.ref 1), some (.int (iN net)), none, none] [] M (fun r M' => ∃ v S', r = some (.int (bi (v = 0))) ∧ Rs S n net v S' ∧ BD S' n M' ∧ fr [8, 12, 13, 14, 15, 16, 19, 20, 21, 22, 23, 24] M M') := by
  refine wk_62_0 ?_
  refine ev_loop (Inv := fun k loc M' => ∃ t x3 S1, t ≤ 16 ∧ k = 16 - t ∧ 0 < x3 ∧ Ps S n net t S1 ∧ Lb S1 n net t ∧ BD S1 n M' ∧ fr [8, 12, 13, 14, 15, 16, 19, 20, 21, 22, 23, 24] M M' ∧ loc = [some (.ref 12), some (.ref 1), some (.int (iN net)), some (.int x3), some (.int (iN t))]) ?_ 16 _ _ ⟨0, _, S, by omega, by omega, by decide, rfl, Lb_0 _ _ _, h, fr_rfl, rfl⟩
  rintro k loc M1 ⟨t, x3, S1, ht, rfl, hx, hP, hL, hb, hf, rfl⟩ rec
  refine wk_62_6 (fun c => absurd ((iN_lt (by omega) (by omega)).mp c) (by omega)) (fun _ c => absurd hx c) (fun _ _ => ?_)
  refine (ct_63 hb hnet).mono ?_
  rintro r M2 ⟨v, S2, rfl, g1, g2, g3⟩
  refine wk_62_23 ?_
  rw [iN_succ]
  by_cases z : 0 < v
  · rcases Rt_v hb.1 g1 with ⟨rfl, -⟩ | ⟨rfl, -⟩ | ⟨-, hR⟩
    · exact absurd z (by decide)
    · exact absurd z (by decide)
    · by_cases e : t = 16
      · subst e
        exact absurd hR (Lb_16 hb.1 hL)
      · exact rec (16 - (t + 1)) _ _ (by omega) ⟨t + 1, v, S2, by omega, rfl, z, ⟨v, S1, hP, g1, z⟩, Lb_step hb.1 hL hR, g2, fr_tr hf g3, rfl⟩
  · have fin : (fun r M' => ∃ v S', r = some (.int (bi (v = 0))) ∧ Rs S n net v S' ∧ BD S' n M' ∧ fr [8, 12, 13, 14, 15, 16, 19, 20, 21, 22, 23, 24] M M' : qR) (some (.int (if v = 0 then 1 else 0 : Int32))) M2 := ⟨v, S2, by rw [bi_y], ⟨t, S1, hP, g1, z⟩, g2, fr_tr hf g3⟩
    exact wk_62_6 (fun _ => fin) (fun _ _ => fin) (fun _ c => absurd c z)
theorem cl_auto {A : qA} (hA : RA2 A) (h : RC A M) : gE w 13 0 [some (.ref 0), none, none, none] [] M (CLp (StAuto A) M) := by
  have h0 := hA.1.1.1
  have h1 := hA.1.1.2.1
  refine wk_13_0 ?_
  refine (cl_begin hA.1 h).mono ?_
  rintro r M1 ⟨rfl, f1, t0, f2⟩
  refine wk_13_14 ?_
  have hpn0 : ∀ p, pn A.1 A.2.1 0 p = sp A.1 A.2.1 p := fun p => by
    by_cases z : rm A.1 A.2.1 0 p
    · exact pn_of z
    · rw [pn_not z]
      apply Classical.byContradiction
      intro y
      exact z ⟨fun q => y q.symm, Nat.zero_le _⟩
  refine ev_for 16 (Inv := fun i loc M' => (fr [28] M1 M' ∧ ∀ p, p < i → M' 28 p = pm (pn A.1 A.2.1 0 p)) ∧ ∃ o2 o3, loc = [some (.ref 0), some (.int (iN i)), o2, o3]) ?_ ?_ 0 _ _ (Nat.zero_le _) ⟨⟨fr_rfl, fun p hp => absurd hp (by omega)⟩, _, _, rfl⟩
  · rintro i loc M2 hi ⟨⟨a1, a2⟩, o2, o3, rfl⟩ rec
    have hb : BD A.1 A.2.1 M2 := BD_fr f2.1 (fr_lo a1 (by decide))
    refine wk_13_16 (r1 := pm (sp A.1 A.2.1 i)) (fun c => absurd ((iN_lt (by omega) (by omega)).mpr hi) c) (fun _ => ct_52 hb hi) (fun _ => iN_in hi (by omega)) (fun _ => ?_)
    rw [iN_succ, iN_ix (by omega)]
    refine rec _ _ ⟨⟨fr_tr a1 (fr_ms (by decide)), fun p hp => ?_⟩, _, _, rfl⟩
    rw [ms_get]
    by_cases e : p = i
    · rw [if_pos ⟨rfl, e⟩, e, hpn0]
    · rw [if_neg (fun y => e y.2)]; exact a2 p (by omega)
  · rintro loc M2 ⟨⟨a1, a2⟩, o2, o3, rfl⟩
    refine wk_13_16 (r1 := 0) (fun _ => ?_) (fun c => lt_no c) (fun c => lt_no c) (fun c => lt_no c)
    refine ev_loop (Inv := fun k loc M' => ∃ x t S1 W, x ≤ 336 ∧ k = 336 - x ∧ t + cnt 16 (rm A.1 A.2.1 x) ≤ 16 ∧ Sq A.1 A.2.1 x S1 W ∧ BD S1 A.2.1 M' ∧ fr [8, 12, 13, 14, 15, 16, 19, 20, 21, 22, 23, 24, 28] M1 M' ∧ (∀ p, p < 16 → M' 28 p = pm (pn A.1 A.2.1 x p)) ∧ ∃ o3, loc = [some (.ref 0), some (.int (iN W)), some (.int (iN t)), o3]) ?_ 336 _ _ ⟨0, 0, A.1, 0, by omega, by omega, by have := cnt_le (rm A.1 A.2.1 0) 16; omega, ⟨rfl, rfl⟩, BD_fr f2.1 (fr_lo a1 (by decide)), fr_sub a1 (by decide), a2, _, rfl⟩
    rintro k loc M3 ⟨x, t, S1, W, hx, rfl, ht, hSq, hb, hf, h28, o3, rfl⟩ rec
    have fin : (∀ p, p < 16 → ¬ rm A.1 A.2.1 x p) → ∀ o2 o3, gE w 60 0 [some (.ref 10), some (.ref 2)] [] M3 (fun r M' => gE w 13 110 [some (.ref 0), some (.int (iN W)), o2, o3] (r.toList ++ []) M' (CLp (StAuto A) M)) := by
      intro hno o2 o3
      have hS3 := Sq_to hSq hx (fun z hz1 hz2 hz3 => hno (z % 16) (by omega) (ord_rm hz3 hz1))
      obtain ⟨k1, k2, k3⟩ := Sq_Ok hA.1.1 336 hS3
      have hn' : isNet (S1 1) S1 A.2.1 := by rw [k2 1 (by omega)]; exact isNet_congr h1 k2 hA.1.2.1
      obtain ⟨A', hC, hRA, hE⟩ := cl_done (w := w) hA f1 f2 hb (fun q hq => hf q (by simp only [List.mem_cons, List.not_mem_nil, or_false]; omega)) hn' (BS_lo hA.2.1 k1 k2) (fun _ _ i hi => (k2 i (by omega)).symm)
      refine hE.mono ?_
      rintro r M4 ⟨rfl, l1, l2⟩
      exact wk_13_110 ⟨_, A', rfl, ⟨S1, W, hS3, rfl, hC⟩, hRA, l1, l2⟩
    by_cases e : t = 16
    · subst e
      refine wk_13_46 (r1 := 0) (fun _ => fin (fun p hp hr => ?_) _ _) (fun c => lt_no c) (fun c => lt_no c) (fun c => lt_no c) (fun c => lt_no c)
      have := cnt_lt (p := fun _ => False) (q := rm A.1 A.2.1 x) 16 (fun _ _ y => y.elim) ⟨p, hp, fun y => y, hr⟩
      omega
    · have htl : t < 16 := by omega
      have hle := leF_ok (pn A.1 A.2.1 x) 16
      refine wk_13_46 (r1 := pm (leF (pn A.1 A.2.1 x) 16)) (fun c => absurd ((iN_lt (by omega) (by omega)).mpr htl) c) (fun _ => ct_20 h28 (fun p _ => pn_le _ _ _ _)) (fun _ c2 => ?_) (fun _ c2 => ?_) (fun _ c2 => fin (fun p hp hr => ?_) _ _)
      · have z : leF (pn A.1 A.2.1 x) 16 ≠ 0 := fun y => c2 ((pm_m1 (by omega)).mpr y)
        rw [pm_of z]
        exact iN_in (by omega) (by omega)
      · have z : leF (pn A.1 A.2.1 x) 16 ≠ 0 := fun y => c2 ((pm_m1 (by omega)).mpr y)
        rw [pm_of z]
        have hb16 : leF (pn A.1 A.2.1 x) 16 - 1 < 16 := by omega
        have hl3 := hle.2.2 z
        generalize leF (pn A.1 A.2.1 x) 16 - 1 = b at *
        rw [iN_ix (by omega)]
        have hrb := pn_nz.mp hl3.1
        have hord := rm_ord hb16 hrb
        obtain ⟨y, hy⟩ : ∃ y, y = 16 * (sp A.1 A.2.1 b - 1) + b := ⟨_, rfl⟩
        rw [← hy] at hord
        have hxy : x ≤ y := by rw [hy]; exact hrb.2
        have hspb := sp_le A.1 A.2.1 b
        have hsp0 := hrb.1
        have hym : y % 16 = b := by omega
        have hleast : ∀ p, p < 16 → rm A.1 A.2.1 x p → y ≤ 16 * (sp A.1 A.2.1 p - 1) + p := by
          intro p hp hr
          have := hl3.2 p hp (pn_nz.mpr hr)
          rw [pn_of hr, pn_of hrb] at this
          have := hr.1
          omega
        have hgap : ∀ z, x ≤ z → z < y → ¬ ordX A.1 A.2.1 z := by
          intro z hz1 hz2 hz3
          have h4 := hleast (z % 16) (by omega) (ord_rm hz3 hz1)
          unfold ordX at hz3
          rw [hz3] at h4
          omega
        have hSy := Sq_to hSq hxy hgap
        have hb2 : BD S1 A.2.1 (ms M3 28 b (-1)) := BD_fr hb (fun q hq => ms_rows (by omega))
        refine (ct_62 hb2 hb16).mono ?_
        rintro r M4 ⟨v, S2, rfl, g1, g2, g3⟩
        refine wk_13_84 ?_
        have hW : (if bi (v = 0) = 0 then iN W else iN W + 1 : Int32) = iN (W + (if v = 0 then 1 else 0)) := by
          by_cases q : v = 0
          · rw [bi_pos q, if_neg (by decide), if_pos q, iN_succ]
          · rw [bi_neg q, if_pos rfl, if_neg q]; rfl
        rw [hW, iN_succ t]
        refine rec (336 - (y + 1)) _ _ (by omega) ⟨y + 1, t + 1, S2, _, by omega, rfl, ?_, Or.inr ⟨hord, S1, W, v, hSy, by rw [hym]; exact g1, rfl⟩, g2, ?_, fun p hp => ?_, _, rfl⟩
        · have hlt := cnt_lt (p := rm A.1 A.2.1 (y + 1)) (q := rm A.1 A.2.1 x) 16 (fun i _ hr => ⟨hr.1, by have := hr.2; omega⟩) ⟨b, hb16, fun hr => by have := hr.2; omega, hrb⟩
          omega
        · exact fr_tr hf (fr_tr (fr_ms (by decide)) (fr_sub g3 (by decide)))
        · rw [g3 28 (by decide), ms_get]
          by_cases q : p = b
          · rw [if_pos ⟨rfl, q⟩, q, pn_not (fun hr => by have := hr.2; omega)]; rfl
          · rw [if_neg (fun y => q y.2), h28 p hp]
            by_cases hr : rm A.1 A.2.1 x p
            · have h4 := hleast p hp hr
              have h5 := hr.1
              rw [pn_of hr, pn_of ⟨hr.1, by omega⟩]
            · rw [pn_not hr, pn_not (fun hr2 => hr ⟨hr2.1, by have := hr2.2; omega⟩)]
      · have z := (pm_m1 (by omega)).mp c2
        exact absurd (hle.2.1 z p hp) (pn_nz.mpr hr)
theorem spn_out {S n : Nat → Nat} (h : isNet (S 1) S n) (h0 : S 0 ≤ 16) {net : Nat} (hn : S 0 ≤ net ∨ n net ≠ net) : sp S n net = 0 := by
  refine sp_not (fun p hp => ?_)
  have h1 := hp.1
  have h2 := hp.2.1
  have h3 := h.2.1 p (by omega)
  rcases hn with x | x
  · omega
  · exact x (by rw [← h2]; exact isNet_idem h (by omega))
theorem ord_not {S n : Nat → Nat} {x : Nat} (h : sp S n (x % 16) = 0) : ¬ ordX S n x := by unfold ordX; omega
theorem rf_auto {A A' : qA} {v : Int32} (hA : RA2 A) (hSt : StAuto A v A') (h : RF A M) : gE w 116 0 [some (.ref 148), none, none, none] [] M (RFp v A' M) := by
  have h0 := hA.1.1.1
  have h1 := hA.1.1.2.1
  obtain ⟨S', W', hSq', rfl, hC⟩ := hSt
  refine wk_116_0 ?_
  refine (rf_begin h).mono ?_
  rintro r M1 ⟨rfl, f1, f2, f3⟩
  refine wk_116_4 ?_
  have hn16 : ∀ p, p < 16 → A.2.1 p < 16 := fun p hp => isNet_lt hA.1.2.1 hp
  have hrem := ord_rem A.1 A.2.1
  -- the order
  refine ev_for 21 (Inv := fun s loc M' => (fr [160] M1 M' ∧ ∀ y, y < 16 * s → ordX A.1 A.2.1 y → M' 160 (cnt y (ordX A.1 A.2.1)) = iN (y % 16)) ∧ ∃ o3, loc = [some (.ref 148), some (.int (iN (cnt (16 * s) (ordX A.1 A.2.1)))), some (.int (iN s)), o3]) ?_ ?_ 0 _ _ (Nat.zero_le _) ⟨⟨fr_rfl, fun y hy => absurd hy (by omega)⟩, _, rfl⟩
  · rintro s loc M2 hs ⟨⟨a1, a2⟩, o3, rfl⟩ rec
    refine wk_116_8 (fun c => absurd ((iN_lt (by omega) (by omega)).mpr hs) c) (fun _ => ?_)
    refine ev_for (A.1 0) (Inv := fun i loc M' => (fr [160] M1 M' ∧ ∀ y, y < 16 * s + i → ordX A.1 A.2.1 y → M' 160 (cnt y (ordX A.1 A.2.1)) = iN (y % 16)) ∧ loc = [some (.ref 148), some (.int (iN (cnt (16 * s + i) (ordX A.1 A.2.1)))), some (.int (iN s)), some (.int (iN i))]) ?_ ?_ 0 _ _ (Nat.zero_le _) ⟨⟨a1, a2⟩, rfl⟩
    · rintro i loc M3 hi ⟨⟨b1, b2⟩, rfl⟩ rec2
      have hb : RD A.1 A.2.1 M3 := ⟨hA.1.1, hn16, FB_fr f3 (fun q hq => b1 q (by simp only [List.mem_cons, List.not_mem_nil, or_false]; omega))⟩
      have ep : M3 149 0 = iN (A.1 0) := rd_now hb (by omega)
      have en : M3 152 (iN i).toNatClampNeg = iN (A.2.1 i) := by rw [iN_ix (by omega)]; exact hb.2.2.2.1 i (by omega)
      have hni := hn16 i (by omega)
      have hm : (16 * s + i) % 16 = i := by omega
      have hd : (16 * s + i) / 16 = s := by omega
      have skip : ¬ ordX A.1 A.2.1 (16 * s + i) → gE w 116 16 [some (.ref 148), some (.int (iN (cnt (16 * s + i) (ordX A.1 A.2.1)))), some (.int (iN s)), some (.int (iN i + 1))] [] M3 (RFp (iN W') A' M) := by
        intro hno
        rw [iN_succ]
        refine rec2 _ _ ⟨⟨b1, fun y hy hyo => ?_⟩, by rw [← Nat.add_assoc, cnt_n hno]⟩
        by_cases e : y = 16 * s + i
        · rw [e] at hyo; exact absurd hyo hno
        · exact b2 y (by omega) hyo
      have hspi := sp_le A.1 A.2.1 i
      refine wk_116_16 (r1 := pm (sp A.1 A.2.1 i)) (fun c => absurd (by rw [ep]; exact (iN_lt (by omega) (by omega)).mpr hi) c) (fun _ => iN_in (by omega) (by omega)) (fun _ c2 => skip (ord_not ?_)) (fun _ _ => ct_115 hb (by omega)) (fun _ _ c3 => skip ?_) (fun _ _ c3 => ?_) (fun _ _ c3 => ?_)
      · rw [hm]
        refine spn_out hA.1.2.1 h0 (Or.inr (fun y => c2 ?_))
        rw [en, y]
      · unfold ordX
        rw [hm, hd]
        exact fun y => c3 ((pm_iN (by omega) (by omega)).mpr y)
      · have hord : ordX A.1 A.2.1 (16 * s + i) := by
          unfold ordX
          rw [hm, hd]
          exact (pm_iN (by omega) (by omega)).mp c3
        have := hrem (16 * s + i + 1)
        rw [cnt_y hord] at this
        exact iN_in (by omega) (by omega)
      · have hord : ordX A.1 A.2.1 (16 * s + i) := by
          unfold ordX
          rw [hm, hd]
          exact (pm_iN (by omega) (by omega)).mp c3
        have := hrem (16 * s + i + 1)
        rw [cnt_y hord] at this
        rw [iN_succ, iN_succ, iN_ix (by omega)]
        refine rec2 _ _ ⟨⟨fr_tr b1 (fr_ms (by decide)), fun y hy hyo => ?_⟩, by rw [← Nat.add_assoc, cnt_y hord]⟩
        rw [ms_get]
        by_cases e : y = 16 * s + i
        · rw [e, if_pos ⟨rfl, rfl⟩, hm]
        · have hlt := cnt_lt2 hyo (show y < 16 * s + i by omega)
          rw [if_neg (fun q => by have := q.2; omega)]
          exact b2 y (by omega) hyo
    · rintro loc M3 ⟨⟨b1, b2⟩, rfl⟩
      have hb : RD A.1 A.2.1 M3 := ⟨hA.1.1, hn16, FB_fr f3 (fun q hq => b1 q (by simp only [List.mem_cons, List.not_mem_nil, or_false]; omega))⟩
      have ep : M3 149 0 = iN (A.1 0) := rd_now hb (by omega)
      have hno : ∀ {α : Prop}, iN (A.1 0) < M3 149 0 → α := fun c => by rw [ep] at c; exact lt_no c
      refine wk_116_16 (r1 := 0) (fun _ => ?_) (fun c => hno c) (fun c => hno c) (fun c => hno c) (fun c => hno c) (fun c => hno c) (fun c => hno c)
      have hgap : ∀ z, 16 * s + A.1 0 ≤ z → z < 16 * (s + 1) → ¬ ordX A.1 A.2.1 z := fun z hz1 hz2 => ord_not (spn_out hA.1.2.1 h0 (Or.inl (by omega)))
      rw [iN_succ]
      refine rec _ _ ⟨⟨b1, fun y hy hyo => ?_⟩, _, by rw [cnt_to (show 16 * s + A.1 0 ≤ 16 * (s + 1) by omega) hgap]⟩
      by_cases e : y < 16 * s + A.1 0
      · exact b2 y e hyo
      · exact absurd hyo (hgap y (by omega) hy)
  · rintro loc M2 ⟨⟨a1, a2⟩, o3, rfl⟩
    refine wk_116_8 (fun _ => ?_) (fun c => lt_no c)
    have hN := hrem 336
    rw [show 16 * 21 = 336 by omega] at a2 ⊢
    have hb2 : RD A.1 A.2.1 M2 := ⟨hA.1.1, hn16, FB_fr f3 (fun q hq => a1 q (by simp only [List.mem_cons, List.not_mem_nil, or_false]; omega))⟩
    -- the ways
    refine ev_for (cnt 336 (ordX A.1 A.2.1)) (Inv := fun i loc M' => ∃ x S1 W, x ≤ 336 ∧ cnt x (ordX A.1 A.2.1) = i ∧ Sq A.1 A.2.1 x S1 W ∧ RD S1 A.2.1 M' ∧ isNet (S1 1) S1 A.2.1 ∧ fr [149, 152, 153, 154, 155, 156, 157] M2 M' ∧ ∃ o3, loc = [some (.ref 148), some (.int (iN (cnt 336 (ordX A.1 A.2.1)))), some (.int (iN i)), o3]) ?_ ?_ 0 _ _ (Nat.zero_le _) ⟨0, A.1, 0, by omega, rfl, ⟨rfl, rfl⟩, hb2, hA.1.2.1, fr_rfl, _, rfl⟩
    · rintro i loc M3 hi ⟨x, S1, W, hx, rfl, hSq, hb3, hn3, hf, o3, rfl⟩ rec
      obtain ⟨y, hxy, hy, hord, hcy, hgap⟩ := cnt_nxt hi
      have hSy := Sq_to hSq hxy hgap
      refine wk_116_69 (fun c => absurd ((iN_lt (by omega) (by omega)).mpr hi) c) (fun _ => ?_)
      refine ev_loop (Inv := fun k loc M' => ∃ t St, t ≤ 16 ∧ k = 16 - t ∧ Ps S1 A.2.1 (y % 16) t St ∧ Lb St A.2.1 (y % 16) t ∧ RD St A.2.1 M' ∧ isNet (St 1) St A.2.1 ∧ fr [149, 152, 153, 154, 155, 156, 157] M2 M' ∧ loc = [some (.ref 148), some (.int (iN (cnt 336 (ordX A.1 A.2.1)))), some (.int (iN (cnt x (ordX A.1 A.2.1)))), some (.int 1)]) ?_ 16 _ _ ⟨0, S1, by omega, by omega, rfl, Lb_0 _ _ _, hb3, hn3, hf, rfl⟩
      rintro k loc M4 ⟨t, St, ht, rfl, hP, hL, hb4, hn4, hf4, rfl⟩ rec2
      have e160 : M4 160 (iN (cnt x (ordX A.1 A.2.1))).toNatClampNeg = iN (y % 16) := by
        rw [iN_ix (by omega), hf4 160 (by decide), ← hcy]
        exact a2 y hy hord
      refine wk_116_76 (fun c => absurd c (by decide)) (fun _ => iN_in (by omega) (by omega)) (fun _ => ?_)
      rw [e160]
      refine (ct_113 hb4 hn4 (by omega)).mono ?_
      rintro r M5 ⟨u, S2, rfl, g1, g2, g3, g4⟩
      refine wk_116_90 ?_
      by_cases z : 0 < u
      · rw [if_pos z]
        rcases Rt_v hb4.1 g1 with ⟨rfl, -⟩ | ⟨rfl, -⟩ | ⟨-, hR⟩
        · exact absurd z (by decide)
        · exact absurd z (by decide)
        · by_cases e : t = 16
          · subst e
            exact absurd hR (Lb_16 hb4.1 hL)
          · exact rec2 (16 - (t + 1)) _ _ (by omega) ⟨t + 1, S2, by omega, rfl, ⟨u, St, hP, g1, z⟩, Lb_step hb4.1 hL hR, g2, g3, fr_tr hf4 g4, rfl⟩
      · rw [if_neg z]
        refine wk_116_76 (fun _ => ?_) (fun c => absurd rfl c) (fun c => absurd rfl c)
        rw [iN_succ]
        exact rec _ _ ⟨y + 1, S2, _, by omega, by rw [cnt_y hord, hcy], Or.inr ⟨hord, S1, W, u, hSy, ⟨t, St, hP, g1, z⟩, rfl⟩, g2, g3, fr_tr hf4 g4, _, rfl⟩
    · rintro loc M3 ⟨x, S1, W, hx, hcx, hSq, hb3, hn3, hf, o3, rfl⟩
      refine wk_116_69 (fun _ => ?_) (fun c => lt_no c)
      have hSq3 := Sq_to hSq hx (fun z hz1 hz2 => cnt_gap (by rw [hcx]; exact Nat.le_refl _) hz1 hz2)
      obtain ⟨rfl, rfl⟩ := Sq_uniq 336 hSq3 hSq'
      obtain ⟨k1, k2, k3⟩ := Sq_Ok hA.1.1 336 hSq3
      clear hSq hcx hx x
      -- the count
      refine ev_for (cnt 336 (ordX A.1 A.2.1)) (Inv := fun i loc M' => ∃ x, x ≤ 336 ∧ cnt x (ordX A.1 A.2.1) = i ∧ fr [155] M3 M' ∧ loc = [some (.ref 148), some (.int (iN (cnt 336 (ordX A.1 A.2.1)))), some (.int (iN (cnt x (fun y => ordX A.1 A.2.1 y ∧ mk S1 A.2.1 (y % 16) = 0)))), some (.int (iN i))]) ?_ ?_ 0 _ _ (Nat.zero_le _) ⟨0, by omega, rfl, fr_rfl, rfl⟩
      · rintro i loc M4 hi ⟨x, hx, rfl, hf4, rfl⟩ rec
        obtain ⟨y, hxy, hy, hord, hcy, hgap⟩ := cnt_nxt hi
        have hb4 : RD S1 A.2.1 M4 := ⟨hb3.1, hb3.2.1, FB_fr hb3.2.2 (fun q hq => hf4 q (by simp only [List.mem_cons, List.not_mem_nil, or_false]; omega))⟩
        have e160 : M4 160 (iN (cnt x (ordX A.1 A.2.1))).toNatClampNeg = iN (y % 16) := by
          rw [iN_ix (by omega), hf4 160 (by decide), hf 160 (by decide), ← hcy]
          exact a2 y hy hord
        refine wk_116_112 (fun c => absurd ((iN_lt (by omega) (by omega)).mpr hi) c) (fun _ => iN_in (by omega) (by omega)) (fun _ => ?_)
        rw [e160]
        refine (ct_108 hb4 (by omega)).mono ?_
        intro r M5 hMs
        obtain ⟨hk, rfl, d1⟩ := RMs_mk hMs
        refine wk_116_127 ?_
        have hq : cnt y (fun y => ordX A.1 A.2.1 y ∧ mk S1 A.2.1 (y % 16) = 0) = cnt x (fun y => ordX A.1 A.2.1 y ∧ mk S1 A.2.1 (y % 16) = 0) := cnt_to hxy (fun z hz1 hz2 hz3 => hgap z hz1 hz2 hz3.1)
        have hval : (if pm (mk S1 A.2.1 (y % 16)) < 0 then iN (cnt x (fun y => ordX A.1 A.2.1 y ∧ mk S1 A.2.1 (y % 16) = 0)) + 1 else iN (cnt x (fun y => ordX A.1 A.2.1 y ∧ mk S1 A.2.1 (y % 16) = 0)) : Int32) = iN (cnt (y + 1) (fun y => ordX A.1 A.2.1 y ∧ mk S1 A.2.1 (y % 16) = 0)) := by
          by_cases z : mk S1 A.2.1 (y % 16) = 0
          · rw [if_pos ((pm_neg (by omega)).mpr z), iN_succ, cnt_y ⟨hord, z⟩, hq]
          · rw [if_neg (fun q => z ((pm_neg (by omega)).mp q)), cnt_n (fun q => z q.2), hq]
        rw [hval, iN_succ]
        exact rec _ _ ⟨y + 1, by omega, by rw [cnt_y hord, hcy], fr_tr hf4 d1, rfl⟩
      · rintro loc M4 ⟨x, hx, hcx, hf4, rfl⟩
        have hend : cnt 336 (fun y => ordX A.1 A.2.1 y ∧ mk S1 A.2.1 (y % 16) = 0) = cnt x (fun y => ordX A.1 A.2.1 y ∧ mk S1 A.2.1 (y % 16) = 0) := cnt_to hx (fun z hz1 hz2 hz3 => cnt_gap (by rw [hcx]; exact Nat.le_refl _) hz1 hz2 hz3.1)
        rw [← hend, ← k3]
        refine wk_116_112 (fun _ => ?_) (fun c => lt_no c) (fun c => lt_no c)
        have hb4 : RD S1 A.2.1 M4 := ⟨hb3.1, hb3.2.1, FB_fr hb3.2.2 (fun q hq => hf4 q (by simp only [List.mem_cons, List.not_mem_nil, or_false]; omega))⟩
        have fq : ∀ q, q ≤ 148 ∨ q = 150 ∨ q = 151 ∨ q = 158 → M4 q = M1 q := fun q hq => by
          rw [hf4 q (by simp only [List.mem_cons, List.not_mem_nil, or_false]; omega), hf q (by simp only [List.mem_cons, List.not_mem_nil, or_false]; omega), a1 q (by simp only [List.mem_cons, List.not_mem_nil, or_false]; omega)]
        refine (rf_end hA hC k1 hn3 (BS_lo hA.2.1 k1 k2) (MR_op f2 (fun q hq => fq q (by omega)) hb4.2.2.1) (fun _ => hb4.2.2)).mono ?_
        rintro r M5 ⟨rfl, l1, l2⟩
        refine wk_116_148 ⟨rfl, l2, fun q hq => ?_⟩
        rw [l1 q hq, fq q (by omega), f1 q (by simp only [List.mem_cons, List.not_mem_nil, or_false]; omega)]
end AUTO
