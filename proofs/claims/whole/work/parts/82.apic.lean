/-! Calls: plot. -/
theorem cnt_flat {p : Nat → Prop} {a : Nat} : ∀ d, (∀ i, a ≤ i → i < a + d → ¬ p i) → cnt (a + d) p = cnt a p
  | 0, _ => rfl
  | d + 1, h => by
    rw [← Nat.add_assoc, cnt_s, if_neg (h (a + d) (by omega) (by omega)), cnt_flat d (fun i h1 h2 => h i h1 (by omega))]
    rfl
theorem cnt_up (p : Nat → Prop) (a : Nat) : ∀ d, cnt a p ≤ cnt (a + d) p
  | 0 => Nat.le_refl _
  | d + 1 => by
    have := cnt_up p a d
    rw [← Nat.add_assoc, cnt_s]
    omega
theorem cnt_inj {p : Nat → Prop} {a b : Nat} (ha : p a) (hb : p b) (e : cnt a p = cnt b p) : a = b := by
  have key : ∀ x y, p x → x < y → cnt x p < cnt y p := fun x y hx hxy => by
    have h1 := cnt_up p (x + 1) (y - (x + 1))
    rw [show x + 1 + (y - (x + 1)) = y by omega, cnt_s, if_pos hx] at h1
    omega
  rcases Nat.lt_trichotomy a b with h | h | h
  · have := key a b ha h; omega
  · exact h
  · have := key b a hb h; omega
theorem cnt_lt2 {p : Nat → Prop} {a b : Nat} (ha : p a) (hab : a < b) : cnt a p < cnt b p := by
  have h1 := cnt_up p (a + 1) (b - (a + 1))
  rw [show a + 1 + (b - (a + 1)) = b by omega, cnt_s, if_pos ha] at h1
  omega
/-- a run of copper begins here -/
def bg (O : Nat → Nat) (c : Nat) : Prop := O c ≠ 0 ∧ (c % 12 = 0 ∨ O (c - 1) ≠ O c)
def Rl (O : Nat → Nat) (c L : Nat) : Prop := 1 ≤ L ∧ c % 12 + L ≤ 12 ∧ (∀ j, j < L → O (c + j) = O c) ∧ (c % 12 + L < 12 → O (c + L) ≠ O c)
theorem Rl_ex0 (O : Nat → Nat) (c : Nat) : ∀ d L, 1 ≤ L → c % 12 + L + d = 12 → (∀ j, j < L → O (c + j) = O c) → ∃ L, Rl O c L
  | 0, L, h1, h2, h3 => ⟨L, h1, by omega, h3, fun x => by omega⟩
  | d + 1, L, h1, h2, h3 => by
    by_cases e : O (c + L) = O c
    · refine Rl_ex0 O c d (L + 1) (by omega) (by omega) (fun j hj => ?_)
      by_cases x : j = L
      · rw [x]; exact e
      · exact h3 j (by omega)
    · exact ⟨L, h1, by omega, h3, fun _ => e⟩
theorem Rl_ex (O : Nat → Nat) (c : Nat) : ∃ L, Rl O c L := Rl_ex0 O c (11 - c % 12) 1 (by omega) (by omega) (fun j hj => by rw [show j = 0 by omega]; rfl)
theorem Rl_uniq {O : Nat → Nat} {c L K : Nat} (h : Rl O c L) (g : Rl O c K) : L = K := by
  obtain ⟨h1, h2, h3, h4⟩ := h
  obtain ⟨g1, g2, g3, g4⟩ := g
  rcases Nat.lt_trichotomy L K with x | x | x
  · exact absurd (g3 L x) (h4 (by omega))
  · exact x
  · exact absurd (h3 K x) (g4 (by omega))
noncomputable def nb (O : Nat → Nat) (l k : Nat) : Nat := cnt k (fun s => bg O (120 * l + s))
noncomputable def plv (O : Nat → Nat) (d c L : Nat) : Int32 := tld (iN d) (iN (c % 120 / 12)) (iN (c % 12)) (iN L) (iN (O c))
def PLn (A : qA) (x1 x2 : Int32) (l m : Nat) : Prop := l < 2 ∧ m < 2 ^ 31 ∧ x1 = iN l ∧ x2 = iN m
def StPlot (A : qA) (x1 x2 v : Int32) (A' : qA) : Prop := A' = A ∧ (((¬ ∃ l m, PLn A x1 x2 l m) ∧ v = -1) ∨ ∃ l m, PLn A x1 x2 l m ∧ ((∃ s L, s < 120 ∧ bg (ow A.1 A.2.1) (120 * l + s) ∧ 4 * nb (ow A.1 A.2.1) l s ≤ m ∧ m < 4 * nb (ow A.1 A.2.1) l s + 4 ∧ Rl (ow A.1 A.2.1) (120 * l + s) L ∧ v = plv (ow A.1 A.2.1) (m - 4 * nb (ow A.1 A.2.1) l s) (120 * l + s) L) ∨ (4 * nb (ow A.1 A.2.1) l 120 ≤ m ∧ v = if m = 4 * nb (ow A.1 A.2.1) l 120 then 255 else -1)))
theorem nb_le (O : Nat → Nat) (l k : Nat) : nb O l k ≤ k := cnt_le _ k
theorem nb_run {O : Nat → Nat} {l s L : Nat} (h : Rl O (120 * l + s) L) (hs : s % 12 = 0 ∨ O (120 * l + s - 1) ≠ O (120 * l + s)) : nb O l (s + L) = nb O l s + (if O (120 * l + s) ≠ 0 then 1 else 0) := by
  obtain ⟨h1, h2, h3, h4⟩ := h
  have e : nb O l (s + 1 + (L - 1)) = nb O l (s + 1) := by
    refine cnt_flat _ (fun i hi1 hi2 hb => ?_)
    have j1 := h3 (i - s) (by omega)
    have j2 := h3 (i - s - 1) (by omega)
    rw [show 120 * l + s + (i - s) = 120 * l + i by omega] at j1
    rw [show 120 * l + s + (i - s - 1) = 120 * l + i - 1 by omega] at j2
    rcases hb.2 with x | x
    · omega
    · exact x (j2.trans j1.symm)
  rw [show s + 1 + (L - 1) = s + L by omega] at e
  rw [e]
  unfold nb
  rw [cnt_s]
  by_cases z : O (120 * l + s) ≠ 0
  · rw [if_pos z, if_pos ⟨z, by rcases hs with x | x; exact Or.inl (by omega); exact Or.inr x⟩]
  · rw [if_neg z, if_neg (fun x => z x.1)]
theorem pm_n1 {n : Nat} (h : n ≠ 0) : pm n + 1 = iN n := by rw [pm_of h, iN_succ, show n - 1 + 1 = n by omega]
section APIC
variable {w : qS} {M : qM}
theorem ct_55 {S n : Nat → Nat} (h : BD S n M) {c L : Nat} (hc : c < 240) (hL : Rl (ow S n) c L) : gE w 55 0 [some (.ref 1), some (.int (iN c)), none, none, none] [] M (qv1 M (iN L)) := by
  have hO : ∀ c, c < 240 → ow S n c ≤ 16 := fun c hc => ow_le h.1 h.2.1 hc
  refine wk_55_0 (r1 := pm (ow S n c)) (r2 := iN (c % 12)) (ct_32 h hc) (ct_26 hc) ?_
  rw [iN_sub (by omega)]
  obtain ⟨h1, h2, h3, h4⟩ := hL
  refine ev_for L (Inv := fun j loc M' => M' = M ∧ 1 ≤ j ∧ loc = [some (.ref 1), some (.int (iN c)), some (.int (pm (ow S n c))), some (.int (iN (12 - c % 12))), some (.int (iN j))]) ?_ ?_ 1 _ _ h1 ⟨rfl, by omega, rfl⟩
  · rintro j loc M' hj ⟨eM, hj1, rfl⟩ rec
    subst eM
    have := h3 j hj
    refine wk_55_17 (r1 := pm (ow S n (c + j))) (fun c1 => absurd ((iN_lt (by omega) (by omega)).mpr (by omega)) c1) (fun _ => by rw [iN_add]; exact ct_32 h (by omega)) (fun _ c2 => absurd (by rw [this]) c2) (fun _ _ => ?_)
    rw [iN_succ j]
    exact rec _ _ ⟨rfl, by omega, rfl⟩
  · rintro loc M' ⟨eM, hj1, rfl⟩
    subst eM
    by_cases e : c % 12 + L < 12
    · refine wk_55_17 (r1 := pm (ow S n (c + L))) (fun _ => qv1_i rfl) (fun _ => by rw [iN_add]; exact ct_32 h (by omega)) (fun _ _ => qv1_i rfl) (fun _ c2 => absurd ((pm_eq ?_ ?_).mp c2) (h4 e))
      · have := hO (c + L) (by omega); omega
      · have := hO c hc; omega
    · have hno : ∀ {α : Prop}, iN L < iN (12 - c % 12) → α := fun x => absurd ((iN_lt (by omega) (by omega)).mp x) (by omega)
      exact wk_55_17 (r1 := 0) (fun _ => qv1_i rfl) (fun c1 => hno c1) (fun c1 => hno c1) (fun c1 => hno c1)
theorem cl_plot {A : qA} {x1 x2 : Int32} (hA : RA2 A) (h : RC A M) : gE w 16 0 [some (.ref 0), some (.int x1), some (.int x2), none, none, none, none, none, none] [] M (CLp (StPlot A x1 x2) M) := by
  have hb := RC_BD hA h
  have hO : ∀ c, c < 240 → ow A.1 A.2.1 c ≤ 16 := fun c hc => ow_le hb.1 hb.2.1 hc
  refine wk_16_0 (r1 := bi (¬ x1 < 0 ∧ x1 < iN 2)) ct_23 (fun c1 => ⟨-1, A, rfl, ⟨rfl, Or.inl ⟨?_, rfl⟩⟩, hA, h, fun _ _ => rfl⟩) (fun c1 c2 => ?_) (fun c1 c2 => ⟨-1, A, rfl, ⟨rfl, Or.inl ⟨?_, rfl⟩⟩, hA, h, fun _ _ => rfl⟩)
  · rintro ⟨l, m, hl, hm, rfl, rfl⟩
    exact bi_eq c1 ⟨iN_nn (by omega), (iN_lt (by omega) (by omega)).mpr hl⟩
  · obtain ⟨l, hl, rfl⟩ := rng (bi_ne c1).1 (bi_ne c1).2 (by omega)
    obtain ⟨m, hm, rfl⟩ := nng c2
    have fin : ∀ v, ((∃ s L, s < 120 ∧ bg (ow A.1 A.2.1) (120 * l + s) ∧ 4 * nb (ow A.1 A.2.1) l s ≤ m ∧ m < 4 * nb (ow A.1 A.2.1) l s + 4 ∧ Rl (ow A.1 A.2.1) (120 * l + s) L ∧ v = plv (ow A.1 A.2.1) (m - 4 * nb (ow A.1 A.2.1) l s) (120 * l + s) L) ∨ (4 * nb (ow A.1 A.2.1) l 120 ≤ m ∧ v = if m = 4 * nb (ow A.1 A.2.1) l 120 then 255 else -1)) → CLp (StPlot A (iN l) (iN m)) M (some (.int v)) M := fun v hv => ⟨v, A, rfl, ⟨rfl, Or.inr ⟨l, m, ⟨hl, hm, rfl, rfl⟩, hv⟩⟩, hA, h, fun _ _ => rfl⟩
    generalize hOd : ow A.1 A.2.1 = O at *
    rw [iN_mul, iN_add, Nat.mul_comm l 120]
    refine ev_loop (Inv := fun k loc M' => ∃ s i, s ≤ 120 ∧ k = 120 - s ∧ i ≤ s ∧ M' = M ∧ (s < 120 → s % 12 = 0 ∨ O (120 * l + s - 1) ≠ O (120 * l + s)) ∧ 4 * nb O l s ≤ m ∧ ∃ o7 o8, loc = [some (.ref 0), some (.int (iN l)), some (.int (iN m)), some (.int (iN (m - 4 * nb O l s))), some (.int (iN (120 * l + s))), some (.int (iN (120 * l + 120))), some (.int (iN i)), o7, o8]) ?_ 120 _ _ ⟨0, 0, by omega, by omega, by omega, rfl, fun _ => Or.inl rfl, Nat.zero_le _, _, _, rfl⟩
    rintro k loc M' ⟨s, i, hs, rfl, hi, rfl, hst, hle, o7, o8, rfl⟩ rec
    by_cases e : s = 120
    · subst e
      have hno : ∀ {α : Prop}, iN (120 * l + 120) < iN (120 * l + 120) → α := fun x => lt_no x
      have hv : (if iN (m - 4 * nb O l 120) = 0 then (iN 255) else (-1) : Int32) = if m = 4 * nb O l 120 then 255 else -1 := by
        by_cases z : m = 4 * nb O l 120
        · rw [if_pos ((iN_z (by omega)).mpr (by omega)), if_pos z]; rfl
        · rw [if_neg (fun x => by have := (iN_z (by omega)).mp x; omega), if_neg z]
      exact wk_16_31 (r1 := 0) (r2 := 0) (r3 := 0) (r4 := 0) (r5 := 0) (fun _ => fin _ (Or.inr ⟨hle, hv⟩)) (fun _ _ => fin _ (Or.inr ⟨hle, hv⟩)) (fun _ c => hno c) (fun _ c => hno c) (fun _ c => hno c) (fun _ c => hno c) (fun _ c => hno c) (fun _ c => hno c) (fun _ c => hno c) (fun _ c => hno c)
    · have hs : s < 120 := by omega
      obtain ⟨L, hL⟩ := Rl_ex O (120 * l + s)
      have hLd := hL
      have hnr := nb_run hL (hst hs)
      obtain ⟨r1, r2, r3, r4⟩ := hL
      have hOc := hO (120 * l + s) (by omega)
      have step : ∀ k', 4 * nb O l (s + L) ≤ m → k' = m - 4 * nb O l (s + L) → ∀ o7 o8, gE w 16 31 [some (.ref 0), some (.int (iN l)), some (.int (iN m)), some (.int (iN k')), some (.int (iN (120 * l + s) + iN L)), some (.int (iN (120 * l + 120))), some (.int (iN i + 1)), o7, o8] [] M' (CLp (StPlot A (iN l) (iN m)) M') := by
        intro k' hk1 hk2 o7 o8
        rw [iN_add, iN_succ i, Nat.add_assoc, hk2]
        refine rec (120 - (s + L)) _ _ (by omega) ⟨s + L, i + 1, by omega, rfl, by omega, rfl, fun hsl => ?_, hk1, _, _, rfl⟩
        by_cases x : (120 * l + s) % 12 + L < 12
        · have := r4 x
          have := r3 (L - 1) (by omega)
          rw [show 120 * l + s + (L - 1) = 120 * l + (s + L) - 1 by omega] at this
          rw [← Nat.add_assoc] at this ⊢
          rw [this]
          exact Or.inr (fun y => r4 x y.symm)
        · exact Or.inl (by omega)
      refine wk_16_31 (r1 := iN L) (r2 := pm (O (120 * l + s))) (r3 := iN ((120 * l + s) % 120 / 12)) (r4 := iN ((120 * l + s) % 12)) (r5 := tld (iN (m - 4 * nb O l s)) (iN ((120 * l + s) % 120 / 12)) (iN ((120 * l + s) % 12)) (iN L) (pm (O (120 * l + s)) + 1)) (fun c => absurd ((iN_lt (by omega) (by omega)).mpr (by omega)) c) (fun _ c => absurd ((iN_lt (by omega) (by omega)).mpr (by omega)) c) (fun _ _ => ct_55 hb (by omega) (by rw [hOd]; exact hLd)) (fun _ _ => by rw [← hOd]; exact ct_32 hb (by omega)) (fun _ _ c5 => ?_) (fun _ _ c5 c6 => ?_) (fun _ _ _ _ => ct_25 (by omega)) (fun _ _ _ _ => ct_26 (by omega)) (fun _ _ _ _ => ct_22) (fun _ _ c5 c6 => fin _ (Or.inl ⟨s, L, hs, ?_, hle, ?_, hLd, ?_⟩))
      · have z := (pm_m1 (by omega)).mp c5
        rw [z, if_neg (fun x => x rfl)] at hnr
        exact step _ (by omega) (by omega) _ _
      · have z : O (120 * l + s) ≠ 0 := fun x => c5 ((pm_m1 (by omega)).mpr x)
        have c6 : ¬ m - 4 * nb O l s < 4 := fun x => c6 ((iN_lt (by omega) (by omega)).mpr x)
        rw [if_pos z] at hnr
        have e4 : iN (m - 4 * nb O l s) + (-4) = iN (m - 4 * nb O l s - 4) := by
          have : iN (m - 4 * nb O l s) - iN 4 = iN (m - 4 * nb O l s - 4) := iN_sub (by omega)
          rw [← this]
          exact (Int32.sub_eq_add_neg _ (iN 4)).symm
        rw [e4]
        exact step _ (by omega) (by omega) _ _
      · have z : O (120 * l + s) ≠ 0 := fun x => c5 ((pm_m1 (by omega)).mpr x)
        rcases hst hs with x | x
        · exact ⟨z, Or.inl (by omega)⟩
        · exact ⟨z, Or.inr x⟩
      · have := (iN_lt (by omega) (by omega)).mp c6
        omega
      · have z : O (120 * l + s) ≠ 0 := fun x => c5 ((pm_m1 (by omega)).mpr x)
        unfold plv
        rw [pm_n1 z]
  · rintro ⟨l, m, hl, hm, rfl, rfl⟩
    exact iN_nn hm c2
theorem rf_plot {A A' : qA} {x1 x2 v : Int32} (hA : RA2 A) (hSt : StPlot A x1 x2 v A') (h : RF A M) : gE w 119 0 [some (.ref 148), some (.int x1), some (.int x2), none, none, none, none, none] [] M (RFp v A' M) := by
  obtain ⟨rfl, hSt⟩ := hSt
  have hb := RF_RD hA h
  have hO : ∀ c, c < 240 → ow A'.1 A'.2.1 c ≤ 16 := fun c hc => ow_le hb.1 hb.2.1 hc
  have e154 : ∀ c, c < 240 → M 154 c = pm (ow A'.1 A'.2.1 c) := h.1.2.2.2
  have bad : (¬ ∃ l m, PLn A' x1 x2 l m) → RFp v A' M (some (.int (-1))) M := fun hn => by
    rcases hSt with ⟨-, rfl⟩ | ⟨l, m, hp, -⟩
    · exact ⟨rfl, h, fun _ _ => rfl⟩
    · exact absurd ⟨l, m, hp⟩ hn
  refine wk_119_0 (fun c1 => bad ?_) (fun c1 c2 => bad ?_) (fun c1 c2 c3 => ?_) (fun c1 c2 c3 => bad ?_)
  · rintro ⟨l, m, hl, hm, rfl, rfl⟩
    exact iN_nn (by omega) c1
  · rintro ⟨l, m, hl, hm, rfl, rfl⟩
    have := (iN_lt (a := 1) (by omega) (by omega)).mp c2
    omega
  · obtain ⟨l, hl, rfl⟩ := rng c1 ((nlt (m := 1) (by omega)).mp c2) (by omega)
    obtain ⟨m, hm, rfl⟩ := nng c3
    rcases hSt with ⟨k1, -⟩ | ⟨l', m', ⟨hl', hm', e1, e2⟩, hSt⟩
    · exact absurd ⟨l, m, hl, hm, rfl, rfl⟩ k1
    have e1 := (iN_eq (by omega) (by omega)).mp e1
    have e2 := (iN_eq (by omega) (by omega)).mp e2
    subst e1 e2
    clear bad hm' hl'
    generalize ow A'.1 A'.2.1 = O at *
    rw [iN_mul]
    have fin : ∀ v', v' = v → RFp v A' M (some (.int v')) M := fun v' e => ⟨by rw [e], h, fun _ _ => rfl⟩
    refine ev_for 120 (Inv := fun s loc M' => M' = M ∧ 4 * nb O l s ≤ m ∧ ∃ o5 o6 o7, loc = [some (.ref 148), some (.int (iN l)), some (.int (iN m)), some (.int (iN (4 * nb O l s))), some (.int (iN (120 * l + s))), o5, o6, o7]) ?_ ?_ 0 _ _ (Nat.zero_le _) ⟨rfl, Nat.zero_le _, _, _, _, rfl⟩
    · rintro s loc M' hs ⟨eM, hle, o5, o6, o7, rfl⟩ rec
      subst eM
      have hn := nb_le O l s
      have hOc := hO (120 * l + s) (by omega)
      have hns : nb O l (s + 1) = nb O l s + @ite _ (bg O (120 * l + s)) (Classical.propDecidable _) 1 0 := rfl
      have fv : (if (M' 154 (iN (120 * l + s)).toNatClampNeg) < 0 then 0 else (if (iN (120 * l + s) - iN (120 * l + s) / (iN 12) * (iN 12)) = 0 then 1 else (if (M' 154 (iN (120 * l + s) - 1).toNatClampNeg) = (M' 154 (iN (120 * l + s)).toNatClampNeg) then 0 else 1 : Int32) : Int32) : Int32) = bi (bg O (120 * l + s)) := by
        rw [iN_ix (by omega), e154 _ (by omega), iN_rem (by omega) (by omega)]
        by_cases z : O (120 * l + s) = 0
        · rw [if_pos ((pm_neg (by omega)).mpr z), bi_neg (fun x => x.1 z)]
        · rw [if_neg (fun x => z ((pm_neg (by omega)).mp x))]
          by_cases y : (120 * l + s) % 12 = 0
          · rw [if_pos ((iN_z (by omega)).mpr y), bi_pos ⟨z, Or.inl y⟩]
          · have hOd := hO (120 * l + s - 1) (by omega)
            rw [if_neg (fun x => y ((iN_z (by omega)).mp x)), show iN (120 * l + s) - 1 = iN (120 * l + s - 1) from iN_sub (b := 1) (by omega), iN_ix (by omega), e154 _ (by omega)]
            by_cases t : O (120 * l + s - 1) = O (120 * l + s)
            · rw [if_pos (by rw [t]), bi_neg (fun x => by rcases x.2 with q | q; exact y q; exact q t)]
            · rw [if_neg (fun x => t ((pm_eq (by omega) (by omega)).mp x)), bi_pos ⟨z, Or.inr t⟩]
      have hlt : iN (120 * l + s) < iN 120 * iN l + iN 120 := by rw [iN_mul, iN_add]; exact (iN_lt (by omega) (by omega)).mpr (by omega)
      refine wk_119_23 (fun c => absurd hlt c) (fun _ => iN_in (by omega) (by omega)) ?_ ?_ ?_ (fun _ _ c8 => ?_)
      · rw [fv]
        intro _ c3
        rw [if_pos c3, iN_succ]
        rw [if_neg (bi_eq c3)] at hns
        exact rec _ _ ⟨rfl, by omega, _, _, _, by rw [hns]; rfl⟩
      · rw [fv]
        intro _ c3 c5
        rw [if_neg c3, iN_succ]
        rw [if_pos (bi_ne c3)] at hns
        rw [iN_add] at c5 ⊢
        have c5 : ¬ m < 4 * nb O l s + 4 := fun x => c5 ((iN_lt (by omega) (by omega)).mpr x)
        exact rec _ _ ⟨rfl, by omega, _, _, _, by rw [hns, show 4 * (nb O l s + 1) = 4 * nb O l s + 4 by omega, Nat.add_assoc]⟩
      · rw [fv]
        intro _ c3 c5
        have hbg := bi_ne c3
        rw [iN_add] at c5
        have c5 := (iN_lt (by omega) (by omega)).mp c5
        obtain ⟨L, hL⟩ := Rl_ex O (120 * l + s)
        have hv : v = plv O (m - 4 * nb O l s) (120 * l + s) L := by
          rcases hSt with ⟨s', L', hs', k1, k2, k3, k4, rfl⟩ | ⟨k1, -⟩
          · have : s' = s := cnt_inj (p := fun s => bg O (120 * l + s)) k1 hbg (by show nb O l s' = nb O l s; omega)
            subst this
            rw [Rl_uniq hL k4]
          · have : nb O l s < nb O l 120 := cnt_lt2 (p := fun s => bg O (120 * l + s)) hbg hs
            omega
        generalize hd : m - 4 * nb O l s = d at *
        have hdl : d < 4 := by omega
        have ed : iN m - iN (4 * nb O l s) = iN d := by rw [iN_sub hle, hd]
        obtain ⟨r1, r2, r3, r4⟩ := hL
        have val : ∀ j, j + 1 = L → (if (iN m - iN (4 * nb O l s)) = 0 then ((iN (120 * l + s) - iN (120 * l + s) / (iN 120) * (iN 120)) / (iN 12)) else (if (iN m - iN (4 * nb O l s)) = 1 then (iN (120 * l + s) - iN (120 * l + s) / (iN 12) * (iN 12)) else (if (iN m - iN (4 * nb O l s)) = (iN 2) then ((iN (120 * l + s + j) - iN (120 * l + s)) + 1) else ((M' 154 (iN (120 * l + s)).toNatClampNeg) + 1) : Int32) : Int32) : Int32) = v := by
          intro j hj
          rw [hv, ed, iN_ix (by omega), e154 _ (by omega), iN_rem (by omega) (by omega), iN_rem (by omega) (by omega), iN_div (by omega) (by omega), iN_sub (by omega), iN_succ, pm_n1 hbg.1, show 120 * l + s + j - (120 * l + s) + 1 = L by omega]
          unfold plv tld
          rcases (show d = 0 ∨ d = 1 ∨ d = 2 ∨ d = 3 by omega) with rfl | rfl | rfl | rfl <;> rfl
        refine ev_for (L - 1) (Inv := fun j loc M1 => M1 = M' ∧ ∃ o1 o5 o7, loc = [some (.ref 148), o1, some (.int (iN m)), some (.int (iN (4 * nb O l s))), some (.int (iN (120 * l + s))), o5, some (.int (iN (120 * l + s + j))), o7]) ?_ ?_ 0 _ _ (Nat.zero_le _) ⟨rfl, _, _, _, rfl⟩
        · rintro j loc M1 hj ⟨eM, o1, o5, o7, rfl⟩ rec2
          subst eM
          have hlt : iN (120 * l + s + j) - iN (120 * l + s + j) / iN 12 * iN 12 < iN 11 := by rw [iN_rem (by omega) (by omega)]; exact (iN_lt (by omega) (by omega)).mpr (by omega)
          refine wk_119_95 (fun c => absurd hlt c) (fun c => absurd hlt c) (fun _ => by rw [iN_succ]; exact iN_in (by omega) (by omega)) (fun _ => iN_in (by omega) (by omega)) (fun _ c5 => absurd ?_ c5) (fun _ _ => ?_)
          · rw [iN_succ, iN_ix (by omega), iN_ix (by omega), e154 _ (by omega), e154 _ (by omega), Nat.add_assoc _ j 1, r3 (j + 1) (by omega)]
          · rw [iN_succ]
            exact rec2 _ _ ⟨rfl, _, _, _, rfl⟩
        · rintro loc M1 ⟨eM, o1, o5, o7, rfl⟩
          subst eM
          refine wk_119_95 (fun _ => fin _ (val _ (by omega))) (fun _ _ _ _ => iN_in (by omega) (by omega)) (fun c => ?_) (fun _ => iN_in (by omega) (by omega)) (fun _ _ => fin _ (val _ (by omega))) (fun c c5 => ?_)
          · rw [iN_rem (by omega) (by omega)] at c
            have c := (iN_lt (by omega) (by omega)).mp c
            rw [iN_succ]
            exact iN_in (by omega) (by omega)
          · rw [iN_rem (by omega) (by omega)] at c
            have c := (iN_lt (by omega) (by omega)).mp c
            have q1 := hO (120 * l + s + L) (by omega)
            rw [iN_succ, iN_ix (by omega), iN_ix (by omega), e154 _ (by omega), e154 _ (by omega), show 120 * l + s + (L - 1) + 1 = 120 * l + s + L by omega] at c5
            exact absurd ((pm_eq (by omega) (by omega)).mp c5) (r4 (by omega))
      · rw [iN_rem (by omega) (by omega)] at c8
        have c8 : ¬ (120 * l + s) % 12 = 0 := fun x => c8 ((iN_z (by omega)).mpr x)
        rw [show iN (120 * l + s) - 1 = iN (120 * l + s - 1) from iN_sub (b := 1) (by omega)]
        exact iN_in (by omega) (by omega)
    · rintro loc M' ⟨eM, hle, o5, o6, o7, rfl⟩
      subst eM
      have hn := nb_le O l 120
      have hno : ∀ {α : Prop}, iN (120 * l + 120) < iN 120 * iN l + iN 120 → α := fun c => by
        rw [iN_mul, iN_add] at c
        exact lt_no c
      refine wk_119_23 (fun _ => fin _ ?_) (fun c => hno c) (fun c => hno c) (fun c => hno c) (fun c => hno c) (fun c => hno c)
      rcases hSt with ⟨s', L', hs', k1, k2, k3, k4, rfl⟩ | ⟨k1, rfl⟩
      · have : nb O l s' < nb O l 120 := cnt_lt2 (p := fun s => bg O (120 * l + s)) k1 hs'
        omega
      · by_cases e : m = 4 * nb O l 120
        · rw [if_pos e, if_pos (by rw [e])]; rfl
        · rw [if_neg e, if_neg (fun x => e ((iN_eq (by omega) (by omega)).mp x))]
  · rintro ⟨l, m, hl, hm, rfl, rfl⟩
    exact iN_nn hm c3
end APIC
