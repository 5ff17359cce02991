/-! Calls: read, replay. -/
theorem RC_tp {S n : Nat → Nat} {u : Nat} {H : Nat → Nat → Nat} {k k' : Nat} {B B' : Nat → Nat} {M M' : qM} (h : RC (S, n, u, H, k, B) M) (e : ∀ q, q ≠ 25 → q ≠ 26 → q ≠ 27 → M' q = M q) (ht : RT k' B' M') : RC (S, n, u, H, k', B') M' := by
  obtain ⟨h1, ⟨t, h2⟩, h3⟩ := h
  refine ⟨RB_fr h1 (fun q hq => e q (by omega) (by omega) (by omega)), ⟨t, h2.1, by rw [e 10 (by omega) (by omega) (by omega)]; exact h2.2.1, by rw [e 10 (by omega) (by omega) (by omega)]; exact h2.2.2.1, fun i hi => RS_fr (h2.2.2.2 i hi) (fun j hj => e _ (by omega) (by omega) (by omega))⟩, ht⟩
def StRead (A : qA) (x v : Int32) (A' : qA) : Prop := ((¬ ∃ b, b < 256 ∧ x = iN b) ∧ v = -1 ∧ A' = A) ∨ ∃ b, b < 256 ∧ x = iN b ∧ ((A.2.2.2.2.1 = 400 ∧ v = -2 ∧ A' = A) ∨ (A.2.2.2.2.1 < 400 ∧ v = iN (A.2.2.2.2.1 + 1) ∧ A' = (A.1, A.2.1, A.2.2.1, A.2.2.2.1, A.2.2.2.2.1 + 1, fun i => if i = A.2.2.2.2.1 then b else A.2.2.2.2.2 i)))
/-- a run of a plot, painted -/
noncomputable def pr (P : Nat → Int32) (r f l : Nat) (v : Int32) : Nat → Int32 := fun s => @ite _ (r < 10 ∧ s / 12 = r ∧ f ≤ s % 12 ∧ s % 12 < f + l) (Classical.propDecidable _) v (P s)
noncomputable def pF (B : Nat → Nat) : Nat → Nat → Int32
  | 0 => fun _ => -1
  | i + 1 => pr (pF B i) (B (4 * i)) (B (4 * i + 1)) (B (4 * i + 2)) (iN (B (4 * i + 3)) - 1)
/-- so many runs are painted -/
def PI (k : Nat) (B : Nat → Nat) (i : Nat) : Prop := (∀ j, j < i → 4 * j + 3 < k ∧ B (4 * j) ≠ 255) ∧ (4 * i + 3 < k → B (4 * i) = 255)
theorem PI_uniq {k : Nat} {B : Nat → Nat} {i j : Nat} (h : PI k B i) (g : PI k B j) : i = j := by
  rcases Nat.lt_trichotomy i j with x | x | x
  · have := g.1 i x
    exact absurd (h.2 this.1) this.2
  · exact x
  · have := h.1 j x
    exact absurd (g.2 this.1) this.2
theorem pr_congr {P Q : Nat → Int32} {r f l : Nat} {v : Int32} {s : Nat} (h : P s = Q s) : pr P r f l v s = pr Q r f l v s := by unfold pr; rw [h]
noncomputable def df (S n : Nat → Nat) (B : Nat → Nat) (l i : Nat) : Nat := cnt 120 (fun s => pF B i s ≠ pm (ow S n (120 * l + s)))
def StReplay (A : qA) (x v : Int32) (A' : qA) : Prop := ((¬ ∃ l, l < 2 ∧ x = iN l) ∧ v = -1 ∧ A' = A) ∨ ∃ l i, l < 2 ∧ x = iN l ∧ PI A.2.2.2.2.1 A.2.2.2.2.2 i ∧ v = iN (df A.1 A.2.1 A.2.2.2.2.2 l i) ∧ A' = (A.1, A.2.1, A.2.2.1, A.2.2.2.1, 0, A.2.2.2.2.2)
section APIB
variable {w : qS} {M : qM}
theorem cl_read {A : qA} {x : Int32} (hA : RA2 A) (h : RC A M) : gE w 17 0 [some (.ref 0), some (.int x)] [] M (CLp (StRead A x) M) := by
  obtain ⟨S, n, u, H, k, B⟩ := A
  have hk : k ≤ 400 := hA.1.2.2.2.2.1
  have ek : M 25 1 = iN k := h.2.2.1
  refine wk_17_0 (fun c1 => ⟨-1, _, rfl, Or.inl ⟨?_, rfl, rfl⟩, hA, h, fun _ _ => rfl⟩) (fun c1 c2 => ?_) (fun c1 c2 => ⟨-1, _, rfl, Or.inl ⟨?_, rfl, rfl⟩, hA, h, fun _ _ => rfl⟩)
  · rintro ⟨b, hb, rfl⟩
    exact iN_nn (by omega) c1
  · obtain ⟨b, hb, rfl⟩ := rng c1 ((nlt (by omega)).mp c2) (by omega)
    refine wk_77_0 (fun c3 => ?_) (fun c3 => ?_) (fun c3 => ?_)
    · rw [ek] at c3 ⊢
      exact iN_in ((iN_lt (by omega) (by omega)).mp c3) (by omega)
    · rw [ek] at c3
      have c3 := (iN_lt (by omega) (by omega)).mp c3
      rw [ek, iN_ix (by omega), ms_rows (show 25 ≠ 26 by omega), ek, iN_succ]
      refine wk_17_21 ?_
      rw [if_neg (by decide), ms_at]
      refine ⟨_, (S, n, u, H, k + 1, fun i => if i = k then b else B i), rfl, Or.inr ⟨b, hb, rfl, Or.inr ⟨c3, rfl, rfl⟩⟩, ?_, ?_, fun q hq => ?_⟩
      · refine ⟨⟨hA.1.1, hA.1.2.1, hA.1.2.2.1, hA.1.2.2.2.1, by show k + 1 ≤ 400; omega, fun i hi => ?_⟩, hA.2⟩
        dsimp only at hi ⊢
        split
        · exact hb
        · exact hA.1.2.2.2.2.2 i (by show i < k; omega)
      · refine RC_tp h (fun q q1 q2 q3 => by rw [ms_rows q1, ms_rows q2]) ⟨ms_at _ _ _ _, fun i hi => ?_⟩
        rw [ms_get, if_neg (fun y => absurd y.1 (by decide)), ms_get]
        show _ = iN (if i = k then b else B i)
        by_cases e : i = k
        · rw [if_pos ⟨rfl, e⟩, if_pos e]
        · rw [if_neg (fun y => e y.2), if_neg e]
          exact h.2.2.2 i (by show i < k; omega)
      · rw [ms_rows (by omega), ms_rows (by omega)]
    · rw [ek] at c3
      have c3 : ¬ k < 400 := fun y => c3 ((iN_lt (by omega) (by omega)).mpr y)
      refine wk_17_21 ?_
      exact ⟨_, _, rfl, Or.inr ⟨b, hb, rfl, Or.inl ⟨by show k = 400; omega, rfl, rfl⟩⟩, hA, h, fun _ _ => rfl⟩
  · rintro ⟨b, hb, rfl⟩
    have := (iN_lt (by omega) (by omega)).mp c2
    omega
theorem rf_read {A A' : qA} {x v : Int32} (hA : RA2 A) (hSt : StRead A x v A') (h : RF A M) : gE w 120 0 [some (.ref 148), some (.int x)] [] M (RFp v A' M) := by
  obtain ⟨S, n, u, H, k, B⟩ := A
  have hk : k ≤ 400 := hA.1.2.2.2.2.1
  have ek : M 148 11 = iN k := h.2.2.1
  have bad : (¬ ∃ b, b < 256 ∧ x = iN b) → RFp v A' M (some (.int (-1))) M := fun hn => by
    rcases hSt with ⟨-, rfl, rfl⟩ | ⟨b, hb, rfl, -⟩
    · exact ⟨rfl, h, fun _ _ => rfl⟩
    · exact absurd ⟨b, hb, rfl⟩ hn
  refine wk_120_0 (fun c1 => bad ?_) (fun c1 c2 c3 => ?_) (fun c1 c2 c3 => ?_) (fun c1 c2 c3 => ?_) (fun c1 c2 => bad ?_)
  · rintro ⟨b, hb, rfl⟩
    exact iN_nn (by omega) c1
  · rw [ek] at c3 ⊢
    have c3 : k ≠ 400 := fun y => c3 (by rw [y])
    exact iN_in (by omega) (by omega)
  · obtain ⟨b, hb, rfl⟩ := rng c1 ((nlt (by omega)).mp c2) (by omega)
    rw [ek] at c3
    have c3 : k ≠ 400 := fun y => c3 (by rw [y])
    rw [ek, iN_ix (by omega), ms_rows (show 148 ≠ 158 by omega), ek, iN_succ, ms_at]
    rcases hSt with ⟨k1, -⟩ | ⟨b', hb', e, ⟨k1, -⟩ | ⟨k1, rfl, rfl⟩⟩
    · exact absurd ⟨b, hb, rfl⟩ k1
    · exact absurd k1 c3
    · have e := (iN_eq (by omega) (by omega)).mp e
      subst e
      have o : ∀ q, q ≠ 148 → q ≠ 158 → ms (ms M 158 k (iN b)) 148 11 (iN (k + 1)) q = M q := fun q q1 q2 => by rw [ms_rows q1, ms_rows q2]
      refine ⟨rfl, ⟨⟨fun i hi => by rw [o 149 (by omega) (by omega)]; exact h.1.1 i hi, fun p hp => by rw [o 152 (by omega) (by omega)]; exact h.1.2.1 p hp, fun c hc => by rw [o 153 (by omega) (by omega)]; exact h.1.2.2.1 c hc, fun c hc => by rw [o 154 (by omega) (by omega)]; exact h.1.2.2.2 c hc⟩, ⟨?_, fun i j hi hj => by rw [o 151 (by omega) (by omega)]; exact h.2.1.2 i j hi hj⟩, ms_at _ _ _ _, fun i hi => ?_⟩, fun q hq => o q (by omega) (by omega)⟩
      · rw [ms_row (by decide), ms_rows (by decide)]; exact h.2.1.1
      · rw [ms_rows (by decide), ms_get]
        by_cases e : i = k
        · rw [if_pos ⟨rfl, e⟩]; show _ = iN (if i = k then b else B i); rw [if_pos e]
        · rw [if_neg (fun y => e y.2)]
          show _ = iN (if i = k then b else B i)
          rw [if_neg e]
          exact h.2.2.2 i (by show i < k; have : i < k + 1 := hi; omega)
  · obtain ⟨b, hb, rfl⟩ := rng c1 ((nlt (by omega)).mp c2) (by omega)
    rw [ek] at c3
    have c3 := (iN_eq (by omega) (by omega)).mp c3
    rcases hSt with ⟨k1, -⟩ | ⟨b', hb', e, ⟨k1, rfl, rfl⟩ | ⟨k1, -⟩⟩
    · exact absurd ⟨b, hb, rfl⟩ k1
    · exact ⟨rfl, h, fun _ _ => rfl⟩
    · have : k < 400 := k1
      omega
  · rintro ⟨b, hb, rfl⟩
    have := (iN_lt (by omega) (by omega)).mp c2
    omega
theorem ct_79 {r f l : Nat} {v : Int32} (hr : r < 256) (hf : f < 256) (hl : l < 256) : gE w 79 0 [some (.ref 25), some (.int (iN r)), some (.int (iN f)), some (.int (iN l)), some (.int v), none, none] [] M (fun q M' => q = none ∧ fr [27] M M' ∧ ∀ s, s < 120 → M' 27 s = pr (M 27) r f l v s) := by
  obtain ⟨e, he⟩ : ∃ e, e = if 12 < f + l then 12 else f + l := ⟨_, rfl⟩
  have he' : (if (iN 12) < (iN f + iN l) then (iN 12) else (iN f + iN l) : Int32) = iN e := by
    rw [iN_add, he, iN_min _ _ (by omega) (by omega)]
  obtain ⟨g, hg⟩ : ∃ g, g = if f < e then e else f := ⟨_, rfl⟩
  refine wk_79_0 ?_
  rw [he']
  have hge : e ≤ 12 ∧ e ≤ f + l ∧ (e = 12 ∨ e = f + l) := by split at he <;> omega
  have hgg : f ≤ g ∧ e ≤ g ∧ (g = e ∨ g = f) := by split at hg <;> omega
  have fin : ∀ i (M' : qM), ¬ (i < e ∧ r < 10) → f ≤ i → (i ≤ g) → fr [27] M M' → (∀ s, s < 120 → M' 27 s = @ite _ (r < 10 ∧ s / 12 = r ∧ f ≤ s % 12 ∧ s % 12 < i) (Classical.propDecidable _) v (M 27 s)) → ∀ s, s < 120 → M' 27 s = pr (M 27) r f l v s := by
    intro i M' hi hfi hig f1 f2 s hs
    rw [f2 s hs]
    unfold pr
    by_cases a : r < 10 ∧ s / 12 = r ∧ f ≤ s % 12 ∧ s % 12 < i
    · rw [if_pos a, if_pos (by omega)]
    · rw [if_neg a, if_neg (by omega)]
  refine ev_for g (Inv := fun i loc M' => f ≤ i ∧ (fr [27] M M' ∧ ∀ s, s < 120 → M' 27 s = @ite _ (r < 10 ∧ s / 12 = r ∧ f ≤ s % 12 ∧ s % 12 < i) (Classical.propDecidable _) v (M 27 s)) ∧ loc = [some (.ref 25), some (.int (iN r)), some (.int (iN f)), some (.int (iN l)), some (.int v), some (.int (iN e)), some (.int (iN i))]) ?_ ?_ f _ _ hgg.1 ⟨Nat.le_refl _, ⟨fr_rfl, fun s hs => by rw [if_neg (by omega)]⟩, rfl⟩
  · rintro i loc M' hi ⟨hfi, ⟨f1, f2⟩, rfl⟩ rec
    have hie : i < e := by omega
    refine wk_79_13 (fun c1 => ?_) (fun c1 c2 => absurd ((iN_lt (by omega) (by omega)).mpr hie) c2) (fun c1 c2 => ?_) (fun c1 c2 => ?_)
    · have c1 : ¬ r < 10 := fun y => c1 ((iN_lt (by omega) (by omega)).mpr y)
      exact ⟨rfl, f1, fin i M' (by omega) hfi (by omega) f1 f2⟩
    · have c1 := (iN_lt (by omega) (by omega)).mp c1
      rw [iN_mul, iN_add]
      exact iN_in (by omega) (by omega)
    · have c1 := (iN_lt (by omega) (by omega)).mp c1
      rw [iN_mul, iN_add, iN_ix (by omega), iN_succ i]
      refine rec _ _ ⟨by omega, ⟨fr_tr f1 (fr_ms (by decide)), fun s hs => ?_⟩, rfl⟩
      rw [ms_get]
      by_cases a : s = r * 12 + i
      · rw [if_pos ⟨rfl, a⟩, if_pos (by omega)]
      · rw [if_neg (fun y => a y.2), f2 s hs]
        by_cases b : r < 10 ∧ s / 12 = r ∧ f ≤ s % 12 ∧ s % 12 < i
        · rw [if_pos b, if_pos (by omega)]
        · rw [if_neg b, if_neg (by omega)]
  · rintro loc M' ⟨hfi, ⟨f1, f2⟩, rfl⟩
    have hno : ∀ {α : Prop}, iN g < iN e → α := fun c => absurd ((iN_lt (by omega) (by omega)).mp c) (by omega)
    have hfin := fin g M' (by omega) hfi (Nat.le_refl _) f1 f2
    exact wk_79_13 (fun c1 => ⟨rfl, f1, hfin⟩) (fun c1 c2 => ⟨rfl, f1, hfin⟩) (fun c1 c2 => hno c2) (fun c1 c2 => hno c2)
theorem ct_78 {k : Nat} {B : Nat → Nat} (hk : k ≤ 400) (hB : ∀ i, i < k → B i < 256) (h : RT k B M) : gE w 78 0 [some (.ref 25), none, none] [] M (fun q M' => q = none ∧ fr [27] M M' ∧ ∃ i, PI k B i ∧ ∀ s, s < 120 → M' 27 s = pF B i s) := by
  refine wk_78_0 ?_
  refine (ct_122 (q0 := 27) (n := 120) rfl (by omega)).mono ?_
  rintro r M1 ⟨rfl, f1, f2⟩
  have e1 : M1 25 1 = iN k := by rw [f1 25 (by decide)]; exact h.1
  refine wk_78_8 ?_
  rw [e1, iN_rem (by omega) (by omega), iN_sub (by omega)]
  refine ev_for ((k - k % 4) / 4) (Inv := fun i loc M' => (fr [27] M M' ∧ (∀ j, j < i → 4 * j + 3 < k ∧ B (4 * j) ≠ 255) ∧ ∀ s, s < 120 → M' 27 s = pF B i s) ∧ loc = [some (.ref 25), some (.int (iN (k - k % 4))), some (.int (iN (4 * i)))]) ?_ ?_ 0 _ _ (Nat.zero_le _) ⟨⟨f1, fun j hj => absurd hj (by omega), f2⟩, rfl⟩
  · rintro i loc M' hi ⟨⟨a1, a2, a3⟩, rfl⟩ rec
    have e0 : ∀ j, j < k → M' 26 j = iN (B j) := fun j hj => by rw [a1 26 (by decide)]; exact h.2 j hj
    have b0 := hB (4 * i) (by omega)
    have b1 := hB (4 * i + 1) (by omega)
    have b2 := hB (4 * i + 2) (by omega)
    have b3 := hB (4 * i + 3) (by omega)
    refine wk_78_22 (fun c1 => absurd ((iN_lt (by omega) (by omega)).mpr (by omega)) c1) (fun _ => iN_in (by omega) (by omega)) (fun _ c2 => ?_) (fun _ _ => by rw [iN_succ]; exact iN_in (by omega) (by omega)) (fun _ _ => by rw [iN_add]; exact iN_in (by omega) (by omega)) (fun _ _ => by rw [iN_add]; exact iN_in (by omega) (by omega)) (fun _ c2 => ?_)
    · rw [iN_ix (by omega), e0 _ (by omega)] at c2
      exact ⟨rfl, a1, i, ⟨a2, fun _ => (iN_eq (by omega) (by omega)).mp c2⟩, a3⟩
    · rw [iN_ix (by omega), e0 _ (by omega)] at c2
      have c2 : B (4 * i) ≠ 255 := fun y => c2 (by rw [y])
      rw [iN_succ, iN_add, iN_add, iN_ix (by omega), iN_ix (by omega), iN_ix (by omega), iN_ix (by omega), e0 _ (by omega), e0 _ (by omega), e0 _ (by omega), e0 _ (by omega)]
      refine (ct_79 b0 b1 b2).mono ?_
      rintro r M2 ⟨rfl, d1, d2⟩
      refine wk_78_75 ?_
      rw [iN_add]
      refine rec _ _ ⟨⟨fr_tr a1 d1, fun j hj => ?_, fun s hs => ?_⟩, by rw [show 4 * i + 4 = 4 * (i + 1) by omega]⟩
      · by_cases e : j = i
        · subst e; exact ⟨by omega, c2⟩
        · exact a2 j (by omega)
      · rw [d2 s hs]; exact pr_congr (a3 s hs)
  · rintro loc M' ⟨⟨a1, a2, a3⟩, rfl⟩
    have hno : ∀ {α : Prop}, iN (4 * ((k - k % 4) / 4)) < iN (k - k % 4) → α := fun c => absurd ((iN_lt (by omega) (by omega)).mp c) (by omega)
    exact wk_78_22 (fun _ => ⟨rfl, a1, _, ⟨a2, fun y => by omega⟩, a3⟩) (fun c1 => hno c1) (fun c1 => hno c1) (fun c1 => hno c1) (fun c1 => hno c1) (fun c1 => hno c1) (fun c1 => hno c1)
theorem cl_replay {A : qA} {x : Int32} (hA : RA2 A) (h : RC A M) : gE w 18 0 [some (.ref 0), some (.int x), none, none] [] M (CLp (StReplay A x) M) := by
  obtain ⟨S, n, u, H, k, B⟩ := A
  refine wk_18_0 (r1 := bi (¬ x < 0 ∧ x < iN 2)) ct_23 (fun c1 => ?_) (fun c1 => ⟨-1, _, rfl, Or.inl ⟨?_, rfl, rfl⟩, hA, h, fun _ _ => rfl⟩)
  · obtain ⟨l, hl, rfl⟩ := rng (bi_ne c1).1 (bi_ne c1).2 (by omega)
    refine (ct_78 hA.1.2.2.2.2.1 hA.1.2.2.2.2.2 h.2.2).mono ?_
    rintro r M1 ⟨rfl, f1, i, hi, f2⟩
    refine wk_18_16 ?_
    have hRC : RC (S, n, u, H, 0, B) (ms M1 25 1 0) := RC_tp h (fun q q1 q2 q3 => by rw [ms_rows q1, f1 q (by simpa using q3)]) ⟨ms_at _ _ _ _, fun i hi => absurd hi (by omega)⟩
    have hRA : RA2 (S, n, u, H, 0, B) := ⟨⟨hA.1.1, hA.1.2.1, hA.1.2.2.1, hA.1.2.2.2.1, Nat.zero_le _, fun i hi => absurd hi (by show ¬ i < 0; omega)⟩, hA.2⟩
    have hb := RC_BD hRA hRC
    have e27 : ∀ s, s < 120 → ms M1 25 1 0 27 s = pF B i s := fun s hs => by rw [ms_rows (by decide)]; exact f2 s hs
    have f148 : ∀ q, 148 ≤ q → ms M1 25 1 0 q = M q := fun q hq => by rw [ms_rows (by omega), f1 q (by simp only [List.mem_cons, List.not_mem_nil, or_false]; omega)]
    generalize ms M1 25 1 0 = M2 at *
    refine ev_for 120 (Inv := fun j loc M' => M' = M2 ∧ loc = [some (.ref 0), some (.int (iN l)), some (.int (iN (cnt j (fun s => pF B i s ≠ pm (ow S n (120 * l + s)))))), some (.int (iN j))]) ?_ ?_ 0 _ _ (Nat.zero_le _) ⟨rfl, rfl⟩
    · rintro j loc M' hj ⟨rfl, rfl⟩ rec
      refine wk_18_28 (r1 := pm (ow S n (120 * l + j))) (fun c => absurd ((iN_lt (by omega) (by omega)).mpr hj) c) (fun _ => iN_in hj (by omega)) (fun _ => ?_) (fun _ => ?_)
      · rw [iN_mul, iN_add, Nat.mul_comm l 120]
        exact ct_32 hb (by omega)
      · refine rec _ _ ⟨rfl, ?_⟩
        rw [iN_ix (by omega), e27 j hj, iN_succ, iN_succ, cnt_s]
        by_cases e : pF B i j = pm (ow S n (120 * l + j))
        · rw [if_pos e, if_neg (fun y => y e)]; rfl
        · rw [if_neg e, if_pos e]
    · rintro loc M' ⟨rfl, rfl⟩
      exact wk_18_28 (r1 := 0) (fun _ => ⟨_, _, rfl, Or.inr ⟨l, i, hl, rfl, hi, rfl, rfl⟩, hRA, hRC, f148⟩) (fun c => lt_no c) (fun c => lt_no c) (fun c => lt_no c)
  · rintro ⟨l, hl, rfl⟩
    exact bi_eq c1 ⟨iN_nn (by omega), (iN_lt (by omega) (by omega)).mpr hl⟩
theorem rf_replay {A A' : qA} {x v : Int32} (hA : RA2 A) (hSt : StReplay A x v A') (h : RF A M) : gE w 121 0 [some (.ref 148), some (.int x), none, none] [] M (RFp v A' M) := by
  obtain ⟨S, n, u, H, k, B⟩ := A
  have hk : k ≤ 400 := hA.1.2.2.2.2.1
  have hB : ∀ i, i < k → B i < 256 := hA.1.2.2.2.2.2
  have bad : (¬ ∃ l, l < 2 ∧ x = iN l) → RFp v A' M (some (.int (-1))) M := fun hn => by
    rcases hSt with ⟨-, rfl, rfl⟩ | ⟨b, i, hb, rfl, -⟩
    · exact ⟨rfl, h, fun _ _ => rfl⟩
    · exact absurd ⟨b, hb, rfl⟩ hn
  refine wk_121_0 (fun c1 => bad ?_) (fun c1 c2 => ?_) (fun c1 c2 => bad ?_)
  · rintro ⟨l, hl, rfl⟩
    exact iN_nn (by omega) c1
  · obtain ⟨l, hl, rfl⟩ := rng c1 ((nlt (m := 1) (by omega)).mp c2) (by omega)
    rcases hSt with ⟨k1, -⟩ | ⟨l', i0, hl', e, hi0, rfl, rfl⟩
    · exact absurd ⟨l, hl, rfl⟩ k1
    have e := (iN_eq (by omega) (by omega)).mp e
    subst e
    dsimp only at hi0 ⊢
    have last : ∀ (i : Nat) (M1 : qM) (x2 x3 : Int32), PI k B i → fr [159] M M1 → (∀ s, s < 120 → M1 159 s = pF B i s) → x2 = 0 → x3 = 0 → gE w 121 150 [some (.ref 148), some (.int (iN l)), some (.int x2), some (.int x3)] [] (ms M1 148 11 0) (RFp (iN (df S n B l i0)) (S, n, u, H, 0, B) M) := by
      rintro i M1 x2 x3 hi f1 f2 rfl rfl
      have := PI_uniq hi hi0
      subst this
      have o : ∀ q, q ≠ 148 → q ≠ 159 → ms M1 148 11 0 q = M q := fun q q1 q2 => by rw [ms_rows q1, f1 q (by simpa using q2)]
      have hRF : RF (S, n, u, H, 0, B) (ms M1 148 11 0) := by
        refine ⟨⟨fun i hi => by rw [o 149 (by omega) (by omega)]; exact h.1.1 i hi, fun p hp => by rw [o 152 (by omega) (by omega)]; exact h.1.2.1 p hp, fun c hc => by rw [o 153 (by omega) (by omega)]; exact h.1.2.2.1 c hc, fun c hc => by rw [o 154 (by omega) (by omega)]; exact h.1.2.2.2 c hc⟩, ⟨?_, fun i j hi hj => by rw [o 151 (by omega) (by omega)]; exact h.2.1.2 i j hi hj⟩, ms_at _ _ _ _, fun i hi => absurd hi (by show ¬ i < 0; omega)⟩
        rw [ms_row (by decide), f1 148 (by decide)]; exact h.2.1.1
      have e159 : ∀ s, s < 120 → ms M1 148 11 0 159 s = pF B i s := fun s hs => by rw [ms_rows (by decide)]; exact f2 s hs
      have flo : ∀ q, q < 148 → ms M1 148 11 0 q = M q := fun q hq => o q (by omega) (by omega)
      generalize ms M1 148 11 0 = M2 at *
      refine ev_for 120 (Inv := fun j loc M' => M' = M2 ∧ loc = [some (.ref 148), some (.int (iN l)), some (.int (iN (cnt j (fun s => pF B i s ≠ pm (ow S n (120 * l + s)))))), some (.int (iN j))]) ?_ ?_ 0 _ _ (Nat.zero_le _) ⟨rfl, rfl⟩
      · rintro j loc M' hj ⟨rfl, rfl⟩ rec
        refine wk_121_150 (fun c => absurd ((iN_lt (by omega) (by omega)).mpr hj) c) (fun _ => iN_in hj (by omega)) (fun _ => ?_) (fun _ => ?_)
        · rw [iN_mul, iN_add]
          exact iN_in (by omega) (by omega)
        · refine rec _ _ ⟨rfl, ?_⟩
          rw [iN_mul, iN_add, iN_ix (by omega), iN_ix (by omega), e159 j hj, hRF.1.2.2.2 (120 * l + j) (by omega), iN_succ, iN_succ, cnt_s]
          dsimp only
          by_cases e : pF B i j = pm (ow S n (120 * l + j))
          · rw [if_pos e, if_neg (fun y => y e)]; rfl
          · rw [if_neg e, if_pos e]
      · rintro loc M' ⟨rfl, rfl⟩
        exact wk_121_150 (fun _ => ⟨rfl, hRF, flo⟩) (fun c => lt_no c) (fun c => lt_no c) (fun c => lt_no c)
    refine ev_for 120 (Inv := fun j loc M' => (fr [159] M M' ∧ ∀ s, s < j → M' 159 s = -1) ∧ loc = [some (.ref 148), some (.int (iN l)), some (.int (iN j)), none]) ?_ ?_ 0 _ _ (Nat.zero_le _) ⟨⟨fr_rfl, fun s hs => absurd hs (by omega)⟩, rfl⟩
    · rintro j loc M' hj ⟨⟨a1, a2⟩, rfl⟩ rec
      refine wk_121_13 (fun c => absurd ((iN_lt (by omega) (by omega)).mpr hj) c) (fun _ => iN_in hj (by omega)) (fun _ => ?_)
      rw [iN_succ, iN_ix (by omega)]
      refine rec _ _ ⟨⟨fr_tr a1 (fr_ms (by decide)), fun s hs => ?_⟩, rfl⟩
      rw [ms_get]
      by_cases e : s = j
      · rw [if_pos ⟨rfl, e⟩]
      · rw [if_neg (fun y => e y.2)]; exact a2 s (by omega)
    · rintro loc M0 ⟨⟨a1, a2⟩, rfl⟩
      refine wk_121_13 (fun _ => ?_) (fun c => lt_no c) (fun c => lt_no c)
      refine ev_for ((k - k % 4) / 4) (Inv := fun i loc M' => (fr [159] M M' ∧ (∀ j, j < i → 4 * j + 3 < k ∧ B (4 * j) ≠ 255) ∧ ∀ s, s < 120 → M' 159 s = pF B i s) ∧ ∃ o, loc = [some (.ref 148), some (.int (iN l)), some (.int (iN (4 * i))), o]) ?_ ?_ 0 _ _ (Nat.zero_le _) ⟨⟨a1, fun j hj => absurd hj (by omega), a2⟩, _, rfl⟩
      · rintro i loc M1 hi ⟨⟨b1, b2, b3⟩, o, rfl⟩ rec
        have ek : M1 148 11 = iN k := by rw [b1 148 (by decide)]; exact h.2.2.1
        have e0 : ∀ j, j < k → M1 158 j = iN (B j) := fun j hj => by rw [b1 158 (by decide)]; exact h.2.2.2 j hj
        have q0 := hB (4 * i) (by omega)
        have q1 := hB (4 * i + 1) (by omega)
        have q2 := hB (4 * i + 2) (by omega)
        have q3 := hB (4 * i + 3) (by omega)
        refine wk_121_34 (fun c1 => absurd (by rw [ek, iN_add]; exact (iN_lt (by omega) (by omega)).mpr (by omega)) c1) (fun _ => iN_in (by omega) (by omega)) (fun _ c2 => ?_) (fun _ _ => by rw [iN_succ]; exact iN_in (by omega) (by omega)) (fun _ c2 => ?_)
        · rw [iN_ix (by omega), e0 _ (by omega)] at c2
          exact last i M1 _ _ ⟨b2, fun _ => (iN_eq (by omega) (by omega)).mp c2⟩ b1 b3 rfl rfl
        · rw [iN_ix (by omega), e0 _ (by omega)] at c2
          have c2 : B (4 * i) ≠ 255 := fun y => c2 (by rw [y])
          rw [iN_succ, iN_ix (by omega), e0 _ (by omega)]
          generalize hr : B (4 * i) = r at *
          generalize hf : B (4 * i + 1) = f at *
          generalize hl2 : B (4 * i + 2) = l2 at *
          obtain ⟨e, he⟩ : ∃ e, e = if 12 < f + l2 then 12 else f + l2 := ⟨_, rfl⟩
          obtain ⟨g, hg⟩ : ∃ g, g = if f < e then e else f := ⟨_, rfl⟩
          have hge : e ≤ 12 ∧ e ≤ f + l2 ∧ (e = 12 ∨ e = f + l2) := by split at he <;> omega
          have hgg : f ≤ g ∧ e ≤ g ∧ (g = e ∨ g = f) := by split at hg <;> omega
          refine ev_for g (Inv := fun j loc M' => f ≤ j ∧ (fr [159] M1 M' ∧ ∀ s, s < 120 → M' 159 s = @ite _ (r < 10 ∧ s / 12 = r ∧ f ≤ s % 12 ∧ s % 12 < j) (Classical.propDecidable _) (iN (B (4 * i + 3)) - 1) (M1 159 s)) ∧ loc = [some (.ref 148), some (.int (iN l)), some (.int (iN (4 * i))), some (.int (iN j))]) ?_ ?_ f _ _ hgg.1 ⟨Nat.le_refl _, ⟨fr_rfl, fun s hs => by rw [if_neg (by omega)]⟩, rfl⟩
          · rintro j loc M2 hj ⟨hfj, ⟨d1, d2⟩, rfl⟩ rec2
            have hje : j < e := by omega
            have e0' : ∀ j, j < k → M2 158 j = iN (B j) := fun j hj => by rw [d1 158 (by decide)]; exact e0 j hj
            refine wk_121_65 ?_ ?_ ?_ ?_ ?_ ?_ ?_ ?_ ?_
            all_goals (try rw [iN_succ (4 * i)])
            all_goals (try rw [iN_add (4 * i) 2])
            · exact iN_in (by omega) (by omega)
            · exact iN_in (by omega) (by omega)
            all_goals rw [iN_ix (a := 4 * i + 1) (by omega), iN_ix (a := 4 * i + 2) (by omega), e0' (4 * i + 1) (by omega), e0' (4 * i + 2) (by omega), hf, hl2, iN_add f l2]
            · intro c1
              exact absurd ((iN_lt (by omega) (by omega)).mpr (by omega)) c1
            · intro _ c2
              exact absurd ((iN_lt (by omega) (by omega)).mpr (by omega)) c2
            · intro _ _
              exact iN_in (by omega) (by omega)
            all_goals rw [iN_ix (a := 4 * i) (by omega), e0' (4 * i) (by omega), hr]
            · intro _ _ c3
              have c3 : ¬ r < 10 := fun y => c3 ((iN_lt (by omega) (by omega)).mpr y)
              rw [iN_succ j]
              refine rec2 _ _ ⟨by omega, ⟨d1, fun s hs => ?_⟩, rfl⟩
              rw [d2 s hs, if_neg (by omega), if_neg (by omega)]
            · intro _ _ _
              rw [iN_add]
              exact iN_in (by omega) (by omega)
            · intro _ _ c3
              have c3 := (iN_lt (by omega) (by omega)).mp c3
              rw [iN_mul, iN_add]
              exact iN_in (by omega) (by omega)
            · intro _ _ c3
              have c3 := (iN_lt (by omega) (by omega)).mp c3
              rw [iN_mul, iN_add (12 * r) j, iN_add (4 * i) 3, iN_ix (a := 12 * r + j) (by omega), iN_ix (a := 4 * i + 3) (by omega), e0' (4 * i + 3) (by omega), iN_succ j]
              refine rec2 _ _ ⟨by omega, ⟨fr_tr d1 (fr_ms (by decide)), fun s hs => ?_⟩, rfl⟩
              rw [ms_get]
              by_cases a : s = 12 * r + j
              · rw [if_pos ⟨rfl, a⟩, if_pos (by omega)]
              · rw [if_neg (fun y => a y.2), d2 s hs]
                by_cases b : r < 10 ∧ s / 12 = r ∧ f ≤ s % 12 ∧ s % 12 < j
                · rw [if_pos b, if_pos (by omega)]
                · rw [if_neg b, if_neg (by omega)]
          · rintro loc M2 ⟨hfj, ⟨d1, d2⟩, rfl⟩
            have e0' : ∀ j, j < k → M2 158 j = iN (B j) := fun j hj => by rw [d1 158 (by decide)]; exact e0 j hj
            have next : gE w 121 34 [some (.ref 148), some (.int (iN l)), some (.int (iN (4 * i) + iN 4)), some (.int (iN g))] [] M2 (RFp (iN (df S n B l i0)) (S, n, u, H, 0, B) M) := by
              rw [iN_add]
              refine rec _ _ ⟨⟨fr_tr b1 d1, fun j hj => ?_, fun s hs => ?_⟩, _, by rw [show 4 * i + 4 = 4 * (i + 1) by omega]⟩
              · by_cases e : j = i
                · subst e; exact ⟨by omega, by rw [hr]; exact c2⟩
                · exact b2 j (by omega)
              · rw [d2 s hs]
                show _ = pr (pF B i) (B (4 * i)) (B (4 * i + 1)) (B (4 * i + 2)) (iN (B (4 * i + 3)) - 1) s
                rw [hr, hf, hl2]
                unfold pr
                by_cases b : r < 10 ∧ s / 12 = r ∧ f ≤ s % 12 ∧ s % 12 < g
                · rw [if_pos b, if_pos (by omega)]
                · rw [if_neg b, if_neg (by omega)]; exact b3 s hs
            have hno : ∀ {α : Prop}, iN g < iN f + iN l2 → iN g < iN 12 → α := fun c d => by
              rw [iN_add] at c
              have c := (iN_lt (by omega) (by omega)).mp c
              have d := (iN_lt (by omega) (by omega)).mp d
              omega
            refine wk_121_65 ?_ ?_ ?_ ?_ ?_ ?_ ?_ ?_ ?_
            all_goals (try rw [iN_succ (4 * i)])
            all_goals (try rw [iN_add (4 * i) 2])
            · exact iN_in (by omega) (by omega)
            · exact iN_in (by omega) (by omega)
            all_goals rw [iN_ix (a := 4 * i + 1) (by omega), iN_ix (a := 4 * i + 2) (by omega), e0' (4 * i + 1) (by omega), e0' (4 * i + 2) (by omega), hf, hl2]
            · exact fun _ => next
            · exact fun _ _ => next
            all_goals exact fun c d => hno c d
      · rintro loc M1 ⟨⟨b1, b2, b3⟩, o, rfl⟩
        have ek : M1 148 11 = iN k := by rw [b1 148 (by decide)]; exact h.2.2.1
        have hno : ∀ {α : Prop}, iN (4 * ((k - k % 4) / 4)) + iN 3 < M1 148 11 → α := fun c => by
          rw [ek, iN_add] at c
          have c := (iN_lt (by omega) (by omega)).mp c
          omega
        exact wk_121_34 (fun _ => last _ M1 _ _ ⟨b2, fun y => by omega⟩ b1 b3 rfl rfl) (fun c => hno c) (fun c => hno c) (fun c => hno c) (fun c => hno c)
  · rintro ⟨l, hl, rfl⟩
    have := (iN_lt (a := 1) (by omega) (by omega)).mp c2
    omega
end APIB
