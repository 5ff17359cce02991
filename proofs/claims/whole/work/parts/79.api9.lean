/-! Calls: track. -/
def tc (c d : Nat) : Nat → Nat
  | 0 => c + 1
  | k + 1 => if tc c d k = 0 then 0 else nx (tc c d k - 1) d
theorem tc_le {c d : Nat} (hc : c < 240) (hd : d < 9) : ∀ k, tc c d k ≤ 240
  | 0 => by simp only [tc]; omega
  | k + 1 => by
    have ih := tc_le hc hd k
    simp only [tc]
    by_cases z : tc c d k = 0
    · rw [if_pos z]; omega
    · rw [if_neg z]
      by_cases y : nx (tc c d k - 1) d = 0
      · omega
      · exact (nx_ok (by omega) hd y).1
theorem tc_s {c d k : Nat} (h : tc c d k ≠ 0) : tc c d (k + 1) = nx (tc c d k - 1) d := by
  show (if tc c d k = 0 then 0 else nx (tc c d k - 1) d) = _
  rw [if_neg h]
def TkT (S n : Nat → Nat) (net c d k : Nat) : Prop := ∀ i, i < k → tc c d i ≠ 0 ∧ fre S n (tc c d i - 1) net
def sl (S : Nat → Nat) (p c d : Nat) : Nat → Nat → Nat
  | 0 => S
  | k + 1 => lay1 (sl S p c d k) p (tc c d k - 1)
def fc (S : Nat → Nat) (p c d : Nat) : Nat → Nat
  | 0 => 0
  | k + 1 => if own (sl S p c d k) (tc c d k - 1) = 0 then fc S p c d k + 1 else fc S p c d k
theorem fc_le (S : Nat → Nat) (p c d : Nat) : ∀ k, fc S p c d k ≤ k
  | 0 => Nat.le_refl 0
  | k + 1 => by
    have := fc_le S p c d k
    simp only [fc]
    split <;> omega
theorem sl_lo (S : Nat → Nat) (p c d : Nat) : ∀ k i, i < 352 → sl S p c d k i = S i
  | 0, _, _ => rfl
  | k + 1, i, hi => by
    simp only [sl]
    rw [lay1_lo hi]
    exact sl_lo S p c d k i hi
theorem sl_Ok {S n : Nat → Nat} {net p c d : Nat} (h : Ok S) (hp : p < S 0) (hc : c < 240) (hd : d < 9) : ∀ k, TkT S n net c d k → Ok (sl S p c d k) ∧ ∀ e, pad (sl S p c d k) e = pad S e
  | 0, _ => ⟨h, fun _ => rfl⟩
  | k + 1, g => by
    have ih := sl_Ok h hp hc hd k (fun i hi => g i (by omega))
    have gk := g k (by omega)
    have hl := tc_le hc hd k
    simp only [sl]
    refine ⟨Ok_lay1 ih.1 (by rw [sl_lo S p c d k 0 (by omega)]; exact hp) (by omega) (by rw [sl_lo S p c d k _ (by omega)]; exact gk.2.1), fun e => ?_⟩
    rw [lay1_pad _ ih.1.1]
    exact ih.2 e
def TRc (A : qA) (x1 x2 x3 x4 : Int32) (p c d l : Nat) : Prop := p < A.1 0 ∧ c < 240 ∧ d < 9 ∧ l ≤ (if d = 8 then 1 else 11) ∧ (x1 = iN p ∧ x2 = iN c ∧ x3 = iN d ∧ x4 = iN l) ∧ TkT A.1 A.2.1 (A.2.1 p) c d (l + 1)
def StTrack (A : qA) (x1 x2 x3 x4 : Int32) (v : Int32) (A' : qA) : Prop := ((¬ ∃ p c d l, TRc A x1 x2 x3 x4 p c d l) ∧ v = -1 ∧ A' = A) ∨ ∃ p c d l, TRc A x1 x2 x3 x4 p c d l ∧ v = iN (fc A.1 p c d (l + 1)) ∧ Cm A (sl A.1 p c d (l + 1)) A.2.1 A'
def R4 (x2 x3 x4 : Int32) : Prop := ∃ c d l, c < 240 ∧ d < 9 ∧ l ≤ (if d = 8 then 1 else 11) ∧ x2 = iN c ∧ x3 = iN d ∧ x4 = iN l
theorem mxd {d : Nat} (hd : d < 9) : (if iN d = iN 8 then 1 else iN 11 : Int32) = iN (if d = 8 then 1 else 11) := by
  by_cases z : d = 8
  · rw [if_pos (by rw [z]), if_pos z]; rfl
  · rw [if_neg (fun y => z ((iN_eq (by omega) (by omega)).mp y)), if_neg z]
theorem mkR4 {x2 x3 x4 : Int32} (c2 : ¬ x2 < 0 ∧ x2 < iN 240) (c3 : ¬ x3 < 0) (c4 : x3 < iN 9) (c5 : ¬ x4 < 0) (c6 : ¬ (if x3 = iN 8 then 1 else iN 11 : Int32) < x4) : R4 x2 x3 x4 := by
  obtain ⟨c, hc, rfl⟩ := rng c2.1 c2.2 (by decide)
  obtain ⟨d, hd, rfl⟩ := rng c3 c4 (by decide)
  rw [mxd hd] at c6
  have hm : (if d = 8 then 1 else 11) ≤ 11 := by split <;> omega
  rw [nlt (by omega)] at c6
  obtain ⟨l, hl, rfl⟩ := rng c5 c6 (by omega)
  exact ⟨c, d, l, hc, hd, by omega, rfl, rfl, rfl⟩
section API9
variable {w : qS} {M : qM}
theorem ct_48 {S n : Nat → Nat} (h : BD S n M) {net c d l : Nat} (hnet : net < 16) (hc : c < 240) (hd : d < 9) (hl : l ≤ 11) : gE w 48 0 [some (.ref 1), some (.int (iN net)), some (.int (iN c)), some (.int (iN d)), some (.int (iN l)), none, none] [] M (qv1 M (bi (TkT S n net c d (l + 1)))) := by
  refine wk_48_0 ?_
  refine ev_for (l + 1) (Inv := fun i loc M' => (M' = M ∧ TkT S n net c d i) ∧ loc = [some (.ref 1), some (.int (iN net)), some (.int (iN c)), some (.int (iN d)), some (.int (iN l)), some (.int (pm (tc c d i))), some (.int (iN i))]) ?_ ?_ 0 _ _ (Nat.zero_le _) ⟨⟨rfl, fun i hi => absurd hi (by omega)⟩, rfl⟩
  · rintro i loc M1 hi ⟨⟨rfl, a2⟩, rfl⟩ rec
    have ht := tc_le hc hd i
    have hnl : ¬ iN l < iN i := fun z => by have := (iN_lt (by omega) (by omega)).mp z; omega
    by_cases z : tc c d i = 0
    · rw [z]
      exact wk_48_6 (r1 := 0) (r2 := 0) (fun c1 => absurd c1 hnl) (fun _ _ => qv1_i (bi_neg fun g => (g i hi).1 z).symm) (fun _ c2 => absurd rfl c2) (fun _ c2 => absurd rfl c2) (fun _ c2 => absurd rfl c2) (fun _ c2 => absurd rfl c2)
    · have e := pm_of z
      refine wk_48_6 (r1 := bi (fre S n (tc c d i - 1) net)) (r2 := pm (nx (tc c d i - 1) d)) (fun c1 => absurd c1 hnl) (fun _ c2 => absurd ((pm_m1 (by omega)).mp c2) z) (fun _ _ => by rw [e]; exact ct_36 h (by omega) hnet) (fun _ _ _ => by rw [e]; exact ct_28 (by omega) hd) (fun _ _ c3 => ?_) (fun _ _ c3 => qv1_i (bi_neg fun g => bi_eq c3 (g i hi).2).symm)
      rw [iN_succ, ← tc_s z]
      refine rec _ _ ⟨⟨rfl, fun j hj => ?_⟩, rfl⟩
      by_cases y : j = i
      · subst y; exact ⟨z, bi_ne c3⟩
      · exact a2 j (by omega)
  · rintro loc M1 ⟨⟨rfl, a2⟩, rfl⟩
    have hnl : iN l < iN (l + 1) := (iN_lt (by omega) (by omega)).mpr (by omega)
    exact wk_48_6 (r1 := 0) (r2 := 0) (fun _ => qv1_i (bi_pos a2).symm) (fun c1 => absurd hnl c1) (fun c1 => absurd hnl c1) (fun c1 => absurd hnl c1) (fun c1 => absurd hnl c1) (fun c1 => absurd hnl c1)
theorem ct_49 {S n : Nat → Nat} (h : BD S n M) {net p c d l : Nat} (hp : p < S 0) (hc : c < 240) (hd : d < 9) (hl : l ≤ 11) (g : TkT S n net c d (l + 1)) : gE w 49 0 [some (.ref 1), some (.int (iN p)), some (.int (iN c)), some (.int (iN d)), some (.int (iN l)), none, none, none] [] M (fun r M' => r = some (.int (iN (fc S p c d (l + 1)))) ∧ fr [8] M M' ∧ BD (sl S p c d (l + 1)) n M') := by
  refine wk_49_0 ?_
  refine ev_for (l + 1) (Inv := fun i loc M' => (fr [8] M M' ∧ BD (sl S p c d i) n M') ∧ loc = [some (.ref 1), some (.int (iN p)), some (.int (iN c)), some (.int (iN d)), some (.int (iN l)), some (.int (iN (fc S p c d i))), some (.int (pm (tc c d i))), some (.int (iN i))]) ?_ ?_ 0 _ _ (Nat.zero_le _) ⟨⟨fr_rfl, h⟩, rfl⟩
  · rintro i loc M1 hi ⟨⟨a1, a2⟩, rfl⟩ rec
    have ht := tc_le hc hd i
    have gi := g i hi
    have hnl : ¬ iN l < iN i := fun z => by have := (iN_lt (by omega) (by omega)).mp z; omega
    have e := pm_of gi.1
    have hbar : sl S p c d i (112 + (tc c d i - 1)) = 0 := by rw [sl_lo S p c d i _ (by omega)]; exact gi.2.1
    refine wk_49_9 (fun c1 => absurd c1 hnl) (fun _ c2 => absurd ((pm_m1 (by omega)).mp c2) gi.1) (fun _ _ => by rw [e]; exact iN_in (by omega) (by omega)) (fun _ _ => ?_)
    rw [e, iN_ix (by omega), rb_hold a2 (by omega)]
    refine (ct_50 a2 (by rw [sl_lo S p c d i 0 (by omega)]; exact hp) (by omega) hbar).mono ?_
    rintro r M2 ⟨rfl, k1, k2⟩
    refine wk_49_46 (r1 := pm (nx (tc c d i - 1) d)) (ct_28 (by omega) hd) ?_
    rw [← tc_s gi.1, iN_succ i, iN_succ (fc S p c d i)]
    refine rec _ _ ⟨⟨fr_tr a1 k1, k2⟩, ?_⟩
    have ef : (if hv (sl S p c d i) (tc c d i - 1) = -1 then iN (fc S p c d i + 1) else iN (fc S p c d i)) = iN (fc S p c d (i + 1)) := by
      simp only [fc]
      by_cases z : own (sl S p c d i) (tc c d i - 1) = 0
      · rw [if_pos ((hv_m1 a2.1 (by omega)).mpr ⟨z, hbar⟩), if_pos z]
      · rw [if_neg (fun y => z ((hv_m1 a2.1 (by omega)).mp y).1), if_neg z]
    rw [ef]
  · rintro loc M1 ⟨⟨a1, a2⟩, rfl⟩
    have hnl : iN l < iN (l + 1) := (iN_lt (by omega) (by omega)).mpr (by omega)
    exact wk_49_9 (fun _ => ⟨rfl, a1, a2⟩) (fun c1 => absurd hnl c1) (fun c1 => absurd hnl c1) (fun c1 => absurd hnl c1)
theorem TRc_eq {A : qA} {p c d l p' c' d' l' : Nat} (h0 : A.1 0 ≤ 16) (hp : p < A.1 0) (hc : c < 240) (hd : d < 9) (hl : l ≤ 11) (h : TRc A (iN p) (iN c) (iN d) (iN l) p' c' d' l') : p = p' ∧ c = c' ∧ d = d' ∧ l = l' := by
  obtain ⟨h1, h2, h3, h4, ⟨e1, e2, e3, e4⟩, h7⟩ := h
  have hm : (if d' = 8 then 1 else 11) ≤ 11 := by split <;> omega
  exact ⟨(iN_eq (by omega) (by omega)).mp e1, (iN_eq (by omega) (by omega)).mp e2, (iN_eq (by omega) (by omega)).mp e3, (iN_eq (by omega) (by omega)).mp e4⟩
theorem cl_track {A : qA} {x1 x2 x3 x4 : Int32} (hA : RA2 A) (h : RC A M) : gE w 9 0 [some (.ref 0), some (.int x1), some (.int x2), some (.int x3), some (.int x4), none, none] [] M (CLp (StTrack A x1 x2 x3 x4) M) := by
  have hb := RC_BD hA h
  have h0 := hA.1.1.1
  have no : (¬ ∃ p c d l, TRc A x1 x2 x3 x4 p c d l) → CLp (StTrack A x1 x2 x3 x4) M (some (.int (-1))) M := fun g => ⟨-1, A, rfl, Or.inl ⟨g, rfl, rfl⟩, hA, h, fun _ _ => rfl⟩
  by_cases g : ¬ x1 < 0 ∧ x1 < iN (A.1 0)
  · obtain ⟨p, hp, rfl⟩ := rng g.1 g.2 (by omega)
    have hnp := isNet_lt hA.1.2.1 (show p < 16 by omega)
    have e0 : ∀ {α : Prop}, bi (¬ iN p < 0 ∧ iN p < iN (A.1 0)) = 0 → α := fun c1 => absurd g (bi_eq c1)
    by_cases q : R4 x2 x3 x4
    · obtain ⟨c, d, l, hc, hd, hl, rfl, rfl, rfl⟩ := q
      have hm : (if d = 8 then 1 else 11) ≤ 11 := by split <;> omega
      have n2 : ¬ bi (¬ iN c < 0 ∧ iN c < iN 240) = 0 := by rw [bi_pos ⟨iN_nn (by omega), (iN_lt (by omega) (by omega)).mpr hc⟩]; decide
      have n4 : iN d < iN 9 := (iN_lt (by omega) (by omega)).mpr hd
      have n6 : ¬ (if iN d = iN 8 then 1 else iN 11 : Int32) < iN l := by
        rw [mxd hd]
        exact fun z => by have := (iN_lt (by omega) (by omega)).mp z; omega
      refine wk_9_0 (r1 := bi (¬ iN p < 0 ∧ iN p < iN (A.1 0))) (r2 := bi (¬ iN c < 0 ∧ iN c < iN 240)) (r3 := iN (A.2.1 p)) (r4 := bi (TkT A.1 A.2.1 (A.2.1 p) c d (l + 1))) (ct_29 hb) (fun c1 => e0 c1) (fun _ => ct_24) (fun _ c2 => absurd c2 n2) (fun _ _ c3 => absurd c3 (iN_nn (by omega))) (fun _ _ _ _ c5 => absurd c5 (iN_nn (by omega))) (fun _ _ _ _ _ _ => ct_31 hb (by omega)) (fun _ _ _ _ _ _ => ct_48 hb hnp hc hd (by omega)) (fun _ _ _ _ _ _ c7 => ?_) (fun _ _ _ _ _ _ c7 => no ?_) (fun _ _ _ _ _ c6 => absurd c6 n6) (fun _ _ _ c4 => absurd n4 c4)
      · have hg := bi_ne c7
        refine (cl_begin hA.1 h).mono ?_
        rintro r M1 ⟨rfl, f1, t, f2⟩
        refine wk_9_96 ?_
        refine (ct_49 f2.1 hp hc hd (by omega) hg).mono ?_
        rintro r M2 ⟨rfl, g1, g2⟩
        have hlo := sl_lo A.1 p c d (l + 1)
        obtain ⟨A', hC, hRA, hE⟩ := cl_done (w := w) hA f1 f2 g2 (fun q hq => g1 q (by simp only [List.mem_cons, List.not_mem_nil, or_false]; omega)) (net_cs hA (fun i hi => hlo i (by omega))) (BS_lo hA.2.1 g2.1 hlo) (fun _ _ i hi => (hlo i (by omega)).symm)
        refine wk_9_108 (hE.mono ?_)
        rintro r M3 ⟨rfl, k1, k2⟩
        exact wk_9_124 ⟨_, A', rfl, Or.inr ⟨p, c, d, l, ⟨hp, hc, hd, hl, ⟨rfl, rfl, rfl, rfl⟩, hg⟩, rfl, hC⟩, hRA, k1, k2⟩
      · rintro ⟨p', c', d', l', k⟩
        obtain ⟨rfl, rfl, rfl, rfl⟩ := TRc_eq h0 hp hc hd (by omega) k
        exact bi_eq c7 k.2.2.2.2.2
    · have hno : ¬ ∃ p' c d l, TRc A (iN p) x2 x3 x4 p' c d l := fun ⟨p', c, d, l, h1, h2, h3, h4, ⟨e1, e2, e3, e4⟩, h7⟩ => q ⟨c, d, l, h2, h3, h4, e2, e3, e4⟩
      exact wk_9_0 (r1 := bi (¬ iN p < 0 ∧ iN p < iN (A.1 0))) (r2 := bi (¬ x2 < 0 ∧ x2 < iN 240)) (r3 := 0) (r4 := 0) (ct_29 hb) (fun c1 => e0 c1) (fun _ => ct_24) (fun _ c2 => no hno) (fun _ _ c3 => no hno) (fun _ _ _ _ c5 => no hno) (fun _ c2 c3 c4 c5 c6 => absurd (mkR4 (bi_ne c2) c3 c4 c5 c6) q) (fun _ c2 c3 c4 c5 c6 => absurd (mkR4 (bi_ne c2) c3 c4 c5 c6) q) (fun _ c2 c3 c4 c5 c6 => absurd (mkR4 (bi_ne c2) c3 c4 c5 c6) q) (fun _ c2 c3 c4 c5 c6 => absurd (mkR4 (bi_ne c2) c3 c4 c5 c6) q) (fun _ _ _ _ _ c6 => no hno) (fun _ _ _ c4 => no hno)
  · have hno : ¬ ∃ p c d l, TRc A x1 x2 x3 x4 p c d l := fun ⟨p', c, d, l, h1, h2, h3, h4, ⟨e1, e2, e3, e4⟩, h7⟩ => g (by rw [e1]; exact ⟨iN_nn (by omega), (iN_lt (by omega) (by omega)).mpr h1⟩)
    exact wk_9_0 (r1 := bi (¬ x1 < 0 ∧ x1 < iN (A.1 0))) (r2 := 0) (r3 := 0) (r4 := 0) (ct_29 hb) (fun c1 => no hno) (fun c1 => absurd (bi_ne c1) g) (fun c1 => absurd (bi_ne c1) g) (fun c1 => absurd (bi_ne c1) g) (fun c1 => absurd (bi_ne c1) g) (fun c1 => absurd (bi_ne c1) g) (fun c1 => absurd (bi_ne c1) g) (fun c1 => absurd (bi_ne c1) g) (fun c1 => absurd (bi_ne c1) g) (fun c1 => absurd (bi_ne c1) g) (fun c1 => absurd (bi_ne c1) g)
theorem rf_track {A A' : qA} {x1 x2 x3 x4 v : Int32} (hA : RA2 A) (hSt : StTrack A x1 x2 x3 x4 v A') (h : RF A M) : gE w 101 0 [some (.ref 148), some (.int x1), some (.int x2), some (.int x3), some (.int x4), none, none, none] [] M (RFp v A' M) := by
  have h0 := hA.1.1.1
  have hrd := RF_RD hA h
  have no : (¬ ∃ p c d l, TRc A x1 x2 x3 x4 p c d l) → RFp v A' M (some (.int (-1))) M := by
    intro g
    rcases hSt with ⟨-, rfl, rfl⟩ | ⟨p, c, d, l, k, -⟩
    · exact ⟨rfl, h, fun _ _ => rfl⟩
    · exact absurd ⟨p, c, d, l, k⟩ g
  by_cases g : ¬ x1 < 0 ∧ x1 < iN (A.1 0)
  · obtain ⟨p, hp, rfl⟩ := rng g.1 g.2 (by omega)
    have hnp := isNet_lt hA.1.2.1 (show p < 16 by omega)
    have e0 : ∀ {α : Prop}, bi (¬ iN p < 0 ∧ iN p < iN (A.1 0)) = 0 → α := fun c1 => absurd g (bi_eq c1)
    by_cases q : R4 x2 x3 x4
    · obtain ⟨c, d, l, hc, hd, hl, rfl, rfl, rfl⟩ := q
      have hm : (if d = 8 then 1 else 11) ≤ 11 := by split <;> omega
      have n2 : ¬ bi (¬ iN c < 0 ∧ iN c < iN 240) = 0 := by rw [bi_pos ⟨iN_nn (by omega), (iN_lt (by omega) (by omega)).mpr hc⟩]; decide
      have n4 : ¬ iN 8 < iN d := (nlt (by decide)).mpr ((iN_lt (by omega) (by omega)).mpr hd)
      have n6 : ¬ (if iN d = iN 8 then 1 else iN 11 : Int32) < iN l := by
        rw [mxd hd]
        exact fun z => by have := (iN_lt (by omega) (by omega)).mp z; omega
      have hlast : iN l < iN (l + 1) := (iN_lt (by omega) (by omega)).mpr (by omega)
      refine wk_101_0 (r1 := bi (¬ iN p < 0 ∧ iN p < iN (A.1 0))) (r2 := bi (¬ iN c < 0 ∧ iN c < iN 240)) (ct_84 (n := A.2.1) h.1.1) (fun c1 => e0 c1) (fun _ => ct_85) (fun _ c2 => absurd c2 n2) (fun _ _ c3 => absurd c3 (iN_nn (by omega))) (fun _ _ _ c4 => absurd c4 n4) (fun _ _ _ _ c5 => absurd c5 (iN_nn (by omega))) (fun _ _ _ _ _ _ => ?_) (fun _ _ _ _ _ c6 => absurd c6 n6)
      refine ev_for (l + 1) (Inv := fun i loc M' => (M' = M ∧ TkT A.1 A.2.1 (A.2.1 p) c d i) ∧ ∃ o7, loc = [some (.ref 148), some (.int (iN p)), some (.int (iN c)), some (.int (iN d)), some (.int (iN l)), some (.int (pm (tc c d i))), some (.int (iN i)), o7]) ?_ ?_ 0 _ _ (Nat.zero_le _) ⟨⟨rfl, fun i hi => absurd hi (by omega)⟩, _, rfl⟩
      · rintro i loc M1 hi ⟨⟨eM, a2⟩, o7, rfl⟩ rec
        subst eM
        have ht := tc_le hc hd i
        have hnl : ¬ iN l < iN i := fun z => by have := (iN_lt (by omega) (by omega)).mp z; omega
        have e5 : M1 152 (iN p).toNatClampNeg = iN (A.2.1 p) := by rw [iN_ix (by omega)]; exact h.1.2.1 p (by omega)
        have hfalse : ¬ (tc c d i ≠ 0 ∧ fre A.1 A.2.1 (tc c d i - 1) (A.2.1 p)) → ¬ ∃ p' c' d' l', TRc A (iN p) (iN c) (iN d) (iN l) p' c' d' l' := by
          rintro z ⟨p', c', d', l', k⟩
          obtain ⟨rfl, rfl, rfl, rfl⟩ := TRc_eq h0 hp hc hd (by omega) k
          exact z (k.2.2.2.2.2 i hi)
        by_cases z : tc c d i = 0
        · rw [z]
          exact wk_101_55 (r1 := 0) (r2 := 0) (fun c1 => absurd c1 hnl) (fun _ _ => no (hfalse fun y => y.1 z)) (fun _ c2 => absurd (by decide) c2) (fun _ c2 => absurd (by decide) c2) (fun _ c2 => absurd (by decide) c2) (fun _ c2 => absurd (by decide) c2) (fun _ c2 => absurd (by decide) c2)
        · have e := pm_of z
          refine wk_101_55 (r1 := bi (fre A.1 A.2.1 (tc c d i - 1) (A.2.1 p))) (r2 := pm (nx (tc c d i - 1) d)) (fun c1 => absurd c1 hnl) (fun _ c2 => absurd ((pm_neg (by omega)).mp c2) z) (fun _ _ => iN_in (by omega) (by omega)) (fun _ _ => by rw [e, e5]; exact ct_93 hrd (by omega) hnp) (fun _ _ _ => by rw [e]; exact ct_100 (by omega) hd) (fun _ _ c3 => ?_) (fun _ _ c3 => no (hfalse fun y => bi_eq c3 y.2))
          rw [iN_succ, ← tc_s z]
          refine rec _ _ ⟨⟨rfl, fun j hj => ?_⟩, _, rfl⟩
          by_cases y : j = i
          · subst y; exact ⟨z, bi_ne c3⟩
          · exact a2 j (by omega)
      · rintro loc M1 ⟨⟨eM, a2⟩, o7, rfl⟩
        subst eM
        refine wk_101_55 (r1 := 0) (r2 := 0) (fun _ => ?_) (fun c1 => absurd hlast c1) (fun c1 => absurd hlast c1) (fun c1 => absurd hlast c1) (fun c1 => absurd hlast c1) (fun c1 => absurd hlast c1) (fun c1 => absurd hlast c1)
        rcases hSt with ⟨k, -, -⟩ | ⟨p', c', d', l', k, rfl, hC⟩
        · exact absurd ⟨p, c, d, l, hp, hc, hd, hl, ⟨rfl, rfl, rfl, rfl⟩, a2⟩ k
        · obtain ⟨rfl, rfl, rfl, rfl⟩ := TRc_eq h0 hp hc hd (by omega) k
          refine (rf_begin h).mono ?_
          rintro r M2 ⟨rfl, f1, f2, f3⟩
          refine wk_101_102 ?_
          refine ev_for (l + 1) (Inv := fun i loc M' => (fr [149] M2 M' ∧ NW (sl A.1 p c d i) M') ∧ loc = [some (.ref 148), some (.int (iN p)), some (.int (iN c)), some (.int (iN d)), some (.int (iN l)), some (.int (pm (tc c d i))), some (.int (iN (fc A.1 p c d i))), some (.int (iN i))]) ?_ ?_ 0 _ _ (Nat.zero_le _) ⟨⟨fr_rfl, f3.1⟩, rfl⟩
          · rintro i loc M3 hi ⟨⟨b1, b2⟩, rfl⟩ rec
            have ht := tc_le hc hd i
            have gi := a2 i hi
            have hnl : ¬ iN l < iN i := fun z => by have := (iN_lt (by omega) (by omega)).mp z; omega
            have e := pm_of gi.1
            have hO := sl_Ok (n := A.2.1) (net := A.2.1 p) hA.1.1 hp hc hd i (fun j hj => a2 j (by omega))
            have ep : M3 153 (tc c d i - 1) = pm (pad (sl A.1 p c d i) (tc c d i - 1)) := by rw [b1 153 (by decide), hO.2]; exact f3.2.2.1 _ (by omega)
            have eo : M3 149 (352 + (tc c d i - 1)) = iN (sl A.1 p c d i (352 + (tc c d i - 1))) := b2 _ (by omega)
            have hcl := (hO.1.2.2.2.2.2.2.1 (tc c d i - 1) (by omega)).2
            have hpl := pad_le hO.1 (tc c d i - 1)
            have h00 : sl A.1 p c d i 0 = A.1 0 := sl_lo A.1 p c d i 0 (by omega)
            rw [e]
            refine wk_101_111 (r1 := pm (nx (tc c d i - 1) d)) (fun c1 => absurd c1 hnl) (fun _ => iN_in (by omega) (by omega)) (fun _ => by rw [iN_add]; exact iN_in (by omega) (by omega)) (fun _ => ct_100 (by omega) hd) (fun _ => ?_)
            rw [iN_add 352 (tc c d i - 1), iN_ix (show tc c d i - 1 < 2 ^ 31 by omega), iN_ix (show 352 + (tc c d i - 1) < 2 ^ 31 by omega), ep, eo, ← tc_s gi.1, iN_succ i, iN_succ (fc A.1 p c d i)]
            have ef : (if pm (pad (sl A.1 p c d i) (tc c d i - 1)) < 0 then (if iN (sl A.1 p c d i (352 + (tc c d i - 1))) = 0 then iN (fc A.1 p c d i + 1) else iN (fc A.1 p c d i) : Int32) else iN (fc A.1 p c d i) : Int32) = iN (fc A.1 p c d (i + 1)) := by
              simp only [fc]
              unfold own
              by_cases z : pad (sl A.1 p c d i) (tc c d i - 1) = 0
              · rw [if_pos ((pm_neg (by omega)).mpr z), if_pos z]
                by_cases y : sl A.1 p c d i (352 + (tc c d i - 1)) = 0
                · rw [if_pos y, if_pos ((iN_z (by omega)).mpr y)]
                · rw [if_neg y, if_neg (fun u => y ((iN_z (by omega)).mp u))]
              · rw [if_neg (fun u => z ((pm_neg (by omega)).mp u)), if_neg z, if_neg z]
            rw [ef]
            exact rec _ _ ⟨⟨fr_tr b1 (fr_ms (by decide)), wr_lay1 hO.1 b2 (by omega)⟩, rfl⟩
          · rintro loc M3 ⟨⟨b1, b2⟩, rfl⟩
            have hO := sl_Ok (n := A.2.1) (net := A.2.1 p) hA.1.1 hp hc hd (l + 1) a2
            have hlo := sl_lo A.1 p c d (l + 1)
            refine wk_101_111 (r1 := 0) (fun _ => ?_) (fun c1 => absurd hlast c1) (fun c1 => absurd hlast c1) (fun c1 => absurd hlast c1) (fun c1 => absurd hlast c1)
            refine (rf_done hA hC hO.1 (net_cs hA (fun i hi => hlo i (by omega))) (BS_lo hA.2.1 hO.1 hlo) f1 f2 f3 b2 b1).mono ?_
            rintro r M4 ⟨rfl, l1, l2⟩
            exact wk_101_199 ⟨rfl, l1, l2⟩
    · have hno : ¬ ∃ p' c d l, TRc A (iN p) x2 x3 x4 p' c d l := fun ⟨p', c, d, l, h1, h2, h3, h4, ⟨e1, e2, e3, e4⟩, h7⟩ => q ⟨c, d, l, h2, h3, h4, e2, e3, e4⟩
      exact wk_101_0 (r1 := bi (¬ iN p < 0 ∧ iN p < iN (A.1 0))) (r2 := bi (¬ x2 < 0 ∧ x2 < iN 240)) (ct_84 (n := A.2.1) h.1.1) (fun c1 => e0 c1) (fun _ => ct_85) (fun _ c2 => no hno) (fun _ _ c3 => no hno) (fun _ _ _ c4 => no hno) (fun _ _ _ _ c5 => no hno) (fun _ c2 c3 c4 c5 c6 => absurd (mkR4 (bi_ne c2) c3 ((nlt (by decide)).mp c4) c5 c6) q) (fun _ _ _ _ _ c6 => no hno)
  · have hno : ¬ ∃ p c d l, TRc A x1 x2 x3 x4 p c d l := fun ⟨p', c, d, l, h1, h2, h3, h4, ⟨e1, e2, e3, e4⟩, h7⟩ => g (by rw [e1]; exact ⟨iN_nn (by omega), (iN_lt (by omega) (by omega)).mpr h1⟩)
    exact wk_101_0 (r1 := bi (¬ x1 < 0 ∧ x1 < iN (A.1 0))) (r2 := 0) (ct_84 (n := A.2.1) h.1.1) (fun c1 => no hno) (fun c1 => absurd (bi_ne c1) g) (fun c1 => absurd (bi_ne c1) g) (fun c1 => absurd (bi_ne c1) g) (fun c1 => absurd (bi_ne c1) g) (fun c1 => absurd (bi_ne c1) g) (fun c1 => absurd (bi_ne c1) g) (fun c1 => absurd (bi_ne c1) g)
end API9
