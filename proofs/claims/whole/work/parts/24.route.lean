/-! Pure: what a route is. -/
def rchF (C : Nat → Nat) (c : Nat) : Nat → Nat
  | 0 => 1000000
  | d + 1 => if nx c d ≠ 0 ∧ C (nx c d - 1) + prc d < rchF C c d then C (nx c d - 1) + prc d else rchF C c d
def rch (C : Nat → Nat) (c : Nat) : Nat := rchF C c 9
theorem rchF_le (C : Nat → Nat) (c : Nat) : ∀ k, rchF C c k ≤ 1000000 ∧ ∀ d, d < k → nx c d ≠ 0 → rchF C c k ≤ C (nx c d - 1) + prc d
  | 0 => ⟨Nat.le_refl _, fun d hd => absurd hd (by omega)⟩
  | k + 1 => by
    have ih := rchF_le C c k
    simp only [rchF]
    refine ⟨?_, fun d hd hn => ?_⟩
    · split <;> omega
    · by_cases e : d = k
      · subst e
        split
        · exact Nat.le_refl _
        · rename_i h
          apply Classical.byContradiction
          intro h2
          exact h ⟨hn, by omega⟩
      · have := ih.2 d (by omega) hn
        split <;> omega
theorem rchF_hit (C : Nat → Nat) (c : Nat) : ∀ k, rchF C c k < 1000000 → ∃ d, d < k ∧ nx c d ≠ 0 ∧ C (nx c d - 1) + prc d = rchF C c k
  | 0, h => absurd h (by simp [rchF])
  | k + 1, h => by
    simp only [rchF] at h ⊢
    by_cases g : nx c k ≠ 0 ∧ C (nx c k - 1) + prc k < rchF C c k
    · rw [if_pos g]
      exact ⟨k, by omega, g.1, rfl⟩
    · rw [if_neg g] at h ⊢
      obtain ⟨d, hd, h1, h2⟩ := rchF_hit C c k h
      exact ⟨d, by omega, h1, h2⟩
theorem rch_eq {C : Nat → Nat} {c k : Nat} (h1 : ∀ d, d < 9 → nx c d ≠ 0 → k ≤ C (nx c d - 1) + prc d) (h2 : k < 1000000 → ∃ d, d < 9 ∧ nx c d ≠ 0 ∧ C (nx c d - 1) + prc d ≤ k) (h3 : k ≤ 1000000) : rch C c = k := by
  have a := rchF_le C c 9
  unfold rch
  by_cases hk : k < 1000000
  · obtain ⟨d, hd, hn, hl⟩ := h2 hk
    have b := a.2 d hd hn
    obtain ⟨d2, hd2, hn2, hl2⟩ := rchF_hit C c 9 (by omega)
    have e := h1 d2 hd2 hn2
    omega
  · by_cases g : rchF C c 9 < 1000000
    · obtain ⟨d2, hd2, hn2, hl2⟩ := rchF_hit C c 9 g
      have e := h1 d2 hd2 hn2
      omega
    · omega
theorem rchF_congr {C D : Nat → Nat} {c : Nat} (hc : c < 240) (h : ∀ e, e < 240 → C e = D e) : ∀ k, k ≤ 9 → rchF C c k = rchF D c k
  | 0, _ => rfl
  | k + 1, hk => by
    simp only [rchF]
    rw [rchF_congr hc h k (by omega)]
    by_cases hn : nx c k ≠ 0
    · rw [h (nx c k - 1) (by have := (nx_ok hc (by omega) hn).1; omega)]
    · rw [if_neg (fun x => hn x.1), if_neg (fun x => hn x.1)]
theorem rch_congr {C D : Nat → Nat} {c : Nat} (hc : c < 240) (h : ∀ e, e < 240 → C e = D e) : rch C c = rch D c := rchF_congr hc h 9 (by omega)
/-- the least of the neighbours by which what is left is what is left from here -/
def wst (C : Nat → Nat) (c left : Nat) : Nat → Nat
  | 0 => 240
  | d + 1 => if nx c d ≠ 0 ∧ C (nx c d - 1) + prc d = left ∧ nx c d - 1 < wst C c left d then nx c d - 1 else wst C c left d
theorem wst_congr {C D : Nat → Nat} {c : Nat} (left : Nat) (hc : c < 240) (h : ∀ e, e < 240 → C e = D e) : ∀ k, k ≤ 9 → wst C c left k = wst D c left k
  | 0, _ => rfl
  | k + 1, hk => by
    simp only [wst]
    rw [wst_congr left hc h k (by omega)]
    by_cases hn : nx c k ≠ 0
    · rw [h (nx c k - 1) (by have := (nx_ok hc (by omega) hn).1; omega)]
    · rw [if_neg (fun x => hn x.1), if_neg (fun x => hn x.1)]
theorem wst_hit {C : Nat → Nat} {c left : Nat} (hc : c < 240) : ∀ k, k ≤ 9 → wst C c left k ≤ 240 ∧ (wst C c left k < 240 → ∃ d, d < k ∧ nx c d = wst C c left k + 1 ∧ C (wst C c left k) + prc d = left) ∧ ((∃ d, d < k ∧ nx c d ≠ 0 ∧ C (nx c d - 1) + prc d = left) → wst C c left k < 240)
  | 0, _ => ⟨Nat.le_refl _, fun h => absurd h (by simp [wst]), fun ⟨d, h, _⟩ => absurd h (by omega)⟩
  | k + 1, hk => by
    have ih := wst_hit (C := C) (left := left) hc k (by omega)
    simp only [wst]
    by_cases g : nx c k ≠ 0 ∧ C (nx c k - 1) + prc k = left ∧ nx c k - 1 < wst C c left k
    · rw [if_pos g]
      have hn := (nx_ok hc (by omega) g.1).1
      refine ⟨by omega, fun _ => ⟨k, by omega, by omega, g.2.1⟩, fun _ => by omega⟩
    · rw [if_neg g]
      refine ⟨ih.1, fun h => ?_, fun h => ?_⟩
      · obtain ⟨d, hd, e1, e2⟩ := ih.2.1 h
        exact ⟨d, by omega, e1, e2⟩
      · obtain ⟨d, hd, e1, e2⟩ := h
        by_cases e : d = k
        · subst e
          have hn := (nx_ok hc (by omega) e1).1
          apply Classical.byContradiction
          intro h2
          exact g ⟨e1, e2, by omega⟩
        · exact ih.2.2 ⟨d, by omega, e1, e2⟩
def lay1 (S : Nat → Nat) (m c : Nat) : Nat → Nat := if pad S c = 0 then up1 S (352 + c) (m + 1) else S
def wayF (C : Nat → Nat) (m : Nat) : Nat → Nat → Nat → (Nat → Nat) → Nat → Nat
  | 0, _, _, S => S
  | k + 1, c, left, S => if left = 0 then S else wayF C m k (wst C c left 9) (C (wst C c left 9)) (lay1 S m (wst C c left 9))
theorem wayF_congr {C D : Nat → Nat} (m : Nat) (h : ∀ e, e < 240 → C e = D e) : ∀ k c left S, c < 240 → (left = 0 ∨ left < 1000000 ∧ ∃ d, d < 9 ∧ nx c d ≠ 0 ∧ C (nx c d - 1) + prc d = left) → (∀ e, e < 240 → C e = 0 ∨ C e = 1000000 ∨ ∃ d, d < 9 ∧ nx e d ≠ 0 ∧ C (nx e d - 1) + prc d = C e) → wayF C m k c left S = wayF D m k c left S
  | 0, _, _, _, _, _, _ => rfl
  | k + 1, c, left, S, hc, hl, ha => by
    simp only [wayF]
    by_cases h0 : left = 0
    · rw [if_pos h0, if_pos h0]
    · rw [if_neg h0, if_neg h0]
      have hl := hl.resolve_left h0
      have hw := wst_hit (C := C) (left := left) hc 9 (Nat.le_refl _)
      have he := hw.2.2 hl.2
      rw [← wst_congr left hc h 9 (Nat.le_refl _), ← h _ he]
      refine wayF_congr m h k _ _ _ he ?_ ha
      obtain ⟨d, hd, e1, e2⟩ := hw.2.1 he
      have := prc_pos d
      rcases ha _ he with x | x | x
      · exact Or.inl x
      · omega
      · exact Or.inr ⟨by omega, x⟩
-- nets' pins
def inN (S n : Nat → Nat) (net p : Nat) : Prop := p < S 0 ∧ n p = net ∧ S (32 + p) ≠ 0
def isFst (S n : Nat → Nat) (net p : Nat) : Prop := inN S n net p ∧ ∀ q, q < p → ¬ inN S n net q
def isPie (S n : Nat → Nat) (net : Nat) (I : Nat → Prop) : Prop := ∃ p, isFst S n net p ∧ isPc (fun c => ow S n c = net + 1) (fp S p) I
def isMis (S n : Nat → Nat) (net : Nat) (I : Nat → Prop) (m : Nat) : Prop := (inN S n net m ∧ ¬ I (fp S m)) ∧ ∀ q, q < m → ¬ (inN S n net q ∧ ¬ I (fp S q))
/-- code of the missing pin: one more, 0 for none -/
def Mis (S n : Nat → Nat) (net k : Nat) : Prop := (k = 0 ∧ ∀ p, ¬ inN S n net p) ∨ ∃ I, isPie S n net I ∧ ((k = 0 ∧ ∀ p, ¬ (inN S n net p ∧ ¬ I (fp S p))) ∨ ∃ m, k = m + 1 ∧ isMis S n net I m)
def pd2 (S : Nat → Nat) (C : Nat → Nat) (m : Nat) : Nat := if S (32 + m) / 120 = 3 ∧ rch C (fp S m + 120) < rch C (fp S m) then fp S m + 120 else fp S m
def Rt (S n : Nat → Nat) (net : Nat) (v : Int32) (S' : Nat → Nat) : Prop :=
  ((∀ p, ¬ inN S n net p) ∧ v = 0 ∧ S' = S) ∨ ∃ I, isPie S n net I ∧ (((∀ p, ¬ (inN S n net p ∧ ¬ I (fp S p))) ∧ v = 0 ∧ S' = S) ∨
    ∃ m C, isMis S n net I m ∧ isCost I (fun c => fre S n c net) C ∧ ((rch C (pd2 S C m) = 1000000 ∧ v = -2 ∧ S' = S) ∨
      (rch C (pd2 S C m) < 1000000 ∧ v = iN (rch C (pd2 S C m)) ∧ S' = wayF C m 240 (pd2 S C m) (rch C (pd2 S C m)) S)))
theorem fp_lt {S : Nat → Nat} (p : Nat) : fp S p < 240 := by
  unfold fp
  split <;> omega
theorem isFst_uniq {S n : Nat → Nat} {net p q : Nat} (h : isFst S n net p) (g : isFst S n net q) : p = q := by
  rcases Nat.lt_trichotomy p q with c | c | c
  · exact absurd h.1 (g.2 p c)
  · exact c
  · exact absurd g.1 (h.2 q c)
theorem isPie_uniq {S n : Nat → Nat} {net : Nat} {I J : Nat → Prop} (h : isPie S n net I) (g : isPie S n net J) {c : Nat} (hc : c < 240) : I c ↔ J c := by
  obtain ⟨p, h1, h2⟩ := h
  obtain ⟨q, g1, g2⟩ := g
  cases isFst_uniq h1 g1
  exact ⟨isPc_sub h2 g2 hc, isPc_sub g2 h2 hc⟩
theorem isMis_uniq {S n : Nat → Nat} {net m k : Nat} {I J : Nat → Prop} (e : ∀ c, c < 240 → (I c ↔ J c)) (h : isMis S n net I m) (g : isMis S n net J k) : m = k := by
  rcases Nat.lt_trichotomy m k with c | c | c
  · exact absurd ⟨h.1.1, fun x => h.1.2 ((e _ (fp_lt m)).mpr x)⟩ (g.2 m c)
  · exact c
  · exact absurd ⟨g.1.1, fun x => g.1.2 ((e _ (fp_lt k)).mp x)⟩ (h.2 k c)
theorem isCost_congr {I J F : Nat → Prop} {C : Nat → Nat} (e : ∀ c, c < 240 → (I c ↔ J c)) (h : isCost I F C) : isCost J F C :=
  ⟨fun c hc hJ => h.1 c hc ((e c hc).mpr hJ), fun c hc hJ => h.2.1 c hc (fun x => hJ ((e c hc).mp x)), h.2.2.1, fun c d hc hd hJ => h.2.2.2.1 c d hc hd (fun x => hJ ((e c hc).mp x)), fun c hc hJ => h.2.2.2.2 c hc (fun x => hJ ((e c hc).mp x))⟩
theorem isCost_eq {I F : Nat → Prop} {C : Nat → Nat} (h : isCost I F C) {e : Nat} (he : e < 240) : C e = 0 ∨ C e = 1000000 ∨ ∃ d, d < 9 ∧ nx e d ≠ 0 ∧ C (nx e d - 1) + prc d = C e := by
  by_cases hI : I e
  · exact Or.inl (h.1 e he hI)
  · by_cases hf : C e < 1000000
    · by_cases hF : F e
      · obtain ⟨d, hd, hn, hl⟩ := h.2.2.2.2 e he hI hf
        have := h.2.2.2.1 e d he hd hI hF hn
        exact Or.inr (Or.inr ⟨d, hd, hn, by omega⟩)
      · have := h.2.1 e he hI hF
        omega
    · have := h.2.2.1 e he
      exact Or.inr (Or.inl (by omega))
theorem pd2_lt {S C : Nat → Nat} {m : Nat} : pd2 S C m < 240 := by
  unfold pd2
  split
  · rename_i h
    unfold fp
    rw [if_neg (by omega)]
    omega
  · exact fp_lt m
theorem pd2_congr {S C D : Nat → Nat} {m : Nat} (h : ∀ e, e < 240 → C e = D e) : pd2 S C m = pd2 S D m := by
  unfold pd2
  by_cases g : S (32 + m) / 120 = 3
  · have hl : fp S m + 120 < 240 := by unfold fp; rw [if_neg (by omega)]; omega
    rw [rch_congr hl h, rch_congr (fp_lt m) h]
  · rw [if_neg (fun x => g x.1), if_neg (fun x => g x.1)]
theorem Rt_uniq {S n S1 S2 : Nat → Nat} {net : Nat} {v w : Int32} (h : Rt S n net v S1) (g : Rt S n net w S2) : v = w ∧ S1 = S2 := by
  rcases h with ⟨h0, rfl, rfl⟩ | ⟨I, hI, h⟩
  · rcases g with ⟨g0, rfl, rfl⟩ | ⟨J, ⟨p, hp, _⟩, _⟩
    · exact ⟨rfl, rfl⟩
    · exact absurd hp.1 (h0 p)
  · rcases g with ⟨g0, rfl, rfl⟩ | ⟨J, hJ, g⟩
    · obtain ⟨p, hp, _⟩ := hI
      exact absurd hp.1 (g0 p)
    · have e : ∀ c, c < 240 → (I c ↔ J c) := fun c hc => isPie_uniq hI hJ hc
      rcases h with ⟨h0, rfl, rfl⟩ | ⟨m, C, hm, hC, h⟩
      · rcases g with ⟨g0, rfl, rfl⟩ | ⟨k, D, hk, hD, g⟩
        · exact ⟨rfl, rfl⟩
        · exact absurd ⟨hk.1.1, fun x => hk.1.2 ((e _ (fp_lt k)).mp x)⟩ (h0 k)
      · rcases g with ⟨g0, rfl, rfl⟩ | ⟨k, D, hk, hD, g⟩
        · exact absurd ⟨hm.1.1, fun x => hm.1.2 ((e _ (fp_lt m)).mpr x)⟩ (g0 m)
        · cases isMis_uniq e hm hk
          have ec : ∀ c, c < 240 → C c = D c := fun c hc => isCost_uniq (isCost_congr e hC) hD hc
          have ep := pd2_congr (S := S) (m := m) ec
          have er := rch_congr (pd2_lt (S := S) (C := C) (m := m)) ec
          rw [← ep, ← er] at g
          rcases h with ⟨h1, rfl, rfl⟩ | ⟨h1, rfl, rfl⟩
          · rcases g with ⟨g1, rfl, rfl⟩ | ⟨g1, rfl, rfl⟩
            · exact ⟨rfl, rfl⟩
            · omega
          · rcases g with ⟨g1, rfl, rfl⟩ | ⟨g1, rfl, rfl⟩
            · omega
            · refine ⟨rfl, wayF_congr m ec 240 _ _ S pd2_lt (Or.inr ⟨h1, ?_⟩) (fun c hc => isCost_eq hC hc)⟩
              exact rchF_hit C _ 9 h1
