/-! Pure: counting, nets, pieces, costs. -/
noncomputable def cnt : Nat → (Nat → Prop) → Nat
  | 0, _ => 0
  | k + 1, p => cnt k p + @ite _ (p k) (Classical.propDecidable _) 1 0
theorem cnt_le (p : Nat → Prop) : ∀ k, cnt k p ≤ k
  | 0 => Nat.le_refl 0
  | k + 1 => by
    have := cnt_le p k
    simp only [cnt]
    split <;> omega
theorem cnt_mono {p q : Nat → Prop} : ∀ k, (∀ i, i < k → p i → q i) → cnt k p ≤ cnt k q
  | 0, _ => Nat.le_refl 0
  | k + 1, h => by
    have h1 := cnt_mono k (fun i hi => h i (by omega))
    simp only [cnt]
    by_cases hp : p k
    · rw [if_pos hp, if_pos (h k (by omega) hp)]; omega
    · rw [if_neg hp]; split <;> omega
theorem cnt_lt {p q : Nat → Prop} : ∀ k, (∀ i, i < k → p i → q i) → (∃ i, i < k ∧ ¬ p i ∧ q i) → cnt k p < cnt k q
  | 0, _, ⟨_, h, _⟩ => absurd h (by omega)
  | k + 1, h, ⟨i, hi, hn, hq⟩ => by
    simp only [cnt]
    by_cases hik : i = k
    · subst hik
      have h1 := cnt_mono i (fun j hj => h j (by omega))
      rw [if_neg hn, if_pos hq]; omega
    · have h1 := cnt_lt k (fun j hj => h j (by omega)) ⟨i, by omega, hn, hq⟩
      by_cases hp : p k
      · rw [if_pos hp, if_pos (h k (by omega) hp)]; omega
      · rw [if_neg hp]; split <;> omega
theorem cnt_all {p : Nat → Prop} : ∀ k, cnt k p = k → ∀ i, i < k → p i
  | 0, _, _, h => absurd h (by omega)
  | k + 1, h, i, hi => by
    simp only [cnt] at h
    have h1 := cnt_le p k
    by_cases hp : p k
    · rw [if_pos hp] at h
      by_cases hik : i = k
      · subst hik; exact hp
      · exact cnt_all k (by omega) i (by omega)
    · rw [if_neg hp] at h; omega
theorem cnt_none {p : Nat → Prop} : ∀ k, (∀ i, i < k → ¬ p i) → cnt k p = 0
  | 0, _ => rfl
  | k + 1, h => by
    simp only [cnt]
    rw [cnt_none k (fun i hi => h i (by omega)), if_neg (h k (by omega))]
theorem cnt_congr {p q : Nat → Prop} (k : Nat) (h : ∀ i, i < k → (p i ↔ q i)) : cnt k p = cnt k q :=
  Nat.le_antisymm (cnt_mono k fun i hi => (h i hi).mp) (cnt_mono k fun i hi => (h i hi).mpr)
/-- one more -/
theorem cnt_one {p q : Nat → Prop} : ∀ k (a : Nat), a < k → ¬ p a → (∀ i, i < k → (q i ↔ p i ∨ i = a)) → cnt k q = cnt k p + 1
  | 0, _, h, _, _ => absurd h (by omega)
  | k + 1, a, ha, hn, h => by
    simp only [cnt]
    by_cases hak : a = k
    · subst hak
      rw [if_neg hn, if_pos ((h a (by omega)).mpr (Or.inr rfl)), cnt_congr a (q := p) (p := q) (fun i hi => ⟨fun q => ((h i (by omega)).mp q).resolve_right (by omega), fun q => (h i (by omega)).mpr (Or.inl q)⟩)]
    · have h1 := cnt_one k a (by omega) hn (fun i hi => h i (by omega))
      have h2 : q k ↔ p k := ⟨fun q => ((h k (by omega)).mp q).resolve_right (by omega), fun q => (h k (by omega)).mpr (Or.inl q)⟩
      by_cases hp : p k
      · rw [if_pos hp, if_pos (h2.mpr hp)]; omega
      · rw [if_neg hp, if_neg (fun q => hp (h2.mp q))]; omega
-- nets
def jC (k : Nat) (S f : Nat → Nat) : Prop := ∀ j, j < k → f (S (64 + 2 * j)) = f (S (64 + 2 * j + 1))
def isNet (k : Nat) (S n : Nat → Nat) : Prop := jC k S n ∧ (∀ p, p < 16 → n p ≤ p) ∧ ∀ f, jC k S f → ∀ p, p < 16 → f (n p) = f p
theorem isNet_le {k : Nat} {S n m : Nat → Nat} (h : isNet k S n) (g : isNet k S m) (p : Nat) (hp : p < 16) : n p ≤ m p := by
  have h1 := g.2.2 n h.1 p hp
  have h2 := g.2.1 p hp
  have h3 := h.2.1 (m p) (by omega)
  omega
theorem isNet_uniq {k : Nat} {S n m : Nat → Nat} (h : isNet k S n) (g : isNet k S m) (p : Nat) (hp : p < 16) : n p = m p :=
  Nat.le_antisymm (isNet_le h g p hp) (isNet_le g h p hp)
theorem isNet_idem {k : Nat} {S n : Nat → Nat} (h : isNet k S n) {p : Nat} (hp : p < 16) : n (n p) = n p := h.2.2 n h.1 p hp
theorem isNet_lt {k : Nat} {S n : Nat → Nat} (h : isNet k S n) {p : Nat} (hp : p < 16) : n p < 16 := Nat.lt_of_le_of_lt (h.2.1 p hp) hp
theorem isNet_zero (S : Nat → Nat) : isNet 0 S (fun p => p) := ⟨fun j hj => absurd hj (by omega), fun p _ => Nat.le_refl p, fun f _ p _ => rfl⟩
/-- the class: the greater name gives way -/
def nnRen (n : Nat → Nat) (hi lo : Nat) : Nat → Nat := fun p => if n p = hi then lo else n p
theorem isNet_succ {k : Nat} {S n : Nat → Nat} (h : isNet k S n) (ha : S (64 + 2 * k) < 16) (hb : S (64 + 2 * k + 1) < 16) :
    isNet (k + 1) S (nnRen n (if n (S (64 + 2 * k)) < n (S (64 + 2 * k + 1)) then n (S (64 + 2 * k + 1)) else n (S (64 + 2 * k))) (if n (S (64 + 2 * k + 1)) < n (S (64 + 2 * k)) then n (S (64 + 2 * k + 1)) else n (S (64 + 2 * k)))) := by
  refine ⟨fun j hj => ?_, fun p hp => ?_, fun f hf p hp => ?_⟩
  · unfold nnRen
    by_cases hjk : j = k
    · subst hjk
      by_cases h1 : n (S (64 + 2 * j)) < n (S (64 + 2 * j + 1))
      · have h2 : ¬ n (S (64 + 2 * j + 1)) < n (S (64 + 2 * j)) := by omega
        simp only [if_pos h1, if_neg h2, if_true]
        rw [if_neg (by omega)]
      · simp only [if_neg h1, if_true]
        by_cases h2 : n (S (64 + 2 * j + 1)) < n (S (64 + 2 * j))
        · simp only [if_pos h2]
          rw [if_neg (by omega)]
        · simp only [if_neg h2]
          split <;> omega
    · rw [h.1 j (by omega)]
  · unfold nnRen
    have h1 := h.2.1 p hp
    repeat' split
    all_goals omega
  · have hf' : jC k S f := fun j hj => hf j (by omega)
    have e1 := h.2.2 f hf' _ ha
    have e2 := h.2.2 f hf' _ hb
    have e3 := hf k (by omega)
    have e4 := h.2.2 f hf' p hp
    unfold nnRen
    by_cases h1 : n (S (64 + 2 * k)) < n (S (64 + 2 * k + 1))
    · have h2 : ¬ n (S (64 + 2 * k + 1)) < n (S (64 + 2 * k)) := by omega
      simp only [if_pos h1, if_neg h2]
      by_cases h3 : n p = n (S (64 + 2 * k + 1))
      · rw [if_pos h3, e1, e3, ← e2, ← h3, e4]
      · rw [if_neg h3, e4]
    · simp only [if_neg h1]
      by_cases h2 : n (S (64 + 2 * k + 1)) < n (S (64 + 2 * k))
      · simp only [if_pos h2]
        by_cases h3 : n p = n (S (64 + 2 * k))
        · rw [if_pos h3, e2, ← e3, ← e1, ← h3, e4]
        · rw [if_neg h3, e4]
      · simp only [if_neg h2]
        by_cases h3 : n p = n (S (64 + 2 * k))
        · rw [if_pos h3, e1, ← e1, ← h3, e4]
        · rw [if_neg h3, e4]
/-- the reference: one joint pulls both its ends to the lesser -/
def nnPull (S m : Nat → Nat) (j : Nat) : Nat → Nat := fun p => if p = S (64 + 2 * j) ∨ p = S (64 + 2 * j + 1) then (if m (S (64 + 2 * j)) < m (S (64 + 2 * j + 1)) then m (S (64 + 2 * j)) else m (S (64 + 2 * j + 1))) else m p
def nnRow (S m : Nat → Nat) : Nat → Nat → Nat
  | 0 => m
  | j + 1 => nnPull S (nnRow S m j) j
def nnInv (n m : Nat → Nat) : Prop := ∀ p, p < 16 → m p ≤ p ∧ n (m p) = n p
theorem nnInv_ge {k : Nat} {S n m : Nat → Nat} (h : isNet k S n) (g : nnInv n m) {p : Nat} (hp : p < 16) : n p ≤ m p := by
  have := g p hp
  have := h.2.1 (m p) (by omega)
  omega
theorem nnPull_inv {k : Nat} {S n m : Nat → Nat} (h : isNet k S n) (hS : ∀ i, i < 2 * k → S (64 + i) < 16) (g : nnInv n m) {j : Nat} (hj : j < k) : nnInv n (nnPull S m j) ∧ ∀ p, p < 16 → nnPull S m j p ≤ m p := by
  have ha := hS (2 * j) (by omega)
  have hb := hS (2 * j + 1) (by omega)
  have e := h.1 j hj
  rw [← Nat.add_assoc] at hb
  have ga := g _ ha
  have gb := g _ hb
  refine ⟨fun p hp => ?_, fun p hp => ?_⟩
  · have gp := g p hp
    unfold nnPull
    by_cases c : p = S (64 + 2 * j) ∨ p = S (64 + 2 * j + 1)
    · rw [if_pos c]
      by_cases d : m (S (64 + 2 * j)) < m (S (64 + 2 * j + 1))
      · rw [if_pos d]
        rcases c with rfl | rfl
        · exact ga
        · exact ⟨by omega, by rw [ga.2, e]⟩
      · rw [if_neg d]
        rcases c with rfl | rfl
        · exact ⟨by omega, by rw [gb.2, e]⟩
        · exact gb
    · rw [if_neg c]
      exact gp
  · unfold nnPull
    by_cases c : p = S (64 + 2 * j) ∨ p = S (64 + 2 * j + 1)
    · rw [if_pos c]
      rcases c with rfl | rfl <;> split <;> omega
    · rw [if_neg c]
      exact Nat.le_refl _
theorem nnRow_inv {k : Nat} {S n m : Nat → Nat} (h : isNet k S n) (hS : ∀ i, i < 2 * k → S (64 + i) < 16) (g : nnInv n m) : ∀ j, j ≤ k → nnInv n (nnRow S m j) ∧ ∀ p, p < 16 → nnRow S m j p ≤ m p
  | 0, _ => ⟨g, fun p _ => Nat.le_refl _⟩
  | j + 1, hj => by
    have ih := nnRow_inv h hS g j (by omega)
    have st := nnPull_inv h hS ih.1 (show j < k by omega)
    exact ⟨st.1, fun p hp => Nat.le_trans (st.2 p hp) (ih.2 p hp)⟩
theorem nnRow_keep {k : Nat} {S n m : Nat → Nat} (h : isNet k S n) (hS : ∀ i, i < 2 * k → S (64 + i) < 16) (g : nnInv n m) {j : Nat} (hj : j ≤ k) {p : Nat} (hp : p < 16) (e : m p = n p) : nnRow S m j p = n p := by
  have h1 := nnRow_inv h hS g j hj
  have h2 := h1.2 p hp
  have h3 := nnInv_ge h h1.1 hp
  omega
theorem nnRow_hit {k : Nat} {S n m : Nat → Nat} (h : isNet k S n) (hS : ∀ i, i < 2 * k → S (64 + i) < 16) (g : nnInv n m) {i : Nat} (hi : i < k) (e : m (S (64 + 2 * i)) = n (S (64 + 2 * i)) ∨ m (S (64 + 2 * i + 1)) = n (S (64 + 2 * i + 1))) :
    ∀ j, j ≤ k → i < j → nnRow S m j (S (64 + 2 * i)) = n (S (64 + 2 * i)) ∧ nnRow S m j (S (64 + 2 * i + 1)) = n (S (64 + 2 * i + 1))
  | 0, _, hij => absurd hij (by omega)
  | j + 1, hj, hij => by
    have ha := hS (2 * i) (by omega)
    have hb := hS (2 * i + 1) (by omega)
    rw [← Nat.add_assoc] at hb
    have i1 := nnRow_inv h hS g j (by omega)
    have i2 := nnRow_inv h hS g (j + 1) hj
    have st := nnPull_inv h hS i1.1 (show j < k by omega)
    have la := nnInv_ge h i2.1 ha
    have lb := nnInv_ge h i2.1 hb
    by_cases c : i = j
    · subst c
      have eab := h.1 i hi
      have ka := nnInv_ge h i1.1 ha
      have kb := nnInv_ge h i1.1 hb
      have ma := i1.2 _ ha
      have mb := i1.2 _ hb
      have va : nnRow S m (i + 1) (S (64 + 2 * i)) ≤ n (S (64 + 2 * i)) ∧ nnRow S m (i + 1) (S (64 + 2 * i + 1)) ≤ n (S (64 + 2 * i + 1)) := by
        simp only [nnRow, nnPull, true_or, or_true, if_true]
        split <;> omega
      omega
    · have ih := nnRow_hit h hS g hi e j (by omega) (by omega)
      have sa := st.2 _ ha
      have sb := st.2 _ hb
      simp only [nnRow] at la lb ⊢
      omega
theorem nnRow_more {k : Nat} {S n m : Nat → Nat} (h : isNet k S n) (hS : ∀ i, i < 2 * k → S (64 + i) < 16) (g : nnInv n m) (w : ∃ p, p < 16 ∧ m p ≠ n p) : cnt 16 (fun p => m p = n p) < cnt 16 (fun p => nnRow S m k p = n p) := by
  obtain ⟨p, hp, hne⟩ := w
  apply Classical.byContradiction
  intro hno
  have hall : ∀ i, i < k → (m (S (64 + 2 * i)) = n (S (64 + 2 * i)) ↔ m (S (64 + 2 * i + 1)) = n (S (64 + 2 * i + 1))) := by
    intro i hi
    apply Classical.byContradiction
    intro hd
    have ha := hS (2 * i) (by omega)
    have hb := hS (2 * i + 1) (by omega)
    rw [← Nat.add_assoc] at hb
    have hit : m (S (64 + 2 * i)) = n (S (64 + 2 * i)) ∨ m (S (64 + 2 * i + 1)) = n (S (64 + 2 * i + 1)) := by
      apply Classical.byContradiction
      intro hz
      exact hd ⟨fun q => absurd (Or.inl q) hz, fun q => absurd (Or.inr q) hz⟩
    have h2 := nnRow_hit h hS g hi hit k (Nat.le_refl k) hi
    apply hno
    refine cnt_lt 16 (fun q hq e => nnRow_keep h hS g (Nat.le_refl k) hq e) ?_
    by_cases h1 : m (S (64 + 2 * i)) = n (S (64 + 2 * i))
    · exact ⟨_, hb, fun e => hd ⟨fun _ => e, fun _ => h1⟩, h2.2⟩
    · exact ⟨_, ha, h1, h2.1⟩
  have hc := h.2.2 (fun q => @ite _ (m q = n q) (Classical.propDecidable _) 1 0) (by
    intro i hi
    dsimp only
    by_cases h1 : m (S (64 + 2 * i)) = n (S (64 + 2 * i))
    · rw [if_pos h1, if_pos ((hall i hi).mp h1)]
    · rw [if_neg h1, if_neg (fun q => h1 ((hall i hi).mpr q))]) p hp
  try dsimp only at hc
  rw [if_neg hne, if_pos] at hc
  · cases hc
  · have q1 := g (n p) (isNet_lt h hp)
    have q2 := nnInv_ge h g (isNet_lt h hp)
    have q3 := isNet_idem h hp
    omega
def nnTurn (k : Nat) (S m : Nat → Nat) : Nat → Nat → Nat
  | 0 => m
  | t + 1 => nnRow S (nnTurn k S m t) k
theorem nnTurn_inv {k : Nat} {S n m : Nat → Nat} (h : isNet k S n) (hS : ∀ i, i < 2 * k → S (64 + i) < 16) (g : nnInv n m) : ∀ t, nnInv n (nnTurn k S m t)
  | 0 => g
  | t + 1 => (nnRow_inv h hS (nnTurn_inv h hS g t) k (Nat.le_refl k)).1
theorem nnTurn_cnt {k : Nat} {S n m : Nat → Nat} (h : isNet k S n) (hS : ∀ i, i < 2 * k → S (64 + i) < 16) (g : nnInv n m) : ∀ t, t ≤ 16 → t ≤ cnt 16 (fun p => nnTurn k S m t p = n p)
  | 0, _ => Nat.zero_le _
  | t + 1, ht => by
    have ih := nnTurn_cnt h hS g t (by omega)
    by_cases w : ∃ p, p < 16 ∧ nnTurn k S m t p ≠ n p
    · have := nnRow_more h hS (nnTurn_inv h hS g t) w
      simp only [nnTurn]
      omega
    · have hall : ∀ p, p < 16 → nnTurn k S m t p = n p := fun p hp => Classical.byContradiction fun q => w ⟨p, hp, q⟩
      have e : cnt 16 (fun p => nnTurn k S m (t + 1) p = n p) = cnt 16 (fun _ => True) := cnt_congr 16 fun p hp => ⟨fun _ => trivial, fun _ => nnRow_keep h hS (nnTurn_inv h hS g t) (Nat.le_refl k) hp (hall p hp)⟩
      rw [e]
      have : cnt 16 (fun _ => True) = 16 := by simp [cnt]
      omega
theorem nnTurn_end {k : Nat} {S n : Nat → Nat} (h : isNet k S n) (hS : ∀ i, i < 2 * k → S (64 + i) < 16) {p : Nat} (hp : p < 16) : nnTurn k S (fun p => p) 16 p = n p := by
  have g : nnInv n (fun p => p) := fun q hq => ⟨Nat.le_refl _, rfl⟩
  have h1 := nnTurn_cnt h hS g 16 (Nat.le_refl _)
  have h2 := cnt_le (fun p => nnTurn k S (fun p => p) 16 p = n p) 16
  exact cnt_all (p := fun p => nnTurn k S (fun p => p) 16 p = n p) 16 (Nat.le_antisymm h2 h1) p hp
-- the board: cells 0 .. 239, directions 0 .. 8; what is coded as 'one more' is 0 where there is none
def rx (d : Nat) : Nat := if d = 0 ∨ d = 1 ∨ d = 7 then 2 else if d = 2 ∨ d = 6 then 1 else 0
def ry (d : Nat) : Nat := if d = 1 ∨ d = 2 ∨ d = 3 then 2 else if d = 0 ∨ d = 4 then 1 else 0
def nx (c d : Nat) : Nat := if d = 8 then (if c < 120 then c + 121 else c - 119) else if c % 12 + rx d < 1 ∨ 12 < c % 12 + rx d ∨ c % 120 / 12 + ry d < 1 ∨ 10 < c % 120 / 12 + ry d then 0 else c + 12 * ry d + rx d - 12
def dop (d : Nat) : Nat := if d = 8 then 8 else (d + 4) % 8
def prc (d : Nat) : Nat := if d = 8 then 30 else if d % 2 = 0 then 10 else 14
theorem nx_tab : ∀ c : Fin 240, ∀ d : Fin 9, nx c.val d.val = 0 ∨ (nx c.val d.val ≤ 240 ∧ nx (nx c.val d.val - 1) (dop d.val) = c.val + 1 ∧ dop d.val < 9 ∧ prc (dop d.val) = prc d.val) := by decide +kernel
theorem nx_ok {c d : Nat} (hc : c < 240) (hd : d < 9) (h : nx c d ≠ 0) : nx c d ≤ 240 ∧ nx (nx c d - 1) (dop d) = c + 1 ∧ dop d < 9 ∧ prc (dop d) = prc d := (nx_tab ⟨c, hc⟩ ⟨d, hd⟩).resolve_left h
theorem prc_pos (d : Nat) : 10 ≤ prc d ∧ prc d ≤ 30 := by unfold prc; split <;> (try split) <;> omega
def nE (c e : Nat) : Prop := ∃ d, d < 9 ∧ nx c d = e + 1
theorem nE_lt {c e : Nat} (hc : c < 240) (h : nE c e) : e < 240 := by
  obtain ⟨d, hd, h⟩ := h
  have := nx_ok hc hd (by omega)
  omega
theorem nE_sym {c e : Nat} (hc : c < 240) (h : nE c e) : nE e c := by
  obtain ⟨d, hd, h⟩ := h
  have := nx_ok hc hd (by omega)
  rw [h, Nat.add_sub_cancel] at this
  exact ⟨dop d, this.2.2.1, this.2.1⟩
-- a piece: the cells of Q that hang together with s
def eC (Q : Nat → Prop) (f : Nat → Nat) : Prop := ∀ c e, c < 240 → e < 240 → Q c → Q e → nE c e → f c = f e
def isPc (Q : Nat → Prop) (s : Nat) (I : Nat → Prop) : Prop := I s ∧ (∀ c, c < 240 → I c → Q c) ∧ (∀ c e, c < 240 → e < 240 → I c → Q e → nE c e → I e) ∧ ∀ f, eC Q f → ∀ c, c < 240 → I c → f c = f s
theorem isPc_sub {Q I J : Nat → Prop} {s : Nat} (h : isPc Q s I) (g : isPc Q s J) {c : Nat} (hc : c < 240) (hI : I c) : J c := by
  have h1 := h.2.2.2 (fun q => @ite _ (J q) (Classical.propDecidable _) 1 0) (by
    intro a b ha hb qa qb hab
    dsimp only
    by_cases ja : J a
    · rw [if_pos ja, if_pos (g.2.2.1 a b ha hb ja qb hab)]
    · rw [if_neg ja, if_neg (fun jb => ja (g.2.2.1 b a hb ha jb qa (nE_sym ha hab)))]) c hc hI
  try dsimp only at h1
  rw [if_pos g.1] at h1
  apply Classical.byContradiction
  intro n
  rw [if_neg n] at h1
  cases h1
/-- labels of the reference at rest -/
def isLab (Q : Nat → Prop) (L : Nat → Nat) : Prop := eC Q L ∧ (∀ c, c < 240 → Q c → L c < 240 ∧ Q (L c)) ∧ ∀ f, eC Q f → ∀ c, c < 240 → Q c → f (L c) = f c
theorem isLab_pc {Q I : Nat → Prop} {L : Nat → Nat} {s : Nat} (h : isLab Q L) (g : isPc Q s I) (hs : s < 240) {c : Nat} (hc : c < 240) (hq : Q c) : L c = L s ↔ I c := by
  constructor
  · intro e
    have ec : eC Q (fun q => @ite _ (I q) (Classical.propDecidable _) 1 0) := by
      intro a b ha hb qa qb hab
      dsimp only
      by_cases ja : I a
      · rw [if_pos ja, if_pos (g.2.2.1 a b ha hb ja qb hab)]
      · rw [if_neg ja, if_neg (fun jb => ja (g.2.2.1 b a hb ha jb qa (nE_sym ha hab)))]
    have h1 := h.2.2 _ ec c hc hq
    have h2 := h.2.2 _ ec s hs (g.2.1 s hs g.1)
    rw [e, h2] at h1
    try dsimp only at h1
    rw [if_pos g.1] at h1
    apply Classical.byContradiction
    intro n
    rw [if_neg n] at h1
    cases h1
  · intro hI
    exact g.2.2.2 L h.1 c hc hI
-- costs: I the piece, F the free cells

def isCost (I F : Nat → Prop) (C : Nat → Nat) : Prop := (∀ c, c < 240 → I c → C c = 0) ∧ (∀ c, c < 240 → ¬ I c → ¬ F c → C c = 1000000) ∧ (∀ c, c < 240 → C c ≤ 1000000) ∧ (∀ c d, c < 240 → d < 9 → ¬ I c → F c → nx c d ≠ 0 → C c ≤ C (nx c d - 1) + prc d) ∧ ∀ c, c < 240 → ¬ I c → C c < 1000000 → ∃ d, d < 9 ∧ nx c d ≠ 0 ∧ C (nx c d - 1) + prc d ≤ C c
theorem isCost_le {I F : Nat → Prop} {C D : Nat → Nat} (h : isCost I F C) (g : isCost I F D) : ∀ k c, c < 240 → C c ≤ k → C c < 1000000 → D c ≤ C c
  | k, c, hc, hk, hf => by
    by_cases hI : I c
    · rw [g.1 c hc hI]; exact Nat.zero_le _
    · by_cases hF : F c
      · obtain ⟨d, hd, hn, hl⟩ := h.2.2.2.2 c hc hI hf
        have hp := prc_pos d
        have he := (nx_ok hc hd hn).1
        match k, hk with
        | 0, hk => omega
        | k + 1, hk =>
          have ih := isCost_le h g k (nx c d - 1) (by omega) (by omega) (by omega)
          have := g.2.2.2.1 c d hc hd hI hF hn
          omega
      · have := h.2.1 c hc hI hF
        omega
theorem isCost_uniq {I F : Nat → Prop} {C D : Nat → Nat} (h : isCost I F C) (g : isCost I F D) {c : Nat} (hc : c < 240) : C c = D c := by
  have h1 := h.2.2.1 c hc
  have h2 := g.2.2.1 c hc
  by_cases a : C c < 1000000
  · have e1 := isCost_le h g _ c hc (Nat.le_refl _) a
    have e2 := isCost_le g h _ c hc (Nat.le_refl _) (by omega)
    omega
  · by_cases b : D c < 1000000
    · have e2 := isCost_le g h _ c hc (Nat.le_refl _) b
      omega
    · omega
