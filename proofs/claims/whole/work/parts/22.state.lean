/-! Pure: what a sheet is. S has the reference's places: 0 pins, 1 joints, 2 clearance, 16.. kinds, 32.. places, 64.. joints' ends, 112.. bars, 352.. copper (one more than its pin). -/
def bt (v l : Nat) : Nat := v / 2 ^ l % 2
abbrev hp (S : Nat → Nat) (p c : Nat) : Prop := bt (S (32 + p) / 120) (c / 120) = 1 ∧ S (32 + p) % 120 = c % 120
def padF (S : Nat → Nat) : Nat → Nat → Nat
  | 0, _ => 0
  | p + 1, c => if hp S p c then p + 1 else padF S p c
def pad (S : Nat → Nat) (c : Nat) : Nat := padF S (S 0) c
def own (S : Nat → Nat) (c : Nat) : Nat := if pad S c = 0 then S (352 + c) else pad S c
def ow (S n : Nat → Nat) (c : Nat) : Nat := if own S c = 0 then 0 else n (own S c - 1) + 1
def Ok (S : Nat → Nat) : Prop := S 0 ≤ 16 ∧ S 1 ≤ 24 ∧ (1 ≤ S 2 ∧ S 2 ≤ 2) ∧ (∀ p, p < 16 → S (16 + p) < 4) ∧ (∀ p, p < 16 → S (32 + p) = 0 ∨ (120 ≤ S (32 + p) ∧ S (32 + p) < 480 ∧ p < S 0)) ∧ (∀ i, i < 2 * S 1 → S (64 + i) < S 0) ∧
  (∀ c, c < 240 → S (112 + c) ≤ 1 ∧ S (352 + c) ≤ S 0) ∧ (∀ p q c, p < S 0 → q < S 0 → c < 240 → hp S p c → hp S q c → p = q) ∧ (∀ c, c < 240 → pad S c ≠ 0 → S (352 + c) = 0) ∧ (∀ c, c < 240 → S (112 + c) ≠ 0 → own S c = 0)
theorem padF_le (S : Nat → Nat) (c : Nat) : ∀ k, padF S k c ≤ k
  | 0 => Nat.le_refl 0
  | k + 1 => by
    have := padF_le S c k
    simp only [padF]
    split <;> omega
theorem padF_some {S : Nat → Nat} {c p : Nat} : ∀ k, padF S k c = p + 1 → p < k ∧ hp S p c
  | 0, h => by simp [padF] at h
  | k + 1, h => by
    simp only [padF] at h
    by_cases g : hp S k c
    · rw [if_pos g] at h
      have : k = p := by omega
      subst this
      exact ⟨by omega, g⟩
    · rw [if_neg g] at h
      have := padF_some k h
      exact ⟨by omega, this.2⟩
theorem padF_none {S : Nat → Nat} {c : Nat} : ∀ k, padF S k c = 0 → ∀ p, p < k → ¬ hp S p c
  | 0, _, _, h => absurd h (by omega)
  | k + 1, h, p, hpk => by
    simp only [padF] at h
    by_cases g : hp S k c
    · rw [if_pos g] at h; omega
    · rw [if_neg g] at h
      by_cases e : p = k
      · subst e; exact g
      · exact padF_none k h p (by omega)
theorem pad_le {S : Nat → Nat} (h : Ok S) (c : Nat) : pad S c ≤ S 0 ∧ pad S c ≤ 16 := by
  have := padF_le S c (S 0)
  have := h.1
  unfold pad
  omega
theorem pad_some {S : Nat → Nat} {c p : Nat} (e : pad S c = p + 1) : p < S 0 ∧ hp S p c := padF_some (S 0) e
theorem pad_none {S : Nat → Nat} {c : Nat} (e : pad S c = 0) {p : Nat} (hp0 : p < S 0) : ¬ hp S p c := padF_none (S 0) e p hp0
theorem pad_of {S : Nat → Nat} (h : Ok S) {c p : Nat} (hc : c < 240) (hp0 : p < S 0) (g : hp S p c) : pad S c = p + 1 := by
  match e : pad S c with
  | 0 => exact absurd g (pad_none e hp0)
  | k + 1 =>
    have := pad_some e
    rw [h.2.2.2.2.2.2.2.1 k p c this.1 hp0 hc this.2 g]
theorem pad_iff {S : Nat → Nat} (h : Ok S) {c p : Nat} (hc : c < 240) : pad S c = p + 1 ↔ p < S 0 ∧ hp S p c := ⟨pad_some, fun g => pad_of h hc g.1 g.2⟩
theorem pad_congr {S S' : Nat → Nat} (c : Nat) (h0 : S' 0 = S 0) (h : ∀ p, p < S 0 → S' (32 + p) = S (32 + p)) : pad S' c = pad S c := by
  unfold pad
  rw [h0]
  have : ∀ k, k ≤ S 0 → padF S' k c = padF S k c := by
    intro k
    induction k with
    | zero => intro _; rfl
    | succ k ih =>
      intro hk
      simp only [padF, hp]
      rw [h k (by omega), ih (by omega)]
  exact this _ (Nat.le_refl _)
theorem own_le {S : Nat → Nat} (h : Ok S) {c : Nat} (hc : c < 240) : own S c ≤ S 0 ∧ own S c ≤ 16 := by
  have h1 := pad_le h c
  have h2 := (h.2.2.2.2.2.2.1 c hc).2
  have h3 := h.1
  unfold own
  split <;> omega
theorem ow_le {S n : Nat → Nat} (h : Ok S) (hn : ∀ p, p < 16 → n p < 16) {c : Nat} (hc : c < 240) : ow S n c ≤ 16 := by
  have h1 := own_le h hc
  unfold ow
  split
  · omega
  · have := hn (own S c - 1) (by omega)
    omega
theorem ow_z {S n : Nat → Nat} {c : Nat} : ow S n c = 0 ↔ own S c = 0 := by
  unfold ow
  split <;> omega
/-- what the class keeps of a cell -/
def hv (S : Nat → Nat) (c : Nat) : Int32 := if own S c = 0 then (if S (112 + c) = 0 then -1 else -2) else iN (own S c - 1)
theorem hv_neg {S : Nat → Nat} (h : Ok S) {c : Nat} (hc : c < 240) : hv S c < 0 ↔ own S c = 0 := by
  have h1 := own_le h hc
  unfold hv
  by_cases e : own S c = 0
  · rw [if_pos e]
    refine ⟨fun _ => e, fun _ => ?_⟩
    split <;> decide
  · rw [if_neg e]
    exact ⟨fun x => absurd x (iN_nn (by omega)), fun x => absurd x e⟩
theorem hv_m1 {S : Nat → Nat} (h : Ok S) {c : Nat} (hc : c < 240) : hv S c = -1 ↔ own S c = 0 ∧ S (112 + c) = 0 := by
  constructor
  · intro x
    have e : own S c = 0 := (hv_neg h hc).mp (by rw [x]; decide)
    refine ⟨e, ?_⟩
    unfold hv at x
    rw [if_pos e] at x
    apply Classical.byContradiction
    intro n
    rw [if_neg n] at x
    exact absurd x (by decide)
  · intro x
    unfold hv
    rw [if_pos x.1, if_pos x.2]
theorem hv_m2 {S : Nat → Nat} (h : Ok S) {c : Nat} (hc : c < 240) : hv S c = -2 ↔ S (112 + c) ≠ 0 := by
  constructor
  · intro x n
    have e : own S c = 0 := (hv_neg h hc).mp (by rw [x]; decide)
    have := (hv_m1 h hc).mpr ⟨e, n⟩
    rw [x] at this
    exact absurd this (by decide)
  · intro x
    unfold hv
    rw [if_pos (h.2.2.2.2.2.2.2.2.2 c hc x), if_neg x]
theorem hv_of {S : Nat → Nat} {c : Nat} (e : own S c ≠ 0) : hv S c = iN (own S c - 1) := by unfold hv; rw [if_neg e]
/-- the cell so far from another one: i rows and j columns on, counted from r up and r to the left; one more, 0 where the board ends -/
def sh (r c i j : Nat) : Nat := if c % 12 + j < r ∨ 12 + r ≤ c % 12 + j ∨ c % 120 / 12 + i < r ∨ 10 + r ≤ c % 120 / 12 + i then 0 else c + 12 * i + j - 13 * r + 1
theorem sh_mid {r c : Nat} (hr : r ≤ 2) (hc : c < 240) : sh r c r r = c + 1 := by
  unfold sh
  rw [if_neg (by omega)]
  omega
theorem sh_le {r c i j : Nat} (hc : c < 240) : sh r c i j ≤ 240 := by
  unfold sh
  split
  · omega
  · omega
def fre (S n : Nat → Nat) (c net : Nat) : Prop := S (112 + c) = 0 ∧ ∀ i j, i ≤ 2 * S 2 → j ≤ 2 * S 2 → sh (S 2) c i j ≠ 0 → ow S n (sh (S 2) c i j - 1) = 0 ∨ ow S n (sh (S 2) c i j - 1) = net + 1
theorem fre_self {S n : Nat → Nat} {c net : Nat} (h : Ok S) (hc : c < 240) (f : fre S n c net) : ow S n c = 0 ∨ ow S n c = net + 1 := by
  have h2 := h.2.2.1
  have := f.2 (S 2) (S 2) (by omega) (by omega)
  rw [sh_mid h2.2 hc] at this
  simpa using this
/-- the pad of a placed pin with the least number -/
def fp (S : Nat → Nat) (p : Nat) : Nat := if S (32 + p) / 120 = 2 then 120 + S (32 + p) % 120 else S (32 + p) % 120
