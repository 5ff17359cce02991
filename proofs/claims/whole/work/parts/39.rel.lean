/-! Frames, loops, and what class and reference keep. -/
def fr (L : List Nat) (M M' : qM) : Prop := ∀ q, q ∉ L → M' q = M q
theorem fr_rfl {L : List Nat} {M : qM} : fr L M M := fun _ _ => rfl
theorem fr_tr {L : List Nat} {M M1 M2 : qM} (h : fr L M M1) (g : fr L M1 M2) : fr L M M2 := fun q hq => (g q hq).trans (h q hq)
theorem fr_sub {L L' : List Nat} {M M1 : qM} (h : fr L M M1) (s : ∀ q, q ∈ L → q ∈ L') : fr L' M M1 := fun q hq => h q (fun x => hq (s q x))
theorem fr_ms {L : List Nat} {M : qM} {q j : Nat} {v : Int32} (h : q ∈ L) : fr L M (ms M q j v) := fun k hk => ms_rows (fun e => hk (e ▸ h))
/-- loops: a measure that falls -/
theorem ev_loop {w : qS} {mi pc : Nat} {post : qR} {Inv : Nat → List (Option Value) → qM → Prop} (hb : ∀ k loc M, Inv k loc M → (∀ k' loc' M', k' < k → Inv k' loc' M' → gE w mi pc loc' [] M' post) → gE w mi pc loc [] M post) :
    ∀ k loc M, Inv k loc M → gE w mi pc loc [] M post := by
  intro k
  induction k using Nat.strongRecOn with
  | _ k ih => exact fun loc M h => hb k loc M h (fun k' loc' M' hk h' => ih k' hk loc' M' h')
/-- a loop that counts up -/
theorem ev_for {w : qS} {mi pc : Nat} {post : qR} {Inv : Nat → List (Option Value) → qM → Prop} (n : Nat) (hb : ∀ i loc M, i < n → Inv i loc M → (∀ loc' M', Inv (i + 1) loc' M' → gE w mi pc loc' [] M' post) → gE w mi pc loc [] M post)
    (he : ∀ loc M, Inv n loc M → gE w mi pc loc [] M post) : ∀ i loc M, i ≤ n → Inv i loc M → gE w mi pc loc [] M post := by
  intro i loc M hi h
  refine ev_loop (Inv := fun k loc M => ∃ i, i ≤ n ∧ k = n - i ∧ Inv i loc M) ?_ (n - i) loc M ⟨i, hi, rfl, h⟩
  rintro k loc M ⟨i, hi, rfl, h⟩ rec
  by_cases e : i = n
  · subst e; exact he loc M h
  · exact hb i loc M (by omega) h (fun loc' M' h' => rec (n - (i + 1)) loc' M' (by omega) ⟨i + 1, by omega, rfl, h'⟩)
/-- a sheet of the class at its cell b -/
def RS (S : Nat → Nat) (M : qM) (b : Nat) : Prop := (M b 6 = iN (S 0) ∧ M b 7 = iN (S 1) ∧ M b 8 = iN (S 2)) ∧ (∀ p, p < S 0 → M (b + 1) p = iN (S (16 + p))) ∧ (∀ j, j < S 1 → M (b + 2) j = iN (S (64 + 2 * j)) ∧ M (b + 3) j = iN (S (64 + 2 * j + 1))) ∧
  (∀ p, p < 16 → M (b + 4) p = iN (S (32 + p) % 120) ∧ M (b + 5) p = iN (S (32 + p) / 120)) ∧ ∀ c, c < 240 → M (b + 6) c = hv S c
/-- sheet, nets, how many changes, sheets before them (the oldest first), how many bytes, bytes -/
abbrev qA : Type := (Nat → Nat) × (Nat → Nat) × Nat × (Nat → Nat → Nat) × Nat × (Nat → Nat)
def RA (A : qA) : Prop := Ok A.1 ∧ isNet (A.1 1) A.1 A.2.1 ∧ A.2.2.1 ≤ 16 ∧ (∀ i, i < A.2.2.1 → Ok (A.2.2.2.1 i)) ∧ A.2.2.2.2.1 ≤ 400 ∧ ∀ i, i < A.2.2.2.2.1 → A.2.2.2.2.2 i < 256
/-- the class's board -/
def RB (S n : Nat → Nat) (M : qM) : Prop := RS S M 2 ∧ ∀ p, p < S 0 → M 9 p = iN (n p)
def RH (u : Nat) (H : Nat → Nat → Nat) (t : Nat) (M : qM) : Prop := t < 17 ∧ M 10 1 = iN t ∧ M 10 2 = iN u ∧ ∀ i, i < u → RS (H i) M (29 + 7 * ((t + 17 - u + i) % 17))
def RT (k : Nat) (B : Nat → Nat) (M : qM) : Prop := M 25 1 = iN k ∧ ∀ i, i < k → M 26 i = iN (B i)
def RC (A : qA) (M : qM) : Prop := RB A.1 A.2.1 M ∧ (∃ t, RH A.2.2.1 A.2.2.2.1 t M) ∧ RT A.2.2.2.2.1 A.2.2.2.2.2 M
/-- the reference -/
def FB (S n : Nat → Nat) (M : qM) : Prop := (∀ i, i < 592 → M 149 i = iN (S i)) ∧ (∀ p, p < 16 → M 152 p = iN (n p)) ∧ (∀ c, c < 240 → M 153 c = pm (pad S c)) ∧ ∀ c, c < 240 → M 154 c = pm (ow S n c)
def FH (u : Nat) (H : Nat → Nat → Nat) (M : qM) : Prop := M 148 3 = iN u ∧ ∀ i k, i < u → k < 592 → M 151 (592 * i + k) = iN (H i k)
def FT (k : Nat) (B : Nat → Nat) (M : qM) : Prop := M 148 11 = iN k ∧ ∀ i, i < k → M 158 i = iN (B i)
def RF (A : qA) (M : qM) : Prop := FB A.1 A.2.1 M ∧ FH A.2.2.1 A.2.2.2.1 M ∧ FT A.2.2.2.2.1 A.2.2.2.2.2 M
