/-! Pure: what a way changes. -/
theorem lay1_at (S : Nat → Nat) (m c i : Nat) : lay1 S m c i = if i = 352 + c ∧ pad S c = 0 then m + 1 else S i := by
  unfold lay1
  by_cases h : pad S c = 0
  · rw [if_pos h]
    unfold up1
    by_cases e : i = 352 + c
    · rw [if_pos e, if_pos ⟨e, h⟩]
    · rw [if_neg e, if_neg (fun x => e x.1)]
  · rw [if_neg h, if_neg (fun x => h x.2)]
theorem lay1_pad (S : Nat → Nat) (hS : S 0 ≤ 16) (m c e : Nat) : pad (lay1 S m c) e = pad S e := by
  refine pad_congr e ?_ (fun p hp => ?_)
  · rw [lay1_at, if_neg (fun x => by omega)]
  · rw [lay1_at, if_neg (fun x => by omega)]
theorem lay1_lo {S : Nat → Nat} {m c i : Nat} (h : i < 352) : lay1 S m c i = S i := by
  rw [lay1_at, if_neg (fun x => by omega)]
/-- a cell costs nothing just where it is of the piece -/
theorem isCost_z {I F : Nat → Prop} {C : Nat → Nat} (h : isCost I F C) {c : Nat} (hc : c < 240) (e : C c = 0) : I c := by
  apply Classical.byContradiction
  intro n
  obtain ⟨d, hd, hn, hl⟩ := h.2.2.2.2 c hc n (by omega)
  have := prc_pos d
  omega
theorem isCost_pass {I F : Nat → Prop} {C : Nat → Nat} (h : isCost I F C) {c : Nat} (hc : c < 240) (e : C c < 1000000) : I c ∨ F c := by
  by_cases hI : I c
  · exact Or.inl hI
  · by_cases hF : F c
    · exact Or.inr hF
    · have := h.2.1 c hc hI hF
      omega
/-- what is left can be gone -/
def wOK (C : Nat → Nat) (c left : Nat) : Prop := left = 0 ∨ left < 1000000 ∧ ∃ d, d < 9 ∧ nx c d ≠ 0 ∧ C (nx c d - 1) + prc d = left
theorem wOK_step {I F : Nat → Prop} {C : Nat → Nat} (h : isCost I F C) {c left : Nat} (hc : c < 240) (hl : wOK C c left) (h0 : left ≠ 0) :
    wst C c left 9 < 240 ∧ nE c (wst C c left 9) ∧ C (wst C c left 9) < left ∧ left < 1000000 ∧ (I (wst C c left 9) ∨ F (wst C c left 9)) ∧ wOK C (wst C c left 9) (C (wst C c left 9)) := by
  have hl := hl.resolve_left h0
  have hw := wst_hit (C := C) (left := left) hc 9 (Nat.le_refl _)
  have he := hw.2.2 hl.2
  obtain ⟨d, hd, e1, e2⟩ := hw.2.1 he
  have hp := prc_pos d
  refine ⟨he, ⟨d, hd, e1⟩, by omega, hl.1, isCost_pass h he (by omega), ?_⟩
  rcases isCost_eq h he with x | x | x
  · exact Or.inl x
  · omega
  · exact Or.inr ⟨by omega, x⟩
theorem wayF_prop {I F : Nat → Prop} {C : Nat → Nat} (h : isCost I F C) (m : Nat) {N : Nat} (hN : N = 240) : ∀ k c left S, S 0 ≤ 16 → c < 240 → wOK C c left → (cnt N (fun a => C a < left) ≤ k) → (∃ a, a < 240 ∧ I a) → (left = 0 → I c) →
    ∃ Y : Nat → Prop, (∀ e, Y e → e < 240 ∧ (I e ∨ F e)) ∧ (∀ i, (∃ e, i = 352 + e ∧ Y e ∧ pad S e = 0) → wayF C m k c left S i = m + 1) ∧ (∀ i, ¬ (∃ e, i = 352 + e ∧ Y e ∧ pad S e = 0) → wayF C m k c left S i = S i) ∧
      ∀ X : Nat → Prop, (∀ e, e < 240 → I e → X e) → (∀ a b, a < 240 → b < 240 → nE a b → X b → (Y a ∨ a = c) → X a) → X c
  | 0, c, left, S, hS, hc, hl, hk, ⟨a, ha, hI⟩, hz => by
    have h0 : left = 0 := by
      apply Classical.byContradiction
      intro h0
      have h1 : cnt N (fun a => C a < left) = 0 := by omega
      have h2 : cnt N (fun _ => False) < cnt N (fun a => C a < left) := cnt_lt N (fun _ _ x => x.elim) ⟨a, by omega, fun x => x, by rw [h.1 a ha hI]; omega⟩
      omega
    refine ⟨fun _ => False, fun _ x => x.elim, fun i x => ?_, fun i _ => rfl, fun X hX _ => hX c hc (hz h0)⟩
    obtain ⟨_, _, x, _⟩ := x
    exact x.elim
  | k + 1, c, left, S, hS, hc, hl, hk, hex, hz => by
    simp only [wayF]
    by_cases h0 : left = 0
    · rw [if_pos h0]
      refine ⟨fun _ => False, fun _ x => x.elim, fun i x => ?_, fun i _ => rfl, fun X hX _ => hX c hc (hz h0)⟩
      obtain ⟨_, _, x, _⟩ := x
      exact x.elim
    · rw [if_neg h0]
      obtain ⟨he, hE, hlt, hlf, hp, hok⟩ := wOK_step h hc hl h0
      generalize wst C c left 9 = e at *
      have hcnt : cnt N (fun a => C a < C e) < cnt N (fun a => C a < left) := cnt_lt N (fun a _ x => by omega) ⟨e, by omega, by omega, hlt⟩
      obtain ⟨Y, y1, y2, y3, y4⟩ := wayF_prop h m hN k e (C e) (lay1 S m e) (by rw [lay1_lo (by omega)]; exact hS) he hok (by omega) hex (fun z => isCost_z h he z)
      have hpad : ∀ x, pad (lay1 S m e) x = pad S x := fun x => lay1_pad S hS m e x
      refine ⟨fun x => Y x ∨ x = e, ?_, ?_, ?_, ?_⟩
      · rintro x (hx | rfl)
        · exact y1 x hx
        · exact ⟨he, hp⟩
      · rintro i ⟨x, rfl, hx, hpx⟩
        by_cases hy : Y x
        · exact y2 _ ⟨x, rfl, hy, by rw [hpad]; exact hpx⟩
        · have hxe := hx.resolve_left hy
          subst hxe
          rw [y3 _ (fun z => by
            obtain ⟨x2, e2, hx2, _⟩ := z
            have : x2 = x := by omega
            exact hy (this ▸ hx2)), lay1_at, if_pos ⟨rfl, hpx⟩]
      · intro i hi
        rw [y3 i (fun z => by
          obtain ⟨x, e1, hx, hpx⟩ := z
          exact hi ⟨x, e1, Or.inl hx, by rw [hpad] at hpx; exact hpx⟩), lay1_at, if_neg (fun z => hi ⟨e, z.1, Or.inr rfl, z.2⟩)]
      · intro X hX hcl
        have hXe : X e := y4 X hX (fun a b ha hb hab hXb hY => hcl a b ha hb hab hXb (Or.inl hY))
        exact hcl c e hc he hE hXe (Or.inr rfl)
