/-! The class: the missing pin. -/
theorem fp_hp {S : Nat → Nat} (h : Ok S) {p : Nat} (hp0 : p < S 0) (hpl : S (32 + p) ≠ 0) : hp S p (fp S p) := by
  have h0 := h.1
  have h1 := (h.2.2.2.2.1 p (by omega)).resolve_left hpl
  have hv : S (32 + p) / 120 = 1 ∨ S (32 + p) / 120 = 2 ∨ S (32 + p) / 120 = 3 := by omega
  unfold hp fp
  rcases hv with e | e | e
  · rw [e, if_neg (by omega), show S (32 + p) % 120 / 120 = 0 by omega]
    exact ⟨by decide, by omega⟩
  · rw [e, if_pos rfl, show (120 + S (32 + p) % 120) / 120 = 1 by omega]
    exact ⟨by decide, by omega⟩
  · rw [e, if_neg (by omega), show S (32 + p) % 120 / 120 = 0 by omega]
    exact ⟨by decide, by omega⟩
theorem ow_pad {S n : Nat → Nat} (h : Ok S) {p c : Nat} (hc : c < 240) (hp0 : p < S 0) (g : hp S p c) : ow S n c = n p + 1 := by
  have e := pad_of h hc hp0 g
  have eo : own S c = p + 1 := by unfold own; rw [if_neg (by omega), e]
  unfold ow
  rw [if_neg (by omega), eo, Nat.add_sub_cancel]
theorem fp_ow {S n : Nat → Nat} (h : Ok S) {net p : Nat} (g : inN S n net p) : ow S n (fp S p) = net + 1 := by
  rw [ow_pad h (fp_lt p) g.1 (fp_hp h g.1 g.2.2), g.2.1]
/-- what missingPin answers and leaves -/
def MP (S n : Nat → Nat) (net : Nat) (M : qM) : qR := fun r M' => ∃ k, k ≤ 16 ∧ r = some (.int (pm k)) ∧ fr [12, 13, 14] M M' ∧ ((k = 0 ∧ Mis S n net 0) ∨ ∃ m I z q, k = m + 1 ∧ isPie S n net I ∧ isMis S n net I m ∧ PS I z q M')
section BMISS
variable {w : qS} {S n : Nat → Nat} {M : qM}
theorem ct_64 (h : BD S n M) {net : Nat} (hnet : net < 16) : gE w 64 0 [some (.ref 12), some (.ref 1), some (.int (iN net)), none, none] [] M (MP S n net M) := by
  have h0 := h.1.1
  refine wk_64_0 ?_
  refine ev_for (S 0) (Inv := fun p loc M' => fr [12, 13, 14] M M' ∧ ((loc = [some (.ref 12), some (.ref 1), some (.int (iN net)), some (.int 0), some (.int (iN p))] ∧ ∀ q, q < p → ¬ inN S n net q) ∨ (loc = [some (.ref 12), some (.ref 1), some (.int (iN net)), some (.int 1), some (.int (iN p))] ∧ ∃ I z q, isPie S n net I ∧ PS I z q M' ∧ ∀ q, q < p → inN S n net q → I (fp S q)))) ?_ ?_ 0 _ _ (Nat.zero_le _) ⟨fr_rfl, Or.inl ⟨rfl, fun q hq => absurd hq (by omega)⟩⟩
  · rintro p loc M' hp ⟨hf, hloc⟩ rec
    have hb : BD S n M' := BD_fr h (fr_lo hf (by decide))
    have ep : M' 2 6 = iN (S 0) := rb_pins hb
    have hnp := h.2.1 p (by omega)
    have hlt := fp_lt (S := S) p
    -- a pin that is not of the net, or not placed
    have hskip : ¬ inN S n net p → ∀ x3, loc = [some (.ref 12), some (.ref 1), some (.int (iN net)), some (.int x3), some (.int (iN p))] → gE w 64 5 [some (.ref 12), some (.ref 1), some (.int (iN net)), some (.int x3), some (.int (iN p + 1))] [] M' (MP S n net M) := by
      intro hno x3 el
      rw [iN_succ]
      refine rec _ _ ⟨hf, ?_⟩
      rcases hloc with ⟨e1, e2⟩ | ⟨e1, I, z, q, e2, e3, e4⟩
      · rw [el] at e1
        cases e1
        refine Or.inl ⟨rfl, fun q hq => ?_⟩
        by_cases c : q = p
        · rw [c]; exact hno
        · exact e2 q (by omega)
      · rw [el] at e1
        cases e1
        refine Or.inr ⟨rfl, I, z, q, e2, e3, fun q hq hi => ?_⟩
        by_cases c : q = p
        · rw [c] at hi; exact absurd hi hno
        · exact e4 q (by omega) hi
    obtain ⟨x3, el, hx3⟩ : ∃ x3, loc = [some (.ref 12), some (.ref 1), some (.int (iN net)), some (.int x3), some (.int (iN p))] ∧ ((x3 = 0 ∧ ∀ q, q < p → ¬ inN S n net q) ∨ (x3 = 1 ∧ ∃ I z q, isPie S n net I ∧ PS I z q M' ∧ ∀ q, q < p → inN S n net q → I (fp S q))) := by
      rcases hloc with ⟨e1, e2⟩ | ⟨e1, e2⟩
      · exact ⟨0, e1, Or.inl ⟨rfl, e2⟩⟩
      · exact ⟨1, e1, Or.inr ⟨rfl, e2⟩⟩
    have hskip := fun a => hskip a x3 el
    rw [el]
    refine wk_64_5 (r1 := iN (n p)) (r2 := bi (S (32 + p) ≠ 0)) (r3 := iN (fp S p)) (fun c1 => absurd (by rw [ep]; exact (iN_lt (by omega) (by omega)).mpr hp) c1) (fun _ => ct_31 hb (by omega)) (fun _ c2 => ?_) (fun _ _ => ct_30 hb (by omega)) (fun _ _ c3 _ => ct_35 hb (by omega) (bi_ne c3)) (fun _ _ _ _ => iN_in hlt (by omega)) (fun _ c2 c3 c4 c5 => ?_) (fun _ c2 c3 c4 c5 => ?_) (fun _ _ c3 _ => ct_35 hb (by omega) (bi_ne c3)) (fun _ c2 c3 c4 => ?_) (fun _ c2 c3 => ?_)
    · exact hskip (fun x => c2 (by rw [x.2.1]))
    · rcases hx3 with ⟨e1, -⟩ | ⟨e1, I, z, q, e2, e3, e4⟩
      · exact absurd e1 c4
      · rw [iN_ix (by omega), e3.1 _ hlt] at c5
        subst e1
        rw [iN_succ]
        refine rec _ _ ⟨hf, Or.inr ⟨rfl, I, z, q, e2, e3, fun q hq hi => ?_⟩⟩
        by_cases c : q = p
        · rw [c]; exact bi_ne c5
        · exact e4 q (by omega) hi
    · rcases hx3 with ⟨e1, -⟩ | ⟨e1, I, z, q, e2, e3, e4⟩
      · exact absurd e1 c4
      · rw [iN_ix (by omega), e3.1 _ hlt] at c5
        have c2 := (iN_eq (by omega) (by omega)).mp c2
        exact ⟨p + 1, by omega, rfl, hf, Or.inr ⟨p, I, z, q, rfl, e2, ⟨⟨⟨hp, c2, bi_ne c3⟩, bi_eq c5⟩, fun q hq x => x.2 (e4 q hq x.1)⟩, e3⟩⟩
    · rcases hx3 with ⟨e1, e2⟩ | ⟨e1, -⟩
      · have c2 := (iN_eq (by omega) (by omega)).mp c2
        have hin : inN S n net p := ⟨hp, c2, bi_ne c3⟩
        refine (ct_65 hb hnet hlt (fp_ow h.1 hin)).mono ?_
        rintro r M2 ⟨rfl, k1, I, z, q, k2, k3⟩
        refine wk_64_55 ?_
        rw [iN_succ]
        refine rec _ _ ⟨fr_tr hf k1, Or.inr ⟨rfl, I, z, q, ⟨p, ⟨hin, e2⟩, k2⟩, k3, fun q hq hi => ?_⟩⟩
        by_cases c : q = p
        · rw [c]; exact k2.1
        · exact absurd hi (e2 q (by omega))
      · rw [e1] at c4; exact absurd c4 (by decide)
    · exact hskip (fun x => bi_eq c3 x.2.2)
  · rintro loc M' ⟨hf, hloc⟩
    have hb : BD S n M' := BD_fr h (fr_lo hf (by decide))
    have ep : M' 2 6 = iN (S 0) := rb_pins hb
    obtain ⟨x3, el, hx3⟩ : ∃ x3, loc = [some (.ref 12), some (.ref 1), some (.int (iN net)), some (.int x3), some (.int (iN (S 0)))] ∧ Mis S n net 0 := by
      rcases hloc with ⟨e1, e2⟩ | ⟨e1, I, z, q, e2, e3, e4⟩
      · exact ⟨0, e1, Or.inl ⟨rfl, fun p hi => e2 p hi.1 hi⟩⟩
      · exact ⟨1, e1, Or.inr ⟨I, e2, Or.inl ⟨rfl, fun p hi => hi.2 (e4 p hi.1.1 hi.1)⟩⟩⟩
    rw [el]
    have hno : ∀ {α : Prop}, iN (S 0) < M' 2 6 → α := fun c1 => absurd (by rw [ep] at c1; exact (iN_lt (by omega) (by omega)).mp c1) (by omega)
    exact wk_64_5 (r1 := 0) (r2 := 0) (r3 := 0) (fun _ => ⟨0, by omega, rfl, hf, Or.inl ⟨rfl, hx3⟩⟩) (fun c1 => hno c1) (fun c1 => hno c1) (fun c1 => hno c1) (fun c1 => hno c1) (fun c1 => hno c1) (fun c1 => hno c1) (fun c1 => hno c1) (fun c1 => hno c1) (fun c1 => hno c1) (fun c1 => hno c1)
end BMISS
