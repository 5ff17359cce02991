/-! Spans of nets, and the order in which they are connected. -/
theorem Rt_Ok {S n S' : Nat → Nat} {net : Nat} {v : Int32} (hS : Ok S) (h : Rt S n net v S') : Ok S' := by
  rcases h with ⟨-, -, rfl⟩ | ⟨I, hI, ⟨-, -, rfl⟩ | ⟨m, C, hm, hC, ⟨-, -, rfl⟩ | ⟨h1, -, rfl⟩⟩⟩
  · exact hS
  · exact hS
  · exact hS
  · obtain ⟨p, hp1, hp2⟩ := hI
    refine (Ok_wayF hC m _ _ _ S hS hm.1.1.1 pd2_lt (Or.inr ⟨h1, rchF_hit C _ 9 h1⟩) (fun c hc hor => ?_)).1
    rcases hor with x | x
    · have := hp2.2.1 c hc x
      apply Classical.byContradiction
      intro y
      have := ow_z (n := n).mpr (hS.2.2.2.2.2.2.2.2.2 c hc y)
      omega
    · exact x.1
theorem Ps_Ok {S n : Nat → Nat} {net : Nat} (hS : Ok S) : ∀ t {S'}, Ps S n net t S' → Ok S' ∧ (∀ i, i < 352 → S' i = S i) ∧ ∀ o, o ≠ net → mk S' n o = mk S n o
  | 0, _, h => by
    have h : _ = S := h
    subst h
    exact ⟨hS, fun _ _ => rfl, fun _ _ => rfl⟩
  | t + 1, _, ⟨v, S1, h1, h2, _⟩ => by
    have ih := Ps_Ok hS t h1
    exact ⟨Rt_Ok ih.1 h2, fun i hi => by rw [Rt_lo h2 i hi, ih.2.1 i hi], fun o ho => by rw [mk_other ih.1 ho h2, ih.2.2 o ho]⟩
theorem Rs_Ok {S n S' : Nat → Nat} {net : Nat} {v : Int32} (hS : Ok S) (h : Rs S n net v S') : Ok S' ∧ (∀ i, i < 352 → S' i = S i) ∧ (∀ o, o ≠ net → mk S' n o = mk S n o) ∧ (v = 0 ↔ mk S' n net = 0) := by
  obtain ⟨t, S1, h1, h2, h3⟩ := h
  have ih := Ps_Ok hS t h1
  refine ⟨Rt_Ok ih.1 h2, fun i hi => by rw [Rt_lo h2 i hi, ih.2.1 i hi], fun o ho => by rw [mk_other ih.1 ho h2, ih.2.2 o ho], ?_⟩
  rcases Rt_v ih.1 h2 with ⟨rfl, rfl, k⟩ | ⟨rfl, rfl, m, k⟩ | ⟨k, -⟩
  · rw [mk_of k]
    exact ⟨fun _ => rfl, fun _ => rfl⟩
  · rw [mk_of k]
    exact ⟨fun x => absurd x (by decide), fun x => by omega⟩
  · exact absurd k h3
-- spans
theorem pm_iN_lt {a b : Nat} (ha : a ≤ 2 ^ 31) (hb : b < 2 ^ 31) : pm a < iN b ↔ a < b + 1 := by
  by_cases z : a = 0
  · subst z
    refine ⟨fun _ => by omega, fun _ => ?_⟩
    have h := (Int32.lt_iff_toInt_lt (x := pm 0) (y := iN b)).mpr
    refine h ?_
    rw [iN_toInt hb]
    have : (pm 0).toInt = -1 := rfl
    omega
  · rw [pm_of z, iN_lt (by omega) hb]
    omega
def colP (S : Nat → Nat) (p : Nat) : Nat := S (32 + p) % 12
def rowP (S : Nat → Nat) (p : Nat) : Nat := S (32 + p) % 120 / 12
noncomputable def mnF (P : Nat → Prop) (g : Nat → Nat) (d : Nat) : Nat → Nat
  | 0 => d
  | k + 1 => @ite _ (P k) (Classical.propDecidable _) (if g k < mnF P g d k then g k else mnF P g d k) (mnF P g d k)
noncomputable def mxF (P : Nat → Prop) (g : Nat → Nat) : Nat → Nat
  | 0 => 0
  | k + 1 => @ite _ (P k) (Classical.propDecidable _) (if mxF P g k < g k then g k else mxF P g k) (mxF P g k)
theorem mnF_y {P : Nat → Prop} {g : Nat → Nat} {d k : Nat} (h : P k) : mnF P g d (k + 1) = if g k < mnF P g d k then g k else mnF P g d k := by simp only [mnF]; rw [if_pos h]
theorem mnF_n {P : Nat → Prop} {g : Nat → Nat} {d k : Nat} (h : ¬ P k) : mnF P g d (k + 1) = mnF P g d k := by simp only [mnF]; rw [if_neg h]
theorem mxF_y {P : Nat → Prop} {g : Nat → Nat} {k : Nat} (h : P k) : mxF P g (k + 1) = if mxF P g k < g k then g k else mxF P g k := by simp only [mxF]; rw [if_pos h]
theorem mxF_n {P : Nat → Prop} {g : Nat → Nat} {k : Nat} (h : ¬ P k) : mxF P g (k + 1) = mxF P g k := by simp only [mxF]; rw [if_neg h]
theorem mnF_le (P : Nat → Prop) (g : Nat → Nat) (d : Nat) : ∀ k, mnF P g d k ≤ d
  | 0 => Nat.le_refl _
  | k + 1 => by
    have := mnF_le P g d k
    by_cases h : P k
    · rw [mnF_y h]; split <;> omega
    · rw [mnF_n h]; exact this
theorem mxF_le {P : Nat → Prop} {g : Nat → Nat} {b : Nat} (hg : ∀ k, g k ≤ b) : ∀ k, mxF P g k ≤ b
  | 0 => Nat.zero_le _
  | k + 1 => by
    have := mxF_le (P := P) hg k
    have := hg k
    by_cases h : P k
    · rw [mxF_y h]; split <;> omega
    · rw [mxF_n h]; omega
theorem cnt_y {p : Nat → Prop} {k : Nat} (h : p k) : cnt (k + 1) p = cnt k p + 1 := by rw [cnt_s, if_pos h]
theorem cnt_n {p : Nat → Prop} {k : Nat} (h : ¬ p k) : cnt (k + 1) p = cnt k p := by rw [cnt_s, if_neg h]; rfl
theorem mm_ok {P : Nat → Prop} {g : Nat → Nat} {d : Nat} (hd : ∀ k, g k < d) : ∀ k, (cnt k P = 0 ∧ mnF P g d k = d ∧ mxF P g k = 0) ∨ (0 < cnt k P ∧ mnF P g d k ≤ mxF P g k)
  | 0 => Or.inl ⟨rfl, rfl, rfl⟩
  | k + 1 => by
    have ih := mm_ok (P := P) hd k
    have := hd k
    by_cases h : P k
    · right
      rw [cnt_y h, mnF_y h, mxF_y h]
      refine ⟨by omega, ?_⟩
      rcases ih with ⟨-, e1, e2⟩ | ⟨-, e⟩
      · rw [e1, e2, if_pos (hd k)]
        split <;> omega
      · repeat' split
        all_goals omega
    · rw [cnt_n h, mnF_n h, mxF_n h]; exact ih
noncomputable def sp (S n : Nat → Nat) (net : Nat) : Nat := if cnt (S 0) (inN S n net) < 2 then 0 else mxF (inN S n net) (colP S) (S 0) - mnF (inN S n net) (colP S) 12 (S 0) + (mxF (inN S n net) (rowP S) (S 0) - mnF (inN S n net) (rowP S) 10 (S 0)) + 1
theorem colP_lt (S : Nat → Nat) (p : Nat) : colP S p < 12 := by unfold colP; omega
theorem rowP_lt (S : Nat → Nat) (p : Nat) : rowP S p < 10 := by unfold rowP; omega
theorem sp_le (S n : Nat → Nat) (net : Nat) : sp S n net ≤ 21 := by
  have h1 := mxF_le (P := inN S n net) (g := colP S) (b := 11) (fun k => by have := colP_lt S k; omega) (S 0)
  have h2 := mxF_le (P := inN S n net) (g := rowP S) (b := 9) (fun k => by have := rowP_lt S k; omega) (S 0)
  unfold sp
  split <;> omega
theorem sp_not {S n : Nat → Nat} {net : Nat} (h : ∀ p, ¬ inN S n net p) : sp S n net = 0 := by
  unfold sp
  rw [if_pos (by rw [cnt_none _ (fun i _ => h i)]; omega)]
section SPAN
variable {w : qS} {S n : Nat → Nat} {M : qM}
theorem sp_val {net : Nat} (h0 : S 0 ≤ 16) : (if iN (cnt (S 0) (inN S n net)) < (iN 2) then (-1) else (((iN (mxF (inN S n net) (colP S) (S 0)) - iN (mnF (inN S n net) (colP S) 12 (S 0))) + iN (mxF (inN S n net) (rowP S) (S 0))) - iN (mnF (inN S n net) (rowP S) 10 (S 0))) : Int32) = pm (sp S n net) := by
  have hc := cnt_le (inN S n net) (S 0)
  have h1 := mm_ok (P := inN S n net) (g := colP S) (d := 12) (colP_lt S) (S 0)
  have h2 := mm_ok (P := inN S n net) (g := rowP S) (d := 10) (rowP_lt S) (S 0)
  unfold sp
  by_cases c : cnt (S 0) (inN S n net) < 2
  · rw [if_pos ((iN_lt (by omega) (by omega)).mpr c), if_pos c]; rfl
  · rw [if_neg (fun x => c ((iN_lt (by omega) (by omega)).mp x)), if_neg c, pm_s, iN_sub (by omega), iN_add, iN_sub (by omega)]
    congr 1
    omega
theorem ct_52 (h : BD S n M) {net : Nat} (hnet : net < 16) : gE w 52 0 [some (.ref 1), some (.int (iN net)), none, none, none, none, none, none] [] M (qv1 M (pm (sp S n net))) := by
  have h0 := h.1.1
  refine wk_52_0 ?_
  refine ev_for (S 0) (Inv := fun i loc M' => M' = M ∧ loc = [some (.ref 1), some (.int (iN net)), some (.int (iN (cnt i (inN S n net)))), some (.int (iN (mnF (inN S n net) (colP S) 12 i))), some (.int (iN (mxF (inN S n net) (colP S) i))), some (.int (iN (mnF (inN S n net) (rowP S) 10 i))), some (.int (iN (mxF (inN S n net) (rowP S) i))), some (.int (iN i))]) ?_ ?_ 0 _ _ (Nat.zero_le _) ⟨rfl, rfl⟩
  · rintro i loc M' hi ⟨eM, rfl⟩ rec
    subst eM
    have hni := h.2.1 i (by omega)
    have e9 : M' 9 (iN i).toNatClampNeg = iN (n i) := by rw [iN_ix (by omega)]; exact rb_net h (by omega)
    have e6 : M' 6 (iN i).toNatClampNeg = iN (S (32 + i) % 120) := by rw [iN_ix (by omega)]; exact (h.2.2.1.2.2.2.1 i (by omega)).1
    have b1 := mnF_le (inN S n net) (colP S) 12 i
    have b2 := mnF_le (inN S n net) (rowP S) 10 i
    have b3 := mxF_le (P := inN S n net) (g := colP S) (b := 11) (fun k => by have := colP_lt S k; omega) i
    have b4 := mxF_le (P := inN S n net) (g := rowP S) (b := 9) (fun k => by have := rowP_lt S k; omega) i
    have d1 := colP_lt S i
    have d2 := rowP_lt S i
    refine wk_52_18 (r1 := bi (S (32 + i) ≠ 0)) (r2 := iN (colP S i)) (r3 := iN (rowP S i)) (fun c1 => absurd (by rw [rb_pins h]; exact (iN_lt (by omega) (by omega)).mpr hi) c1) (fun _ => iN_in (by omega) (by omega)) (fun _ => ?_) (fun _ _ => ct_30 h (by omega)) (fun _ _ _ => ?_) (fun _ _ _ => ?_)
    · refine rec _ _ ⟨rfl, ?_⟩
      rw [e9, iN_succ i]
      by_cases a : n i = net
      · rw [if_pos (show iN (n i) = iN net by rw [a]), if_pos (show iN (n i) = iN net by rw [a]), if_pos (show iN (n i) = iN net by rw [a]), if_pos (show iN (n i) = iN net by rw [a]), if_pos (show iN (n i) = iN net by rw [a])]
        by_cases b : S (32 + i) ≠ 0
        · have hP : inN S n net i := ⟨hi, a, b⟩
          have h10 : ¬ (1 : Int32) = 0 := by decide
          rw [bi_pos b, if_neg h10, if_neg h10, if_neg h10, if_neg h10, if_neg h10, iN_succ, iN_max _ _ (by omega) (by omega), iN_max _ _ (by omega) (by omega), cnt_y hP, mnF_y hP, mnF_y hP, mxF_y hP, mxF_y hP, iN_min _ _ (by omega) (by omega), iN_min _ _ (by omega) (by omega)]
        · have hP : ¬ inN S n net i := fun x => b x.2.2
          rw [bi_neg b, if_pos rfl, if_pos rfl, if_pos rfl, if_pos rfl, if_pos rfl, cnt_n hP, mnF_n hP, mnF_n hP, mxF_n hP, mxF_n hP]
      · have hP : ¬ inN S n net i := fun x => a x.2.1
        have hn : ¬ iN (n i) = iN net := fun x => a ((iN_eq (by omega) (by omega)).mp x)
        rw [if_neg hn, if_neg hn, if_neg hn, if_neg hn, if_neg hn, cnt_n hP, mnF_n hP, mnF_n hP, mxF_n hP, mxF_n hP]
    · rw [e6]
      have := ct_26 (w := w) (M := M') (c := S (32 + i) % 120) (by omega)
      rw [show S (32 + i) % 120 % 12 = colP S i by unfold colP; omega] at this
      exact this
    · rw [e6]
      have := ct_25 (w := w) (M := M') (c := S (32 + i) % 120) (by omega)
      rw [show S (32 + i) % 120 % 120 / 12 = rowP S i by unfold rowP; omega] at this
      exact this
  · rintro loc M' ⟨eM, rfl⟩
    subst eM
    have hno : ∀ {α : Prop}, iN (S 0) < M' 2 6 → α := fun c => by rw [rb_pins h] at c; exact lt_no c
    exact wk_52_18 (r1 := 0) (r2 := 0) (r3 := 0) (fun _ => qv1_i (sp_val h0)) (fun c => hno c) (fun c => hno c) (fun c => hno c) (fun c => hno c) (fun c => hno c)
theorem ct_115 (h : RD S n M) {net : Nat} (hnet : net < 16) : gE w 115 0 [some (.ref 148), some (.int (iN net)), none, none, none, none, none, none, none, none, none] [] M (qv1 M (pm (sp S n net))) := by
  have h0 := h.1.1
  have ep : M 149 0 = iN (S 0) := rd_now h (by omega)
  refine wk_115_0 ?_
  refine ev_for (S 0) (Inv := fun i loc M' => M' = M ∧ ∃ x3 x4 x5 x6 o8 o9 o10, ((cnt i (inN S n net) = 0 ∧ x3 = iN 20 ∧ x4 = -1 ∧ x5 = iN 20 ∧ x6 = -1) ∨ (0 < cnt i (inN S n net) ∧ x3 = iN (mnF (inN S n net) (colP S) 12 i) ∧ x4 = iN (mxF (inN S n net) (colP S) i) ∧ x5 = iN (mnF (inN S n net) (rowP S) 10 i) ∧ x6 = iN (mxF (inN S n net) (rowP S) i))) ∧ loc = [some (.ref 148), some (.int (iN net)), some (.int (iN (cnt i (inN S n net)))), some (.int x3), some (.int x4), some (.int x5), some (.int x6), some (.int (iN i)), o8, o9, o10]) ?_ ?_ 0 _ _ (Nat.zero_le _) ⟨rfl, _, _, _, _, _, _, _, Or.inl ⟨rfl, rfl, rfl, rfl, rfl⟩, rfl⟩
  · rintro i loc M' hi ⟨eM, x3, x4, x5, x6, o8, o9, o10, hx, rfl⟩ rec
    subst eM
    have hni := h.2.1 i (by omega)
    have hpi := (h.1.2.2.2.2.1 i (by omega))
    have hlt : S (32 + i) < 480 := by omega
    have e152 : M' 152 (iN i).toNatClampNeg = iN (n i) := by rw [iN_ix (by omega)]; exact h.2.2.2.1 i (by omega)
    have e149 : M' 149 (iN 32 + iN i).toNatClampNeg = iN (S (32 + i)) := by rw [iN_add, iN_ix (by omega)]; exact rd_now h (by omega)
    have b1 := mnF_le (inN S n net) (colP S) 12 i
    have b2 := mnF_le (inN S n net) (rowP S) 10 i
    have b3 := mxF_le (P := inN S n net) (g := colP S) (b := 11) (fun k => by have := colP_lt S k; omega) i
    have b4 := mxF_le (P := inN S n net) (g := rowP S) (b := 9) (fun k => by have := rowP_lt S k; omega) i
    have d1 := colP_lt S i
    have d2 := rowP_lt S i
    have ec : iN (S (32 + i)) - iN (S (32 + i)) / iN 12 * iN 12 = iN (colP S i) := by rw [iN_rem (by omega) (by omega)]; rfl
    have er : (iN (S (32 + i)) - iN (S (32 + i)) / iN 120 * iN 120) / iN 12 = iN (rowP S i) := by rw [iN_rem (by omega) (by omega), iN_div (by omega) (by omega)]; rfl
    refine wk_115_18 (fun c1 => absurd (by rw [ep]; exact (iN_lt (by omega) (by omega)).mpr hi) c1) (fun _ => by rw [iN_add]; exact iN_in (by omega) (by omega)) (fun _ => iN_in (by omega) (by omega)) (fun _ o13 o14 => ?_)
    rw [e152, e149, ec, er, iN_succ i]
    by_cases a : n i = net
    · have ha : iN (n i) = iN net := by rw [a]
      rw [if_pos ha, if_pos ha, if_pos ha, if_pos ha, if_pos ha]
      by_cases b : S (32 + i) ≠ 0
      · have hP : inN S n net i := ⟨hi, a, b⟩
        have hb : 0 < iN (S (32 + i)) := (iN_pos (by omega)).mpr (by omega)
        rw [if_pos hb, if_pos hb, if_pos hb, if_pos hb, if_pos hb, iN_succ]
        refine rec _ _ ⟨rfl, _, _, _, _, _, _, _, Or.inr ⟨by rw [cnt_y hP]; omega, ?_⟩, by rw [cnt_y hP]⟩
        rw [mnF_y hP, mnF_y hP, mxF_y hP, mxF_y hP]
        rcases hx with ⟨hc0, rfl, rfl, rfl, rfl⟩ | ⟨-, rfl, rfl, rfl, rfl⟩
        · rcases mm_ok (P := inN S n net) (g := colP S) (d := 12) (colP_lt S) i with ⟨-, q1, q2⟩ | ⟨q, -⟩
          · rcases mm_ok (P := inN S n net) (g := rowP S) (d := 10) (rowP_lt S) i with ⟨-, q3, q4⟩ | ⟨q, -⟩
            · rw [q1, q2, q3, q4, if_pos ((iN_lt (by omega) (by omega)).mpr (by omega)), if_pos ((iN_lt (by omega) (by omega)).mpr (by omega)), if_pos (show colP S i < 12 from d1), if_pos (show rowP S i < 10 from d2)]
              have m1 : ∀ x, x < 12 → (if (-1 : Int32) < iN x then iN x else -1) = iN (if 0 < x then x else 0) := by
                intro x hx
                have : (-1 : Int32) < iN x := by
                  have := (pm_iN_lt (a := 0) (b := x) (by omega) (by omega)).mpr (by omega)
                  exact this
                rw [if_pos this]
                by_cases z : 0 < x
                · rw [if_pos z]
                · rw [if_neg z, show x = 0 by omega]
              exact ⟨rfl, m1 _ (by omega), rfl, m1 _ (by omega)⟩
            · omega
          · omega
        · rw [iN_max _ _ (by omega) (by omega), iN_max _ _ (by omega) (by omega), iN_min _ _ (by omega) (by omega), iN_min _ _ (by omega) (by omega)]
          exact ⟨rfl, rfl, rfl, rfl⟩
      · have hP : ¬ inN S n net i := fun x => b x.2.2
        have hb : ¬ 0 < iN (S (32 + i)) := fun x => b (by have := (iN_pos (by omega)).mp x; omega)
        rw [if_neg hb, if_neg hb, if_neg hb, if_neg hb, if_neg hb]
        exact rec _ _ ⟨rfl, _, _, _, _, _, _, _, by rw [cnt_n hP, mnF_n hP, mnF_n hP, mxF_n hP, mxF_n hP]; exact hx, by rw [cnt_n hP]⟩
    · have hP : ¬ inN S n net i := fun x => a x.2.1
      have hn : ¬ iN (n i) = iN net := fun x => a ((iN_eq (by omega) (by omega)).mp x)
      rw [if_neg hn, if_neg hn, if_neg hn, if_neg hn, if_neg hn]
      exact rec _ _ ⟨rfl, _, _, _, _, _, _, _, by rw [cnt_n hP, mnF_n hP, mnF_n hP, mxF_n hP, mxF_n hP]; exact hx, by rw [cnt_n hP]⟩
  · rintro loc M' ⟨eM, x3, x4, x5, x6, o8, o9, o10, hx, rfl⟩
    subst eM
    have hno : ∀ {α : Prop}, iN (S 0) < M' 149 0 → α := fun c => by rw [ep] at c; exact lt_no c
    refine wk_115_18 (fun _ => qv1_i ?_) (fun c => hno c) (fun c => hno c) (fun c => hno c)
    rcases hx with ⟨hc0, -⟩ | ⟨-, rfl, rfl, rfl, rfl⟩
    · unfold sp
      rw [hc0, if_pos (by decide), if_pos (by omega)]; rfl
    · exact sp_val h0
end SPAN
