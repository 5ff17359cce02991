/-! The cells that the constructors made are the cells of the machine. -/
def aLd (h q1 : Nat) (b1 : Nat → Nat) (q2 q q3 : Nat) (b3 c3 r3 : Nat → Nat) (q4 : Nat) (b4 : Nat → Nat) (q5 : Nat) : Nat → Nat := fun k => [h, q1, b1 1, b1 2, b1 3, b1 4, b1 5, b1 6, b1 7, b1 8, q2, q, q3, b3 1, b3 2, b3 3, b3 4, b3 5, c3 1, r3 0, r3 1, r3 2, c3 2, c3 3, c3 4, q4, b4 1, b4 2, q5].getD k 0
def moC (ca : Nat → ClassId) (mm : Nat → Nat) (f : Nat → Int32) : va_W := [(mm 0, .inr (7, [.ref (mm 1), .ref (mm 2), .ref (mm 3), .int 0, .ref (mm 4), .ref (mm 5), .ref (mm 6), .ref (mm 7), .ref (mm 8), .ref (mm 9), .ref (mm 10), .int 0, .ref (mm 11), .ref (mm 12)])), (mm 1, .inl (ca 0, 592, .inl f)), (mm 2, A0 ca 592), (mm 3, A0 ca 9472), (mm 4, A0 ca 16), (mm 5, A0 ca 240), (mm 6, A0 ca 240), (mm 7, A0 ca 240), (mm 8, Z0 ca 240), (mm 9, A0 ca 240), (mm 10, A0 ca 400), (mm 11, A0 ca 120), (mm 12, A0 ca 16)]
def P1 (ca : Nat → ClassId) (h q1 : Nat) (b1 : Nat → Nat) (q2 q : Nat) (b2 : Nat → Nat) (q3 q4 q5 : Nat) : va_W := (h, .inr (0, [.ref q1, .ref q2, .ref q3, .ref q4, .ref q5])) :: (bdC ca q1 b1 ++ [(q2, .inr (3, [.ref q, .int 0, .int 0])), (q, .inl (ca 2, 17, .inr (.inr (.inr (.inr (fun j => if j < 17 then some (b2 (7 * j)) else none))))))])
def P2 (ca : Nat → ClassId) (q3 : Nat) (b3 c3 r3 : Nat → Nat) (q4 : Nat) (b4 : Nat → Nat) (q5 : Nat) (mm : Nat → Nat) : va_W := roC ca q3 b3 c3 r3 ++ (taC ca q4 b4 ++ ((q5, A0 ca 16) :: moC ca mm (upd (fun _ => 0) 2 1)))
theorem arr_refs {n : Nat} {c : ClassId} {f g : Nat → Option Nat} (h : ∀ j, j < n → f j = g j) : vp_cell c (n, .inr (.inr (.inr (.inr f)))) = vp_cell c (n, .inr (.inr (.inr (.inr g)))) := by
  rw [vp_cell_q, vp_cell_q]
  unfold arrV
  have e : (fun j : Fin n => va_rf (f j.val)) = fun j : Fin n => va_rf (g j.val) := funext fun j => by rw [h j.val j.isLt]
  rw [e]
theorem shs_get (ca : Nat → ClassId) (c : Nat → Nat) : ∀ n i t, i < n → t < 7 → (shs ca c n)[7 * i + t]? = (shC ca (c (7 * i)) (fun u => c (7 * i + u)))[t]?
  | 0, _, _, h, _ => absurd h (by omega)
  | n + 1, i, t, hi, ht => by
    have hlen := shs_len ca c n
    show (shs ca c n ++ shC ca (c (7 * n)) (fun u => c (7 * n + u)))[7 * i + t]? = _
    by_cases e : i < n
    · rw [List.getElem?_append_left (by omega)]
      exact shs_get ca c n i t e ht
    · have : i = n := by omega
      subst this
      rw [List.getElem?_append_right (by omega), hlen, show 7 * i + t - 7 * i = t by omega]
def pos (k : Nat) : Nat := if k < 12 then k else if k < 29 then k + 119 else if k < 148 then k - 17 else k
section MATCH
variable {ca : Nat → ClassId} {h q1 q2 q q3 q4 q5 : Nat} {b1 b2 b3 c3 r3 b4 mm : Nat → Nat} {tR tD tC b : Nat} {D : va_G} {w : qS}
theorem de_split : deC ca h q1 b1 q2 q b2 q3 b3 c3 r3 q4 b4 q5 ++ moC ca mm (upd (fun _ => 0) 2 1) = P1 ca h q1 b1 q2 q b2 q3 q4 q5 ++ (shs ca b2 17 ++ P2 ca q3 b3 c3 r3 q4 b4 q5 mm) := by
  unfold deC hiC hiF P1 P2
  simp only [List.append_assoc, List.cons_append, List.nil_append]
theorem aF_s {aL : Nat → Nat} {i t : Nat} (hi : i < 17) (ht : t < 7) : aF aL b2 mm tR tD tC b (29 + 7 * i + t) = b2 (7 * i + t) := by
  unfold aF
  rw [if_neg (by omega), if_pos (by omega), show 29 + 7 * i + t - 29 = 7 * i + t by omega]
theorem M0_h {i : Nat} (hi : i < 17) : M0 (29 + 7 * i + 6) = fH 240 := by
  unfold M0
  rw [if_pos (Or.inr ⟨by omega, by omega, by omega⟩)]
theorem M0_o {i : Nat} (hi : i < 17) : M0 (29 + 7 * i) = fun j => if j = 8 then 1 else 0 := by
  unfold M0
  rw [if_neg (by omega), if_pos (Or.inr ⟨by omega, by omega, by omega⟩)]
theorem M0_a {i t : Nat} (hi : i < 17) (ht : 0 < t) (ht6 : t < 6) : M0 (29 + 7 * i + t) = fun _ => 0 := by
  unfold M0
  rw [if_neg (by omega), if_neg (by omega), if_neg (by omega)]
theorem mt {k : Nat} (hk : k < 161) : ∃ e, (P1 ca h q1 b1 q2 q b2 q3 q4 q5 ++ (shs ca b2 17 ++ P2 ca q3 b3 c3 r3 q4 b4 q5 mm))[pos k]? = some (aF (aLd h q1 b1 q2 q q3 b3 c3 r3 q4 b4 q5) b2 mm tR tD tC b k, e) ∧
    ∀ H, va_at D kCl (aF (aLd h q1 b1 q2 q q3 b3 c3 r3 q4 b4 q5) b2 mm tR tD tC b k, e) H → va_at D kCl (aF (aLd h q1 b1 q2 q q3 b3 c3 r3 q4 b4 q5) b2 mm tR tD tC b k, qv_E (aF (aLd h q1 b1 q2 q q3 b3 c3 r3 q4 b4 q5) b2 mm tR tD tC b) ca (gL w k) (M0 k)) H := by
  have hlen := shs_len ca b2 17
  by_cases a1 : k < 12
  · have e : pos k = k := by unfold pos; rw [if_pos a1]
    rw [e, List.getElem?_append_left (show k < 12 from a1)]
    by_cases x : k = 11
    · subst x
      refine ⟨_, rfl, fun H hh => ?_⟩
      have hh : H[q]? = some (vp_cell (ca 2) (17, .inr (.inr (.inr (.inr (fun j => if j < 17 then some (b2 (7 * j)) else none)))))) := hh
      show H[q]? = some (vp_cell (ca 2) (17, .inr (.inr (.inr (.inr (fun j => (some (29 + 7 * j)).map (aF (aLd h q1 b1 q2 q q3 b3 c3 r3 q4 b4 q5) b2 mm tR tD tC b)))))))
      rw [hh]
      refine congrArg some (arr_refs (fun j hj => ?_))
      rw [if_pos hj]
      show some (b2 (7 * j)) = some (aF _ b2 mm tR tD tC b (29 + 7 * j + 0))
      rw [aF_s hj (by omega)]
      rfl
    · rcases (show k = 0 ∨ k = 1 ∨ k = 2 ∨ k = 3 ∨ k = 4 ∨ k = 5 ∨ k = 6 ∨ k = 7 ∨ k = 8 ∨ k = 9 ∨ k = 10 by omega) with rfl | rfl | rfl | rfl | rfl | rfl | rfl | rfl | rfl | rfl | rfl <;> exact ⟨_, rfl, fun H hh => hh⟩
  · by_cases a2 : k < 29
    · have e : pos k = 12 + (119 + (k - 12)) := by unfold pos; rw [if_neg a1, if_pos a2]; omega
      rw [e, List.getElem?_append_right (show 12 ≤ 12 + (119 + (k - 12)) by omega)]
      rw [show 12 + (119 + (k - 12)) - (P1 ca h q1 b1 q2 q b2 q3 q4 q5).length = 119 + (k - 12) from (by show 12 + (119 + (k - 12)) - 12 = _; omega), List.getElem?_append_right (by omega), hlen, show 119 + (k - 12) - 7 * 17 = k - 12 by omega]
      by_cases x : k = 18
      · subst x
        refine ⟨_, rfl, fun H hh => ?_⟩
        have hh : H[c3 1]? = some (vp_cell (ca 3) (3, .inr (.inr (.inr (.inr (fun i => if i < 3 then some (r3 i) else none)))))) := hh
        show H[c3 1]? = some (vp_cell (ca 3) (3, .inr (.inr (.inr (.inr (fun j => (some (19 + j)).map (aF (aLd h q1 b1 q2 q q3 b3 c3 r3 q4 b4 q5) b2 mm tR tD tC b)))))))
        rw [hh]
        refine congrArg some (arr_refs (fun j hj => ?_))
        rw [if_pos hj]
        rcases (show j = 0 ∨ j = 1 ∨ j = 2 by omega) with rfl | rfl | rfl <;> rfl
      · rcases (show k = 12 ∨ k = 13 ∨ k = 14 ∨ k = 15 ∨ k = 16 ∨ k = 17 ∨ k = 19 ∨ k = 20 ∨ k = 21 ∨ k = 22 ∨ k = 23 ∨ k = 24 ∨ k = 25 ∨ k = 26 ∨ k = 27 ∨ k = 28 by omega) with rfl | rfl | rfl | rfl | rfl | rfl | rfl | rfl | rfl | rfl | rfl | rfl | rfl | rfl | rfl | rfl <;> exact ⟨_, rfl, fun H hh => hh⟩
    · by_cases a3 : k < 148
      · obtain ⟨i, t, hi, ht, rfl⟩ : ∃ i t, i < 17 ∧ t < 7 ∧ k = 29 + 7 * i + t := ⟨(k - 29) / 7, (k - 29) % 7, by omega, by omega, by omega⟩
        have e : pos (29 + 7 * i + t) = 12 + (7 * i + t) := by unfold pos; rw [if_neg a1, if_neg a2, if_pos a3]; omega
        rw [e, List.getElem?_append_right (show 12 ≤ 12 + (7 * i + t) by omega)]
        rw [show 12 + (7 * i + t) - (P1 ca h q1 b1 q2 q b2 q3 q4 q5).length = 7 * i + t from (by show 12 + (7 * i + t) - 12 = _; omega), List.getElem?_append_left (by omega), shs_get ca b2 17 i t hi ht, ly_k hi ht, aF_s hi ht]
        rcases (show t = 0 ∨ t = 1 ∨ t = 2 ∨ t = 3 ∨ t = 4 ∨ t = 5 ∨ t = 6 by omega) with rfl | rfl | rfl | rfl | rfl | rfl | rfl
        · refine ⟨_, rfl, fun H hh => ?_⟩
          have e2 : qv_E (aF (aLd h q1 b1 q2 q q3 b3 c3 r3 q4 b4 q5) b2 mm tR tD tC b) ca (gLk (29 + 7 * i + 0) 0) (M0 (29 + 7 * i + 0)) = .inr (2, [.ref (b2 (7 * i + 1)), .ref (b2 (7 * i + 2)), .ref (b2 (7 * i + 3)), .ref (b2 (7 * i + 4)), .ref (b2 (7 * i + 5)), .ref (b2 (7 * i + 6)), .int 0, .int 0, .int 1]) := by
            rw [show M0 (29 + 7 * i + 0) = M0 (29 + 7 * i) from rfl, M0_o hi, ← aF_s (aL := aLd h q1 b1 q2 q q3 b3 c3 r3 q4 b4 q5) (b2 := b2) (mm := mm) (tR := tR) (tD := tD) (tC := tC) (b := b) hi (show 1 < 7 by omega), ← aF_s (aL := aLd h q1 b1 q2 q q3 b3 c3 r3 q4 b4 q5) (b2 := b2) (mm := mm) (tR := tR) (tD := tD) (tC := tC) (b := b) hi (show 2 < 7 by omega), ← aF_s (aL := aLd h q1 b1 q2 q q3 b3 c3 r3 q4 b4 q5) (b2 := b2) (mm := mm) (tR := tR) (tD := tD) (tC := tC) (b := b) hi (show 3 < 7 by omega), ← aF_s (aL := aLd h q1 b1 q2 q q3 b3 c3 r3 q4 b4 q5) (b2 := b2) (mm := mm) (tR := tR) (tD := tD) (tC := tC) (b := b) hi (show 4 < 7 by omega), ← aF_s (aL := aLd h q1 b1 q2 q q3 b3 c3 r3 q4 b4 q5) (b2 := b2) (mm := mm) (tR := tR) (tD := tD) (tC := tC) (b := b) hi (show 5 < 7 by omega), ← aF_s (aL := aLd h q1 b1 q2 q q3 b3 c3 r3 q4 b4 q5) (b2 := b2) (mm := mm) (tR := tR) (tD := tD) (tC := tC) (b := b) hi (show 6 < 7 by omega)]
            rfl
          rw [e2]
          exact hh
        · exact ⟨_, rfl, fun H hh => by rw [M0_a hi (by omega) (by omega)]; exact hh⟩
        · exact ⟨_, rfl, fun H hh => by rw [M0_a hi (by omega) (by omega)]; exact hh⟩
        · exact ⟨_, rfl, fun H hh => by rw [M0_a hi (by omega) (by omega)]; exact hh⟩
        · exact ⟨_, rfl, fun H hh => by rw [M0_a hi (by omega) (by omega)]; exact hh⟩
        · exact ⟨_, rfl, fun H hh => by rw [M0_a hi (by omega) (by omega)]; exact hh⟩
        · exact ⟨_, rfl, fun H hh => by rw [M0_h hi]; exact hh⟩
      · have e : pos k = 12 + (119 + (17 + (k - 148))) := by unfold pos; rw [if_neg a1, if_neg a2, if_neg a3]; omega
        rw [e, List.getElem?_append_right (show 12 ≤ 12 + (119 + (17 + (k - 148))) by omega)]
        rw [show 12 + (119 + (17 + (k - 148))) - (P1 ca h q1 b1 q2 q b2 q3 q4 q5).length = 119 + (17 + (k - 148)) from (by show 12 + (119 + (17 + (k - 148))) - 12 = _; omega), List.getElem?_append_right (by omega), hlen, show 119 + (17 + (k - 148)) - 7 * 17 = 17 + (k - 148) by omega]
        rcases (show k = 148 ∨ k = 149 ∨ k = 150 ∨ k = 151 ∨ k = 152 ∨ k = 153 ∨ k = 154 ∨ k = 155 ∨ k = 156 ∨ k = 157 ∨ k = 158 ∨ k = 159 ∨ k = 160 by omega) with rfl | rfl | rfl | rfl | rfl | rfl | rfl | rfl | rfl | rfl | rfl | rfl | rfl <;> exact ⟨_, rfl, fun H hh => hh⟩
end MATCH
