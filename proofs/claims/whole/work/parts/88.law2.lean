/-! The law: class and reference side by side. -/
theorem RC_lo {A : qA} {M M' : qM} (h : RC A M) (e : ∀ q, q < 148 → M' q = M q) : RC A M' := by
  obtain ⟨h1, ⟨t, h2⟩, h3⟩ := h
  exact ⟨RB_fr h1 (fun q hq => e q (by omega)), ⟨t, h2.1, by rw [e 10 (by omega)]; exact h2.2.1, by rw [e 10 (by omega)]; exact h2.2.2.1, fun i hi => RS_fr (h2.2.2.2 i hi) (fun j hj => e _ (by have := Nat.mod_lt (t + 17 - A.2.2.1 + i) (show 17 > 0 by omega); omega))⟩, by rw [e 25 (by omega)]; exact h3.1, fun i hi => by rw [e 26 (by omega)]; exact h3.2 i hi⟩
theorem w5 {k i : Nat} (hk : k ≤ 100000) (hi : i ≤ 200000) : (Int32.ofNat k - iN 5 < iN i) ↔ k < i + 5 := by
  by_cases h : 5 ≤ k
  · rw [iN_sub h, iN_lt (by omega) (by omega)]
    omega
  · refine ⟨fun _ => by omega, fun _ => ?_⟩
    have key : ∀ m, m < 5 → iN m - iN 5 < 0 := by
      intro m hm
      rcases (show m = 0 ∨ m = 1 ∨ m = 2 ∨ m = 3 ∨ m = 4 by omega) with rfl | rfl | rfl | rfl | rfl <;> decide
    have h1 := key k (by omega)
    have h2 : ¬ iN i < 0 := iN_nn (by omega)
    exact Int32.lt_of_lt_of_le h1 (Int32.not_lt.mp h2)
/-- class and reference stand alike -/
def BOTH (M : qM) : Prop := ∃ A, RA2 A ∧ RC A M ∧ RF A M
def at18 (w : qS) (i : Nat) (post : qR) : Prop := ∀ M, BOTH M → gE w 123 18 [some (.ref 210), some (.ref 0), some (.ref 148), some (.int (iN i))] [] M post
section LAW
variable {w : qS} {M : qM} {post : qR}
theorem law_n {i : Nat} (hn : at18 w (i + 5) post) {A A' : qA} {M1 M2 : qM} (hRA : RA2 A') (hC : RC A' M1) (hF : RF A' M2) (hf : ∀ q, q < 148 → M2 q = M1 q) : gE w 123 694 [some (.ref 210), some (.ref 0), some (.ref 148), some (.int (iN i))] [] M2 post := by
  refine wk_123_694 ?_
  rw [iN_add]
  exact hn M2 ⟨A', hRA, RC_lo hC hf, hF⟩
theorem law_pin {i : Nat} (hi : i + 5 ≤ w.1) (hw : w.1 ≤ 100000) (hn : at18 w (i + 5) post) (h : BOTH M) : gE w 123 128 [some (.ref 210), some (.ref 0), some (.ref 148), some (.int (iN i))] [] M post := by
  obtain ⟨A, hA, hC, hF⟩ := h
  refine wk_123_128 (by rw [iN_succ]; exact iN_in (by omega) (by omega)) ((cl_pin hA hC).mono ?_)
  rintro r M1 ⟨v, A', rfl, hSt, hRA, hC1, hf1⟩
  refine wk_123_137 (by rw [iN_succ]; exact iN_in (by omega) (by omega)) ((rf_pin hA hSt (RF_fr hF (fun q hq => hf1 q (by omega)))).mono ?_)
  rintro r M2 ⟨rfl, hF2, hf2⟩
  exact wk_123_146 (fun _ => law_n hn (A := A) hRA hC1 hF2 hf2) (fun c => absurd rfl c)
theorem law_join {i : Nat} (hi : i + 5 ≤ w.1) (hw : w.1 ≤ 100000) (hn : at18 w (i + 5) post) (h : BOTH M) : gE w 123 151 [some (.ref 210), some (.ref 0), some (.ref 148), some (.int (iN i))] [] M post := by
  obtain ⟨A, hA, hC, hF⟩ := h
  refine wk_123_151 (by rw [iN_succ]; exact iN_in (by omega) (by omega)) (by rw [iN_add]; exact iN_in (by omega) (by omega)) ((cl_join hA hC).mono ?_)
  rintro r M1 ⟨v, A', rfl, hSt, hRA, hC1, hf1⟩
  refine wk_123_165 (by rw [iN_succ]; exact iN_in (by omega) (by omega)) (by rw [iN_add]; exact iN_in (by omega) (by omega)) ((rf_join hA hSt (RF_fr hF (fun q hq => hf1 q (by omega)))).mono ?_)
  rintro r M2 ⟨rfl, hF2, hf2⟩
  exact wk_123_179 (fun _ => law_n hn (A := A) hRA hC1 hF2 hf2) (fun c => absurd rfl c)
theorem law_part {i : Nat} (hi : i + 5 ≤ w.1) (hw : w.1 ≤ 100000) (hn : at18 w (i + 5) post) (h : BOTH M) : gE w 123 184 [some (.ref 210), some (.ref 0), some (.ref 148), some (.int (iN i))] [] M post := by
  obtain ⟨A, hA, hC, hF⟩ := h
  refine wk_123_184 (by rw [iN_succ]; exact iN_in (by omega) (by omega)) ((cl_part hA hC).mono ?_)
  rintro r M1 ⟨v, A', rfl, hSt, hRA, hC1, hf1⟩
  refine wk_123_193 (by rw [iN_succ]; exact iN_in (by omega) (by omega)) ((rf_part hA hSt (RF_fr hF (fun q hq => hf1 q (by omega)))).mono ?_)
  rintro r M2 ⟨rfl, hF2, hf2⟩
  exact wk_123_202 (fun _ => law_n hn (A := A) hRA hC1 hF2 hf2) (fun c => absurd rfl c)
theorem law_net {i : Nat} (hi : i + 5 ≤ w.1) (hw : w.1 ≤ 100000) (hn : at18 w (i + 5) post) (h : BOTH M) : gE w 123 207 [some (.ref 210), some (.ref 0), some (.ref 148), some (.int (iN i))] [] M post := by
  obtain ⟨A, hA, hC, hF⟩ := h
  refine wk_123_207 (by rw [iN_succ]; exact iN_in (by omega) (by omega)) ((cl_net hA hC).mono ?_)
  rintro r M1 ⟨v, A', rfl, hSt, hRA, hC1, hf1⟩
  refine wk_123_216 (by rw [iN_succ]; exact iN_in (by omega) (by omega)) ((rf_net hA hSt (RF_fr hF (fun q hq => hf1 q (by omega)))).mono ?_)
  rintro r M2 ⟨rfl, hF2, hf2⟩
  exact wk_123_225 (fun _ => law_n hn (A := A) hRA hC1 hF2 hf2) (fun c => absurd rfl c)
theorem law_fault {i : Nat} (hi : i + 5 ≤ w.1) (hw : w.1 ≤ 100000) (hn : at18 w (i + 5) post) (h : BOTH M) : gE w 123 230 [some (.ref 210), some (.ref 0), some (.ref 148), some (.int (iN i))] [] M post := by
  obtain ⟨A, hA, hC, hF⟩ := h
  refine wk_123_230 (by rw [iN_succ]; exact iN_in (by omega) (by omega)) (by rw [iN_add]; exact iN_in (by omega) (by omega)) ((cl_fault hA hC).mono ?_)
  rintro r M1 ⟨v, A', rfl, hSt, hRA, hC1, hf1⟩
  refine wk_123_244 (by rw [iN_succ]; exact iN_in (by omega) (by omega)) (by rw [iN_add]; exact iN_in (by omega) (by omega)) ((rf_fault hA hSt (RF_fr hF (fun q hq => hf1 q (by omega)))).mono ?_)
  rintro r M2 ⟨rfl, hF2, hf2⟩
  exact wk_123_258 (fun _ => law_n hn (A := A) hRA hC1 hF2 hf2) (fun c => absurd rfl c)
theorem law_place {i : Nat} (hi : i + 5 ≤ w.1) (hw : w.1 ≤ 100000) (hn : at18 w (i + 5) post) (h : BOTH M) : gE w 123 263 [some (.ref 210), some (.ref 0), some (.ref 148), some (.int (iN i))] [] M post := by
  obtain ⟨A, hA, hC, hF⟩ := h
  refine wk_123_263 (by rw [iN_succ]; exact iN_in (by omega) (by omega)) (by rw [iN_add]; exact iN_in (by omega) (by omega)) (by rw [iN_add]; exact iN_in (by omega) (by omega)) (by rw [iN_add]; exact iN_in (by omega) (by omega)) ((cl_place hA hC).mono ?_)
  rintro r M1 ⟨v, A', rfl, hSt, hRA, hC1, hf1⟩
  refine wk_123_287 (by rw [iN_succ]; exact iN_in (by omega) (by omega)) (by rw [iN_add]; exact iN_in (by omega) (by omega)) (by rw [iN_add]; exact iN_in (by omega) (by omega)) (by rw [iN_add]; exact iN_in (by omega) (by omega)) ((rf_place hA hSt (RF_fr hF (fun q hq => hf1 q (by omega)))).mono ?_)
  rintro r M2 ⟨rfl, hF2, hf2⟩
  exact wk_123_311 (fun _ => law_n hn (A := A) hRA hC1 hF2 hf2) (fun c => absurd rfl c)
theorem law_lift {i : Nat} (hi : i + 5 ≤ w.1) (hw : w.1 ≤ 100000) (hn : at18 w (i + 5) post) (h : BOTH M) : gE w 123 316 [some (.ref 210), some (.ref 0), some (.ref 148), some (.int (iN i))] [] M post := by
  obtain ⟨A, hA, hC, hF⟩ := h
  refine wk_123_316 (by rw [iN_succ]; exact iN_in (by omega) (by omega)) ((cl_lift hA hC).mono ?_)
  rintro r M1 ⟨v, A', rfl, hSt, hRA, hC1, hf1⟩
  refine wk_123_325 (by rw [iN_succ]; exact iN_in (by omega) (by omega)) ((rf_lift hA hSt (RF_fr hF (fun q hq => hf1 q (by omega)))).mono ?_)
  rintro r M2 ⟨rfl, hF2, hf2⟩
  exact wk_123_334 (fun _ => law_n hn (A := A) hRA hC1 hF2 hf2) (fun c => absurd rfl c)
theorem law_rule {i : Nat} (hi : i + 5 ≤ w.1) (hw : w.1 ≤ 100000) (hn : at18 w (i + 5) post) (h : BOTH M) : gE w 123 339 [some (.ref 210), some (.ref 0), some (.ref 148), some (.int (iN i))] [] M post := by
  obtain ⟨A, hA, hC, hF⟩ := h
  refine wk_123_339 (by rw [iN_succ]; exact iN_in (by omega) (by omega)) ((cl_rule hA hC).mono ?_)
  rintro r M1 ⟨v, A', rfl, hSt, hRA, hC1, hf1⟩
  refine wk_123_348 (by rw [iN_succ]; exact iN_in (by omega) (by omega)) ((rf_rule hA hSt (RF_fr hF (fun q hq => hf1 q (by omega)))).mono ?_)
  rintro r M2 ⟨rfl, hF2, hf2⟩
  exact wk_123_357 (fun _ => law_n hn (A := A) hRA hC1 hF2 hf2) (fun c => absurd rfl c)
theorem law_bar {i : Nat} (hi : i + 5 ≤ w.1) (hw : w.1 ≤ 100000) (hn : at18 w (i + 5) post) (h : BOTH M) : gE w 123 362 [some (.ref 210), some (.ref 0), some (.ref 148), some (.int (iN i))] [] M post := by
  obtain ⟨A, hA, hC, hF⟩ := h
  have hy : ∀ z : Int32, (if z = 0 then 0 else 1 : Int32) = 0 ∨ (if z = 0 then 0 else 1 : Int32) = 1 := fun z => by
    by_cases e : z = 0
    · rw [if_pos e]; exact Or.inl rfl
    · rw [if_neg e]; exact Or.inr rfl
  refine wk_123_362 (by rw [iN_succ]; exact iN_in (by omega) (by omega)) (by rw [iN_add]; exact iN_in (by omega) (by omega)) ((cl_bar (hy _) hA hC).mono ?_)
  rintro r M1 ⟨v, A', rfl, hSt, hRA, hC1, hf1⟩
  refine wk_123_384 (by rw [iN_succ]; exact iN_in (by omega) (by omega)) (by rw [iN_add]; exact iN_in (by omega) (by omega)) ((rf_bar (hy _) hA hSt (RF_fr hF (fun q hq => hf1 q (by omega)))).mono ?_)
  rintro r M2 ⟨rfl, hF2, hf2⟩
  exact wk_123_406 (fun _ => law_n hn (A := A) hRA hC1 hF2 hf2) (fun c => absurd rfl c)
theorem law_track {i : Nat} (hi : i + 5 ≤ w.1) (hw : w.1 ≤ 100000) (hn : at18 w (i + 5) post) (h : BOTH M) : gE w 123 411 [some (.ref 210), some (.ref 0), some (.ref 148), some (.int (iN i))] [] M post := by
  obtain ⟨A, hA, hC, hF⟩ := h
  refine wk_123_411 (by rw [iN_succ]; exact iN_in (by omega) (by omega)) (by rw [iN_add]; exact iN_in (by omega) (by omega)) (by rw [iN_add]; exact iN_in (by omega) (by omega)) (by rw [iN_add]; exact iN_in (by omega) (by omega)) ((cl_track hA hC).mono ?_)
  rintro r M1 ⟨v, A', rfl, hSt, hRA, hC1, hf1⟩
  refine wk_123_435 (by rw [iN_succ]; exact iN_in (by omega) (by omega)) (by rw [iN_add]; exact iN_in (by omega) (by omega)) (by rw [iN_add]; exact iN_in (by omega) (by omega)) (by rw [iN_add]; exact iN_in (by omega) (by omega)) ((rf_track hA hSt (RF_fr hF (fun q hq => hf1 q (by omega)))).mono ?_)
  rintro r M2 ⟨rfl, hF2, hf2⟩
  exact wk_123_459 (fun _ => law_n hn (A := A) hRA hC1 hF2 hf2) (fun c => absurd rfl c)
theorem law_erase {i : Nat} (hi : i + 5 ≤ w.1) (hw : w.1 ≤ 100000) (hn : at18 w (i + 5) post) (h : BOTH M) : gE w 123 464 [some (.ref 210), some (.ref 0), some (.ref 148), some (.int (iN i))] [] M post := by
  obtain ⟨A, hA, hC, hF⟩ := h
  refine wk_123_464 (by rw [iN_succ]; exact iN_in (by omega) (by omega)) ((cl_erase hA hC).mono ?_)
  rintro r M1 ⟨v, A', rfl, hSt, hRA, hC1, hf1⟩
  refine wk_123_473 (by rw [iN_succ]; exact iN_in (by omega) (by omega)) ((rf_erase hA hSt (RF_fr hF (fun q hq => hf1 q (by omega)))).mono ?_)
  rintro r M2 ⟨rfl, hF2, hf2⟩
  exact wk_123_482 (fun _ => law_n hn (A := A) hRA hC1 hF2 hf2) (fun c => absurd rfl c)
theorem law_route {i : Nat} (hi : i + 5 ≤ w.1) (hw : w.1 ≤ 100000) (hn : at18 w (i + 5) post) (h : BOTH M) : gE w 123 487 [some (.ref 210), some (.ref 0), some (.ref 148), some (.int (iN i))] [] M post := by
  obtain ⟨A, hA, hC, hF⟩ := h
  refine wk_123_487 (by rw [iN_succ]; exact iN_in (by omega) (by omega)) ((cl_route hA hC).mono ?_)
  rintro r M1 ⟨v, A', rfl, hSt, hRA, hC1, hf1⟩
  refine wk_123_496 (by rw [iN_succ]; exact iN_in (by omega) (by omega)) ((rf_route hA hSt (RF_fr hF (fun q hq => hf1 q (by omega)))).mono ?_)
  rintro r M2 ⟨rfl, hF2, hf2⟩
  exact wk_123_505 (fun _ => law_n hn (A := A) hRA hC1 hF2 hf2) (fun c => absurd rfl c)
theorem law_rip {i : Nat} (hi : i + 5 ≤ w.1) (hw : w.1 ≤ 100000) (hn : at18 w (i + 5) post) (h : BOTH M) : gE w 123 510 [some (.ref 210), some (.ref 0), some (.ref 148), some (.int (iN i))] [] M post := by
  obtain ⟨A, hA, hC, hF⟩ := h
  refine wk_123_510 (by rw [iN_succ]; exact iN_in (by omega) (by omega)) ((cl_rip hA hC).mono ?_)
  rintro r M1 ⟨v, A', rfl, hSt, hRA, hC1, hf1⟩
  refine wk_123_519 (by rw [iN_succ]; exact iN_in (by omega) (by omega)) ((rf_rip hA hSt (RF_fr hF (fun q hq => hf1 q (by omega)))).mono ?_)
  rintro r M2 ⟨rfl, hF2, hf2⟩
  exact wk_123_528 (fun _ => law_n hn (A := A) hRA hC1 hF2 hf2) (fun c => absurd rfl c)
theorem law_auto {i : Nat} (hi : i + 5 ≤ w.1) (hw : w.1 ≤ 100000) (hn : at18 w (i + 5) post) (h : BOTH M) : gE w 123 533 [some (.ref 210), some (.ref 0), some (.ref 148), some (.int (iN i))] [] M post := by
  obtain ⟨A, hA, hC, hF⟩ := h
  refine wk_123_533  ((cl_auto hA hC).mono ?_)
  rintro r M1 ⟨v, A', rfl, hSt, hRA, hC1, hf1⟩
  refine wk_123_537  ((rf_auto hA hSt (RF_fr hF (fun q hq => hf1 q (by omega)))).mono ?_)
  rintro r M2 ⟨rfl, hF2, hf2⟩
  exact wk_123_541 (fun _ => law_n hn (A := A) hRA hC1 hF2 hf2) (fun c => absurd rfl c)
theorem law_copper {i : Nat} (hi : i + 5 ≤ w.1) (hw : w.1 ≤ 100000) (hn : at18 w (i + 5) post) (h : BOTH M) : gE w 123 546 [some (.ref 210), some (.ref 0), some (.ref 148), some (.int (iN i))] [] M post := by
  obtain ⟨A, hA, hC, hF⟩ := h
  refine wk_123_546 (by rw [iN_succ]; exact iN_in (by omega) (by omega)) ((cl_copper hA hC).mono ?_)
  rintro r M1 ⟨v, A', rfl, hSt, hRA, hC1, hf1⟩
  refine wk_123_555 (by rw [iN_succ]; exact iN_in (by omega) (by omega)) ((rf_copper hSt (RF_fr hF (fun q hq => hf1 q (by omega)))).mono ?_)
  rintro r M2 ⟨rfl, hF2, hf2⟩
  exact wk_123_564 (fun _ => law_n hn (A := A) hRA hC1 hF2 hf2) (fun c => absurd rfl c)
theorem law_check {i : Nat} (hi : i + 5 ≤ w.1) (hw : w.1 ≤ 100000) (hn : at18 w (i + 5) post) (h : BOTH M) : gE w 123 569 [some (.ref 210), some (.ref 0), some (.ref 148), some (.int (iN i))] [] M post := by
  obtain ⟨A, hA, hC, hF⟩ := h
  refine wk_123_569 (by rw [iN_succ]; exact iN_in (by omega) (by omega)) (by rw [iN_add]; exact iN_in (by omega) (by omega)) ((cl_check hA hC).mono ?_)
  rintro r M1 ⟨v, A', rfl, hSt, hRA, hC1, hf1⟩
  refine wk_123_583 (by rw [iN_succ]; exact iN_in (by omega) (by omega)) (by rw [iN_add]; exact iN_in (by omega) (by omega)) ((rf_check hA hSt (RF_fr hF (fun q hq => hf1 q (by omega)))).mono ?_)
  rintro r M2 ⟨rfl, hF2, hf2⟩
  exact wk_123_597 (fun _ => law_n hn (A := A) hRA hC1 hF2 hf2) (fun c => absurd rfl c)
theorem law_plot {i : Nat} (hi : i + 5 ≤ w.1) (hw : w.1 ≤ 100000) (hn : at18 w (i + 5) post) (h : BOTH M) : gE w 123 602 [some (.ref 210), some (.ref 0), some (.ref 148), some (.int (iN i))] [] M post := by
  obtain ⟨A, hA, hC, hF⟩ := h
  refine wk_123_602 (by rw [iN_succ]; exact iN_in (by omega) (by omega)) (by rw [iN_add]; exact iN_in (by omega) (by omega)) ((cl_plot hA hC).mono ?_)
  rintro r M1 ⟨v, A', rfl, hSt, hRA, hC1, hf1⟩
  refine wk_123_616 (by rw [iN_succ]; exact iN_in (by omega) (by omega)) (by rw [iN_add]; exact iN_in (by omega) (by omega)) ((rf_plot hA hSt (RF_fr hF (fun q hq => hf1 q (by omega)))).mono ?_)
  rintro r M2 ⟨rfl, hF2, hf2⟩
  exact wk_123_630 (fun _ => law_n hn (A := A) hRA hC1 hF2 hf2) (fun c => absurd rfl c)
theorem law_read {i : Nat} (hi : i + 5 ≤ w.1) (hw : w.1 ≤ 100000) (hn : at18 w (i + 5) post) (h : BOTH M) : gE w 123 635 [some (.ref 210), some (.ref 0), some (.ref 148), some (.int (iN i))] [] M post := by
  obtain ⟨A, hA, hC, hF⟩ := h
  refine wk_123_635 (by rw [iN_succ]; exact iN_in (by omega) (by omega)) ((cl_read hA hC).mono ?_)
  rintro r M1 ⟨v, A', rfl, hSt, hRA, hC1, hf1⟩
  refine wk_123_644 (by rw [iN_succ]; exact iN_in (by omega) (by omega)) ((rf_read hA hSt (RF_fr hF (fun q hq => hf1 q (by omega)))).mono ?_)
  rintro r M2 ⟨rfl, hF2, hf2⟩
  exact wk_123_653 (fun _ => law_n hn (A := A) hRA hC1 hF2 hf2) (fun c => absurd rfl c)
theorem law_replay {i : Nat} (hi : i + 5 ≤ w.1) (hw : w.1 ≤ 100000) (hn : at18 w (i + 5) post) (h : BOTH M) : gE w 123 658 [some (.ref 210), some (.ref 0), some (.ref 148), some (.int (iN i))] [] M post := by
  obtain ⟨A, hA, hC, hF⟩ := h
  refine wk_123_658 (by rw [iN_succ]; exact iN_in (by omega) (by omega)) ((cl_replay hA hC).mono ?_)
  rintro r M1 ⟨v, A', rfl, hSt, hRA, hC1, hf1⟩
  refine wk_123_667 (by rw [iN_succ]; exact iN_in (by omega) (by omega)) ((rf_replay hA hSt (RF_fr hF (fun q hq => hf1 q (by omega)))).mono ?_)
  rintro r M2 ⟨rfl, hF2, hf2⟩
  exact wk_123_676 (fun _ => law_n hn (A := A) hRA hC1 hF2 hf2) (fun c => absurd rfl c)
theorem law_undo {i : Nat} (hi : i + 5 ≤ w.1) (hw : w.1 ≤ 100000) (hn : at18 w (i + 5) post) (h : BOTH M) : gE w 123 681 [some (.ref 210), some (.ref 0), some (.ref 148), some (.int (iN i))] [] M post := by
  obtain ⟨A, hA, hC, hF⟩ := h
  refine wk_123_681  ((cl_undo hA hC).mono ?_)
  rintro r M1 ⟨v, A', rfl, hSt, hRA, hC1, hf1⟩
  refine wk_123_685  ((rf_undo hA hSt (RF_fr hF (fun q hq => hf1 q (by omega)))).mono ?_)
  rintro r M2 ⟨rfl, hF2, hf2⟩
  exact wk_123_689 (fun _ => law_n hn (A := A) hRA hC1 hF2 hf2) (fun c => absurd rfl c)
theorem law_all (hw : w.1 ≤ 100000) (h : BOTH M) (hp : ∀ M, post (some (.int 1)) M) {o3 : Option Value} : gE w 123 16 [some (.ref 210), some (.ref 0), some (.ref 148), o3] [] M post := by
  refine wk_123_16 ?_
  refine ev_loop (Inv := fun k loc M' => ∃ i, i ≤ w.1 + 5 ∧ k = w.1 + 5 - i ∧ BOTH M' ∧ loc = [some (.ref 210), some (.ref 0), some (.ref 148), some (.int (iN i))]) ?_ (w.1 + 5) _ _ ⟨0, by omega, by omega, h, rfl⟩
  rintro k loc M1 ⟨i, hi, rfl, hB, rfl⟩ rec
  by_cases e : w.1 < i + 5
  · have hl : ∀ {α : Prop}, ¬ Int32.ofNat w.1 - iN 5 < iN i → α := fun c => absurd ((w5 hw (by omega)).mpr e) c
    exact wk_123_18 (fun _ => hp M1) (fun c => hl c) (fun c => hl c) (fun c => hl c) (fun c => hl c) (fun c => hl c) (fun c => hl c) (fun c => hl c) (fun c => hl c) (fun c => hl c) (fun c => hl c) (fun c => hl c) (fun c => hl c) (fun c => hl c) (fun c => hl c) (fun c => hl c) (fun c => hl c) (fun c => hl c) (fun c => hl c) (fun c => hl c) (fun c => hl c) (fun c => hl c) (fun c => hl c)
  · have hl : Int32.ofNat w.1 - iN 5 < iN i → False := fun c => e ((w5 hw (by omega)).mp c)
    have hn : at18 w (i + 5) post := fun M2 hB2 => rec (w.1 + 5 - (i + 5)) _ _ (by omega) ⟨i + 5, by omega, rfl, hB2, rfl⟩
    have hi5 : i + 5 ≤ w.1 := by omega
    refine wk_123_18 (fun c => (hl c).elim) (fun _ => iN_in (by omega) (by omega)) (fun _ _ => law_pin hi5 hw hn hB) (fun _ _ _ => law_join hi5 hw hn hB) (fun _ _ _ _ => law_part hi5 hw hn hB) (fun _ _ _ _ _ => law_net hi5 hw hn hB) (fun _ _ _ _ _ _ => law_fault hi5 hw hn hB) (fun _ _ _ _ _ _ _ => law_place hi5 hw hn hB) (fun _ _ _ _ _ _ _ _ => law_lift hi5 hw hn hB) (fun _ _ _ _ _ _ _ _ _ => law_rule hi5 hw hn hB) (fun _ _ _ _ _ _ _ _ _ _ => law_bar hi5 hw hn hB) (fun _ _ _ _ _ _ _ _ _ _ _ => law_track hi5 hw hn hB) (fun _ _ _ _ _ _ _ _ _ _ _ _ => law_erase hi5 hw hn hB) (fun _ _ _ _ _ _ _ _ _ _ _ _ _ => law_route hi5 hw hn hB) (fun _ _ _ _ _ _ _ _ _ _ _ _ _ _ => law_rip hi5 hw hn hB) (fun _ _ _ _ _ _ _ _ _ _ _ _ _ _ _ => law_auto hi5 hw hn hB) (fun _ _ _ _ _ _ _ _ _ _ _ _ _ _ _ _ => law_copper hi5 hw hn hB) (fun _ _ _ _ _ _ _ _ _ _ _ _ _ _ _ _ _ => law_check hi5 hw hn hB) (fun _ _ _ _ _ _ _ _ _ _ _ _ _ _ _ _ _ _ => law_plot hi5 hw hn hB) (fun _ _ _ _ _ _ _ _ _ _ _ _ _ _ _ _ _ _ _ => law_read hi5 hw hn hB) (fun _ _ _ _ _ _ _ _ _ _ _ _ _ _ _ _ _ _ _ _ => law_replay hi5 hw hn hB) (fun _ _ _ _ _ _ _ _ _ _ _ _ _ _ _ _ _ _ _ _ _ => law_undo hi5 hw hn hB) (fun _ _ _ _ _ _ _ _ _ _ _ _ _ _ _ _ _ _ _ _ _ => ?_)
    refine wk_123_694 ?_
    rw [iN_add]
    exact hn M1 hB
end LAW
