/-! Pure: cells are taken from three lanes by rising cost. -/
theorem cnt_img {n : Nat} {f : Nat → Nat} : ∀ t, (∀ i, i < t → f i < n) → (∀ i j, i < j → j < t → f i ≠ f j) → cnt n (fun c => ∃ i, i < t ∧ f i = c) = t
  | 0, _, _ => cnt_none n (fun c _ h => by obtain ⟨i, hi, _⟩ := h; omega)
  | t + 1, h, g => by
    have ih := cnt_img t (fun i hi => h i (by omega)) (fun i j hij hj => g i j hij (by omega))
    rw [cnt_one n (f t) (h t (by omega)) (p := fun c => ∃ i, i < t ∧ f i = c) (fun q => by
      obtain ⟨i, hi, e⟩ := q
      exact g i t hi (by omega) e) (fun c _ => ⟨fun q => by
      obtain ⟨i, hi, e⟩ := q
      by_cases it : i = t
      · subst it; exact Or.inr e.symm
      · exact Or.inl ⟨i, by omega, e⟩, fun q => by
      rcases q with ⟨i, hi, e⟩ | e
      · exact ⟨i, by omega, e⟩
      · exact ⟨t, by omega, e.symm⟩⟩), ih]
theorem pigeon {n : Nat} {f : Nat → Nat} {t : Nat} (h : ∀ i, i < t → f i < n) (g : ∀ i j, i < j → j < t → f i ≠ f j) : t ≤ n := by
  have h1 := cnt_img t h g
  have h2 := cnt_le (fun c => ∃ i, i < t ∧ f i = c) n
  omega
theorem pigeon1 {n : Nat} {f : Nat → Nat} {t e : Nat} (h : ∀ i, i < t → f i < n) (g : ∀ i j, i < j → j < t → f i ≠ f j) (he : e < n) (hn : ∀ i, i < t → f i ≠ e) : t < n := by
  refine pigeon (f := fun i => if i = t then e else f i) (t := t + 1) (fun i hi => ?_) (fun i j hij hj => ?_)
  · by_cases c : i = t
    · simp only [if_pos c]; exact he
    · simp only [if_neg c]; exact h i (by omega)
  · have ci : ¬ i = t := by omega
    simp only [if_neg ci]
    by_cases c : j = t
    · simp only [if_pos c]; exact hn i (by omega)
    · simp only [if_neg c]; exact g i j hij (by omega)
def wl (l : Nat) : Nat := if l = 0 then 10 else if l = 1 then 14 else 30
def ln (d : Nat) : Nat := if d = 8 then 2 else d % 2
theorem wl_ln {d : Nat} (hd : d < 9) : wl (ln d) = prc d ∧ ln d < 3 := by
  unfold wl ln prc
  by_cases h : d = 8
  · subst h; decide
  · simp only [if_neg h]
    have h2 : d % 2 = 0 ∨ d % 2 = 1 := by omega
    rcases h2 with h2 | h2 <;> rw [h2] <;> decide
def up1 (f : Nat → Nat) (a v : Nat) : Nat → Nat := fun x => if x = a then v else f x
theorem up1_at (f : Nat → Nat) (a v : Nat) : up1 f a v a = v := by unfold up1; rw [if_pos rfl]
theorem up1_ne {f : Nat → Nat} {a v x : Nat} (h : x ≠ a) : up1 f a v x = f x := by unfold up1; rw [if_neg h]
/-- b: the cell from which it spreads, its directions below dd are done -/
def dInv (I F Pd : Nat → Prop) (C : Nat → Nat) (T : Nat → Prop) (h t : Nat → Nat) (q : Nat → Nat → Nat) (D b dd : Nat) : Prop := ∃ K : Nat → Nat → Nat,
  (∀ l, l < 3 → h l ≤ t l ∧ t l ≤ 240) ∧
  (∀ l i, l < 3 → i < t l → q l i < 240 ∧ C (q l i) ≤ K l i ∧ K l i ≤ D + wl l) ∧
  (∀ l i j, l < 3 → i ≤ j → j < t l → K l i ≤ K l j) ∧
  (∀ l i j, l < 3 → i < j → j < t l → q l i ≠ q l j) ∧
  (∀ c, c < 240 → C c < 1000000 → ¬ T c → ∃ l i, l < 3 ∧ h l ≤ i ∧ i < t l ∧ q l i = c ∧ K l i = C c) ∧
  (∀ c, c < 240 → T c → C c ≤ D ∧ C c < 1000000) ∧ (∀ c, c < 240 → ¬ T c → D ≤ C c) ∧
  (∀ c, c < 240 → I c → C c = 0) ∧ (∀ c, c < 240 → C c ≤ 1000000) ∧
  (∀ c, c < 240 → ¬ I c → C c < 1000000 → (F c ∨ Pd c) ∧ ∃ d, d < 9 ∧ nx c d ≠ 0 ∧ (I (nx c d - 1) ∨ F (nx c d - 1)) ∧ C (nx c d - 1) + prc d ≤ C c) ∧
  (∀ c d, c < 240 → d < 9 → T c → (I c ∨ F c) → (c = b → d < dd) → nx c d ≠ 0 → (F (nx c d - 1) ∨ Pd (nx c d - 1)) → C (nx c d - 1) ≤ C c + prc d)
theorem dInv_take {I F Pd : Nat → Prop} {C : Nat → Nat} {T : Nat → Prop} {h h' t : Nat → Nat} {q : Nat → Nat → Nat} {D dd best l0 : Nat} (v : dInv I F Pd C T h t q D 999 dd)
    (hh : ∀ l, l < 3 → h l ≤ h' l ∧ h' l ≤ t l ∧ ∀ i, h l ≤ i → i < h' l → T (q l i)) (hu : ∀ l, l < 3 → h' l < t l → ¬ T (q l (h' l))) (hl0 : l0 < 3) (hb0 : h' l0 < t l0) (hb1 : best = q l0 (h' l0)) (hb2 : C best < 1000000) (hm : ∀ l, l < 3 → h' l < t l → C best ≤ C (q l (h' l))) :
    dInv I F Pd C (fun c => T c ∨ c = best) h' t q (C best) best 0 ∧ ¬ T best ∧ best < 240 := by
  obtain ⟨K, v1, v2, v3, v4, v5, v6, v7, v8, v9, v10, v11⟩ := v
  have hbn : ¬ T best := by rw [hb1]; exact hu l0 hl0 hb0
  have hb240 : best < 240 := by rw [hb1]; exact (v2 l0 _ hl0 hb0).1
  have hDb : D ≤ C best := v7 best hb240 hbn
  have hmin : ∀ c, c < 240 → ¬ T c → C best ≤ C c := by
    intro c hc hn
    by_cases hf : C c < 1000000
    · obtain ⟨l, i, hl, hi, hit, e1, e2⟩ := v5 c hc hf hn
      have hle : h' l ≤ i := by
        apply Classical.byContradiction
        intro hlt
        have := (hh l hl).2.2 i hi (by omega)
        rw [e1] at this
        exact hn this
      have a1 := hm l hl (by omega)
      have a2 := (v2 l (h' l) hl (by omega)).2.1
      have a3 := v3 l (h' l) i hl hle hit
      omega
    · have := v9 c hc
      omega
  refine ⟨⟨K, fun l hl => ⟨(hh l hl).2.1, (v1 l hl).2⟩, fun l i hl hi => ?_, v3, v4, fun c hc hf hn => ?_, fun c hc hT => ?_, fun c hc hn => ?_, v8, v9, v10, fun c d hc hd hT hp hcb hn hfp => ?_⟩, hbn, hb240⟩
  · have := v2 l i hl hi
    exact ⟨this.1, this.2.1, by omega⟩
  · have hn' : ¬ T c := fun x => hn (Or.inl x)
    obtain ⟨l, i, hl, hi, hit, e1, e2⟩ := v5 c hc hf hn'
    refine ⟨l, i, hl, ?_, hit, e1, e2⟩
    apply Classical.byContradiction
    intro hlt
    have := (hh l hl).2.2 i hi (by omega)
    rw [e1] at this
    exact hn' this
  · rcases hT with hT | rfl
    · have := v6 c hc hT
      exact ⟨by omega, this.2⟩
    · exact ⟨Nat.le_refl _, hb2⟩
  · exact hmin c hc (fun x => hn (Or.inl x))
  · rcases hT with hT | rfl
    · exact v11 c d hc hd hT hp (fun e => by omega) hn hfp
    · exact absurd (hcb rfl) (by omega)
theorem dInv_none {I F Pd : Nat → Prop} {C : Nat → Nat} {T : Nat → Prop} {h h' t : Nat → Nat} {q : Nat → Nat → Nat} {D dd : Nat} (v : dInv I F Pd C T h t q D 999 dd)
    (hh : ∀ l, l < 3 → h l ≤ h' l ∧ h' l ≤ t l ∧ ∀ i, h l ≤ i → i < h' l → T (q l i)) (hu : ∀ l, l < 3 → ¬ h' l < t l) : ∀ c, c < 240 → C c < 1000000 → T c := by
  obtain ⟨K, v1, v2, v3, v4, v5, v6, v7, v8, v9, v10, v11⟩ := v
  intro c hc hf
  apply Classical.byContradiction
  intro hn
  obtain ⟨l, i, hl, hi, hit, e1, e2⟩ := v5 c hc hf hn
  have h1 := hu l hl
  have h2 := (hh l hl).2.2 i hi (by omega)
  rw [e1] at h2
  exact hn h2
theorem dInv_heads {I F Pd : Nat → Prop} {C : Nat → Nat} {T : Nat → Prop} {h h' t : Nat → Nat} {q : Nat → Nat → Nat} {D b dd : Nat} (v : dInv I F Pd C T h t q D b dd)
    (hh : ∀ l, l < 3 → h l ≤ h' l ∧ h' l ≤ t l ∧ ∀ i, h l ≤ i → i < h' l → T (q l i)) : dInv I F Pd C T h' t q D b dd := by
  obtain ⟨K, v1, v2, v3, v4, v5, v6, v7, v8, v9, v10, v11⟩ := v
  refine ⟨K, fun l hl => ⟨(hh l hl).2.1, (v1 l hl).2⟩, v2, v3, v4, fun c hc hf hn => ?_, v6, v7, v8, v9, v10, v11⟩
  obtain ⟨l, i, hl, hi, hit, e1, e2⟩ := v5 c hc hf hn
  refine ⟨l, i, hl, ?_, hit, e1, e2⟩
  apply Classical.byContradiction
  intro hlt
  have := (hh l hl).2.2 i hi (by omega)
  rw [e1] at this
  exact hn this
theorem dInv_room {I F Pd : Nat → Prop} {C : Nat → Nat} {T : Nat → Prop} {h t : Nat → Nat} {q : Nat → Nat → Nat} {D b dd e : Nat} (v : dInv I F Pd C T h t q D b dd) {l : Nat} (hl : l < 3) (he : e < 240) (hlt : D + wl l < C e) : t l < 240 := by
  obtain ⟨K, v1, v2, v3, v4, v5, v6, v7, v8, v9, v10, v11⟩ := v
  refine pigeon1 (f := q l) (e := e) (fun i hi => (v2 l i hl hi).1) (fun i j hij hj => v4 l i j hl hij hj) he (fun i hi x => ?_)
  have := v2 l i hl hi
  rw [x] at this
  omega
theorem dInv_relax {I F Pd : Nat → Prop} {C : Nat → Nat} {T : Nat → Prop} {h t : Nat → Nat} {q : Nat → Nat → Nat} {D b d : Nat} (v : dInv I F Pd C T h t q D b d) (hb : b < 240) (hT : T b) (hC : C b = D) (hp : I b ∨ F b) (hd : d < 9) (hn : nx b d ≠ 0) (hf : F (nx b d - 1) ∨ Pd (nx b d - 1)) (hlt : C b + prc d < C (nx b d - 1)) :
    dInv I F Pd (up1 C (nx b d - 1) (C b + prc d)) T h (up1 t (ln d) (t (ln d) + 1)) (fun l => if l = ln d then up1 (q l) (t l) (nx b d - 1) else q l) D b (d + 1) := by
  have hw := wl_ln hd
  have he := nx_ok hb hd hn
  have hroom := dInv_room (e := nx b d - 1) v hw.2 (by omega) (by rw [hw.1]; omega)
  obtain ⟨K, v1, v2, v3, v4, v5, v6, v7, v8, v9, v10, v11⟩ := v
  generalize hee : nx b d - 1 = e at *
  have he240 : e < 240 := by omega
  have hfar := v9 e he240
  have hpp := prc_pos d
  have heT : ¬ T e := fun x => by have := (v6 e he240 x).1; omega
  have heI : ¬ I e := fun x => by have := v8 e he240 x; omega
  have hbe : b ≠ e := fun x => heT (x ▸ hT)
  have hCle : ∀ c, up1 C e (C b + prc d) c ≤ C c := by
    intro c
    unfold up1
    split
    · rename_i x; subst x; omega
    · exact Nat.le_refl _
  have hnew : ∀ i, i < t (ln d) → q (ln d) i ≠ e := by
    intro i hi x
    have := v2 (ln d) i hw.2 hi
    rw [x, hw.1] at this
    omega
  refine ⟨fun l i => if l = ln d ∧ i = t l then C b + prc d else K l i, fun l hl => ?_, fun l i hl hi => ?_, fun l i j hl hij hj => ?_, fun l i j hl hij hj => ?_, fun c hc hcf hnT => ?_, fun c hc hcT => ?_, fun c hc hcn => ?_, fun c hc hI => ?_, fun c hc => ?_, fun c hc hI hcf => ?_, fun c d2 hc hd2 hcT hcp hcb hn2 hf2 => ?_⟩
  · have := v1 l hl
    by_cases c : l = ln d
    · subst c; rw [up1_at]; omega
    · rw [up1_ne c]; exact this
  · by_cases c : l = ln d
    · subst c
      rw [up1_at] at hi
      simp only [true_and, if_true]
      by_cases c2 : i = t (ln d)
      · subst c2
        rw [if_pos rfl, up1_at, up1_at]
        exact ⟨he240, Nat.le_refl _, by rw [hw.1]; omega⟩
      · rw [if_neg c2, up1_ne c2]
        have := v2 (ln d) i hl (by omega)
        have h3 := hCle (q (ln d) i)
        exact ⟨this.1, by omega, this.2.2⟩
    · rw [up1_ne c] at hi
      have c2 : ¬ (l = ln d ∧ i = t l) := fun x => c x.1
      simp only [if_neg c, if_neg c2]
      have := v2 l i hl hi
      have h3 := hCle (q l i)
      exact ⟨this.1, by omega, this.2.2⟩
  · by_cases c : l = ln d
    · subst c
      rw [up1_at] at hj
      simp only [true_and]
      by_cases c2 : j = t (ln d)
      · rw [if_pos c2]
        by_cases c3 : i = t (ln d)
        · rw [if_pos c3]; exact Nat.le_refl _
        · rw [if_neg c3]
          have := (v2 (ln d) i hl (by omega)).2.2
          rw [hw.1] at this
          omega
      · rw [if_neg c2, if_neg (by omega)]
        exact v3 (ln d) i j hl hij (by omega)
    · rw [up1_ne c] at hj
      have c2 : ¬ (l = ln d ∧ i = t l) := fun x => c x.1
      have c3 : ¬ (l = ln d ∧ j = t l) := fun x => c x.1
      simp only [if_neg c2, if_neg c3]
      exact v3 l i j hl hij hj
  · by_cases c : l = ln d
    · subst c
      rw [up1_at] at hj
      simp only [if_true]
      have ci : i ≠ t (ln d) := by omega
      rw [up1_ne ci]
      by_cases c2 : j = t (ln d)
      · subst c2
        rw [up1_at]
        exact hnew i (by omega)
      · rw [up1_ne c2]
        exact v4 (ln d) i j hl hij (by omega)
    · rw [up1_ne c] at hj
      simp only [if_neg c]
      exact v4 l i j hl hij hj
  · by_cases ce : c = e
    · subst ce
      refine ⟨ln d, t (ln d), hw.2, (v1 _ hw.2).1, by rw [up1_at]; omega, ?_, ?_⟩
      · simp only [if_true]; rw [up1_at]
      · simp only [and_self, if_true]; rw [up1_at]
    · rw [up1_ne ce] at hcf
      obtain ⟨l, i, hl, hi, hit, e1, e2⟩ := v5 c hc hcf hnT
      refine ⟨l, i, hl, hi, ?_, ?_, ?_⟩
      · by_cases c2 : l = ln d
        · subst c2; rw [up1_at]; omega
        · rw [up1_ne c2]; exact hit
      · by_cases c2 : l = ln d
        · subst c2; simp only [if_true]; rw [up1_ne (by omega)]; exact e1
        · simp only [if_neg c2]; exact e1
      · have c2 : ¬ (l = ln d ∧ i = t l) := by omega
        simp only [if_neg c2]
        rw [up1_ne ce]; exact e2
  · have ce : c ≠ e := fun x => heT (x ▸ hcT)
    rw [up1_ne ce]; exact v6 c hc hcT
  · by_cases ce : c = e
    · subst ce; rw [up1_at]; omega
    · rw [up1_ne ce]; exact v7 c hc hcn
  · have ce : c ≠ e := fun x => heI (x ▸ hI)
    rw [up1_ne ce]; exact v8 c hc hI
  · have := hCle c
    have := v9 c hc
    omega
  · by_cases ce : c = e
    · subst ce
      refine ⟨hf, dop d, he.2.2.1, ?_, ?_, ?_⟩
      · rw [he.2.1]; omega
      · rw [he.2.1, Nat.add_sub_cancel]; exact hp
      · rw [he.2.1, Nat.add_sub_cancel, up1_at, up1_ne hbe, he.2.2.2]; exact Nat.le_refl _
    · rw [up1_ne ce] at hcf
      obtain ⟨h1, d2, hd2, hn2, hp2, hle⟩ := v10 c hc hI hcf
      refine ⟨h1, d2, hd2, hn2, hp2, ?_⟩
      have := hCle (nx c d2 - 1)
      rw [up1_ne ce]
      omega
  · have ce : c ≠ e := fun x => heT (x ▸ hcT)
    rw [up1_ne ce]
    by_cases cb : c = b
    · subst cb
      by_cases cd : d2 = d
      · subst cd
        rw [hee, up1_at]; exact Nat.le_refl _
      · have := v11 c d2 hc hd2 hcT hcp (fun _ => by have := hcb rfl; omega) hn2 hf2
        have := hCle (nx c d2 - 1)
        omega
    · have := v11 c d2 hc hd2 hcT hcp (fun x => absurd x cb) hn2 hf2
      have := hCle (nx c d2 - 1)
      omega
theorem dInv_skip {I F Pd : Nat → Prop} {C : Nat → Nat} {T : Nat → Prop} {h t : Nat → Nat} {q : Nat → Nat → Nat} {D b d : Nat} (v : dInv I F Pd C T h t q D b d) (hs : nx b d = 0 ∨ ¬ (F (nx b d - 1) ∨ Pd (nx b d - 1)) ∨ C (nx b d - 1) ≤ C b + prc d) : dInv I F Pd C T h t q D b (d + 1) := by
  obtain ⟨K, v1, v2, v3, v4, v5, v6, v7, v8, v9, v10, v11⟩ := v
  refine ⟨K, v1, v2, v3, v4, v5, v6, v7, v8, v9, v10, fun c d2 hc hd2 hcT hcp hcb hn2 hf2 => ?_⟩
  by_cases cb : c = b
  · subst cb
    by_cases cd : d2 = d
    · subst cd
      rcases hs with hs | hs | hs
      · exact absurd hs hn2
      · exact absurd hf2 hs
      · exact hs
    · exact v11 c d2 hc hd2 hcT hcp (fun _ => by have := hcb rfl; omega) hn2 hf2
  · exact v11 c d2 hc hd2 hcT hcp (fun x => absurd x cb) hn2 hf2
theorem dInv_done {I F Pd : Nat → Prop} {C : Nat → Nat} {T : Nat → Prop} {h t : Nat → Nat} {q : Nat → Nat → Nat} {D b dd : Nat} (v : dInv I F Pd C T h t q D b dd) (hs : dd = 9 ∨ ¬ (I b ∨ F b)) : dInv I F Pd C T h t q D 999 0 := by
  obtain ⟨K, v1, v2, v3, v4, v5, v6, v7, v8, v9, v10, v11⟩ := v
  refine ⟨K, v1, v2, v3, v4, v5, v6, v7, v8, v9, v10, fun c d2 hc hd2 hcT hcp hcb hn2 hf2 => ?_⟩
  refine v11 c d2 hc hd2 hcT hcp (fun x => ?_) hn2 hf2
  rcases hs with hs | hs
  · omega
  · subst x; exact absurd hcp hs
/-- what is left at the end is a table of costs -/
theorem dInv_cost {I F Pd : Nat → Prop} {C : Nat → Nat} {T : Nat → Prop} {h t : Nat → Nat} {q : Nat → Nat → Nat} {D dd : Nat} (v : dInv I F Pd C T h t q D 999 dd) (hall : ∀ c, c < 240 → C c < 1000000 → T c) :
    isCost I F (fun c => @ite _ (I c ∨ F c) (Classical.propDecidable _) (C c) 1000000) := by
  obtain ⟨K, v1, v2, v3, v4, v5, v6, v7, v8, v9, v10, v11⟩ := v
  refine ⟨fun c hc hI => ?_, fun c hc hI hF => ?_, fun c hc => ?_, fun c d hc hd hI hF hn => ?_, fun c hc hI hcf => ?_⟩
  · simp only [if_pos (Or.inl hI : I c ∨ F c)]; exact v8 c hc hI
  · dsimp only; rw [if_neg (fun x : I c ∨ F c => x.elim hI hF)]
  · have := v9 c hc
    dsimp only
    split <;> omega
  · simp only [if_pos (Or.inr hF : I c ∨ F c)]
    have he := nx_ok hc hd hn
    by_cases hp : I (nx c d - 1) ∨ F (nx c d - 1)
    · rw [if_pos hp]
      by_cases hf : C (nx c d - 1) < 1000000
      · have h1 := v11 (nx c d - 1) (dop d) (by omega) he.2.2.1 (hall _ (by omega) hf) hp (fun x => by omega) (by rw [he.2.1]; omega) (by rw [he.2.1, Nat.add_sub_cancel]; exact Or.inl hF)
        rw [he.2.1, Nat.add_sub_cancel, he.2.2.2] at h1
        exact h1
      · have := v9 c hc
        omega
    · rw [if_neg hp]
      have := v9 c hc
      omega
  · dsimp only at hcf ⊢
    by_cases hp : I c ∨ F c
    · rw [if_pos hp] at hcf ⊢
      obtain ⟨_, d, hd, hn, hpe, hle⟩ := v10 c hc hI hcf
      exact ⟨d, hd, hn, by rw [if_pos hpe]; exact hle⟩
    · rw [if_neg hp] at hcf
      omega
/-- and a pad's own cost is the least of its neighbours' -/
theorem dInv_pad {I F Pd : Nat → Prop} {C : Nat → Nat} {T : Nat → Prop} {h t : Nat → Nat} {q : Nat → Nat → Nat} {D dd : Nat} (v : dInv I F Pd C T h t q D 999 dd) (hall : ∀ c, c < 240 → C c < 1000000 → T c) {s : Nat} (hs : s < 240) (hI : ¬ I s) (hp : Pd s) :
    (∀ d, d < 9 → nx s d ≠ 0 → (I (nx s d - 1) ∨ F (nx s d - 1)) → C s ≤ C (nx s d - 1) + prc d) ∧ (C s < 1000000 → ∃ d, d < 9 ∧ nx s d ≠ 0 ∧ (I (nx s d - 1) ∨ F (nx s d - 1)) ∧ C (nx s d - 1) + prc d ≤ C s) ∧ C s ≤ 1000000 := by
  obtain ⟨K, v1, v2, v3, v4, v5, v6, v7, v8, v9, v10, v11⟩ := v
  refine ⟨fun d hd hn hpe => ?_, fun hf => (v10 s hs hI hf).2, v9 s hs⟩
  have he := nx_ok hs hd hn
  by_cases hf : C (nx s d - 1) < 1000000
  · have h1 := v11 (nx s d - 1) (dop d) (by omega) he.2.2.1 (hall _ (by omega) hf) hpe (fun x => by omega) (by rw [he.2.1]; omega) (by rw [he.2.1, Nat.add_sub_cancel]; exact Or.inr hp)
    rw [he.2.1, Nat.add_sub_cancel, he.2.2.2] at h1
    exact h1
  · have := v9 s hs
    omega
