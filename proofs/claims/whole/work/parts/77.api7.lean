/-! Calls: place, lift. -/
theorem Ok_place {S : Nat → Nat} (h : Ok S) {p v : Nat} (hp0 : p < S 0) (hz : S (32 + p) = 0) (hv : 120 ≤ v ∧ v < 480) (hf : ∀ c, c < 240 → hp (up1 S (32 + p) v) p c → own S c = 0 ∧ S (112 + c) = 0) : Ok (up1 S (32 + p) v) := by
  have h0 := h.1
  have h1 := h.2.1
  have lo : ∀ i, i ≠ 32 + p → up1 S (32 + p) v i = S i := fun i hi => up1_ne hi
  have hpl : ∀ c, c < 240 → _ := fun c hc => pad_place (c := c) h hp0 hz hc (fun x => (own_parts (hf c hc x).1).1)
  have hu : ∀ k c, k < S 0 → k ≠ p → c < 240 → hp (up1 S (32 + p) v) k c → hp (up1 S (32 + p) v) p c → False := by
    intro k c hk hne hc a b
    have := pad_of h hc hk ((hp_up hne).mp a)
    rw [(own_parts (hf c hc b).1).1] at this
    omega
  refine ⟨by rw [lo 0 (by omega)]; exact h.1, by rw [lo 1 (by omega)]; exact h.2.1, by rw [lo 2 (by omega)]; exact h.2.2.1, fun k hk => by rw [lo _ (by omega)]; exact h.2.2.2.1 k hk, fun k hk => ?_, fun i hi => ?_, fun c hc => ?_, fun k l c hk hl hc a b => ?_, fun c hc x => ?_, fun c hc x => ?_⟩
  · by_cases y : k = p
    · rw [y, up1_at, lo 0 (by omega)]; exact Or.inr ⟨hv.1, hv.2, hp0⟩
    · rw [lo _ (by omega), lo 0 (by omega)]; exact h.2.2.2.2.1 k hk
  · rw [lo 1 (by omega)] at hi
    rw [lo _ (by omega), lo 0 (by omega)]; exact h.2.2.2.2.2.1 i hi
  · rw [lo _ (by omega), lo _ (by omega), lo 0 (by omega)]; exact h.2.2.2.2.2.2.1 c hc
  · rw [lo 0 (by omega)] at hk hl
    by_cases y : k = p
    · by_cases z : l = p
      · rw [y, z]
      · subst y; exact absurd (hu l c hl z hc b a) id
    · by_cases z : l = p
      · subst z; exact absurd (hu k c hk y hc a b) id
      · exact h.2.2.2.2.2.2.2.1 k l c hk hl hc ((hp_up y).mp a) ((hp_up z).mp b)
  · rw [lo _ (by omega)]
    by_cases y : hp (up1 S (32 + p) v) p c
    · exact (own_parts (hf c hc y).1).2
    · rw [(hpl c hc).2 y] at x
      exact h.2.2.2.2.2.2.2.2.1 c hc x
  · rw [lo _ (by omega)] at x
    by_cases y : hp (up1 S (32 + p) v) p c
    · exact absurd (hf c hc y).2 x
    · have b := own_parts (h.2.2.2.2.2.2.2.2.2 c hc x)
      unfold own
      rw [(hpl c hc).2 y, if_pos b.1, lo _ (by omega)]
      exact b.2
theorem Ok_lift {S : Nat → Nat} (h : Ok S) {p : Nat} (hp0 : p < S 0) : Ok (up1 S (32 + p) 0) := by
  have h0 := h.1
  have h1 := h.2.1
  have lo : ∀ i, i ≠ 32 + p → up1 S (32 + p) 0 i = S i := fun i hi => up1_ne hi
  have ez : up1 S (32 + p) 0 (32 + p) = 0 := up1_at _ _ _
  refine ⟨by rw [lo 0 (by omega)]; exact h.1, by rw [lo 1 (by omega)]; exact h.2.1, by rw [lo 2 (by omega)]; exact h.2.2.1, fun k hk => by rw [lo _ (by omega)]; exact h.2.2.2.1 k hk, fun k hk => ?_, fun i hi => ?_, fun c hc => ?_, fun k l c hk hl hc a b => ?_, fun c hc x => ?_, fun c hc x => ?_⟩
  · by_cases y : k = p
    · rw [y, ez]; exact Or.inl rfl
    · rw [lo _ (by omega), lo 0 (by omega)]; exact h.2.2.2.2.1 k hk
  · rw [lo 1 (by omega)] at hi
    rw [lo _ (by omega), lo 0 (by omega)]; exact h.2.2.2.2.2.1 i hi
  · rw [lo _ (by omega), lo _ (by omega), lo 0 (by omega)]; exact h.2.2.2.2.2.2.1 c hc
  · rw [lo 0 (by omega)] at hk hl
    have y : k ≠ p := fun e => by subst e; exact hp_z ez a
    have z : l ≠ p := fun e => by subst e; exact hp_z ez b
    exact h.2.2.2.2.2.2.2.1 k l c hk hl hc ((hp_up y).mp a) ((hp_up z).mp b)
  · rw [lo _ (by omega)]
    rw [pad_lift h hp0 hc] at x
    by_cases y : hp S p c
    · rw [if_pos y] at x; exact absurd rfl x
    · rw [if_neg y] at x; exact h.2.2.2.2.2.2.2.2.1 c hc x
  · rw [lo _ (by omega)] at x
    have b := own_parts (h.2.2.2.2.2.2.2.2.2 c hc x)
    unfold own
    rw [pad_lift h hp0 hc, b.1, lo _ (by omega), b.2]
    split <;> split <;> rfl
section API7
variable {w : qS} {M : qM}
def GdP (S n : Nat → Nat) (net x y l k : Nat) : Prop := ∀ i, i < k → bt l i = 1 → own S (120 * i + (12 * y + x)) = 0 ∧ fre S n (120 * i + (12 * y + x)) net
theorem GdP_s {S n : Nat → Nat} {net x y l k : Nat} (g : GdP S n net x y l k) (h : bt l k = 1 → own S (120 * k + (12 * y + x)) = 0 ∧ fre S n (120 * k + (12 * y + x)) net) : GdP S n net x y l (k + 1) := by
  intro i hi hb
  by_cases e : i = k
  · subst e; exact h hb
  · exact g i (by omega) hb
theorem ct_44 {S n : Nat → Nat} (h : BD S n M) {net x y l : Nat} (hnet : net < 16) (hx : x < 12) (hy : y < 10) (hl : l < 4) : gE w 44 0 [some (.ref 1), some (.int (iN (12 * y + x))), some (.int (iN l)), some (.int (iN net)), none, none, none] [] M (qv1 M (bi (GdP S n net x y l 2))) := by
  refine wk_44_0 ?_
  refine ev_for 2 (Inv := fun i loc M' => (M' = M ∧ GdP S n net x y l i) ∧ ∃ o5 o6, loc = [some (.ref 1), some (.int (iN (12 * y + x))), some (.int (iN l)), some (.int (iN net)), some (.int (iN i)), o5, o6]) ?_ ?_ 0 _ _ (Nat.zero_le _) ⟨⟨rfl, fun i hi => absurd hi (by omega)⟩, _, _, rfl⟩
  · rintro i loc M1 hi ⟨⟨rfl, a2⟩, o5, o6, rfl⟩ rec
    have b1 := bit_tab ⟨l, hl⟩ ⟨i, hi⟩
    have b2 := bit_one ⟨l, hl⟩ ⟨i, hi⟩
    dsimp only at b1 b2
    have hc : 120 * i + (12 * y + x) < 240 := by omega
    have ec : iN i * iN 120 + iN (12 * y + x) = iN (120 * i + (12 * y + x)) := by rw [iN_mul, iN_add, Nat.mul_comm]
    have eh : M1 8 (iN (120 * i + (12 * y + x))).toNatClampNeg = hv S (120 * i + (12 * y + x)) := by rw [iN_ix (by omega), rb_hold h hc]
    have cb : ¬ (if ((iN l >>> (iN i &&& 31)) &&& 1) = 0 then 0 else 1 : Int32) = 0 → bt l i = 1 := by
      intro z
      by_cases u : ((iN l >>> (iN i &&& 31)) &&& 1) = 0
      · rw [if_pos u] at z; exact absurd rfl z
      · have : bt l i ≠ 0 := fun q => u (b1.mpr q)
        omega
    refine wk_44_3 (r1 := bi (fre S n (120 * i + (12 * y + x)) net)) (fun c1 => absurd ((iN_lt (by omega) (by omega)).mpr hi) c1) (fun _ c2 => ?_) (fun _ _ => by rw [ec]; exact iN_in hc (by omega)) (fun _ c2 c3 => ?_) (fun _ _ _ => by rw [ec]; exact ct_36 h hc hnet) (fun _ c2 c3 c4 => ?_) (fun _ c2 c3 c4 => ?_)
    · rw [iN_succ]
      refine rec _ _ ⟨⟨rfl, GdP_s a2 fun z => ?_⟩, _, _, rfl⟩
      by_cases u : ((iN l >>> (iN i &&& 31)) &&& 1) = 0
      · have := b1.mp u; omega
      · rw [if_neg u] at c2; exact absurd c2 (by decide)
    · rw [ec, eh, hv_m1 h.1 hc] at c3
      refine qv1_i (bi_neg fun g => c3 ?_).symm
      have := g i hi (cb c2)
      exact ⟨this.1, this.2.1⟩
    · rw [ec, eh, hv_m1 h.1 hc] at c3
      rw [iN_succ]
      exact rec _ _ ⟨⟨rfl, GdP_s a2 fun _ => ⟨c3.1, bi_ne c4⟩⟩, _, _, rfl⟩
    · exact qv1_i (bi_neg fun g => bi_eq c4 (g i hi (cb c2)).2).symm
  · rintro loc M1 ⟨⟨rfl, a2⟩, o5, o6, rfl⟩
    exact wk_44_3 (r1 := 0) (fun _ => qv1_i (bi_pos a2).symm) (fun c1 => lt_no c1) (fun c1 => lt_no c1) (fun c1 => lt_no c1) (fun c1 => lt_no c1) (fun c1 => lt_no c1) (fun c1 => lt_no c1)
theorem ct_47 {p s l : Nat} {z : Int32} (hp0 : p < 16) (hs : s < 120) (hl : l < 4) (e6 : M 6 p = iN s) (e7 : M 7 p = iN l) : gE w 47 0 [some (.ref 1), some (.int (iN p)), some (.int z), none] [] M (fun r M' => r = none ∧ fr [8] M M' ∧ ∀ c, c < 240 → M' 8 c = if bt l (c / 120) = 1 ∧ s = c % 120 then z else M 8 c) := by
  refine wk_47_0 ?_
  refine ev_for 2 (Inv := fun i loc M' => (fr [8] M M' ∧ ∀ c, c < 240 → M' 8 c = if c / 120 < i ∧ bt l (c / 120) = 1 ∧ s = c % 120 then z else M 8 c) ∧ loc = [some (.ref 1), some (.int (iN p)), some (.int z), some (.int (iN i))]) ?_ ?_ 0 _ _ (Nat.zero_le _) ⟨⟨fr_rfl, fun c _ => by rw [if_neg (fun y => by have := y.1; omega)]⟩, rfl⟩
  · rintro i loc M1 hi ⟨⟨a1, a2⟩, rfl⟩ rec
    have b1 := bit_tab ⟨l, hl⟩ ⟨i, hi⟩
    have b2 := bit_one ⟨l, hl⟩ ⟨i, hi⟩
    dsimp only at b1 b2
    have k6 : M1 6 (iN p).toNatClampNeg = iN s := by rw [iN_ix (by omega), a1 6 (by decide), e6]
    have k7 : M1 7 (iN p).toNatClampNeg = iN l := by rw [iN_ix (by omega), a1 7 (by decide), e7]
    have ec : iN i * iN 120 + iN s = iN (120 * i + s) := by rw [iN_mul, iN_add, Nat.mul_comm]
    refine wk_47_2 (fun c1 => absurd ((iN_lt (by omega) (by omega)).mpr hi) c1) (fun _ => iN_in hp0 (by omega)) (fun _ c2 => ?_) (fun _ _ => by rw [k6, ec]; exact iN_in (by omega) (by omega)) (fun _ c2 => ?_)
    · rw [k7] at c2
      have hb := b1.mp c2
      rw [iN_succ]
      refine rec _ _ ⟨⟨a1, fun c hc => ?_⟩, rfl⟩
      rw [a2 c hc]
      by_cases y : c / 120 < i ∧ bt l (c / 120) = 1 ∧ s = c % 120
      · rw [if_pos y, if_pos ⟨by omega, y.2⟩]
      · rw [if_neg y, if_neg]
        rintro ⟨q1, q2, q3⟩
        by_cases q : c / 120 = i
        · rw [q] at q2; omega
        · exact y ⟨by omega, q2, q3⟩
    · rw [k7] at c2
      have hb : bt l i = 1 := by
        have : bt l i ≠ 0 := fun q => c2 (b1.mpr q)
        omega
      rw [iN_succ, k6, ec, iN_ix (by omega)]
      refine rec _ _ ⟨⟨fr_tr a1 (fr_ms (by decide)), fun c hc => ?_⟩, rfl⟩
      rw [ms_get]
      by_cases q : c = 120 * i + s
      · rw [if_pos ⟨rfl, q⟩, if_pos ⟨by omega, by rw [show c / 120 = i by omega]; exact hb, by omega⟩]
      · rw [if_neg (fun u => q u.2), a2 c hc]
        by_cases y : c / 120 < i ∧ bt l (c / 120) = 1 ∧ s = c % 120
        · rw [if_pos y, if_pos ⟨by omega, y.2⟩]
        · rw [if_neg y, if_neg]
          rintro ⟨q1, q2, q3⟩
          by_cases u : c / 120 = i
          · exact q (by omega)
          · exact y ⟨by omega, q2, q3⟩
  · rintro loc M1 ⟨⟨a1, a2⟩, rfl⟩
    refine wk_47_2 (fun _ => ⟨rfl, a1, fun c hc => ?_⟩) (fun c1 => lt_no c1) (fun c1 => lt_no c1) (fun c1 => lt_no c1) (fun c1 => lt_no c1)
    rw [a2 c hc]
    by_cases y : bt l (c / 120) = 1 ∧ s = c % 120
    · rw [if_pos y, if_pos ⟨by omega, y⟩]
    · rw [if_neg y, if_neg (fun q => y q.2)]
/-- a pin's place is changed, its pads with it -/
theorem BD_place {S S' n : Nat → Nat} {M M' : qM} {p v : Nat} (h : BD S n M) (hp0 : p < S 0) (hO : Ok (up1 S (32 + p) v)) (eS : S' = up1 S (32 + p) v) (e : fr [6, 7, 8] M M') (e6 : ∀ k, k < 16 → M' 6 k = if k = p then iN (v % 120) else M 6 k) (e7 : ∀ k, k < 16 → M' 7 k = if k = p then iN (v / 120) else M 7 k) (e8 : ∀ c, c < 240 → M' 8 c = hv S' c) : BD S' n M' := by
  subst eS
  have h0 := h.1.1
  have h1 := h.1.2.1
  have lo : ∀ i, i ≠ 32 + p → up1 S (32 + p) v i = S i := fun i hi => up1_ne hi
  refine ⟨hO, h.2.1, ⟨⟨?_, ?_, ?_⟩, fun k hk => ?_, fun j hj => ?_, fun k hk => ?_, e8⟩, fun k hk => by rw [lo 0 (by omega)] at hk; rw [e 9 (by decide)]; exact rb_net h hk⟩
  · rw [e 2 (by decide), lo 0 (by omega)]; exact rb_pins h
  · rw [e 2 (by decide), lo 1 (by omega)]; exact rb_jn h
  · rw [e 2 (by decide), lo 2 (by omega)]; exact rb_clr h
  · rw [lo 0 (by omega)] at hk
    rw [e 3 (by decide), lo _ (by omega)]; exact rb_kind h hk
  · rw [lo 1 (by omega)] at hj
    rw [e 4 (by decide), e 5 (by decide), lo _ (by omega), lo _ (by omega)]
    exact h.2.2.1.2.2.1 j hj
  · show M' 6 k = _ ∧ M' 7 k = _
    rw [e6 k hk, e7 k hk]
    by_cases x : k = p
    · rw [if_pos x, if_pos x, x, up1_at]; exact ⟨rfl, rfl⟩
    · rw [if_neg x, if_neg x, lo _ (by omega)]
      exact h.2.2.1.2.2.2.1 k hk
theorem ct_45 {S n : Nat → Nat} (h : BD S n M) {p s l : Nat} (hp0 : p < S 0) (hz : S (32 + p) = 0) (hs : s < 120) (hl : 1 ≤ l ∧ l < 4) (hf : ∀ i, i < 2 → bt l i = 1 → own S (120 * i + s) = 0 ∧ S (112 + (120 * i + s)) = 0) : gE w 45 0 [some (.ref 1), some (.int (iN p)), some (.int (iN s)), some (.int (iN l))] [] M (fun r M' => r = none ∧ fr [6, 7, 8] M M' ∧ BD (up1 S (32 + p) (120 * l + s)) n M') := by
  have h0 := h.1.1
  have hat : ∀ c, hp (up1 S (32 + p) (120 * l + s)) p c ↔ bt l (c / 120) = 1 ∧ s = c % 120 := by
    intro c
    rw [hp_at, show (120 * l + s) / 120 = l by omega, show (120 * l + s) % 120 = s by omega]
  have hf' : ∀ c, c < 240 → hp (up1 S (32 + p) (120 * l + s)) p c → own S c = 0 ∧ S (112 + c) = 0 := by
    intro c hc x
    have := (hat c).mp x
    have := hf (c / 120) (by omega) this.1
    rw [show 120 * (c / 120) + s = c by omega] at this
    exact this
  have hO := Ok_place h.1 hp0 hz (v := 120 * l + s) (by omega) hf'
  refine wk_45_0 (iN_in (by omega) (by omega)) ?_
  rw [iN_ix (by omega)]
  refine (ct_47 (s := s) (l := l) (by omega) hs hl.2 (by rw [ms_rows (by decide), ms_at]) (by rw [ms_at])).mono ?_
  rintro r M' ⟨rfl, g1, g2⟩
  have g1' : ∀ q, q ≠ 8 → M' q = ms (ms M 6 p (iN s)) 7 p (iN l) q := fun q hq => g1 q (fun x => hq (List.mem_singleton.mp x))
  refine wk_45_26 ⟨rfl, fr_tr (fr_tr (fr_ms (by decide)) (fr_ms (by decide))) (fr_sub g1 (by intro q hq; simp only [List.mem_cons, List.not_mem_nil, or_false] at *; omega)), ?_⟩
  refine BD_place h hp0 hO rfl (fr_tr (fr_tr (fr_ms (by decide)) (fr_ms (by decide))) (fr_sub g1 (by intro q hq; simp only [List.mem_cons, List.not_mem_nil, or_false] at *; omega))) (fun k hk => ?_) (fun k hk => ?_) (fun c hc => ?_)
  · rw [g1' 6 (by decide), ms_rows (by decide), ms_get, show (120 * l + s) % 120 = s by omega]
    by_cases x : k = p
    · rw [if_pos ⟨rfl, x⟩, if_pos x]
    · rw [if_neg (fun y => x y.2), if_neg x]
  · rw [g1' 7 (by decide), ms_get, show (120 * l + s) / 120 = l by omega]
    by_cases x : k = p
    · rw [if_pos ⟨rfl, x⟩, if_pos x]
    · rw [if_neg (fun y => x y.2), if_neg x, ms_rows (by decide)]
  · have hpl := pad_place (c := c) (v := 120 * l + s) h.1 hp0 hz hc (fun x => (own_parts (hf' c hc x).1).1)
    rw [g2 c hc]
    by_cases x : bt l (c / 120) = 1 ∧ s = c % 120
    · have e := hpl.1 ((hat c).mpr x)
      have eo : own (up1 S (32 + p) (120 * l + s)) c = p + 1 := by unfold own; rw [e, if_neg (by omega)]
      rw [if_pos x, hv_of (by omega), eo]
      rfl
    · have e := hpl.2 (fun y => x ((hat c).mp y))
      rw [if_neg x, hv_cg e (up1_ne (by omega)) (up1_ne (by omega)), ms_rows (by decide), ms_rows (by decide)]
      exact rb_hold h hc
theorem ct_46 {S n : Nat → Nat} (h : BD S n M) {p : Nat} (hp0 : p < S 0) (hz : S (32 + p) ≠ 0) : gE w 46 0 [some (.ref 1), some (.int (iN p))] [] M (fun r M' => r = none ∧ fr [6, 7, 8] M M' ∧ BD (up1 S (32 + p) 0) n M') := by
  have h0 := h.1.1
  have hO := Ok_lift h.1 hp0
  have hk := ok_pl h.1 (show p < 16 by omega)
  refine wk_46_0 ?_
  refine (ct_47 (by omega) (by omega) (by omega) (rb_spot h (show p < 16 by omega)) (rb_lay h (show p < 16 by omega))).mono ?_
  rintro r M' ⟨rfl, g1, g2⟩
  have g1' : ∀ q, q ≠ 8 → M' q = M q := fun q hq => g1 q (fun x => hq (List.mem_singleton.mp x))
  refine wk_46_6 (iN_in (by omega) (by omega)) ?_
  rw [iN_ix (by omega)]
  have hfr : fr [6, 7, 8] M (ms (ms M' 6 p 0) 7 p 0) := fr_tr (fr_sub g1 (by intro q hq; simp only [List.mem_cons, List.not_mem_nil, or_false] at *; omega)) (fr_tr (fr_ms (by decide)) (fr_ms (by decide)))
  refine ⟨rfl, hfr, BD_place h hp0 hO rfl hfr (fun k hk => ?_) (fun k hk => ?_) (fun c hc => ?_)⟩
  · rw [ms_rows (by decide), ms_get]
    by_cases x : k = p
    · rw [if_pos ⟨rfl, x⟩, if_pos x]; rfl
    · rw [if_neg (fun y => x y.2), if_neg x, g1' 6 (by decide)]
  · rw [ms_get]
    by_cases x : k = p
    · rw [if_pos ⟨rfl, x⟩, if_pos x]; rfl
    · rw [if_neg (fun y => x y.2), if_neg x, ms_rows (by decide), g1' 7 (by decide)]
  · rw [ms_rows (by decide), ms_rows (by decide), g2 c hc]
    have e := pad_lift h.1 hp0 hc
    by_cases x : bt (S (32 + p) / 120) (c / 120) = 1 ∧ S (32 + p) % 120 = c % 120
    · have x' : hp S p c := x
      rw [if_pos x'] at e
      rw [if_pos x]
      have ep := pad_of h.1 hc hp0 x'
      have ho : own S c ≠ 0 := by unfold own; rw [ep, if_neg (by omega)]; omega
      symm
      refine (hv_m1 hO hc).mpr ⟨?_, ?_⟩
      · unfold own
        rw [e, if_pos rfl, up1_ne (by omega)]
        exact h.1.2.2.2.2.2.2.2.2.1 c hc (by omega)
      · rw [up1_ne (by omega)]
        exact Classical.byContradiction fun z => ho (h.1.2.2.2.2.2.2.2.2.2 c hc z)
    · have x' : ¬ hp S p c := x
      rw [if_neg x'] at e
      rw [if_neg x, hv_cg e (up1_ne (by omega)) (up1_ne (by omega))]
      exact rb_hold h hc
-- lift
def StLift (A : qA) (x : Int32) (v : Int32) (A' : qA) : Prop := (¬ (∃ p, p < A.1 0 ∧ x = iN p ∧ A.1 (32 + p) ≠ 0) ∧ v = 0 ∧ A' = A) ∨ ∃ p, p < A.1 0 ∧ x = iN p ∧ A.1 (32 + p) ≠ 0 ∧ v = 1 ∧ Cm A (up1 A.1 (32 + p) 0) A.2.1 A'
theorem net_pl {A : qA} {p v : Nat} (hA : RA2 A) (hp0 : p < A.1 0) : isNet (up1 A.1 (32 + p) v 1) (up1 A.1 (32 + p) v) A.2.1 := by
  have h0 := hA.1.1.1
  rw [up1_ne (by omega)]
  exact isNet_cg (fun i hi => up1_ne (by omega)) hA.1.2.1
theorem cl_lift {A : qA} {x : Int32} (hA : RA2 A) (h : RC A M) : gE w 6 0 [some (.ref 0), some (.int x)] [] M (CLp (StLift A x) M) := by
  have hb := RC_BD hA h
  have h0 := hA.1.1.1
  have no : ¬ (∃ p, p < A.1 0 ∧ x = iN p ∧ A.1 (32 + p) ≠ 0) → CLp (StLift A x) M (some (.int 0)) M := fun g => ⟨0, A, rfl, Or.inl ⟨g, rfl, rfl⟩, hA, h, fun _ _ => rfl⟩
  by_cases g : ¬ x < 0 ∧ x < iN (A.1 0)
  · obtain ⟨p, hp, rfl⟩ := rng g.1 g.2 (by omega)
    refine wk_6_0 (r1 := bi (¬ iN p < 0 ∧ iN p < iN (A.1 0))) (r2 := bi (A.1 (32 + p) ≠ 0)) (ct_29 hb) (fun c1 => absurd g (bi_eq c1)) (fun _ => ct_30 hb (by omega)) (fun c1 c2 => ?_) (fun c1 c2 => no ?_)
    · have hz := bi_ne c2
      refine (cl_begin hA.1 h).mono ?_
      rintro r M1 ⟨rfl, f1, t, f2⟩
      refine wk_6_38 ?_
      refine (ct_46 f2.1 hp hz).mono ?_
      rintro r M2 ⟨rfl, g1, g2⟩
      obtain ⟨A', hC, hRA, hE⟩ := cl_done (w := w) hA f1 f2 g2 (fun q hq => g1 q (by simp only [List.mem_cons, List.not_mem_nil, or_false]; omega)) (net_pl hA hp) (BS_up hA.2.1 (by omega)) (fun _ _ i hi => (up1_ne (by omega)).symm)
      refine wk_6_46 (hE.mono ?_)
      rintro r M3 ⟨rfl, k1, k2⟩
      exact wk_6_60 ⟨1, A', rfl, Or.inr ⟨p, hp, rfl, hz, rfl, hC⟩, hRA, k1, k2⟩
    · rintro ⟨p', hp', e, z⟩
      have : p = p' := (iN_eq (by omega) (by omega)).mp e
      subst this
      exact bi_eq c2 z
  · refine wk_6_0 (r1 := bi (¬ x < 0 ∧ x < iN (A.1 0))) (r2 := 0) (ct_29 hb) (fun _ => no ?_) (fun c1 => absurd (bi_ne c1) g) (fun c1 => absurd (bi_ne c1) g) (fun c1 => absurd (bi_ne c1) g)
    rintro ⟨p', hp', rfl, z⟩
    exact g ⟨iN_nn (by omega), (iN_lt (by omega) (by omega)).mpr hp'⟩
theorem rf_lift {A A' : qA} {x v : Int32} (hA : RA2 A) (hSt : StLift A x v A') (h : RF A M) : gE w 95 0 [some (.ref 148), some (.int x)] [] M (RFp v A' M) := by
  have h0 := hA.1.1.1
  by_cases g : ¬ x < 0 ∧ x < iN (A.1 0)
  · obtain ⟨p, hp, rfl⟩ := rng g.1 g.2 (by omega)
    have e : M 149 (iN 32 + iN p).toNatClampNeg = iN (A.1 (32 + p)) := by rw [iN_add, iN_ix (by omega)]; exact h.1.1 _ (by omega)
    have hk := hA.2.1 (32 + p) (by omega)
    refine wk_95_0 (r1 := bi (¬ iN p < 0 ∧ iN p < iN (A.1 0))) (ct_84 (n := A.2.1) h.1.1) (fun c1 => absurd g (bi_eq c1)) (fun _ => by rw [iN_add]; exact iN_in (by omega) (by omega)) (fun c1 c2 => ?_) (fun c1 c2 => ?_)
    · rw [e, iN_z (by omega)] at c2
      rcases hSt with ⟨k, -, -⟩ | ⟨p', hp', ec, k, rfl, hC⟩
      · exact absurd ⟨p, hp, rfl, c2⟩ k
      · have : p = p' := (iN_eq (by omega) (by omega)).mp ec
        subst this
        refine (rf_begin h).mono ?_
        rintro r M1 ⟨rfl, f1, f2, f3⟩
        refine wk_95_26 (by rw [iN_add]; exact iN_in (by omega) (by omega)) ?_
        rw [iN_add, iN_ix (by omega)]
        refine (rf_done hA hC (Ok_lift hA.1.1 hp) (net_pl hA hp) (BS_up hA.2.1 (by omega)) f1 f2 f3 (NW_up (v := 0) f3.1) (fr_ms (by decide))).mono ?_
        rintro r M3 ⟨rfl, l1, l2⟩
        exact wk_95_40 ⟨rfl, l1, l2⟩
    · rw [e, iN_z (by omega)] at c2
      rcases hSt with ⟨-, rfl, rfl⟩ | ⟨p', hp', ec, k, rfl, hC⟩
      · exact ⟨rfl, h, fun _ _ => rfl⟩
      · have : p = p' := (iN_eq (by omega) (by omega)).mp ec
        subst this
        exact absurd c2 k
  · refine wk_95_0 (r1 := bi (¬ x < 0 ∧ x < iN (A.1 0))) (ct_84 (n := A.2.1) h.1.1) (fun _ => ?_) (fun c1 => absurd (bi_ne c1) g) (fun c1 => absurd (bi_ne c1) g) (fun c1 => absurd (bi_ne c1) g)
    rcases hSt with ⟨-, rfl, rfl⟩ | ⟨p', hp', rfl, k, rfl, hC⟩
    · exact ⟨rfl, h, fun _ _ => rfl⟩
    · exact absurd ⟨iN_nn (by omega), (iN_lt (by omega) (by omega)).mpr hp'⟩ g
end API7
