/-! Pads and copper: what changes in a sheet. -/
theorem hp_up {S : Nat → Nat} {p k v c : Nat} (h : k ≠ p) : hp (up1 S (32 + p) v) k c ↔ hp S k c := by
  unfold hp
  rw [up1_ne (show 32 + k ≠ 32 + p by omega)]
theorem hp_at {S : Nat → Nat} {p v c : Nat} : hp (up1 S (32 + p) v) p c ↔ bt (v / 120) (c / 120) = 1 ∧ v % 120 = c % 120 := by
  unfold hp
  rw [up1_at]
theorem bt_0 (l : Nat) : bt 0 l = 0 := by unfold bt; rw [Nat.zero_div]
theorem hp_z {S : Nat → Nat} {p c : Nat} (h : S (32 + p) = 0) : ¬ hp S p c := by
  intro x
  have := x.1
  rw [h, Nat.zero_div, bt_0] at this
  omega
theorem pad_place {S : Nat → Nat} (h : Ok S) {p v c : Nat} (hp0 : p < S 0) (hz : S (32 + p) = 0) (hc : c < 240) (hfree : hp (up1 S (32 + p) v) p c → pad S c = 0) : (hp (up1 S (32 + p) v) p c → pad (up1 S (32 + p) v) c = p + 1) ∧ (¬ hp (up1 S (32 + p) v) p c → pad (up1 S (32 + p) v) c = pad S c) := by
  have e0 : up1 S (32 + p) v 0 = S 0 := up1_ne (by omega)
  constructor
  · intro x
    match e : pad (up1 S (32 + p) v) c with
    | 0 => exact absurd x (pad_none e (by rw [e0]; exact hp0))
    | k + 1 =>
      have hk := pad_some e
      rw [e0] at hk
      by_cases c1 : k = p
      · rw [c1]
      · have := pad_of h hc hk.1 ((hp_up c1).mp hk.2)
        rw [hfree x] at this
        omega
  · intro x
    match e : pad (up1 S (32 + p) v) c with
    | 0 =>
      match e2 : pad S c with
      | 0 => rfl
      | k + 1 =>
        have hk := pad_some e2
        by_cases c1 : k = p
        · subst c1; exact absurd hk.2 (hp_z hz)
        · exact absurd ((hp_up c1).mpr hk.2) (pad_none e (by rw [e0]; exact hk.1))
    | k + 1 =>
      have hk := pad_some e
      rw [e0] at hk
      by_cases c1 : k = p
      · subst c1; exact absurd hk.2 x
      · exact (pad_of h hc hk.1 ((hp_up c1).mp hk.2)).symm
theorem pad_lift {S : Nat → Nat} (h : Ok S) {p c : Nat} (hp0 : p < S 0) (hc : c < 240) : pad (up1 S (32 + p) 0) c = if hp S p c then 0 else pad S c := by
  have e0 : up1 S (32 + p) 0 0 = S 0 := up1_ne (by omega)
  have ez : up1 S (32 + p) 0 (32 + p) = 0 := up1_at _ _ _
  by_cases x : hp S p c
  · rw [if_pos x]
    match e : pad (up1 S (32 + p) 0) c with
    | 0 => rfl
    | k + 1 =>
      have hk := pad_some e
      rw [e0] at hk
      by_cases c1 : k = p
      · subst c1; exact absurd hk.2 (hp_z ez)
      · exact absurd (h.2.2.2.2.2.2.2.1 k p c hk.1 hp0 hc ((hp_up c1).mp hk.2) x) c1
  · rw [if_neg x]
    match e : pad (up1 S (32 + p) 0) c with
    | 0 =>
      match e2 : pad S c with
      | 0 => rfl
      | k + 1 =>
        have hk := pad_some e2
        by_cases c1 : k = p
        · subst c1; exact absurd hk.2 x
        · exact absurd ((hp_up c1).mpr hk.2) (pad_none e (by rw [e0]; exact hk.1))
    | k + 1 =>
      have hk := pad_some e
      rw [e0] at hk
      by_cases c1 : k = p
      · subst c1; exact absurd hk.2 (hp_z ez)
      · exact (pad_of h hc hk.1 ((hp_up c1).mp hk.2)).symm
theorem own_lay1 {S : Nat → Nat} (h : Ok S) {m c e : Nat} : own (lay1 S m c) e = if e = c ∧ pad S c = 0 then m + 1 else own S e := by
  unfold own
  rw [lay1_pad S h.1, lay1_at]
  by_cases x : e = c ∧ pad S c = 0
  · rw [if_pos x, if_pos (by rw [x.1]; exact x.2), if_pos ⟨by rw [x.1], x.2⟩]
  · rw [if_neg x, if_neg (show ¬ (352 + e = 352 + c ∧ pad S c = 0) from fun y => x ⟨by omega, y.2⟩)]
theorem hv_lay1 {S : Nat → Nat} (h : Ok S) {m c e : Nat} (he : e < 240) : hv (lay1 S m c) e = if e = c ∧ pad S c = 0 then iN m else hv S e := by
  unfold hv
  rw [own_lay1 h, lay1_lo (show 112 + e < 352 by omega)]
  by_cases x : e = c ∧ pad S c = 0
  · rw [if_pos x, if_pos x, if_neg (by omega)]; rfl
  · rw [if_neg x, if_neg x]
theorem Ok_lay1 {S : Nat → Nat} (h : Ok S) {m c : Nat} (hm : m < S 0) (hc : c < 240) (hb : S (112 + c) = 0) : Ok (lay1 S m c) := by
  have lo : ∀ i, i < 352 → lay1 S m c i = S i := fun i hi => lay1_lo hi
  have h0 := h.1
  have hhp : ∀ p e, p < 16 → (hp (lay1 S m c) p e ↔ hp S p e) := fun p e hp0 => by unfold hp; rw [lo _ (by omega)]
  refine ⟨by rw [lo 0 (by omega)]; exact h.1, by rw [lo 1 (by omega)]; exact h.2.1, by rw [lo 2 (by omega)]; exact h.2.2.1, fun p hp0 => by rw [lo _ (by omega)]; exact h.2.2.2.1 p hp0, fun p hp0 => by rw [lo _ (by omega), lo 0 (by omega)]; exact h.2.2.2.2.1 p hp0, fun i hi => ?_, fun e he => ?_, fun p q e hp1 hq1 he a b => ?_, fun e he x => ?_, fun e he x => ?_⟩
  · rw [lo 1 (by omega)] at hi
    have := h.2.1
    rw [lo _ (by omega), lo 0 (by omega)]
    exact h.2.2.2.2.2.1 i hi
  · rw [lo _ (by omega), lo 0 (by omega), lay1_at]
    have := h.2.2.2.2.2.2.1 e he
    refine ⟨this.1, ?_⟩
    split <;> omega
  · rw [lo 0 (by omega)] at hp1 hq1
    exact h.2.2.2.2.2.2.2.1 p q e hp1 hq1 he ((hhp p e (by omega)).mp a) ((hhp q e (by omega)).mp b)
  · rw [lay1_pad S h.1] at x
    rw [lay1_at]
    by_cases y : 352 + e = 352 + c ∧ pad S c = 0
    · have : e = c := by omega
      subst this
      exact absurd y.2 x
    · rw [if_neg y]; exact h.2.2.2.2.2.2.2.2.1 e he x
  · rw [lo _ (by omega)] at x
    rw [own_lay1 h]
    by_cases y : e = c ∧ pad S c = 0
    · rw [y.1] at x; exact absurd hb x
    · rw [if_neg y]; exact h.2.2.2.2.2.2.2.2.2 e he x
theorem RS_lay1 {S : Nat → Nat} {M : qM} (h : Ok S) (hR : RS S M 2) {m c : Nat} (hc : c < 240) (hp0 : pad S c = 0) : RS (lay1 S m c) (ms M 8 c (iN m)) 2 := by
  have h0 := h.1
  have h1 := h.2.1
  have lo : ∀ i, i < 352 → lay1 S m c i = S i := fun i hi => lay1_lo hi
  refine ⟨?_, fun p hp1 => ?_, fun j hj => ?_, fun p hp1 => ?_, fun e he => ?_⟩
  · rw [ms_rows (by decide), lo 0 (by omega), lo 1 (by omega), lo 2 (by omega)]; exact hR.1
  · rw [lo 0 (by omega)] at hp1
    rw [ms_rows (by decide), lo _ (by omega)]; exact hR.2.1 p hp1
  · rw [lo 1 (by omega)] at hj
    rw [ms_rows (by decide), ms_rows (by decide), lo _ (by omega), lo _ (by omega)]; exact hR.2.2.1 j hj
  · rw [ms_rows (by decide), ms_rows (by decide), lo _ (by omega)]; exact hR.2.2.2.1 p hp1
  · rw [hv_lay1 h he]
    show ms M 8 c (iN m) 8 e = _
    rw [ms_get]
    by_cases x : e = c
    · rw [if_pos ⟨rfl, x⟩, if_pos ⟨x, hp0⟩]
    · rw [if_neg (fun y => x y.2), if_neg (fun y => x y.1)]
      exact hR.2.2.2.2 e he
section BLAY
variable {w : qS} {S n : Nat → Nat} {M : qM}
theorem RB_fr {M' : qM} (h : RB S n M) (e : ∀ q, q < 10 → M' q = M q) : RB S n M' := ⟨RS_fr h.1 (fun k hk => e _ (by omega)), fun p hp0 => by rw [e 9 (by omega)]; exact h.2 p hp0⟩
theorem ct_50 (h : BD S n M) {m c : Nat} (hm : m < S 0) (hc : c < 240) (hb : S (112 + c) = 0) : gE w 50 0 [some (.ref 1), some (.int (iN c)), some (.int (iN m))] [] M (fun r M' => r = none ∧ fr [8] M M' ∧ BD (lay1 S m c) n M') := by
  have eh : M 8 (iN c).toNatClampNeg = hv S c := by rw [iN_ix (by omega), rb_hold h hc]
  have hput : pad S c = 0 → BD (lay1 S m c) n (ms M 8 c (iN m)) := fun hp0 => ⟨Ok_lay1 h.1 hm hc hb, h.2.1, RS_lay1 h.1 h.2.2.1 hc hp0, fun p hp1 => by rw [ms_rows (by decide)]; exact h.2.2.2 p (by rw [lay1_lo (by omega)] at hp1; exact hp1)⟩
  refine wk_50_0 (r1 := bi (own S c ≠ 0 ∧ pad S c = 0)) (iN_in hc (by omega)) (fun c1 => ?_) (fun _ => ct_34 h hc) (fun c1 c2 => ?_) (fun c1 c2 => ?_)
  · rw [eh, hv_m1 h.1 hc] at c1
    have hp0 : pad S c = 0 := by
      apply Classical.byContradiction
      intro x
      have := c1.1
      unfold own at this
      rw [if_neg x] at this
      exact x this
    rw [iN_ix (by omega)]
    exact ⟨rfl, fr_ms (by decide), hput hp0⟩
  · rw [eh, hv_m1 h.1 hc] at c1
    have hn := bi_eq c2
    have hp0 : pad S c ≠ 0 := fun x => hn ⟨fun y => c1 ⟨y, hb⟩, x⟩
    refine ⟨rfl, fr_rfl, ?_⟩
    have e : lay1 S m c = S := by unfold lay1; rw [if_neg hp0]
    rw [e]
    exact h
  · rw [iN_ix (by omega)]
    exact ⟨rfl, fr_ms (by decide), hput (bi_ne c2).2⟩
end BLAY
