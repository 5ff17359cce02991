/-! The class: small methods that only look. -/
def BD (S n : Nat → Nat) (M : qM) : Prop := Ok S ∧ (∀ p, p < 16 → n p < 16) ∧ RB S n M
section BDA
variable {S n : Nat → Nat} {M : qM}
theorem rb_pins (h : BD S n M) : M 2 6 = iN (S 0) := h.2.2.1.1.1
theorem rb_jn (h : BD S n M) : M 2 7 = iN (S 1) := h.2.2.1.1.2.1
theorem rb_clr (h : BD S n M) : M 2 8 = iN (S 2) := h.2.2.1.1.2.2
theorem rb_kind (h : BD S n M) {p : Nat} (hp : p < S 0) : M 3 p = iN (S (16 + p)) := h.2.2.1.2.1 p hp
theorem rb_e1 (h : BD S n M) {j : Nat} (hj : j < S 1) : M 4 j = iN (S (64 + 2 * j)) := (h.2.2.1.2.2.1 j hj).1
theorem rb_e2 (h : BD S n M) {j : Nat} (hj : j < S 1) : M 5 j = iN (S (64 + 2 * j + 1)) := (h.2.2.1.2.2.1 j hj).2
theorem rb_spot (h : BD S n M) {p : Nat} (hp : p < 16) : M 6 p = iN (S (32 + p) % 120) := (h.2.2.1.2.2.2.1 p hp).1
theorem rb_lay (h : BD S n M) {p : Nat} (hp : p < 16) : M 7 p = iN (S (32 + p) / 120) := (h.2.2.1.2.2.2.1 p hp).2
theorem rb_hold (h : BD S n M) {c : Nat} (hc : c < 240) : M 8 c = hv S c := h.2.2.1.2.2.2.2 c hc
theorem rb_net (h : BD S n M) {p : Nat} (hp : p < S 0) : M 9 p = iN (n p) := h.2.2.2 p hp
theorem ok_pl (h : Ok S) {p : Nat} (hp : p < 16) : S (32 + p) < 480 := by
  rcases h.2.2.2.2.1 p hp with x | x
  · omega
  · exact x.2.1
end BDA
theorem qv1_i {M : qM} {v v' : Int32} (h : v' = v) : qv1 M v (some (.int v')) M := ⟨by rw [h], rfl⟩
theorem bi_nd {c d : Prop} {i : Decidable c} {j : Decidable d} : (if c then (0 : Int32) else if d then 1 else 0) = bi (¬ c ∧ d) := by
  by_cases hc : c
  · rw [if_pos hc, bi_neg (fun x => x.1 hc)]
  · by_cases hd : d
    · rw [if_neg hc, if_pos hd, bi_pos ⟨hc, hd⟩]
    · rw [if_neg hc, if_neg hd, bi_neg (fun x => hd x.2)]
theorem bi_n {c : Prop} {i : Decidable c} : (if c then (0 : Int32) else 1) = bi (¬ c) := by
  by_cases hc : c
  · rw [if_pos hc, bi_neg (fun x => x hc)]
  · rw [if_neg hc, bi_pos hc]
theorem bi_y {c : Prop} {i : Decidable c} : (if c then (1 : Int32) else 0) = bi c := by
  by_cases hc : c
  · rw [if_pos hc, bi_pos hc]
  · rw [if_neg hc, bi_neg hc]
theorem rng {x : Int32} {n : Nat} (h1 : ¬ x < 0) (h2 : x < iN n) (hn : n < 2 ^ 31) : ∃ c, c < n ∧ x = iN c := by
  have h0 : 0 ≤ x := Int32.not_lt.mp h1
  refine ⟨x.toNatClampNeg, ?_, (Int32.ofNat_toNatClampNeg x h0).symm⟩
  have e := Int32.ofNat_toNatClampNeg x h0
  have hlt := Int32.toNatClampNeg_lt x
  rw [← e] at h2
  exact (iN_lt hlt hn).mp h2
-- cells on the board
def dz (i r : Nat) : Int32 := iN i - iN r
def shV (x0 x1 x2 : Int32) : Int32 := if ((x0 - x0 / (iN 12) * (iN 12)) + x1) < 0 then -1 else if ((x0 - x0 / (iN 12) * (iN 12)) + x1) < (iN 12) then (if (((x0 - x0 / (iN 120) * (iN 120)) / (iN 12)) + x2) < 0 then -1 else if (((x0 - x0 / (iN 120) * (iN 120)) / (iN 12)) + x2) < (iN 10) then ((x0 + (x2 * (iN 12))) + x1) else -1) else -1
theorem ct_27v {w : qS} {M : qM} {x0 x1 x2 : Int32} : gE w 27 0 [some (.int x0), some (.int x1), some (.int x2), none, none] [] M (qv1 M (shV x0 x1 x2)) := by
  refine wk_27_0 (fun c1 => qv1_i ?_) (fun c1 c2 => qv1_i ?_) (fun c1 c2 c3 => qv1_i ?_) (fun c1 c2 c3 c4 => qv1_i ?_) (fun c1 c2 c3 c4 => qv1_i ?_)
  · unfold shV; rw [if_pos c1]
  · unfold shV; rw [if_neg c1, if_neg c2]
  · unfold shV; rw [if_neg c1, if_pos c2, if_pos c3]
  · unfold shV; rw [if_neg c1, if_pos c2, if_neg c3, if_pos c4]
  · unfold shV; rw [if_neg c1, if_pos c2, if_neg c3, if_neg c4]
theorem shV_tab : ∀ c : Fin 240, ∀ r : Fin 3, ∀ i : Fin 5, ∀ j : Fin 5, shV (iN c.val) (dz j.val r.val) (dz i.val r.val) = pm (sh r.val c.val i.val j.val) := by decide +kernel
theorem ct_27 {w : qS} {M : qM} {c r i j : Nat} (hc : c < 240) (hr : r ≤ 2) (hi : i < 5) (hj : j < 5) : gE w 27 0 [some (.int (iN c)), some (.int (dz j r)), some (.int (dz i r)), none, none] [] M (qv1 M (pm (sh r c i j))) := by
  have h := shV_tab ⟨c, hc⟩ ⟨r, by omega⟩ ⟨i, hi⟩ ⟨j, hj⟩
  dsimp only at h
  rw [← h]
  exact ct_27v
theorem nb_tab : ∀ c : Fin 240, ∀ d : Fin 8, shV (iN c.val) (tb_right d.val) (tb_down d.val) = pm (nx c.val d.val) := by decide +kernel
theorem nb_tab8 : ∀ c : Fin 240, (if iN c.val < iN 120 then iN c.val + iN 120 else iN c.val - iN 120) = pm (nx c.val 8) := by decide +kernel
theorem ct_28 {w : qS} {M : qM} {c d : Nat} (hc : c < 240) (hd : d < 9) : gE w 28 0 [some (.int (iN c)), some (.int (iN d))] [] M (qv1 M (pm (nx c d))) := by
  refine wk_28_0 (r1 := pm (nx c d)) (fun c1 => ?_) (fun c1 => ?_) (fun c1 => qv1_i rfl) (fun c1 => qv1_i ?_)
  · have : d ≠ 8 := fun e => c1 (by rw [e])
    exact iN_in (by omega) (by omega)
  · have hd8 : d < 8 := by
      have : d ≠ 8 := fun e => c1 (by rw [e])
      omega
    rw [iN_ix (by omega)]
    have h := nb_tab ⟨c, hc⟩ ⟨d, hd8⟩
    dsimp only at h
    rw [← h]
    exact ct_27v
  · have e : d = 8 := (iN_eq (by omega) (by omega)).mp c1
    subst e
    exact nb_tab8 ⟨c, hc⟩
theorem ct_25 {w : qS} {M : qM} {c : Nat} (hc : c < 240) : gE w 25 0 [some (.int (iN c))] [] M (qv1 M (iN (c % 120 / 12))) :=
  wk_25_0 (qv1_i (by rw [iN_rem (by omega) (by omega), iN_div (by omega) (by omega)]))
theorem ct_26 {w : qS} {M : qM} {c : Nat} (hc : c < 240) : gE w 26 0 [some (.int (iN c))] [] M (qv1 M (iN (c % 12))) :=
  wk_26_0 (qv1_i (by rw [iN_rem (by omega) (by omega)]))
theorem ct_23 {w : qS} {M : qM} {x : Int32} : gE w 23 0 [some (.int x)] [] M (qv1 M (bi (¬ x < 0 ∧ x < iN 2))) := wk_23_0 (qv1_i bi_nd)
theorem ct_24 {w : qS} {M : qM} {x : Int32} : gE w 24 0 [some (.int x)] [] M (qv1 M (bi (¬ x < 0 ∧ x < iN 240))) := wk_24_0 (qv1_i bi_nd)
def tld (x0 x1 x2 x3 x4 : Int32) : Int32 := if x0 = 0 then x1 else if x0 = 1 then x2 else if x0 = 2 then x3 else if x0 = 3 then x4 else -1
theorem ct_22 {w : qS} {M : qM} {x0 x1 x2 x3 x4 : Int32} : gE w 22 0 [some (.int x0), some (.int x1), some (.int x2), some (.int x3), some (.int x4)] [] M (qv1 M (tld x0 x1 x2 x3 x4)) := by
  refine wk_22_0 (fun c1 => qv1_i ?_) (fun c1 c2 => qv1_i ?_) (fun c1 c2 c3 => qv1_i ?_) (fun c1 c2 c3 c4 => qv1_i ?_) (fun c1 c2 c3 c4 => qv1_i ?_)
  · unfold tld; rw [if_pos c1]
  · unfold tld; rw [if_neg c1, if_pos c2]
  · unfold tld; rw [if_neg c1, if_neg c2, if_pos c3]
  · unfold tld; rw [if_neg c1, if_neg c2, if_neg c3, if_pos c4]
  · unfold tld; rw [if_neg c1, if_neg c2, if_neg c3, if_neg c4]
-- the board
section BLEAF
variable {w : qS} {S n : Nat → Nat} {M : qM}
theorem ct_29 (h : BD S n M) {x : Int32} : gE w 29 0 [some (.ref 1), some (.int x)] [] M (qv1 M (bi (¬ x < 0 ∧ x < iN (S 0)))) :=
  wk_29_0 (qv1_i (by rw [rb_pins h]; exact bi_nd))
theorem ct_30 (h : BD S n M) {p : Nat} (hp : p < 16) : gE w 30 0 [some (.ref 1), some (.int (iN p))] [] M (qv1 M (bi (S (32 + p) ≠ 0))) := by
  refine wk_30_0 (iN_in hp (by omega)) (qv1_i ?_)
  have h1 := ok_pl h.1 hp
  rw [iN_ix (by omega), rb_lay h hp, bi_n]
  refine bi_congr ?_
  rw [iN_z (by omega)]
  rcases h.1.2.2.2.2.1 p hp with x | x <;> omega
theorem ct_31 (h : BD S n M) {p : Nat} (hp : p < S 0) : gE w 31 0 [some (.ref 1), some (.int (iN p))] [] M (qv1 M (iN (n p))) :=
  wk_31_0 (iN_in (by have := h.1.1; omega) (by have := h.1.1; omega)) (qv1_i (by rw [iN_ix (by have := h.1.1; omega), rb_net h hp]))
theorem ct_32 (h : BD S n M) {c : Nat} (hc : c < 240) : gE w 32 0 [some (.ref 1), some (.int (iN c)), none] [] M (qv1 M (pm (ow S n c))) := by
  have ho := own_le h.1 hc
  have e : M 8 (iN c).toNatClampNeg = hv S c := by rw [iN_ix (by omega), rb_hold h hc]
  refine wk_32_0 (iN_in hc (by omega)) (qv1_i ?_) (fun c1 => ?_)
  · rw [e]
    by_cases z : own S c = 0
    · rw [if_pos ((hv_neg h.1 hc).mpr z), ow_z.mpr z]
      rfl
    · rw [if_neg (fun x => z ((hv_neg h.1 hc).mp x)), hv_of z, iN_ix (by omega), rb_net h (by omega)]
      unfold ow
      rw [if_neg z]
      rfl
  · rw [e] at c1 ⊢
    have z : own S c ≠ 0 := fun z => c1 ((hv_neg h.1 hc).mpr z)
    rw [hv_of z]
    exact iN_in (by omega) (by omega)
theorem bit_tab : ∀ v : Fin 4, ∀ l : Fin 2, (((iN v.val >>> (iN l.val &&& 31)) &&& 1) = 0 ↔ bt v.val l.val = 0) := by decide +kernel
theorem bit_one : ∀ v : Fin 4, ∀ l : Fin 2, bt v.val l.val = 0 ∨ bt v.val l.val = 1 := by decide +kernel
theorem ct_33 (h : BD S n M) {p c : Nat} (hp0 : p < 16) (hc : c < 240) : gE w 33 0 [some (.ref 1), some (.int (iN p)), some (.int (iN c)), none] [] M (qv1 M (bi (hp S p c))) := by
  refine wk_33_0 (iN_in hp0 (by omega)) (qv1_i ?_)
  have h1 := ok_pl h.1 hp0
  rw [iN_ix (by omega), rb_lay h hp0, rb_spot h hp0, iN_rem (by omega) (by omega), iN_div (by omega) (by omega)]
  have h2 := bit_tab ⟨S (32 + p) / 120, by omega⟩ ⟨c / 120, by omega⟩
  have h3 := bit_one ⟨S (32 + p) / 120, by omega⟩ ⟨c / 120, by omega⟩
  dsimp only at h2 h3
  by_cases z : bt (S (32 + p) / 120) (c / 120) = 0
  · rw [if_pos (h2.mpr z), if_pos rfl, bi_neg (fun x => by have := x.1; omega)]
  · rw [if_neg (fun x => z (h2.mp x)), if_neg (by decide), bi_y]
    refine bi_congr ?_
    rw [iN_eq (by omega) (by omega)]
    exact ⟨fun x => ⟨by omega, x⟩, fun x => x.2⟩
theorem ct_34 (h : BD S n M) {c : Nat} (hc : c < 240) : gE w 34 0 [some (.ref 1), some (.int (iN c)), none] [] M (qv1 M (bi (own S c ≠ 0 ∧ pad S c = 0))) := by
  have ho := own_le h.1 hc
  have e : M 8 (iN c).toNatClampNeg = hv S c := by rw [iN_ix (by omega), rb_hold h hc]
  refine wk_34_0 (r1 := bi (hp S (own S c - 1) c)) (iN_in hc (by omega)) (qv1_i ?_) (fun c1 => ?_)
  · rw [e]
    by_cases z : own S c = 0
    · rw [if_pos ((hv_neg h.1 hc).mpr z), bi_neg (fun x => x.1 z)]
    · rw [if_neg (fun x => z ((hv_neg h.1 hc).mp x)), bi_y]
      refine bi_congr ?_
      constructor
      · intro x
        refine ⟨z, ?_⟩
        have hn := bi_eq x
        apply Classical.byContradiction
        intro hp0
        have eo : own S c = pad S c := by unfold own; rw [if_neg hp0]
        have hs := pad_some (S := S) (c := c) (p := pad S c - 1) (by omega)
        rw [← eo] at hs
        exact hn hs.2
      · intro x
        exact bi_neg (fun y => pad_none x.2 (by omega) y)
  · rw [e] at c1 ⊢
    have z : own S c ≠ 0 := fun z => c1 ((hv_neg h.1 hc).mpr z)
    rw [hv_of z]
    exact ct_33 h (by omega) hc
theorem and_tab : ∀ v : Fin 4, ((iN v.val &&& 1) = 0 ↔ v.val % 2 = 0) := by decide +kernel
theorem ct_35 (h : BD S n M) {p : Nat} (hp0 : p < 16) (hpl : S (32 + p) ≠ 0) : gE w 35 0 [some (.ref 1), some (.int (iN p))] [] M (qv1 M (iN (fp S p))) := by
  refine wk_35_0 (iN_in hp0 (by omega)) (qv1_i ?_)
  have h1 := ok_pl h.1 hp0
  have h4 := (h.1.2.2.2.2.1 p hp0).resolve_left hpl
  rw [iN_ix (by omega), rb_lay h hp0, rb_spot h hp0]
  have h2 := and_tab ⟨S (32 + p) / 120, by omega⟩
  dsimp only at h2
  unfold fp
  by_cases z : S (32 + p) / 120 % 2 = 0
  · rw [if_pos (h2.mpr z), if_pos (by omega), iN_add, Nat.add_comm]
  · rw [if_neg (fun x => z (h2.mp x)), if_neg (by omega)]
end BLEAF
