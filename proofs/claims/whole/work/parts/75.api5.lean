/-! Calls: bar, erase, rip. -/
theorem BD_cell {S S' n : Nat → Nat} {M : qM} {c : Nat} {v : Int32} (h : BD S n M) (hO : Ok S') (hpd : ∀ e, pad S' e = pad S e) (lo : ∀ i, i ≠ 112 + c → i ≠ 352 + c → S' i = S i) (hv' : hv S' c = v) (hc : c < 240) : BD S' n (ms M 8 c v) := by
  have h0 := h.1.1
  have h1 := h.1.2.1
  refine ⟨hO, h.2.1, ⟨⟨?_, ?_, ?_⟩, fun p hp => ?_, fun j hj => ?_, fun p hp => ?_, fun e he => ?_⟩, fun p hp => by rw [lo 0 (by omega) (by omega)] at hp; rw [ms_rows (by decide)]; exact rb_net h hp⟩
  · rw [ms_rows (by decide), lo 0 (by omega) (by omega)]; exact rb_pins h
  · rw [ms_rows (by decide), lo 1 (by omega) (by omega)]; exact rb_jn h
  · rw [ms_rows (by decide), lo 2 (by omega) (by omega)]; exact rb_clr h
  · rw [lo 0 (by omega) (by omega)] at hp
    rw [ms_rows (by decide), lo _ (by omega) (by omega)]; exact rb_kind h hp
  · rw [lo 1 (by omega) (by omega)] at hj
    rw [ms_rows (by decide), ms_rows (by decide), lo _ (by omega) (by omega), lo _ (by omega) (by omega)]
    exact h.2.2.1.2.2.1 j hj
  · rw [ms_rows (by decide), ms_rows (by decide), lo _ (by omega) (by omega)]
    exact h.2.2.1.2.2.2.1 p hp
  · show ms M 8 c v 8 e = _
    rw [ms_get]
    by_cases x : e = c
    · rw [if_pos ⟨rfl, x⟩, x, hv']
    · rw [if_neg (fun y => x y.2), hv_cg (hpd e) (lo _ (by omega) (by omega)) (lo _ (by omega) (by omega))]
      exact rb_hold h he
theorem cop_iff {S : Nat → Nat} (h : Ok S) {c : Nat} (hc : c < 240) : (own S c ≠ 0 ∧ pad S c = 0) ↔ S (352 + c) ≠ 0 := by
  constructor
  · rintro ⟨x, y⟩
    unfold own at x
    rw [if_pos y] at x
    exact x
  · intro x
    have y : pad S c = 0 := Classical.byContradiction fun z => x (h.2.2.2.2.2.2.2.2.1 c hc z)
    refine ⟨?_, y⟩
    unfold own
    rw [if_pos y]
    exact x
/-- nothing but bars and copper of cells changes -/
theorem Ok_cs {S S' : Nat → Nat} (h : Ok S) (lo : ∀ i, i < 112 → S' i = S i) (hc : ∀ c, c < 240 → S' (112 + c) ≤ 1 ∧ S' (352 + c) ≤ S 0 ∧ (pad S c ≠ 0 → S' (352 + c) = 0) ∧ (S' (112 + c) ≠ 0 → pad S c = 0 ∧ S' (352 + c) = 0)) : Ok S' ∧ ∀ c, pad S' c = pad S c := by
  have h1 := h.2.1
  have e0 : S' 0 = S 0 := lo 0 (by omega)
  have e1 : S' 1 = S 1 := lo 1 (by omega)
  refine Ok_of h (by rw [e0]; exact Nat.le_refl _) (by rw [e0]; exact h.1) (by rw [e1]; exact h1) (by rw [lo 2 (by omega)]; exact h.2.2.1) (fun p hp0 => by rw [lo _ (by omega)]; exact h.2.2.2.1 p hp0) (fun p hp0 => lo _ (by omega)) (fun i hi => ?_) (fun c hc0 => by rw [e0]; exact hc c hc0)
  rw [e1] at hi
  rw [lo _ (by omega), e0]
  exact h.2.2.2.2.2.1 i hi
theorem Ok_er {S : Nat → Nat} (h : Ok S) {a : Nat} (_ha : a < 240) : Ok (up1 S (352 + a) 0) ∧ ∀ c, pad (up1 S (352 + a) 0) c = pad S c := by
  refine Ok_cs h (fun i hi => up1_ne (by omega)) (fun c hc => ?_)
  have k := Ok_cells h hc
  rw [up1_ne (show 112 + c ≠ 352 + a by omega)]
  by_cases x : c = a
  · subst x
    rw [up1_at]
    exact ⟨k.1, Nat.zero_le _, fun _ => rfl, fun y => ⟨(k.2.2.2 y).1, rfl⟩⟩
  · rw [up1_ne (show 352 + c ≠ 352 + a by omega)]
    exact k
theorem BD_er {S n : Nat → Nat} {M : qM} (h : BD S n M) {c : Nat} (hc : c < 240) (hcp : S (352 + c) ≠ 0) : BD (up1 S (352 + c) 0) n (ms M 8 c (-1)) := by
  have hO := Ok_er h.1 hc
  have hk := (cop_iff h.1 hc).mpr hcp
  refine BD_cell h hO.1 hO.2 (fun i _ b => up1_ne b) ?_ hc
  refine (hv_m1 hO.1 hc).mpr ⟨?_, ?_⟩
  · unfold own
    rw [hO.2 c, if_pos hk.2, up1_at]
  · rw [up1_ne (by omega)]
    exact Classical.byContradiction fun z => hk.1 (h.1.2.2.2.2.2.2.2.2.2 c hc z)
theorem net_cs {A : qA} {S' : Nat → Nat} (hA : RA2 A) (lo : ∀ i, i < 112 → S' i = A.1 i) : isNet (S' 1) S' A.2.1 := by
  have h1 := hA.1.1.2.1
  rw [lo 1 (by omega)]
  exact isNet_cg (fun i hi => lo _ (by omega)) hA.1.2.1
section API5
variable {w : qS} {M : qM}
-- erase
def StErase (A : qA) (x : Int32) (v : Int32) (A' : qA) : Prop := (¬ (∃ c, c < 240 ∧ x = iN c ∧ A.1 (352 + c) ≠ 0) ∧ v = 0 ∧ A' = A) ∨ ∃ c, c < 240 ∧ x = iN c ∧ A.1 (352 + c) ≠ 0 ∧ v = 1 ∧ Cm A (up1 A.1 (352 + c) 0) A.2.1 A'
theorem cl_erase {A : qA} {x : Int32} (hA : RA2 A) (h : RC A M) : gE w 10 0 [some (.ref 0), some (.int x)] [] M (CLp (StErase A x) M) := by
  have hb := RC_BD hA h
  have no : ¬ (∃ c, c < 240 ∧ x = iN c ∧ A.1 (352 + c) ≠ 0) → CLp (StErase A x) M (some (.int 0)) M := fun g => ⟨0, A, rfl, Or.inl ⟨g, rfl, rfl⟩, hA, h, fun _ _ => rfl⟩
  by_cases g : ¬ x < 0 ∧ x < iN 240
  · obtain ⟨c, hc, rfl⟩ := rng g.1 g.2 (by decide)
    refine wk_10_0 (r1 := bi (¬ iN c < 0 ∧ iN c < iN 240)) (r2 := bi (own A.1 c ≠ 0 ∧ pad A.1 c = 0)) ct_24 (fun c1 => absurd g (bi_eq c1)) (fun _ => ct_34 hb hc) (fun c1 c2 => ?_) (fun c1 c2 => no ?_)
    · have hcp := (cop_iff hA.1.1 hc).mp (bi_ne c2)
      refine (cl_begin hA.1 h).mono ?_
      rintro r M1 ⟨rfl, f1, t, f2⟩
      refine wk_10_34 (iN_in hc (by omega)) ?_
      rw [iN_ix (by omega)]
      obtain ⟨A', hC, hRA, hE⟩ := cl_done (w := w) hA f1 f2 (BD_er f2.1 hc hcp) (fun q hq => ms_rows (by omega)) (net_cs hA (fun i hi => up1_ne (by omega))) (BS_up hA.2.1 (by omega)) (fun _ _ i hi => (up1_ne (by omega)).symm)
      refine hE.mono ?_
      rintro r M3 ⟨rfl, k1, k2⟩
      exact wk_10_61 ⟨1, A', rfl, Or.inr ⟨c, hc, rfl, hcp, rfl, hC⟩, hRA, k1, k2⟩
    · rintro ⟨c', hc', e, z⟩
      have : c = c' := (iN_eq (by omega) (by omega)).mp e
      subst this
      exact bi_eq c2 ((cop_iff hA.1.1 hc).mpr z)
  · refine wk_10_0 (r1 := bi (¬ x < 0 ∧ x < iN 240)) (r2 := 0) ct_24 (fun _ => no ?_) (fun c1 => absurd (bi_ne c1) g) (fun c1 => absurd (bi_ne c1) g) (fun c1 => absurd (bi_ne c1) g)
    rintro ⟨c', hc', rfl, z⟩
    exact g ⟨iN_nn (by omega), (iN_lt (by omega) (by omega)).mpr hc'⟩
theorem rf_erase {A A' : qA} {x v : Int32} (hA : RA2 A) (hSt : StErase A x v A') (h : RF A M) : gE w 102 0 [some (.ref 148), some (.int x)] [] M (RFp v A' M) := by
  by_cases g : ¬ x < 0 ∧ x < iN 240
  · obtain ⟨c, hc, rfl⟩ := rng g.1 g.2 (by decide)
    have e : M 149 (iN 352 + iN c).toNatClampNeg = iN (A.1 (352 + c)) := by rw [iN_add, iN_ix (by omega)]; exact h.1.1 _ (by omega)
    have hk := hA.2.1 (352 + c) (by omega)
    refine wk_102_0 (r1 := bi (¬ iN c < 0 ∧ iN c < iN 240)) ct_85 (fun c1 => absurd g (bi_eq c1)) (fun _ => by rw [iN_add]; exact iN_in (by omega) (by omega)) (fun c1 c2 => ?_) (fun c1 c2 => ?_)
    · rw [e, iN_z (by omega)] at c2
      rcases hSt with ⟨k, -, -⟩ | ⟨c', hc', ec, k, rfl, hC⟩
      · exact absurd ⟨c, hc, rfl, c2⟩ k
      · have : c = c' := (iN_eq (by omega) (by omega)).mp ec
        subst this
        refine (rf_begin h).mono ?_
        rintro r M1 ⟨rfl, f1, f2, f3⟩
        refine wk_102_26 (by rw [iN_add]; exact iN_in (by omega) (by omega)) ?_
        rw [iN_add, iN_ix (by omega)]
        refine (rf_done hA hC (Ok_er hA.1.1 hc).1 (net_cs hA (fun i hi => up1_ne (by omega))) (BS_up hA.2.1 (by omega)) f1 f2 f3 (NW_up f3.1) (fr_ms (by decide))).mono ?_
        rintro r M3 ⟨rfl, l1, l2⟩
        exact wk_102_41 ⟨rfl, l1, l2⟩
    · rw [e, iN_z (by omega)] at c2
      rcases hSt with ⟨-, rfl, rfl⟩ | ⟨c', hc', ec, k, rfl, hC⟩
      · exact ⟨rfl, h, fun _ _ => rfl⟩
      · have : c = c' := (iN_eq (by omega) (by omega)).mp ec
        subst this
        exact absurd c2 k
  · refine wk_102_0 (r1 := bi (¬ x < 0 ∧ x < iN 240)) ct_85 (fun _ => ?_) (fun c1 => absurd (bi_ne c1) g) (fun c1 => absurd (bi_ne c1) g) (fun c1 => absurd (bi_ne c1) g)
    rcases hSt with ⟨-, rfl, rfl⟩ | ⟨c', hc', rfl, k, rfl, hC⟩
    · exact ⟨rfl, h, fun _ _ => rfl⟩
    · exact absurd ⟨iN_nn (by omega), (iN_lt (by omega) (by omega)).mpr hc'⟩ g
-- bar
theorem Ok_bar {S : Nat → Nat} (h : Ok S) {a b : Nat} (ha : a < 240) (hb : b ≤ 1) (ho : own S a = 0) : Ok (up1 S (112 + a) b) ∧ ∀ c, pad (up1 S (112 + a) b) c = pad S c := by
  refine Ok_cs h (fun i hi => up1_ne (by omega)) (fun c hc => ?_)
  have k := Ok_cells h hc
  rw [up1_ne (show 352 + c ≠ 112 + a by omega)]
  by_cases x : c = a
  · subst x
    rw [up1_at]
    exact ⟨hb, k.2.1, k.2.2.1, fun _ => own_parts ho⟩
  · rw [up1_ne (show 112 + c ≠ 112 + a by omega)]
    exact k
def bv (x : Int32) : Nat := if x = 0 then 0 else 1
def StBar (A : qA) (x y : Int32) (v : Int32) (A' : qA) : Prop := (¬ (∃ c, c < 240 ∧ x = iN c ∧ own A.1 c = 0) ∧ v = 0 ∧ A' = A) ∨ ∃ c, c < 240 ∧ x = iN c ∧ own A.1 c = 0 ∧ v = y ∧ Cm A (up1 A.1 (112 + c) (bv y)) A.2.1 A'
theorem bv_le (x : Int32) : bv x ≤ 1 := by unfold bv; split <;> omega
theorem cl_bar {A : qA} {x y : Int32} (hy : y = 0 ∨ y = 1) (hA : RA2 A) (h : RC A M) : gE w 8 0 [some (.ref 0), some (.int x), some (.int y)] [] M (CLp (StBar A x y) M) := by
  have hb := RC_BD hA h
  have no : ¬ (∃ c, c < 240 ∧ x = iN c ∧ own A.1 c = 0) → CLp (StBar A x y) M (some (.int 0)) M := fun g => ⟨0, A, rfl, Or.inl ⟨g, rfl, rfl⟩, hA, h, fun _ _ => rfl⟩
  by_cases g : ¬ x < 0 ∧ x < iN 240
  · obtain ⟨c, hc, rfl⟩ := rng g.1 g.2 (by decide)
    have hol := ow_le hA.1.1 hb.2.1 hc
    refine wk_8_0 (r1 := bi (¬ iN c < 0 ∧ iN c < iN 240)) (r2 := pm (ow A.1 A.2.1 c)) ct_24 (fun c1 => absurd g (bi_eq c1)) (fun _ => ct_32 hb hc) (fun c1 c2 => ?_) (fun c1 c2 => no ?_)
    · have ho : own A.1 c = 0 := ow_z.mp ((pm_m1 (by omega)).mp c2)
      have hO := Ok_bar hA.1.1 hc (bv_le y) ho
      refine (cl_begin hA.1 h).mono ?_
      rintro r M1 ⟨rfl, f1, t, f2⟩
      refine wk_8_35 (iN_in hc (by omega)) ?_
      rw [iN_ix (by omega)]
      have ev : hv (up1 A.1 (112 + c) (bv y)) c = if y = 0 then -1 else -2 := by
        have : own (up1 A.1 (112 + c) (bv y)) c = 0 := by
          have := own_parts ho
          unfold own
          rw [hO.2 c, if_pos this.1, up1_ne (by omega)]
          exact this.2
        unfold hv
        rw [if_pos this, up1_at]
        unfold bv
        by_cases z : y = 0
        · rw [if_pos z, if_pos z, if_pos rfl]
        · rw [if_neg z, if_neg z, if_neg (by decide)]
      obtain ⟨A', hC, hRA, hE⟩ := cl_done (w := w) hA f1 f2 (BD_cell f2.1 hO.1 hO.2 (fun i a _ => up1_ne a) ev hc) (fun q hq => ms_rows (by omega)) (net_cs hA (fun i hi => up1_ne (by omega))) (BS_up hA.2.1 (by have := bv_le y; omega)) (fun _ _ i hi => (up1_ne (by omega)).symm)
      refine hE.mono ?_
      rintro r M3 ⟨rfl, k1, k2⟩
      exact wk_8_71 hy ⟨y, A', rfl, Or.inr ⟨c, hc, rfl, ho, rfl, hC⟩, hRA, k1, k2⟩
    · rintro ⟨c', hc', e, z⟩
      have : c = c' := (iN_eq (by omega) (by omega)).mp e
      subst this
      exact c2 ((pm_m1 (by omega)).mpr (ow_z.mpr z))
  · refine wk_8_0 (r1 := bi (¬ x < 0 ∧ x < iN 240)) (r2 := 0) ct_24 (fun _ => no ?_) (fun c1 => absurd (bi_ne c1) g) (fun c1 => absurd (bi_ne c1) g) (fun c1 => absurd (bi_ne c1) g)
    rintro ⟨c', hc', rfl, z⟩
    exact g ⟨iN_nn (by omega), (iN_lt (by omega) (by omega)).mpr hc'⟩
theorem rf_bar {A A' : qA} {x y v : Int32} (hy : y = 0 ∨ y = 1) (hA : RA2 A) (hSt : StBar A x y v A') (h : RF A M) : gE w 97 0 [some (.ref 148), some (.int x), some (.int y)] [] M (RFp v A' M) := by
  have hd := RF_RD hA h
  by_cases g : ¬ x < 0 ∧ x < iN 240
  · obtain ⟨c, hc, rfl⟩ := rng g.1 g.2 (by decide)
    have hol := ow_le hA.1.1 hd.2.1 hc
    have e : M 154 (iN c).toNatClampNeg = pm (ow A.1 A.2.1 c) := by rw [iN_ix (by omega)]; exact h.1.2.2.2 c hc
    have iy : (if y = 0 then 0 else 1 : Int32) = iN (bv y) := by
      unfold bv
      by_cases z : y = 0
      · rw [if_pos z, if_pos z]; rfl
      · rw [if_neg z, if_neg z]; rfl
    have go : ∀ {S' : Nat → Nat}, (S' = up1 A.1 (112 + c) (bv y)) → Ok S' → Cm A S' A.2.1 A' → v = y → gE w 81 0 [some (.ref 148), none] [] M (fun r M' => gE w 97 26 [some (.ref 148), some (.int (iN c)), some (.int y)] (r.toList ++ []) M' (RFp v A' M)) := by
      intro S' eS hO hC ey
      refine (rf_begin h).mono ?_
      rintro r M1 ⟨rfl, f1, f2, f3⟩
      refine wk_97_26 (by rw [iN_add]; exact iN_in (by omega) (by omega)) ?_
      rw [iN_add, iN_ix (by omega), iy]
      refine (rf_done hA hC hO (net_cs hA (fun i hi => by rw [eS]; exact up1_ne (by omega))) (by rw [eS]; exact BS_up hA.2.1 (by have := bv_le y; omega)) f1 f2 f3 (by rw [eS]; exact NW_up f3.1) (fr_ms (by decide))).mono ?_
      rintro r M3 ⟨rfl, l1, l2⟩
      exact wk_97_48 hy ⟨by rw [ey], l1, l2⟩
    rcases hSt with ⟨k, rfl, rfl⟩ | ⟨c', hc', ec, k, ev, hC⟩
    · have ho : own A'.1 c ≠ 0 := fun z => k ⟨c, hc, rfl, z⟩
      have hbr : A'.1 (112 + c) = 0 := Classical.byContradiction fun z => ho (hA.1.1.2.2.2.2.2.2.2.2.2 c hc z)
      have hng : ¬ pm (ow A'.1 A'.2.1 c) < 0 := fun z => ho (ow_z.mp ((pm_neg (by omega)).mp z))
      refine wk_97_0 (r1 := bi (¬ iN c < 0 ∧ iN c < iN 240)) ct_85 (fun c1 => absurd g (bi_eq c1)) (fun _ c2 => ?_) (fun _ _ => iN_in hc (by omega)) (fun _ _ c3 => absurd (by rw [← e]; exact c3) hng) (fun _ _ _ => ⟨rfl, h, fun _ _ => rfl⟩)
      subst c2
      refine go (S' := A'.1) ?_ hA.1.1 ⟨rfl, rfl, rfl, Or.inl ⟨fun _ _ => rfl, rfl, rfl⟩⟩ rfl
      funext i
      unfold up1
      by_cases z : i = 112 + c
      · rw [if_pos z, z, hbr]; rfl
      · rw [if_neg z]
    · have : c = c' := (iN_eq (by omega) (by omega)).mp ec
      subst this
      have hO := (Ok_bar hA.1.1 hc (bv_le y) k).1
      refine wk_97_0 (r1 := bi (¬ iN c < 0 ∧ iN c < iN 240)) ct_85 (fun c1 => absurd g (bi_eq c1)) (fun _ c2 => go rfl hO hC ev) (fun _ _ => iN_in hc (by omega)) (fun _ _ c3 => go rfl hO hC ev) (fun _ _ c3 => absurd ?_ c3)
      rw [e, ow_z.mpr k]
      decide
  · refine wk_97_0 (r1 := bi (¬ x < 0 ∧ x < iN 240)) ct_85 (fun _ => ?_) (fun c1 => absurd (bi_ne c1) g) (fun c1 => absurd (bi_ne c1) g) (fun c1 => absurd (bi_ne c1) g) (fun c1 => absurd (bi_ne c1) g)
    rcases hSt with ⟨-, rfl, rfl⟩ | ⟨c', hc', rfl, k, rfl, hC⟩
    · exact ⟨rfl, h, fun _ _ => rfl⟩
    · exact absurd ⟨iN_nn (by omega), (iN_lt (by omega) (by omega)).mpr hc'⟩ g
-- rip
def srip (S n : Nat → Nat) (net : Nat) : Nat → Nat → Nat
  | 0 => S
  | k + 1 => if S (352 + k) ≠ 0 ∧ ow S n k = net + 1 then up1 (srip S n net k) (352 + k) 0 else srip S n net k
def crip (S n : Nat → Nat) (net : Nat) : Nat → Nat
  | 0 => 0
  | k + 1 => if S (352 + k) ≠ 0 ∧ ow S n k = net + 1 then crip S n net k + 1 else crip S n net k
theorem crip_le (S n : Nat → Nat) (net : Nat) : ∀ k, crip S n net k ≤ k
  | 0 => Nat.le_refl 0
  | k + 1 => by
    have := crip_le S n net k
    simp only [crip]
    split <;> omega
theorem srip_lo (S n : Nat → Nat) (net : Nat) : ∀ k i, i < 352 ∨ 352 + k ≤ i → srip S n net k i = S i
  | 0, _, _ => rfl
  | k + 1, i, hi => by
    simp only [srip]
    split
    · rw [up1_ne (by omega)]; exact srip_lo S n net k i (by omega)
    · exact srip_lo S n net k i (by omega)
theorem srip_Ok {S n : Nat → Nat} {net : Nat} (h : Ok S) (hb : BS S) : ∀ k, k ≤ 240 → Ok (srip S n net k) ∧ BS (srip S n net k) ∧ ∀ c, pad (srip S n net k) c = pad S c
  | 0, _ => ⟨h, hb, fun _ => rfl⟩
  | k + 1, hk => by
    have ih := srip_Ok h hb (n := n) (net := net) k (by omega)
    simp only [srip]
    split
    · have := Ok_er ih.1 (a := k) (by omega)
      exact ⟨this.1, BS_up ih.2.1 (by omega), fun c => by rw [this.2 c]; exact ih.2.2 c⟩
    · exact ih
theorem ct_51 {S n : Nat → Nat} {net : Nat} (h : BD S n M) (hb : BS S) (hnet : net < 16) : gE w 51 0 [some (.ref 1), some (.int (iN net)), none, none] [] M (fun r M' => r = some (.int (iN (crip S n net 240))) ∧ fr [8] M M' ∧ BD (srip S n net 240) n M') := by
  refine wk_51_0 ?_
  refine ev_for 240 (Inv := fun i loc M' => (fr [8] M M' ∧ BD (srip S n net i) n M') ∧ loc = [some (.ref 1), some (.int (iN net)), some (.int (iN (crip S n net i))), some (.int (iN i))]) ?_ ?_ 0 _ _ (Nat.zero_le _) ⟨⟨fr_rfl, h⟩, rfl⟩
  · rintro i loc M1 hi ⟨⟨a1, a2⟩, rfl⟩ rec
    have hk := srip_Ok (n := n) (net := net) h.1 hb i (by omega)
    have ec : srip S n net i (352 + i) = S (352 + i) := srip_lo S n net i _ (by omega)
    have eo : own (srip S n net i) i = own S i := by unfold own; rw [hk.2.2, ec]
    have ew : ow (srip S n net i) n i = ow S n i := by unfold ow; rw [eo]
    have hol := ow_le h.1 h.2.1 hi
    have hcnt := crip_le S n net i
    refine wk_51_4 (r1 := bi (own (srip S n net i) i ≠ 0 ∧ pad (srip S n net i) i = 0)) (r2 := pm (ow (srip S n net i) n i)) (fun c1 => absurd ((iN_lt (by omega) (by omega)).mpr hi) c1) (fun _ => ct_34 a2 hi) (fun _ c2 => ?_) (fun _ _ => ct_32 a2 hi) (fun _ c2 c3 => ?_) (fun _ _ _ => iN_in hi (by omega)) (fun _ c2 c3 => ?_)
    · have := bi_eq c2
      rw [cop_iff hk.1 hi, ec] at this
      rw [iN_succ]
      refine rec _ _ ?_
      simp only [srip, crip]
      rw [if_neg (show ¬ (S (352 + i) ≠ 0 ∧ ow S n i = net + 1) from fun z => this z.1), if_neg (show ¬ (S (352 + i) ≠ 0 ∧ ow S n i = net + 1) from fun z => this z.1)]
      exact ⟨⟨a1, a2⟩, rfl⟩
    · rw [ew, pm_iN (by omega) (by omega)] at c3
      rw [iN_succ]
      refine rec _ _ ?_
      simp only [srip, crip]
      rw [if_neg (show ¬ (S (352 + i) ≠ 0 ∧ ow S n i = net + 1) from fun z => c3 z.2), if_neg (show ¬ (S (352 + i) ≠ 0 ∧ ow S n i = net + 1) from fun z => c3 z.2)]
      exact ⟨⟨a1, a2⟩, rfl⟩
    · rw [ew, pm_iN (by omega) (by omega)] at c3
      have := bi_ne c2
      rw [cop_iff hk.1 hi] at this
      rw [iN_succ, iN_succ, iN_ix (by omega)]
      refine rec _ _ ?_
      simp only [srip, crip]
      rw [if_pos (show S (352 + i) ≠ 0 ∧ ow S n i = net + 1 from ⟨by rw [← ec]; exact this, c3⟩), if_pos (show S (352 + i) ≠ 0 ∧ ow S n i = net + 1 from ⟨by rw [← ec]; exact this, c3⟩)]
      exact ⟨⟨fr_tr a1 (fr_ms (by decide)), BD_er a2 hi this⟩, rfl⟩
  · rintro loc M1 ⟨⟨a1, a2⟩, rfl⟩
    have hno : ∀ {α : Prop}, iN 240 < iN 240 → α := fun c1 => absurd ((iN_lt (by omega) (by omega)).mp c1) (by omega)
    exact wk_51_4 (r1 := 0) (r2 := 0) (fun _ => ⟨rfl, a1, a2⟩) (fun c1 => hno c1) (fun c1 => hno c1) (fun c1 => hno c1) (fun c1 => hno c1) (fun c1 => hno c1) (fun c1 => hno c1)
def StRip (A : qA) (x : Int32) (v : Int32) (A' : qA) : Prop := (¬ (¬ x < 0 ∧ x < iN (A.1 0)) ∧ v = -1 ∧ A' = A) ∨ ∃ p, p < A.1 0 ∧ x = iN p ∧ v = iN (crip A.1 A.2.1 (A.2.1 p) 240) ∧ Cm A (srip A.1 A.2.1 (A.2.1 p) 240) A.2.1 A'
theorem cl_rip {A : qA} {x : Int32} (hA : RA2 A) (h : RC A M) : gE w 12 0 [some (.ref 0), some (.int x), none] [] M (CLp (StRip A x) M) := by
  have hb := RC_BD hA h
  have h0 := hA.1.1.1
  refine wk_12_0 (r1 := bi (¬ x < 0 ∧ x < iN (A.1 0))) (ct_29 hb) (fun c1 => ?_) (fun c1 => ⟨-1, A, rfl, Or.inl ⟨bi_eq c1, rfl, rfl⟩, hA, h, fun _ _ => rfl⟩)
  obtain ⟨p, hp, rfl⟩ := rng (bi_ne c1).1 (bi_ne c1).2 (by omega)
  refine (cl_begin hA.1 h).mono ?_
  rintro r M1 ⟨rfl, f1, t, f2⟩
  have hnp := isNet_lt hA.1.2.1 (show p < 16 by omega)
  refine wk_12_27 (r1 := iN (A.2.1 p)) (ct_31 f2.1 (by omega)) ?_
  refine (ct_51 f2.1 hA.2.1 hnp).mono ?_
  rintro r M2 ⟨rfl, g1, g2⟩
  have hk := srip_Ok (n := A.2.1) (net := A.2.1 p) hA.1.1 hA.2.1 240 (Nat.le_refl _)
  have hlo := srip_lo A.1 A.2.1 (A.2.1 p) 240
  obtain ⟨A', hC, hRA, hE⟩ := cl_done (w := w) hA f1 f2 g2 (fun q hq => g1 q (by simp only [List.mem_cons, List.not_mem_nil, or_false]; omega)) (net_cs hA (fun i hi => hlo i (by omega))) hk.2.1 (fun _ _ i hi => (hlo i (by omega)).symm)
  refine wk_12_42 (hE.mono ?_)
  rintro r M3 ⟨rfl, k1, k2⟩
  exact wk_12_57 ⟨_, A', rfl, Or.inr ⟨p, hp, rfl, rfl, hC⟩, hRA, k1, k2⟩
theorem rf_rip {A A' : qA} {x v : Int32} (hA : RA2 A) (hSt : StRip A x v A') (h : RF A M) : gE w 104 0 [some (.ref 148), some (.int x), none, none, none] [] M (RFp v A' M) := by
  have h0 := hA.1.1.1
  have hd := RF_RD hA h
  refine wk_104_0 (r1 := bi (¬ x < 0 ∧ x < iN (A.1 0))) (ct_84 (n := A.2.1) h.1.1) (fun c1 => ?_) (fun c1 => ?_)
  · rcases hSt with ⟨k, -⟩ | ⟨p, hp, rfl, rfl, hC⟩
    · exact absurd (bi_ne c1) k
    · refine (rf_begin h).mono ?_
      rintro r M1 ⟨rfl, f1, f2, f3⟩
      have hnp := isNet_lt hA.1.2.1 (show p < 16 by omega)
      refine wk_104_14 ?_
      generalize hnet : A.2.1 p = net at *
      refine ev_for 240 (Inv := fun i loc M' => (fr [149] M1 M' ∧ NW (srip A.1 A.2.1 net i) M') ∧ ∃ o4, loc = [some (.ref 148), some (.int (iN p)), some (.int (iN (crip A.1 A.2.1 net i))), some (.int (iN i)), o4]) ?_ ?_ 0 _ _ (Nat.zero_le _) ⟨⟨fr_rfl, f3.1⟩, _, rfl⟩
      · rintro i loc M2 hi ⟨⟨a1, a2⟩, o4, rfl⟩ rec
        have ec : srip A.1 A.2.1 net i (352 + i) = A.1 (352 + i) := srip_lo A.1 A.2.1 net i _ (by omega)
        have hbs := hA.2.1 (352 + i) (by omega)
        have hol := ow_le hA.1.1 hd.2.1 hi
        have e1 : M2 149 (iN 352 + iN i).toNatClampNeg = iN (A.1 (352 + i)) := by rw [iN_add, iN_ix (by omega), a2 _ (by omega), ec]
        have e2 : M2 154 (iN i).toNatClampNeg = pm (ow A.1 A.2.1 i) := by rw [iN_ix (by omega), a1 154 (by decide)]; exact f3.2.2.2 i hi
        have e3 : M2 152 (iN p).toNatClampNeg = iN net := by rw [iN_ix (by omega), a1 152 (by decide), f3.2.1 p (by omega), hnet]
        have cc : (if 0 < iN (A.1 (352 + i)) then (if pm (ow A.1 A.2.1 i) = iN net then 1 else 0 : Int32) else 0 : Int32) = bi (A.1 (352 + i) ≠ 0 ∧ ow A.1 A.2.1 i = net + 1) := by
          by_cases y : A.1 (352 + i) = 0
          · rw [bi_neg (fun z => z.1 y), if_neg (fun z => by rw [iN_pos (by omega)] at z; omega)]
          · rw [if_pos ((iN_pos (by omega)).mpr (by omega)), bi_y]
            refine bi_congr ?_
            rw [pm_iN (by omega) (by omega)]
            exact ⟨fun z => ⟨y, z⟩, fun z => z.2⟩
        refine wk_104_18 (fun c1 => absurd ((iN_lt (by omega) (by omega)).mpr hi) c1) (fun _ => by rw [iN_add]; exact iN_in (by omega) (by omega)) (fun _ => ?_) (fun _ _ => iN_in hi (by omega)) (fun _ _ => iN_in (by omega) (by omega))
        rw [e1, e2, e3, cc, iN_succ i, iN_succ (crip A.1 A.2.1 net i), iN_add, iN_ix (by omega)]
        refine rec _ _ ?_
        simp only [srip, crip]
        by_cases y : A.1 (352 + i) ≠ 0 ∧ ow A.1 A.2.1 i = net + 1
        · rw [bi_pos y, if_neg (show ¬ (1 : Int32) = 0 by decide), if_neg (show ¬ (1 : Int32) = 0 by decide), if_pos y, if_pos y]
          exact ⟨⟨fr_tr a1 (fr_ms (by decide)), NW_up (v := 0) a2⟩, _, rfl⟩
        · rw [bi_neg y, if_pos (show (0 : Int32) = 0 from rfl), if_pos (show (0 : Int32) = 0 from rfl), if_neg y, if_neg y]
          refine ⟨⟨fr_tr a1 (fr_ms (by decide)), fun j hj => ?_⟩, _, rfl⟩
          rw [ms_get]
          by_cases z : j = 352 + i
          · rw [if_pos ⟨rfl, z⟩, z, ec]
          · rw [if_neg (fun u => z u.2)]; exact a2 j hj
      · rintro loc M2 ⟨⟨a1, a2⟩, o4, rfl⟩
        have hno : ∀ {α : Prop}, iN 240 < iN 240 → α := fun c1 => absurd ((iN_lt (by omega) (by omega)).mp c1) (by omega)
        have hk := srip_Ok (n := A.2.1) (net := net) hA.1.1 hA.2.1 240 (Nat.le_refl _)
        have hlo := srip_lo A.1 A.2.1 net 240
        refine wk_104_18 (fun _ => ?_) (fun c1 => hno c1) (fun c1 => hno c1) (fun c1 => hno c1) (fun c1 => hno c1)
        refine (rf_done hA hC hk.1 (net_cs hA (fun i hi => hlo i (by omega))) hk.2.1 f1 f2 f3 a2 a1).mono ?_
        rintro r M3 ⟨rfl, l1, l2⟩
        exact wk_104_112 ⟨rfl, l1, l2⟩
  · rcases hSt with ⟨-, rfl, rfl⟩ | ⟨p, hp, rfl, -⟩
    · exact ⟨rfl, h, fun _ _ => rfl⟩
    · exact absurd ⟨iN_nn (by omega), (iN_lt (by omega) (by omega)).mpr hp⟩ (bi_eq c1)
end API5
