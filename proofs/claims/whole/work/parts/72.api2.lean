/-! Calls: net, copper, read, undo. -/
theorem RC_BD {A : qA} {M : qM} (hA : RA2 A) (h : RC A M) : BD A.1 A.2.1 M := ⟨hA.1.1, fun p hp => isNet_lt hA.1.2.1 hp, h.1⟩
theorem RF_RD {A : qA} {M : qM} (hA : RA2 A) (h : RF A M) : RD A.1 A.2.1 M := ⟨hA.1.1, fun p hp => isNet_lt hA.1.2.1 hp, h.1⟩
section API2
variable {w : qS} {M : qM}
theorem ct_85 {x : Int32} : gE w 85 0 [some (.int x)] [] M (qv1 M (bi (¬ x < 0 ∧ x < iN 240))) := wk_85_0 (qv1_i bi_nd)
-- net
def StNet (A : qA) (x : Int32) (v : Int32) (A' : qA) : Prop := A' = A ∧ ((¬ (¬ x < 0 ∧ x < iN (A.1 0)) ∧ v = -1) ∨ ∃ p, p < A.1 0 ∧ x = iN p ∧ v = iN (A.2.1 p))
theorem cl_net {A : qA} {x : Int32} (hA : RA2 A) (h : RC A M) : gE w 3 0 [some (.ref 0), some (.int x)] [] M (CLp (StNet A x) M) := by
  have hb := RC_BD hA h
  have h0 := hA.1.1.1
  by_cases g : ¬ x < 0 ∧ x < iN (A.1 0)
  · obtain ⟨p, hp, rfl⟩ := rng g.1 g.2 (by omega)
    refine wk_3_0 (r1 := bi (¬ iN p < 0 ∧ iN p < iN (A.1 0))) (r2 := iN (A.2.1 p)) (ct_29 hb) ⟨_, A, rfl, ⟨rfl, Or.inr ⟨p, hp, rfl, ?_⟩⟩, hA, h, fun _ _ => rfl⟩ (fun _ => ct_31 hb (by omega))
    rw [bi_pos g, if_neg (by decide)]
  · refine wk_3_0 (r1 := bi (¬ x < 0 ∧ x < iN (A.1 0))) (r2 := 0) (ct_29 hb) ⟨_, A, rfl, ⟨rfl, Or.inl ⟨g, ?_⟩⟩, hA, h, fun _ _ => rfl⟩ (fun c1 => absurd (bi_ne c1) g)
    rw [bi_neg g, if_pos rfl]
theorem rf_net {A A' : qA} {x v : Int32} (hA : RA2 A) (hSt : StNet A x v A') (h : RF A M) : gE w 89 0 [some (.ref 148), some (.int x)] [] M (RFp v A' M) := by
  have h0 := hA.1.1.1
  obtain ⟨rfl, hSt⟩ := hSt
  rcases hSt with ⟨g, rfl⟩ | ⟨p, hp, rfl, rfl⟩
  · refine wk_89_0 (r1 := bi (¬ x < 0 ∧ x < iN (A'.1 0))) (ct_84 (n := A'.2.1) h.1.1) ⟨?_, h, fun _ _ => rfl⟩ (fun c1 => absurd (bi_ne c1) g)
    rw [bi_neg g, if_pos rfl]
  · have g : ¬ iN p < 0 ∧ iN p < iN (A'.1 0) := ⟨iN_nn (by omega), (iN_lt (by omega) (by omega)).mpr hp⟩
    refine wk_89_0 (r1 := bi (¬ iN p < 0 ∧ iN p < iN (A'.1 0))) (ct_84 (n := A'.2.1) h.1.1) ⟨?_, h, fun _ _ => rfl⟩ (fun _ => iN_in (by omega) (by omega))
    rw [bi_pos g, if_neg (by decide), iN_ix (by omega), h.1.2.1 p (by omega)]
-- copper
def StCopper (A : qA) (x : Int32) (v : Int32) (A' : qA) : Prop := A' = A ∧ ((¬ (¬ x < 0 ∧ x < iN 240) ∧ v = -1) ∨ ∃ c, c < 240 ∧ x = iN c ∧ v = pm (ow A.1 A.2.1 c))
theorem cl_copper {A : qA} {x : Int32} (hA : RA2 A) (h : RC A M) : gE w 14 0 [some (.ref 0), some (.int x)] [] M (CLp (StCopper A x) M) := by
  have hb := RC_BD hA h
  by_cases g : ¬ x < 0 ∧ x < iN 240
  · obtain ⟨c, hc, rfl⟩ := rng g.1 g.2 (by decide)
    refine wk_14_0 (r1 := bi (¬ iN c < 0 ∧ iN c < iN 240)) (r2 := pm (ow A.1 A.2.1 c)) ct_24 ⟨_, A, rfl, ⟨rfl, Or.inr ⟨c, hc, rfl, ?_⟩⟩, hA, h, fun _ _ => rfl⟩ (fun _ => ct_32 hb hc)
    rw [bi_pos g, if_neg (by decide)]
  · refine wk_14_0 (r1 := bi (¬ x < 0 ∧ x < iN 240)) (r2 := 0) ct_24 ⟨_, A, rfl, ⟨rfl, Or.inl ⟨g, ?_⟩⟩, hA, h, fun _ _ => rfl⟩ (fun c1 => absurd (bi_ne c1) g)
    rw [bi_neg g, if_pos rfl]
theorem rf_copper {A A' : qA} {x v : Int32} (hSt : StCopper A x v A') (h : RF A M) : gE w 103 0 [some (.ref 148), some (.int x)] [] M (RFp v A' M) := by
  obtain ⟨rfl, hSt⟩ := hSt
  rcases hSt with ⟨g, rfl⟩ | ⟨c, hc, rfl, rfl⟩
  · refine wk_103_0 (r1 := bi (¬ x < 0 ∧ x < iN 240)) ct_85 ⟨?_, h, fun _ _ => rfl⟩ (fun c1 => absurd (bi_ne c1) g)
    rw [bi_neg g, if_pos rfl]
  · have g : ¬ iN c < 0 ∧ iN c < iN 240 := ⟨iN_nn (by omega), (iN_lt (by omega) (by omega)).mpr hc⟩
    refine wk_103_0 (r1 := bi (¬ iN c < 0 ∧ iN c < iN 240)) ct_85 ⟨?_, h, fun _ _ => rfl⟩ (fun _ => iN_in hc (by omega))
    rw [bi_pos g, if_neg (by decide), iN_ix (by omega), h.1.2.2.2 c hc]
-- undo
def StUndo (A : qA) (v : Int32) (A' : qA) : Prop := (A.2.2.1 = 0 ∧ v = -1 ∧ A' = A) ∨ (0 < A.2.2.1 ∧ v = iN (A.2.2.1 - 1) ∧ A'.1 = A.2.2.2.1 (A.2.2.1 - 1) ∧ isNet (A'.1 1) A'.1 A'.2.1 ∧ A'.2.2.1 = A.2.2.1 - 1 ∧ A'.2.2.2.1 = A.2.2.2.1 ∧ A'.2.2.2.2 = A.2.2.2.2)
theorem cl_undo {A : qA} (hA : RA2 A) (h : RC A M) : gE w 19 0 [some (.ref 0)] [] M (CLp (StUndo A) M) := by
  obtain ⟨S, n, u, H, tp⟩ := A
  obtain ⟨h1, ⟨t, h2⟩, h3⟩ := id h
  dsimp only at *
  have hu : u ≤ 16 := hA.1.2.2.1
  have ht := h2.1
  by_cases z : u = 0
  · have e : M 10 2 = 0 := by rw [h2.2.2.1, z]; rfl
    exact wk_19_0 (fun c1 => absurd e c1) (fun _ => ⟨-1, _, rfl, Or.inl ⟨z, rfl, rfl⟩, hA, h, fun _ _ => rfl⟩)
  · have e : ¬ M 10 2 = 0 := by rw [h2.2.2.1]; exact fun x => z ((iN_z (by omega)).mp x)
    have hOk : Ok (H (u - 1)) := hA.1.2.2.2.1 (u - 1) (by show u - 1 < u; omega)
    have hrs := h2.2.2.2 (u - 1) (by omega)
    rw [show (t + 17 - u + (u - 1)) % 17 = (t + 16) % 17 by omega] at hrs
    refine wk_19_0 (fun _ => ?_) (fun c1 => absurd c1 e)
    refine (ct_61 ht hu (by omega) h2.2.1 h2.2.2.1 hOk hrs).mono ?_
    rintro r M1 ⟨rfl, f1, f2, f3, f4⟩
    refine wk_19_26 ?_
    refine (ct_40 f4 hOk.2.1 (fun i hi => Nat.lt_of_lt_of_le (hOk.2.2.2.2.2.1 i hi) hOk.1)).mono ?_
    rintro r M2 ⟨rfl, g1, n', g2, g3⟩
    have fo : ∀ q, q = 25 ∨ q = 26 ∨ 29 ≤ q → M2 q = M q := fun q hq => by
      rw [g1 q (by simp only [List.mem_cons, List.not_mem_nil, or_false]; omega), f1 q (by unfold shL; simp only [List.mem_cons, List.not_mem_nil, or_false]; omega)]
    have e2 : M2 10 2 = iN (u - 1) := by rw [g1 10 (by decide)]; exact f3
    refine wk_19_33 ⟨_, (H (u - 1), n', u - 1, H, tp), rfl, Or.inr ⟨by show 0 < u; omega, e2, rfl, g2, rfl, rfl, rfl⟩, ⟨⟨hOk, g2, by show u - 1 ≤ 16; omega, fun i hi => hA.1.2.2.2.1 i (by show i < u; have : i < u - 1 := hi; omega), hA.1.2.2.2.2.1, hA.1.2.2.2.2.2⟩, hA.2.2 (u - 1) (by show u - 1 < u; omega), fun i hi => hA.2.2 i (by show i < u; have : i < u - 1 := hi; omega)⟩, ⟨⟨RS_fr f4 (fun k hk => g1 _ (by simp only [List.mem_cons, List.not_mem_nil, or_false]; omega)), fun p hp => g3 p (Nat.lt_of_lt_of_le hp hOk.1)⟩, ⟨(t + 16) % 17, Nat.mod_lt _ (by omega), by rw [g1 10 (by decide)]; exact f2, e2, fun i hi => ?_⟩, by rw [fo 25 (by omega)]; exact h3.1, fun i hi => by rw [fo 26 (by omega)]; exact h3.2 i hi⟩, fun q hq => fo q (by omega)⟩
    have hi : i < u - 1 := hi
    have := h2.2.2.2 i (by omega)
    dsimp only
    rw [show ((t + 16) % 17 + 17 - (u - 1) + i) % 17 = (t + 17 - u + i) % 17 by omega]
    exact RS_fr this (fun k hk => fo _ (by omega))
theorem rf_undo {A A' : qA} {v : Int32} (hA : RA2 A) (hSt : StUndo A v A') (h : RF A M) : gE w 83 0 [some (.ref 148), none] [] M (RFp v A' M) := by
  obtain ⟨S, n, u, H, tp⟩ := A
  obtain ⟨S1, n1, u1, H1, tp1⟩ := A'
  have hu : u ≤ 16 := hA.1.2.2.1
  have e3 : M 148 3 = iN u := h.2.1.1
  rcases hSt with ⟨z, rfl, k⟩ | ⟨z, rfl, k1, k2, k3, k4, k5⟩
  · dsimp only at z
    have e : M 148 3 = 0 := by rw [e3, z]; rfl
    rw [k]
    exact wk_83_0 (fun c1 => absurd e c1) (fun _ => ⟨rfl, h, fun _ _ => rfl⟩)
  · dsimp only at *
    subst k1 k3 k4 k5
    have e : ¬ M 148 3 = 0 := by rw [e3]; exact fun x => by have := (iN_z (by omega)).mp x; omega
    have hOk : Ok (H1 (u - 1)) := hA.1.2.2.2.1 (u - 1) (by show u - 1 < u; omega)
    refine wk_83_0 (fun _ => ?_) (fun c1 => absurd c1 e)
    rw [e3, show iN u - 1 = iN (u - 1) from iN_sub (a := u) (b := 1) (by omega)]
    refine ev_for 592 (Inv := fun i loc M' => (fr [148, 149] M M' ∧ M' 148 = ms M 148 3 (iN (u - 1)) 148 ∧ ∀ j, j < i → M' 149 j = iN (H1 (u - 1) j)) ∧ loc = [some (.ref 148), some (.int (iN i))]) ?_ ?_ 0 _ _ (Nat.zero_le _) ⟨⟨fr_ms (by decide), rfl, fun p hp => absurd hp (by omega)⟩, rfl⟩
    · rintro i loc M1 hi ⟨⟨a1, a2, a3⟩, rfl⟩ rec
      have e4 : M1 148 3 = iN (u - 1) := by rw [a2, ms_at]
      have e5 : iN 592 * M1 148 3 + iN i = iN (592 * (u - 1) + i) := by rw [e4, iN_mul, iN_add]
      refine wk_83_21 (fun c1 => absurd ((iN_lt (by omega) (by omega)).mpr hi) c1) (fun _ => by rw [e5]; exact iN_in (by omega) (by omega)) (fun _ => iN_in hi (by omega)) (fun _ => ?_)
      rw [e5, iN_succ, iN_ix (by omega), iN_ix (by omega), a1 151 (by decide), h.2.1.2 (u - 1) i (by show u - 1 < u; omega) hi]
      refine rec _ _ ⟨⟨fr_tr a1 (fr_ms (by decide)), by rw [ms_rows (by decide)]; exact a2, fun j hj => ?_⟩, rfl⟩
      rw [ms_get]
      by_cases x : j = i
      · rw [if_pos ⟨rfl, x⟩, x]
      · rw [if_neg (fun y => x y.2)]; exact a3 j (by omega)
    · rintro loc M1 ⟨⟨a1, a2, a3⟩, rfl⟩
      have hno : ∀ {α : Prop}, iN 592 < iN 592 → α := fun c1 => absurd ((iN_lt (by omega) (by omega)).mp c1) (by omega)
      refine wk_83_21 (fun _ => ?_) (fun c1 => hno c1) (fun c1 => hno c1) (fun c1 => hno c1)
      refine (ct_80 hOk k2 a3).mono ?_
      rintro r M2 ⟨rfl, g1, g2⟩
      have e4 : M2 148 3 = iN (u - 1) := by rw [g1 148 (by decide), a2, ms_at]
      refine wk_83_59 ⟨by rw [e4], ⟨g2, ⟨e4, fun i k hi hk => ?_⟩, ?_, fun i hi => ?_⟩, fun q hq => ?_⟩
      · rw [g1 151 (by decide), a1 151 (by decide)]
        exact h.2.1.2 i k (by show i < u; have : i < u - 1 := hi; omega) hk
      · rw [g1 148 (by decide), a2, ms_row (by decide)]; exact h.2.2.1
      · rw [g1 158 (by decide), a1 158 (by decide)]; exact h.2.2.2 i hi
      · rw [g1 q (by simp only [List.mem_cons, List.not_mem_nil, or_false]; omega), a1 q (by simp only [List.mem_cons, List.not_mem_nil, or_false]; omega)]
end API2
