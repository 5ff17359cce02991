/-! Calls: check. -/
theorem RC_fr {A : qA} {M M' : qM} (h : RC A M) (e : ∀ q, q ≤ 10 ∨ q = 25 ∨ q = 26 ∨ 29 ≤ q → M' q = M q) : RC A M' := by
  obtain ⟨h1, ⟨t, h2⟩, h3⟩ := h
  exact ⟨RB_fr h1 (fun q hq => e q (by omega)), ⟨t, h2.1, by rw [e 10 (by omega)]; exact h2.2.1, by rw [e 10 (by omega)]; exact h2.2.2.1, fun i hi => RS_fr (h2.2.2.2 i hi) (fun j hj => e _ (by omega))⟩, by rw [e 25 (by omega)]; exact h3.1, fun i hi => by rw [e 26 (by omega)]; exact h3.2 i hi⟩
theorem FB_fr {S n : Nat → Nat} {M M' : qM} (h : FB S n M) (e : ∀ q, q = 149 ∨ q = 152 ∨ q = 153 ∨ q = 154 → M' q = M q) : FB S n M' :=
  ⟨fun i hi => by rw [e 149 (by omega)]; exact h.1 i hi, fun p hp => by rw [e 152 (by omega)]; exact h.2.1 p hp, fun c hc => by rw [e 153 (by omega)]; exact h.2.2.1 c hc, fun c hc => by rw [e 154 (by omega)]; exact h.2.2.2 c hc⟩
theorem RF_fr {A : qA} {M M' : qM} (h : RF A M) (e : ∀ q, q = 148 ∨ q = 149 ∨ q = 151 ∨ q = 152 ∨ q = 153 ∨ q = 154 ∨ q = 158 → M' q = M q) : RF A M' :=
  ⟨FB_fr h.1 (fun q hq => e q (by omega)), ⟨by rw [e 148 (by omega)]; exact h.2.1.1, fun i k hi hk => by rw [e 151 (by omega)]; exact h.2.1.2 i k hi hk⟩, by rw [e 148 (by omega)]; exact h.2.2.1, fun i hi => by rw [e 158 (by omega)]; exact h.2.2.2 i hi⟩
theorem Mis_uniq {S n : Nat → Nat} {net k l : Nat} (h : Mis S n net k) (g : Mis S n net l) : k = l := by
  rcases h with ⟨rfl, h0⟩ | ⟨I, hI, h⟩
  · rcases g with ⟨rfl, -⟩ | ⟨J, ⟨p, hp, -⟩, -⟩
    · rfl
    · exact absurd hp.1 (h0 p)
  · rcases g with ⟨rfl, g0⟩ | ⟨J, hJ, g⟩
    · obtain ⟨p, hp, -⟩ := hI
      exact absurd hp.1 (g0 p)
    · have e : ∀ c, c < 240 → (I c ↔ J c) := fun c hc => isPie_uniq hI hJ hc
      rcases h with ⟨rfl, h0⟩ | ⟨m, rfl, hm⟩
      · rcases g with ⟨rfl, -⟩ | ⟨m', rfl, hm'⟩
        · rfl
        · exact absurd ⟨hm'.1.1, fun x => hm'.1.2 ((e _ (fp_lt m')).mp x)⟩ (h0 m')
      · rcases g with ⟨rfl, g0⟩ | ⟨m', rfl, hm'⟩
        · exact absurd ⟨hm.1.1, fun x => hm.1.2 ((e _ (fp_lt m)).mpr x)⟩ (g0 m)
        · rw [isMis_uniq e hm hm']
/-- code of a net's missing pin -/
noncomputable def mk (S n : Nat → Nat) (net : Nat) : Nat := @dite _ (∃ k, Mis S n net k) (Classical.propDecidable _) (fun h => Classical.choose h) (fun _ => 0)
theorem mk_of {S n : Nat → Nat} {net k : Nat} (h : Mis S n net k) : mk S n net = k := by
  have hx : ∃ k, Mis S n net k := ⟨k, h⟩
  unfold mk
  rw [dif_pos hx]
  exact Mis_uniq (Classical.choose_spec hx) h
theorem mk_not {S n : Nat → Nat} (h : isNet (S 1) S n) (h0 : S 0 ≤ 16) {net : Nat} (hn : n net ≠ net) : mk S n net = 0 :=
  mk_of (Or.inl ⟨rfl, fun p hp => hn (by rw [← hp.2.1]; exact isNet_idem h (by have := hp.1; omega))⟩)
theorem MP_mk {S n : Nat → Nat} {net : Nat} {M M' : qM} {r : Option Value} (h : MP S n net M r M') : mk S n net ≤ 16 ∧ r = some (.int (pm (mk S n net))) ∧ fr [12, 13, 14] M M' := by
  obtain ⟨k, hk, rfl, hf, ⟨rfl, h2⟩ | ⟨m, I, z, q, rfl, h3, h4, -⟩⟩ := h
  · rw [mk_of h2]; exact ⟨hk, rfl, hf⟩
  · rw [mk_of (Or.inr ⟨I, h3, Or.inr ⟨m, rfl, h4⟩⟩)]; exact ⟨hk, rfl, hf⟩
theorem RMs_mk {S n : Nat → Nat} {net : Nat} {M M' : qM} {r : Option Value} (h : RMs S n net M r M') : mk S n net ≤ 16 ∧ r = some (.int (pm (mk S n net))) ∧ fr [155] M M' := by
  obtain ⟨k, hk, rfl, hf, ⟨rfl, h2⟩ | ⟨m, p0, I, L, rfl, h3, h4, h5, -, -⟩⟩ := h
  · rw [mk_of h2]; exact ⟨hk, rfl, hf⟩
  · rw [mk_of (Or.inr ⟨I, ⟨p0, h3, h4⟩, Or.inr ⟨m, rfl, h5⟩⟩)]; exact ⟨hk, rfl, hf⟩
noncomputable def nkF (S n : Nat → Nat) (a b : Nat) : Nat → Nat
  | 0 => 0
  | k + 1 => if nkF S n a b k ≠ 0 then nkF S n a b k else @ite _ (ow S n k = a + 1 ∧ nr S n k b True) (Classical.propDecidable _) (k + 1) 0
theorem nkF_s (S n : Nat → Nat) (a b k : Nat) : nkF S n a b (k + 1) = if nkF S n a b k ≠ 0 then nkF S n a b k else @ite _ (ow S n k = a + 1 ∧ nr S n k b True) (Classical.propDecidable _) (k + 1) 0 := rfl
theorem nkF_le (S n : Nat → Nat) (a b : Nat) : ∀ k, nkF S n a b k ≤ k
  | 0 => Nat.le_refl _
  | k + 1 => by
    have := nkF_le S n a b k
    rw [nkF_s]
    repeat' split
    all_goals omega
theorem nkF_stay (S n : Nat → Nat) (a b k : Nat) (h : nkF S n a b k ≠ 0) : ∀ d, nkF S n a b (k + d) = nkF S n a b k
  | 0 => rfl
  | d + 1 => by
    have := nkF_stay S n a b k h d
    rw [← Nat.add_assoc, nkF_s, this, if_pos h]
theorem nr_T {S n : Nat → Nat} {c b : Nat} : nr S n c b True ↔ ∃ i j, i ≤ 2 * S 2 ∧ j ≤ 2 * S 2 ∧ wv S n c i j = b + 1 := by
  constructor
  · rintro ⟨i, j, h1, h2, -, h4⟩
    exact ⟨i, j, h1, h2, h4.mpr trivial⟩
  · rintro ⟨i, j, h1, h2, h3⟩
    exact ⟨i, j, h1, h2, by omega, fun _ => trivial, fun _ => h3⟩
def pp (S n : Nat → Nat) (x : Nat) : Prop := x / 16 < x % 16 ∧ x % 16 < S 0 ∧ nkF S n (x / 16) (x % 16) 240 ≠ 0
noncomputable def nn (S n : Nat → Nat) (k : Nat) : Nat := cnt k (pp S n)
noncomputable def oc (S n : Nat → Nat) (k : Nat) : Nat := cnt k (fun net => mk S n net ≠ 0)
theorem pp_ab {S n : Nat → Nat} {a b : Nat} (ha : a < 16) (hb : b < 16) : pp S n (16 * a + b) ↔ a < b ∧ b < S 0 ∧ nkF S n a b 240 ≠ 0 := by
  unfold pp
  rw [show (16 * a + b) / 16 = a by omega, show (16 * a + b) % 16 = b by omega]
theorem nn_in {S n : Nat → Nat} {a : Nat} : nn S n (16 * a + (a + 1)) = nn S n (16 * a) := by
  refine cnt_flat _ (fun i h1 h2 h3 => ?_)
  have := h3.1
  omega
theorem nn_out {S n : Nat → Nat} (h0 : S 0 ≤ 16) {a : Nat} : nn S n (16 * (a + 1)) = nn S n (16 * a + S 0) := by
  rw [show 16 * (a + 1) = 16 * a + S 0 + (16 - S 0) by omega]
  refine cnt_flat _ (fun i h1 h2 h3 => ?_)
  have := h3.2.1
  omega
theorem nn_all {S n : Nat → Nat} (h0 : S 0 ≤ 16) : nn S n 256 = nn S n (16 * S 0) := by
  rw [show 256 = 16 * S 0 + (256 - 16 * S 0) by omega]
  refine cnt_flat _ (fun i h1 h2 h3 => ?_)
  have := h3.1
  have := h3.2.1
  omega
def NF (S n : Nat → Nat) (x2 : Int32) (m : Nat) (v : Int32) : Prop := (∃ a b, a < b ∧ b < S 0 ∧ nkF S n a b 240 ≠ 0 ∧ m = nn S n (16 * a + b) ∧ v = tld x2 2 (iN a) (iN b) (pm (nkF S n a b 240))) ∨ (nn S n 256 ≤ m ∧ v = -1)
def CKn (x1 x2 : Int32) (m t : Nat) : Prop := m < 2 ^ 31 ∧ t < 4 ∧ x1 = iN m ∧ x2 = iN t
def StCheck (A : qA) (x1 x2 v : Int32) (A' : qA) : Prop := A' = A ∧ (((¬ ∃ m t, CKn x1 x2 m t) ∧ v = -1) ∨ ∃ m t, CKn x1 x2 m t ∧ ((∃ net, net < A.1 0 ∧ mk A.1 A.2.1 net ≠ 0 ∧ m = oc A.1 A.2.1 net ∧ v = tld x2 1 (iN net) (pm (mk A.1 A.2.1 net)) (-1)) ∨ (oc A.1 A.2.1 (A.1 0) ≤ m ∧ NF A.1 A.2.1 x2 (m - oc A.1 A.2.1 (A.1 0)) v)))
section APID
variable {w : qS} {S n : Nat → Nat} {M : qM}
theorem ct_54 (h : BD S n M) {c a : Nat} (hc : c < 240) (ha : a < 16) : gE w 54 0 [some (.ref 1), some (.int (iN c)), some (.int (iN a)), some (.ref 28), none, none, none, none, none] [] M (fun r M' => r = none ∧ fr [28] M M' ∧ ∀ b, a < b → b < 16 → M' 28 b = @ite _ (M 28 b = -1 ∧ nr S n c b True) (Classical.propDecidable _) (iN c) (M 28 b)) := by
  have hr := h.1.2.2.1
  have hcn : iN c ≠ -1 := fun x => iN_nn (show c < 2 ^ 31 by omega) (by rw [x]; decide)
  let Q : Nat → Nat → Nat → Prop := fun i j b => ∃ i' j', (i' < i ∨ (i' = i ∧ j' < j)) ∧ i' ≤ 2 * S 2 ∧ j' ≤ 2 * S 2 ∧ wv S n c i' j' = b + 1
  refine wk_54_0 ?_
  rw [rb_clr h, dz_0]
  refine ev_for (2 * S 2 + 1) (Inv := fun i loc M' => (fr [28] M M' ∧ ∀ b, a < b → b < 16 → M' 28 b = @ite _ (M 28 b = -1 ∧ Q i 0 b) (Classical.propDecidable _) (iN c) (M 28 b)) ∧ ∃ o6 o7 o8, loc = [some (.ref 1), some (.int (iN c)), some (.int (iN a)), some (.ref 28), some (.int (iN (S 2))), some (.int (dz i (S 2))), o6, o7, o8]) ?_ ?_ 0 _ _ (Nat.zero_le _) ⟨⟨fr_rfl, fun b _ _ => ?_⟩, _, _, _, rfl⟩
  · rintro i loc M0 hi ⟨⟨a1, a2⟩, o6, o7, o8, rfl⟩ rec
    refine wk_54_14 (fun c1 => absurd ((dz_lt hr.2 (by omega)).mp c1) (by omega)) (fun _ => ?_)
    rw [dz_0]
    refine ev_for (2 * S 2 + 1) (Inv := fun j loc M' => (fr [28] M M' ∧ ∀ b, a < b → b < 16 → M' 28 b = @ite _ (M 28 b = -1 ∧ Q i j b) (Classical.propDecidable _) (iN c) (M 28 b)) ∧ ∃ o7 o8, loc = [some (.ref 1), some (.int (iN c)), some (.int (iN a)), some (.ref 28), some (.int (iN (S 2))), some (.int (dz i (S 2))), some (.int (dz j (S 2))), o7, o8]) ?_ ?_ 0 _ _ (Nat.zero_le _) ⟨⟨a1, a2⟩, _, _, rfl⟩
    · rintro j loc M1 hj ⟨⟨b1, b2⟩, o7, o8, rfl⟩ rec2
      have hb : BD S n M1 := BD_fr h (fr_lo b1 (by decide))
      have hw := wv_le h.1 h.2.1 hc i j
      have hQ : ∀ b, Q i (j + 1) b ↔ Q i j b ∨ wv S n c i j = b + 1 := by
        intro b
        constructor
        · rintro ⟨i', j', q1, q2, q3, q4⟩
          by_cases e : i' = i ∧ j' = j
          · obtain ⟨rfl, rfl⟩ := e; exact Or.inr q4
          · exact Or.inl ⟨i', j', by omega, q2, q3, q4⟩
        · rintro (⟨i', j', q1, q2, q3, q4⟩ | q4)
          · exact ⟨i', j', by omega, q2, q3, q4⟩
          · exact ⟨i, j, by omega, by omega, by omega, q4⟩
      refine wk_54_26 (r1 := pm (sh (S 2) c i j)) (r2 := pm (ow S n (sh (S 2) c i j - 1))) (fun c1 => absurd ((dz_lt hr.2 (by omega)).mp c1) (by omega)) (fun _ => ct_27 hc hr.2 (by omega) (by omega)) ?_ ?_ ?_ ?_ (fun _ c4 => ct_sh hb hc c4)
      all_goals rw [wv_eq hc]
      all_goals (try rw [dz_s])
      · intro _ c2
        refine rec2 _ _ ⟨⟨b1, fun b hb1 hb2 => ?_⟩, _, _, rfl⟩
        have hne : wv S n c i j ≠ b + 1 := fun x => c2 (by rw [x, pm_s]; exact (iN_lt (by omega) (by omega)).mpr hb1)
        rw [b2 b hb1 hb2]
        by_cases q : M 28 b = -1 ∧ Q i j b
        · rw [if_pos q, if_pos ⟨q.1, (hQ b).mpr (Or.inl q.2)⟩]
        · rw [if_neg q, if_neg (fun y => q ⟨y.1, ((hQ b).mp y.2).resolve_right hne⟩)]
      · intro _ c2
        have z : wv S n c i j ≠ 0 := fun x => by
          rw [x, pm_0] at c2
          exact iN_nn (show a < 2 ^ 31 by omega) (Int32.lt_trans c2 (by decide))
        rw [pm_of z]
        exact iN_in (by omega) (by omega)
      all_goals intro _ c2
      all_goals have z : wv S n c i j ≠ 0 := fun x => by
                  rw [x, pm_0] at c2
                  exact iN_nn (show a < 2 ^ 31 by omega) (Int32.lt_trans c2 (by decide))
      all_goals rw [pm_of z] at c2 ⊢
      all_goals have c2 := (iN_lt (by omega) (by omega)).mp c2
      all_goals rw [iN_ix (by omega)]
      · intro c3
        refine rec2 _ _ ⟨⟨b1, fun b hb1 hb2 => ?_⟩, _, _, rfl⟩
        by_cases e : wv S n c i j = b + 1
        · have eb : wv S n c i j - 1 = b := by omega
          rw [eb, b2 b hb1 hb2] at c3
          rw [b2 b hb1 hb2]
          by_cases q : M 28 b = -1
          · by_cases q2 : Q i j b
            · rw [if_pos ⟨q, q2⟩, if_pos ⟨q, (hQ b).mpr (Or.inl q2)⟩]
            · rw [if_neg (fun y => q2 y.2)] at c3
              exact absurd q c3
          · rw [if_neg (fun y => q y.1), if_neg (fun y => q y.1)]
        · rw [b2 b hb1 hb2]
          by_cases q : M 28 b = -1 ∧ Q i j b
          · rw [if_pos q, if_pos ⟨q.1, (hQ b).mpr (Or.inl q.2)⟩]
          · rw [if_neg q, if_neg (fun y => q ⟨y.1, ((hQ b).mp y.2).resolve_right e⟩)]
      · intro c3
        refine rec2 _ _ ⟨⟨fr_tr b1 (fr_ms (by decide)), fun b hb1 hb2 => ?_⟩, _, _, rfl⟩
        rw [ms_get]
        by_cases e : wv S n c i j = b + 1
        · have eb : wv S n c i j - 1 = b := by omega
          rw [eb] at c3 ⊢
          rw [b2 b hb1 hb2] at c3
          have q : M 28 b = -1 := by
            by_cases q : M 28 b = -1 ∧ Q i j b
            · exact q.1
            · rw [if_neg q] at c3; exact c3
          rw [if_pos ⟨rfl, rfl⟩, if_pos ⟨q, (hQ b).mpr (Or.inr e)⟩]
        · rw [if_neg (fun y => by omega), b2 b hb1 hb2]
          by_cases q : M 28 b = -1 ∧ Q i j b
          · rw [if_pos q, if_pos ⟨q.1, (hQ b).mpr (Or.inl q.2)⟩]
          · rw [if_neg q, if_neg (fun y => q ⟨y.1, ((hQ b).mp y.2).resolve_right e⟩)]
    · rintro loc M1 ⟨⟨b1, b2⟩, o7, o8, rfl⟩
      have hno : ∀ {α : Prop}, ¬ iN (S 2) < dz (2 * S 2 + 1) (S 2) → α := fun x => absurd ((dz_lt hr.2 (by omega)).mpr (by omega)) x
      refine wk_54_26 (r1 := 0) (r2 := 0) (fun _ => ?_) (fun c1 => hno c1) (fun c1 => hno c1) (fun c1 => hno c1) (fun c1 => hno c1) (fun c1 => hno c1) (fun c1 => hno c1)
      rw [dz_s]
      refine rec _ _ ⟨⟨b1, fun b hb1 hb2 => ?_⟩, _, _, _, rfl⟩
      rw [b2 b hb1 hb2]
      have : Q i (2 * S 2 + 1) b ↔ Q (i + 1) 0 b := by
        constructor
        · rintro ⟨i', j', q1, q2, q3, q4⟩
          exact ⟨i', j', by omega, q2, q3, q4⟩
        · rintro ⟨i', j', q1, q2, q3, q4⟩
          exact ⟨i', j', by omega, q2, q3, q4⟩
      rw [propext this]
  · rintro loc M1 ⟨⟨b1, b2⟩, o6, o7, o8, rfl⟩
    refine wk_54_14 (fun _ => ⟨rfl, b1, fun b hb1 hb2 => ?_⟩) (fun c1 => absurd ((dz_lt hr.2 (by omega)).mpr (by omega)) c1)
    rw [b2 b hb1 hb2]
    have : Q (2 * S 2 + 1) 0 b ↔ nr S n c b True := by
      rw [nr_T]
      constructor
      · rintro ⟨i', j', q1, q2, q3, q4⟩
        exact ⟨i', j', q2, q3, q4⟩
      · rintro ⟨i', j', q2, q3, q4⟩
        exact ⟨i', j', by omega, q2, q3, q4⟩
    rw [propext this]
  · rw [if_neg (fun y => by obtain ⟨-, i', j', q1, -⟩ := y; omega)]
theorem ct_53 (h : BD S n M) {a : Nat} (ha : a < 16) : gE w 53 0 [some (.ref 1), some (.int (iN a)), some (.ref 28), none] [] M (fun r M' => r = none ∧ fr [28] M M' ∧ ∀ b, a < b → b < 16 → M' 28 b = pm (nkF S n a b 240)) := by
  refine wk_53_0 ?_
  refine (ct_122 (q0 := 28) (n := 16) rfl (by omega)).mono ?_
  rintro r M1 ⟨rfl, f1, f2⟩
  refine wk_53_5 ?_
  refine ev_for 240 (Inv := fun k loc M' => (fr [28] M M' ∧ ∀ b, a < b → b < 16 → M' 28 b = pm (nkF S n a b k)) ∧ loc = [some (.ref 1), some (.int (iN a)), some (.ref 28), some (.int (iN k))]) ?_ ?_ 0 _ _ (Nat.zero_le _) ⟨⟨f1, fun b _ hb => f2 b hb⟩, rfl⟩
  · rintro k loc M2 hk ⟨⟨a1, a2⟩, rfl⟩ rec
    have hb : BD S n M2 := BD_fr h (fr_lo a1 (by decide))
    have hO := ow_le h.1 h.2.1 hk
    refine wk_53_7 (r1 := pm (ow S n k)) (fun c => absurd ((iN_lt (by omega) (by omega)).mpr hk) c) (fun _ => ct_32 hb hk) (fun _ c2 => ?_) (fun _ c2 => ?_)
    · have z : ow S n k ≠ a + 1 := fun x => c2 ((pm_iN (by omega) (by omega)).mpr x)
      refine wk_53_30 ?_
      rw [iN_succ]
      refine rec _ _ ⟨⟨a1, fun b hb1 hb2 => ?_⟩, rfl⟩
      rw [a2 b hb1 hb2, nkF_s]
      by_cases y : nkF S n a b k ≠ 0
      · rw [if_pos y]
      · rw [if_neg y, if_neg (fun q => z q.1), Classical.not_not.mp y]
    · have z := (pm_iN (by omega) (by omega)).mp c2
      refine (ct_54 hb hk ha).mono ?_
      rintro r M3 ⟨rfl, d1, d2⟩
      refine wk_53_30 ?_
      rw [iN_succ]
      refine rec _ _ ⟨⟨fr_tr a1 d1, fun b hb1 hb2 => ?_⟩, rfl⟩
      have hle := nkF_le S n a b k
      rw [d2 b hb1 hb2, a2 b hb1 hb2, nkF_s]
      by_cases y : nkF S n a b k ≠ 0
      · rw [if_pos y, if_neg (fun q => y ((pm_m1 (by omega)).mp q.1))]
      · have y := Classical.not_not.mp y
        by_cases t : nr S n k b True
        · rw [if_pos ⟨by rw [y]; rfl, t⟩, if_neg (fun q => q y), if_pos ⟨z, t⟩]; rfl
        · rw [if_neg (fun q => t q.2), if_neg (fun q => q y), if_neg (fun q => t q.2), y]
  · rintro loc M2 ⟨⟨a1, a2⟩, rfl⟩
    exact wk_53_7 (r1 := 0) (fun _ => ⟨rfl, a1, a2⟩) (fun c => lt_no c) (fun c => lt_no c) (fun c => lt_no c)
theorem ct_21 (h : BD S n M) {x2 : Int32} {m : Nat} (hm : m < 2 ^ 31) : gE w 21 0 [some (.ref 0), some (.int (iN m)), some (.int x2), none, none, none] [] M (fun r M' => ∃ v, r = some (.int v) ∧ fr [28] M M' ∧ NF S n x2 m v) := by
  have h0 := h.1.1
  refine wk_21_0 ?_
  refine ev_for (S 0) (Inv := fun a loc M' => (fr [28] M M' ∧ nn S n (16 * a) ≤ m) ∧ ∃ o1 o5, loc = [some (.ref 0), o1, some (.int x2), some (.int (iN (m - nn S n (16 * a)))), some (.int (iN a)), o5]) ?_ ?_ 0 _ _ (Nat.zero_le _) ⟨⟨fr_rfl, Nat.zero_le _⟩, _, _, rfl⟩
  · rintro a loc M0 ha ⟨⟨a1, a2⟩, o1, o5, rfl⟩ rec
    have hb : BD S n M0 := BD_fr h (fr_lo a1 (by decide))
    refine wk_21_5 (fun c => absurd (by rw [rb_pins hb]; exact (iN_lt (by omega) (by omega)).mpr ha) c) (fun _ => ?_)
    refine (ct_53 hb (by omega)).mono ?_
    rintro r M1 ⟨rfl, d1, d2⟩
    have hb1 : BD S n M1 := BD_fr hb (fr_lo d1 (by decide))
    refine wk_21_33 ?_
    rw [iN_succ a]
    refine ev_for (S 0) (Inv := fun b loc M' => M' = M1 ∧ a < b ∧ nn S n (16 * a + b) ≤ m ∧ ∃ o1, loc = [some (.ref 0), o1, some (.int x2), some (.int (iN (m - nn S n (16 * a + b)))), some (.int (iN a)), some (.int (iN b))]) ?_ ?_ (a + 1) _ _ (by omega) ⟨rfl, by omega, by rw [nn_in]; exact a2, _, by rw [nn_in]⟩
    · rintro b loc M' hbs ⟨eM, hab, hle, o1, rfl⟩ rec2
      subst eM
      have e28 := d2 b hab (by omega)
      have hnk := nkF_le S n a b 240
      have hs : nn S n (16 * a + (b + 1)) = nn S n (16 * a + b) + @ite _ (pp S n (16 * a + b)) (Classical.propDecidable _) 1 0 := rfl
      have hpp : pp S n (16 * a + b) ↔ nkF S n a b 240 ≠ 0 := by rw [pp_ab (by omega) (by omega)]; exact ⟨fun q => q.2.2, fun q => ⟨hab, hbs, q⟩⟩
      refine wk_21_39 (r1 := tld x2 2 (iN a) (iN b) (pm (nkF S n a b 240))) (fun c => absurd (by rw [rb_pins hb1]; exact (iN_lt (by omega) (by omega)).mpr hbs) c) (fun _ => iN_in (by omega) (by omega)) ?_ ?_ ?_ ?_
      all_goals rw [iN_ix (by omega), e28]
      · intro _ c2 c3
        have c2 : nkF S n a b 240 ≠ 0 := fun y => c2 ((pm_m1 (by omega)).mpr y)
        have c3 : m - nn S n (16 * a + b) ≠ 0 := fun y => c3 ((iN_z (by omega)).mpr y)
        rw [if_pos (hpp.mpr c2)] at hs
        rw [iN_succ, iN_m1 (by omega)]
        exact rec2 _ _ ⟨rfl, by omega, by omega, _, by rw [hs, show m - nn S n (16 * a + b) - 1 = m - (nn S n (16 * a + b) + 1) by omega]⟩
      · intro _ _ _
        exact ct_22
      · intro _ c2 c3
        have c2 : nkF S n a b 240 ≠ 0 := fun y => c2 ((pm_m1 (by omega)).mpr y)
        have c3 := (iN_z (by omega)).mp c3
        exact ⟨_, rfl, fr_tr a1 d1, Or.inl ⟨a, b, hab, hbs, c2, by omega, rfl⟩⟩
      · intro _ c2
        have c2 := (pm_m1 (by omega)).mp c2
        rw [if_neg (fun y => hpp.mp y c2)] at hs
        rw [iN_succ]
        exact rec2 _ _ ⟨rfl, by omega, by omega, _, by rw [hs]; rfl⟩
    · rintro loc M' ⟨eM, hab, hle, o1, rfl⟩
      subst eM
      have hno : ∀ {α : Prop}, iN (S 0) < M' 2 6 → α := fun c => by rw [rb_pins hb1] at c; exact lt_no c
      refine wk_21_39 (r1 := 0) (fun _ => ?_) (fun c => hno c) (fun c => hno c) (fun c => hno c) (fun c => hno c) (fun c => hno c)
      rw [iN_succ]
      exact rec _ _ ⟨⟨fr_tr a1 d1, by rw [nn_out h0]; exact hle⟩, _, _, by rw [nn_out h0]⟩
  · rintro loc M0 ⟨⟨a1, a2⟩, o1, o5, rfl⟩
    have hb : BD S n M0 := BD_fr h (fr_lo a1 (by decide))
    refine wk_21_5 (fun _ => ⟨_, rfl, a1, Or.inr ⟨by rw [nn_all h0]; exact a2, rfl⟩⟩) (fun c => by rw [rb_pins hb] at c; exact lt_no c)
theorem cl_check {A : qA} {x1 x2 : Int32} (hA : RA2 A) (h : RC A M) : gE w 15 0 [some (.ref 0), some (.int x1), some (.int x2), none, none, none] [] M (CLp (StCheck A x1 x2) M) := by
  have hb := RC_BD hA h
  have h0 := hA.1.1.1
  refine wk_15_0 (fun c1 => ⟨-1, A, rfl, ⟨rfl, Or.inl ⟨?_, rfl⟩⟩, hA, h, fun _ _ => rfl⟩) (fun c1 c2 => ⟨-1, A, rfl, ⟨rfl, Or.inl ⟨?_, rfl⟩⟩, hA, h, fun _ _ => rfl⟩) (fun c1 c2 c3 => ?_) (fun c1 c2 c3 => ⟨-1, A, rfl, ⟨rfl, Or.inl ⟨?_, rfl⟩⟩, hA, h, fun _ _ => rfl⟩)
  · rintro ⟨m, t, hm, ht, rfl, rfl⟩
    exact iN_nn hm c1
  · rintro ⟨m, t, hm, ht, rfl, rfl⟩
    exact iN_nn (by omega) c2
  · obtain ⟨m, hm, rfl⟩ := nng c1
    obtain ⟨t, ht, rfl⟩ := rng c2 ((nlt (m := 3) (by omega)).mp c3) (by omega)
    have fin : ∀ v M', ((∃ net, net < A.1 0 ∧ mk A.1 A.2.1 net ≠ 0 ∧ m = oc A.1 A.2.1 net ∧ v = tld (iN t) 1 (iN net) (pm (mk A.1 A.2.1 net)) (-1)) ∨ (oc A.1 A.2.1 (A.1 0) ≤ m ∧ NF A.1 A.2.1 (iN t) (m - oc A.1 A.2.1 (A.1 0)) v)) → fr [12, 13, 14, 28] M M' → CLp (StCheck A (iN m) (iN t)) M (some (.int v)) M' := fun v M' hv hf => ⟨v, A, rfl, ⟨rfl, Or.inr ⟨m, t, ⟨hm, ht, rfl, rfl⟩, hv⟩⟩, hA, RC_fr h (fun q hq => hf q (by simp only [List.mem_cons, List.not_mem_nil, or_false]; omega)), fun q hq => hf q (by simp only [List.mem_cons, List.not_mem_nil, or_false]; omega)⟩
    refine ev_for (A.1 0) (Inv := fun i loc M' => (fr [12, 13, 14] M M' ∧ oc A.1 A.2.1 i ≤ m) ∧ ∃ o1 o5, loc = [some (.ref 0), o1, some (.int (iN t)), some (.int (iN (m - oc A.1 A.2.1 i))), some (.int (iN i)), o5]) ?_ ?_ 0 _ _ (Nat.zero_le _) ⟨⟨fr_rfl, Nat.zero_le _⟩, _, _, rfl⟩
    · rintro i loc M1 hi ⟨⟨a1, a2⟩, o1, o5, rfl⟩ rec
      have hb1 : BD A.1 A.2.1 M1 := BD_fr hb (fr_lo a1 (by decide))
      refine wk_15_20 (fun c => absurd (by rw [rb_pins hb1]; exact (iN_lt (by omega) (by omega)).mpr hi) c) (fun _ => ?_)
      refine (ct_64 hb1 (by omega)).mono ?_
      intro r M2 hMP
      obtain ⟨hk, rfl, d1⟩ := MP_mk hMP
      have hs : oc A.1 A.2.1 (i + 1) = oc A.1 A.2.1 i + @ite _ (mk A.1 A.2.1 i ≠ 0) (Classical.propDecidable _) 1 0 := rfl
      refine wk_15_48 (r1 := tld (iN t) 1 (iN i) (pm (mk A.1 A.2.1 i)) (-1)) (fun c4 c5 => ?_) (fun _ _ => ct_22) (fun c4 c5 => ?_) (fun c4 => ?_)
      · have c4 : mk A.1 A.2.1 i ≠ 0 := fun y => c4 ((pm_m1 (by omega)).mpr y)
        have c5 : m - oc A.1 A.2.1 i ≠ 0 := fun y => c5 ((iN_z (by omega)).mpr y)
        rw [if_pos c4] at hs
        rw [iN_succ, iN_m1 (by omega)]
        exact rec _ _ ⟨⟨fr_tr a1 d1, by omega⟩, _, _, by rw [hs, show m - oc A.1 A.2.1 i - 1 = m - (oc A.1 A.2.1 i + 1) by omega]⟩
      · have c4 : mk A.1 A.2.1 i ≠ 0 := fun y => c4 ((pm_m1 (by omega)).mpr y)
        have c5 := (iN_z (by omega)).mp c5
        exact fin _ _ (Or.inl ⟨i, hi, c4, by omega, rfl⟩) (fr_sub (fr_tr a1 d1) (by decide))
      · have c4 := (pm_m1 (by omega)).mp c4
        rw [if_neg (fun y => y c4)] at hs
        rw [iN_succ]
        exact rec _ _ ⟨⟨fr_tr a1 d1, by omega⟩, _, _, by rw [hs]; rfl⟩
    · rintro loc M1 ⟨⟨a1, a2⟩, o1, o5, rfl⟩
      have hb1 : BD A.1 A.2.1 M1 := BD_fr hb (fr_lo a1 (by decide))
      refine wk_15_20 (fun _ => ?_) (fun c => by rw [rb_pins hb1] at c; exact lt_no c)
      refine (ct_21 hb1 (by omega)).mono ?_
      rintro r M2 ⟨v, rfl, d1, d2⟩
      exact wk_15_89 (fin _ _ (Or.inr ⟨a2, d2⟩) (fr_tr (fr_sub a1 (by decide)) (fr_sub d1 (by decide))))
  · rintro ⟨m, t, hm, ht, rfl, rfl⟩
    have := (iN_lt (by omega) (by omega)).mp c3
    omega
theorem ct_117 (h : RD S n M) {a b : Nat} (ha : a < 16) (hb : b < 16) : gE w 117 0 [some (.ref 148), some (.int (iN a)), some (.int (iN b)), none] [] M (qv1 M (pm (nkF S n a b 240))) := by
  refine wk_117_0 ?_
  refine ev_for 240 (Inv := fun k loc M' => M' = M ∧ nkF S n a b k = 0 ∧ loc = [some (.ref 148), some (.int (iN a)), some (.int (iN b)), some (.int (iN k))]) ?_ ?_ 0 _ _ (Nat.zero_le _) ⟨rfl, rfl, rfl⟩
  · rintro k loc M' hk ⟨eM, hz, rfl⟩ rec
    subst eM
    have hO := ow_le h.1 h.2.1 hk
    have e154 : M' 154 (iN k).toNatClampNeg = pm (ow S n k) := by rw [iN_ix (by omega)]; exact h.2.2.2.2.2 k hk
    have h92 := ct_92 (w := w) (b := True) h hk hb
    rw [bi_pos trivial] at h92
    have hs := nkF_s S n a b k
    rw [hz, if_neg (fun y => y rfl)] at hs
    refine wk_117_2 (r1 := bi (nr S n k b True)) (fun c => absurd ((iN_lt (by omega) (by omega)).mpr hk) c) (fun _ => iN_in hk (by omega)) (fun _ c2 => ?_) (fun _ _ => h92) (fun _ c2 c3 => ?_) (fun _ c2 c3 => qv1_i ?_)
    · rw [e154] at c2
      rw [if_neg (fun q => c2 ((pm_iN (by omega) (by omega)).mpr q.1))] at hs
      rw [iN_succ]
      exact rec _ _ ⟨rfl, hs, rfl⟩
    · rw [if_neg (fun q => bi_eq c3 q.2)] at hs
      rw [iN_succ]
      exact rec _ _ ⟨rfl, hs, rfl⟩
    · rw [e154] at c2
      rw [if_pos ⟨(pm_iN (by omega) (by omega)).mp c2, bi_ne c3⟩] at hs
      have := nkF_stay S n a b (k + 1) (by omega) (240 - (k + 1))
      rw [show k + 1 + (240 - (k + 1)) = 240 by omega, hs] at this
      rw [this, pm_s]
  · rintro loc M' ⟨eM, hz, rfl⟩
    subst eM
    exact wk_117_2 (r1 := 0) (fun _ => qv1_i (by rw [hz]; rfl)) (fun c => lt_no c) (fun c => lt_no c) (fun c => lt_no c) (fun c => lt_no c) (fun c => lt_no c)
theorem rf_check {A A' : qA} {x1 x2 v : Int32} (hA : RA2 A) (hSt : StCheck A x1 x2 v A') (h : RF A M) : gE w 118 0 [some (.ref 148), some (.int x1), some (.int x2), none, none, none, none] [] M (RFp v A' M) := by
  obtain ⟨rfl, hSt⟩ := hSt
  have hb := RF_RD hA h
  have h0 := hA.1.1.1
  have bad : (¬ ∃ m t, CKn x1 x2 m t) → RFp v A' M (some (.int (-1))) M := fun hn => by
    rcases hSt with ⟨-, rfl⟩ | ⟨l, m, hp, -⟩
    · exact ⟨rfl, h, fun _ _ => rfl⟩
    · exact absurd ⟨l, m, hp⟩ hn
  refine wk_118_0 (fun c1 => bad ?_) (fun c1 c2 => bad ?_) (fun c1 c2 c3 => ?_) (fun c1 c2 c3 => bad ?_)
  · rintro ⟨m, t, hm, ht, rfl, rfl⟩
    exact iN_nn (by omega) c1
  · rintro ⟨m, t, hm, ht, rfl, rfl⟩
    have := (iN_lt (by omega) (by omega)).mp c2
    omega
  · obtain ⟨m, hm, rfl⟩ := nng c3
    obtain ⟨t, ht, rfl⟩ := rng c1 ((nlt (m := 3) (by omega)).mp c2) (by omega)
    rcases hSt with ⟨k1, -⟩ | ⟨m', t', ⟨hm', ht', e1, e2⟩, hSt⟩
    · exact absurd ⟨m, t, hm, ht, rfl, rfl⟩ k1
    have e1 := (iN_eq hm hm').mp e1
    have e2 := (iN_eq (by omega) (by omega)).mp e2
    subst e1 e2
    clear bad hm' ht'
    have fin : ∀ v' M', v' = v → fr [155] M M' → RFp v A' M (some (.int v')) M' := fun v' M' e hf => ⟨by rw [e], RF_fr h (fun q hq => hf q (by simp only [List.mem_cons, List.not_mem_nil, or_false]; omega)), fun q hq => hf q (by simp only [List.mem_cons, List.not_mem_nil, or_false]; omega)⟩
    have hoc : ∀ k, oc A'.1 A'.2.1 k ≤ k := fun k => cnt_le _ k
    have hnn : ∀ k, nn A'.1 A'.2.1 k ≤ k := fun k => cnt_le _ k
    refine ev_for (A'.1 0) (Inv := fun i loc M' => (fr [155] M M' ∧ oc A'.1 A'.2.1 i ≤ m) ∧ ∃ o5 o6, loc = [some (.ref 148), some (.int (iN m)), some (.int (iN t)), some (.int (iN (oc A'.1 A'.2.1 i))), some (.int (iN i)), o5, o6]) ?_ ?_ 0 _ _ (Nat.zero_le _) ⟨⟨fr_rfl, Nat.zero_le _⟩, _, _, rfl⟩
    · rintro i loc M1 hi ⟨⟨a1, a2⟩, o5, o6, rfl⟩ rec
      have hb1 : RD A'.1 A'.2.1 M1 := ⟨hb.1, hb.2.1, FB_fr hb.2.2 (fun q hq => a1 q (by simp only [List.mem_cons, List.not_mem_nil, or_false]; omega))⟩
      have ep : M1 149 0 = iN (A'.1 0) := hb1.2.2.1 0 (by omega)
      have en : M1 152 (iN i).toNatClampNeg = iN (A'.2.1 i) := by rw [iN_ix (by omega)]; exact hb1.2.2.2.1 i (by omega)
      have hni := hb.2.1 i (by omega)
      have hs : oc A'.1 A'.2.1 (i + 1) = oc A'.1 A'.2.1 i + @ite _ (mk A'.1 A'.2.1 i ≠ 0) (Classical.propDecidable _) 1 0 := rfl
      have hoi := hoc i
      have hT : ¬ ¬ ((-1 : Int32) < 0) := fun y => y (by decide)
      refine wk_118_20 (fun c => absurd (by rw [ep]; exact (iN_lt (by omega) (by omega)).mpr hi) c) (fun _ => iN_in (by omega) (by omega)) (fun _ c4 c5 => ?_) (fun _ _ c5 => absurd c5 hT) (fun _ _ c5 => absurd c5 hT) (fun _ c4 => ?_)
      · rw [en] at c4
        have := mk_not hA.1.2.1 h0 (fun y => c4 (by rw [y]) : A'.2.1 i ≠ i)
        rw [if_neg (fun y => y this)] at hs
        rw [if_pos c5, iN_succ]
        exact rec _ _ ⟨⟨a1, by omega⟩, _, _, by rw [hs]; rfl⟩
      · refine (ct_108 hb1 (by omega)).mono ?_
        intro r M2 hMP
        obtain ⟨hk, rfl, d1⟩ := RMs_mk hMP
        refine wk_118_49 (fun c5 => ?_) (fun c5 c6 => ?_) (fun c5 c6 => fin _ _ ?_ (fr_tr a1 d1))
        · rw [if_pos c5, iN_succ]
          have c5 := (pm_neg (by omega)).mp c5
          rw [if_neg (fun y => y c5)] at hs
          exact rec _ _ ⟨⟨fr_tr a1 d1, by omega⟩, _, _, by rw [hs]; rfl⟩
        · rw [if_neg c5, iN_succ, iN_succ]
          have c5 : mk A'.1 A'.2.1 i ≠ 0 := fun y => c5 ((pm_neg (by omega)).mpr y)
          have c6 : oc A'.1 A'.2.1 i ≠ m := fun y => c6 (by rw [y])
          rw [if_pos c5] at hs
          exact rec _ _ ⟨⟨fr_tr a1 d1, by omega⟩, _, _, by rw [hs]⟩
        · have c5 : mk A'.1 A'.2.1 i ≠ 0 := fun y => c5 ((pm_neg (by omega)).mpr y)
          have c6 := (iN_eq (by omega) hm).mp c6
          have hlt : oc A'.1 A'.2.1 i < oc A'.1 A'.2.1 (A'.1 0) := cnt_lt2 (p := fun net => mk A'.1 A'.2.1 net ≠ 0) c5 hi
          rcases hSt with ⟨net, k1, k2, k3, rfl⟩ | ⟨k1, -⟩
          · have : net = i := cnt_inj (p := fun net => mk A'.1 A'.2.1 net ≠ 0) k2 c5 (by show oc A'.1 A'.2.1 net = oc A'.1 A'.2.1 i; omega)
            subst this
            unfold tld
            rcases (show t = 0 ∨ t = 1 ∨ t = 2 ∨ t = 3 by omega) with rfl | rfl | rfl | rfl <;> rfl
          · omega
    · rintro loc M0 ⟨⟨a1, a2⟩, o5, o6, rfl⟩
      have hb1 : RD A'.1 A'.2.1 M0 := ⟨hb.1, hb.2.1, FB_fr hb.2.2 (fun q hq => a1 q (by simp only [List.mem_cons, List.not_mem_nil, or_false]; omega))⟩
      have ep : M0 149 0 = iN (A'.1 0) := hb1.2.2.1 0 (by omega)
      have hoS := hoc (A'.1 0)
      have hno : ∀ {α : Prop}, iN (A'.1 0) < M0 149 0 → α := fun c => by rw [ep] at c; exact lt_no c
      refine wk_118_20 (fun _ => ?_) (fun c => hno c) (fun c => hno c) (fun c => hno c) (fun c => hno c) (fun c => hno c)
      replace hSt : oc A'.1 A'.2.1 (A'.1 0) ≤ m ∧ NF A'.1 A'.2.1 (iN t) (m - oc A'.1 A'.2.1 (A'.1 0)) v := by
        rcases hSt with ⟨net, k1, k2, k3, -⟩ | k
        · have : oc A'.1 A'.2.1 net < oc A'.1 A'.2.1 (A'.1 0) := cnt_lt2 (p := fun net => mk A'.1 A'.2.1 net ≠ 0) k2 k1
          omega
        · exact k
      obtain ⟨-, hNF⟩ := hSt
      generalize oc A'.1 A'.2.1 (A'.1 0) = o at *
      refine ev_for (A'.1 0) (Inv := fun a loc M' => M' = M0 ∧ o + nn A'.1 A'.2.1 (16 * a) ≤ m ∧ ∃ o5 o6, loc = [some (.ref 148), some (.int (iN m)), some (.int (iN t)), some (.int (iN (o + nn A'.1 A'.2.1 (16 * a)))), some (.int (iN a)), o5, o6]) ?_ ?_ 0 _ _ (Nat.zero_le _) ⟨rfl, a2, _, _, rfl⟩
      · rintro a loc M' ha ⟨eM, hle, o5, o6, rfl⟩ rec
        subst eM
        refine wk_118_117 (fun c => absurd (by rw [ep]; exact (iN_lt (by omega) (by omega)).mpr ha) c) (fun _ => ?_)
        rw [iN_succ]
        refine ev_for (A'.1 0) (Inv := fun b loc M1 => M1 = M' ∧ a < b ∧ o + nn A'.1 A'.2.1 (16 * a + b) ≤ m ∧ ∃ o6, loc = [some (.ref 148), some (.int (iN m)), some (.int (iN t)), some (.int (iN (o + nn A'.1 A'.2.1 (16 * a + b)))), some (.int (iN a)), some (.int (iN b)), o6]) ?_ ?_ (a + 1) _ _ (by omega) ⟨rfl, by omega, by rw [nn_in]; exact hle, _, by rw [nn_in]⟩
        · rintro b loc M1 hbs ⟨eM, hab, hle2, o6, rfl⟩ rec2
          subst eM
          have hnk := nkF_le A'.1 A'.2.1 a b 240
          have hnb := hnn (16 * a + b)
          have hs : nn A'.1 A'.2.1 (16 * a + (b + 1)) = nn A'.1 A'.2.1 (16 * a + b) + @ite _ (pp A'.1 A'.2.1 (16 * a + b)) (Classical.propDecidable _) 1 0 := rfl
          have hpp : pp A'.1 A'.2.1 (16 * a + b) ↔ nkF A'.1 A'.2.1 a b 240 ≠ 0 := by rw [pp_ab (by omega) (by omega)]; exact ⟨fun q => q.2.2, fun q => ⟨hab, hbs, q⟩⟩
          refine wk_118_134 (r1 := pm (nkF A'.1 A'.2.1 a b 240)) (fun c => absurd (by rw [ep]; exact (iN_lt (by omega) (by omega)).mpr hbs) c) (fun _ => ct_117 hb1 (by omega) (by omega)) (fun _ c5 => ?_) (fun _ c5 c6 => ?_) (fun _ c5 c6 => fin _ _ ?_ a1)
          · rw [if_pos c5, iN_succ]
            have c5 := (pm_neg (by omega)).mp c5
            rw [if_neg (fun y => hpp.mp y c5)] at hs
            exact rec2 _ _ ⟨rfl, by omega, by omega, _, by rw [hs]; rfl⟩
          · rw [if_neg c5, iN_succ, iN_succ]
            have c5 : nkF A'.1 A'.2.1 a b 240 ≠ 0 := fun y => c5 ((pm_neg (by omega)).mpr y)
            have c6 : o + nn A'.1 A'.2.1 (16 * a + b) ≠ m := fun y => c6 (by rw [y])
            rw [if_pos (hpp.mpr c5)] at hs
            exact rec2 _ _ ⟨rfl, by omega, by omega, _, by rw [hs, Nat.add_assoc]⟩
          · have c5 : nkF A'.1 A'.2.1 a b 240 ≠ 0 := fun y => c5 ((pm_neg (by omega)).mpr y)
            have c6 := (iN_eq (by omega) hm).mp c6
            have hp1 := hpp.mpr c5
            rcases hNF with ⟨a', b', k1, k2, k3, k4, rfl⟩ | ⟨k1, -⟩
            · have := cnt_inj (p := pp A'.1 A'.2.1) ((pp_ab (by omega) (by omega)).mpr ⟨k1, k2, k3⟩) hp1 (by show nn A'.1 A'.2.1 (16 * a' + b') = nn A'.1 A'.2.1 (16 * a + b); omega)
              obtain ⟨rfl, rfl⟩ : a' = a ∧ b' = b := by omega
              generalize pm (nkF A'.1 A'.2.1 a' b' 240) = z
              unfold tld
              rcases (show t = 0 ∨ t = 1 ∨ t = 2 ∨ t = 3 by omega) with rfl | rfl | rfl | rfl <;> rfl
            · have : nn A'.1 A'.2.1 (16 * a + b) < nn A'.1 A'.2.1 256 := cnt_lt2 (p := pp A'.1 A'.2.1) hp1 (by omega)
              omega
        · rintro loc M1 ⟨eM, hab, hle2, o6, rfl⟩
          subst eM
          refine wk_118_134 (r1 := 0) (fun _ => ?_) (fun c => hno c) (fun c => hno c) (fun c => hno c) (fun c => hno c)
          rw [iN_succ]
          exact rec _ _ ⟨rfl, by rw [nn_out h0]; exact hle2, _, _, by rw [nn_out h0]⟩
      · rintro loc M' ⟨eM, hle, o5, o6, rfl⟩
        subst eM
        refine wk_118_117 (fun _ => fin _ _ ?_ a1) (fun c => hno c)
        rcases hNF with ⟨a', b', k1, k2, k3, k4, -⟩ | ⟨-, rfl⟩
        · have : nn A'.1 A'.2.1 (16 * a' + b') < nn A'.1 A'.2.1 256 := cnt_lt2 (p := pp A'.1 A'.2.1) ((pp_ab (by omega) (by omega)).mpr ⟨k1, k2, k3⟩) (by omega)
          rw [nn_all h0] at this
          omega
        · rfl
  · rintro ⟨m, t, hm, ht, rfl, rfl⟩
    exact iN_nn hm c3
end APID
