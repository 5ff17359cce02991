/-! Calls: fault. -/
noncomputable def cf (S n : Nat → Nat) (k : Nat) : Nat := cnt k (fun m => nf S n m ≠ -1)
theorem cf_s (S n : Nat → Nat) (k : Nat) : cf S n (k + 1) = cf S n k + @ite _ (nf S n k ≠ -1) (Classical.propDecidable _) 1 0 := rfl
theorem cf_y {S n : Nat → Nat} {k : Nat} (h : nf S n k ≠ -1) : cf S n (k + 1) = cf S n k + 1 := by rw [cf_s, if_pos h]
theorem cf_n {S n : Nat → Nat} {k : Nat} (h : ¬ nf S n k ≠ -1) : cf S n (k + 1) = cf S n k := by rw [cf_s, if_neg h]; rfl
theorem cf_up (S n : Nat → Nat) (a : Nat) : ∀ d, cf S n a ≤ cf S n (a + d)
  | 0 => Nat.le_refl _
  | d + 1 => by
    have := cf_up S n a d
    rw [← Nat.add_assoc, cf_s]
    omega
theorem cf_lt {S n : Nat → Nat} {a b : Nat} (h : nf S n a ≠ -1) (hab : a < b) : cf S n a < cf S n b := by
  have h1 := cf_y h
  have h2 := cf_up S n (a + 1) (b - (a + 1))
  rw [show a + 1 + (b - (a + 1)) = b by omega] at h2
  omega
theorem cf_inj {S n : Nat → Nat} {a b : Nat} (ha : nf S n a ≠ -1) (hb : nf S n b ≠ -1) (e : cf S n a = cf S n b) : a = b := by
  rcases Nat.lt_trichotomy a b with h | h | h
  · have := cf_lt ha h; omega
  · exact h
  · have := cf_lt hb h; omega
def FA (A : qA) (x1 x2 : Int32) (m : Nat) : Prop := m < A.1 0 ∧ nf A.1 A.2.1 m ≠ -1 ∧ x1 = iN (cf A.1 A.2.1 m) ∧ ¬ x2 < 0 ∧ ¬ 1 < x2
noncomputable def fav (A : qA) (x2 : Int32) (m : Nat) : Int32 := if x2 = 0 then nf A.1 A.2.1 m else iN m
def StFault (A : qA) (x1 x2 v : Int32) (A' : qA) : Prop := A' = A ∧ (((¬ ∃ m, FA A x1 x2 m) ∧ v = -1) ∨ ∃ m, FA A x1 x2 m ∧ v = fav A x2 m)
theorem nng {x : Int32} (h1 : ¬ x < 0) : ∃ c, c < 2 ^ 31 ∧ x = iN c := ⟨x.toNatClampNeg, Int32.toNatClampNeg_lt x, (Int32.ofNat_toNatClampNeg x (Int32.not_lt.mp h1)).symm⟩
section APIA
variable {w : qS} {M : qM}
theorem cl_fault {A : qA} {x1 x2 : Int32} (hA : RA2 A) (h : RC A M) : gE w 4 0 [some (.ref 0), some (.int x1), some (.int x2), none, none, none] [] M (CLp (StFault A x1 x2) M) := by
  have hb := RC_BD hA h
  have h0 := hA.1.1.1
  have hc : ∀ k, cf A.1 A.2.1 k ≤ k := fun k => cnt_le _ k
  have fin : ∀ v, (((¬ ∃ m, FA A x1 x2 m) ∧ v = -1) ∨ ∃ m, FA A x1 x2 m ∧ v = fav A x2 m) → CLp (StFault A x1 x2) M (some (.int v)) M := fun v hv => ⟨v, A, rfl, ⟨rfl, hv⟩, hA, h, fun _ _ => rfl⟩
  refine wk_4_0 (fun c1 => fin _ (Or.inl ⟨?_, rfl⟩)) (fun c1 c2 => fin _ (Or.inl ⟨?_, rfl⟩)) (fun c1 c2 c3 => ?_) (fun c1 c2 c3 => fin _ (Or.inl ⟨?_, rfl⟩))
  · rintro ⟨m, m1, m2, rfl, m4, m5⟩
    have := hc m
    exact iN_nn (by omega) c1
  · rintro ⟨m, m1, m2, m3, m4, m5⟩
    exact m4 c2
  · obtain ⟨k, hk, rfl⟩ := nng c1
    refine ev_for (A.1 0) (Inv := fun i loc M' => M' = M ∧ cf A.1 A.2.1 i ≤ k ∧ ∃ o5, loc = [some (.ref 0), some (.int (iN k)), some (.int x2), some (.int (iN (k - cf A.1 A.2.1 i))), some (.int (iN i)), o5]) ?_ ?_ 0 _ _ (Nat.zero_le _) ⟨rfl, Nat.zero_le _, _, rfl⟩
    · rintro i loc M' hi ⟨eM, g1, o5, rfl⟩ rec
      subst eM
      have hci := hc i
      refine wk_4_20 (r1 := nf A.1 A.2.1 i) (fun c4 => absurd (by rw [rb_pins hb]; exact (iN_lt (by omega) (by omega)).mpr hi) c4) (fun _ => ct_42 hb (by omega)) (fun _ c4 c5 => ?_) (fun _ c4 c5 => fin _ (Or.inr ⟨i, ⟨hi, c4, ?_, c2, c3⟩, rfl⟩)) (fun _ c4 => ?_)
      · have c5 : k - cf A.1 A.2.1 i ≠ 0 := fun x => c5 ((iN_z (by omega)).mpr x)
        have e := cf_y c4
        rw [iN_succ, iN_m1 (by omega)]
        exact rec _ _ ⟨rfl, by omega, _, by rw [e, show k - cf A.1 A.2.1 i - 1 = k - (cf A.1 A.2.1 i + 1) by omega]⟩
      · have c5 := (iN_z (by omega)).mp c5
        rw [show k = cf A.1 A.2.1 i by omega]
      · have e := cf_n (fun x => x c4)
        rw [iN_succ]
        exact rec _ _ ⟨rfl, by omega, _, by rw [e]⟩
    · rintro loc M' ⟨eM, g1, o5, rfl⟩
      subst eM
      have hl : ∀ {α : Prop}, iN (A.1 0) < M' 2 6 → α := fun c4 => absurd (by rw [rb_pins hb] at c4; exact (iN_lt (by omega) (by omega)).mp c4) (by omega)
      refine wk_4_20 (r1 := 0) (fun c4 => fin _ (Or.inl ⟨?_, rfl⟩)) (fun c4 => hl c4) (fun c4 => hl c4) (fun c4 => hl c4) (fun c4 => hl c4)
      rintro ⟨m, m1, m2, m3, -, -⟩
      have := cf_lt m2 m1
      have hcm := hc m
      have := (iN_eq (by omega) (by omega)).mp m3
      omega
  · rintro ⟨m, m1, m2, m3, m4, m5⟩
    exact m5 c3
theorem ct_90 {S n : Nat → Nat} (h : RD S n M) {net kind : Nat} (hnet : net < 16) (hk : kind < 4) : gE w 90 0 [some (.ref 148), some (.int (iN net)), some (.int (iN kind)), none, none] [] M (qv1 M (iN (kc S n net kind))) := by
  have h0 := h.1.1
  have ep : M 149 0 = iN (S 0) := h.2.2.1 0 (by omega)
  refine wk_90_0 ?_
  refine ev_for (S 0) (Inv := fun i loc M' => M' = M ∧ loc = [some (.ref 148), some (.int (iN net)), some (.int (iN kind)), some (.int (iN (cnt i (fun p => n p = net ∧ S (16 + p) = kind)))), some (.int (iN i))]) ?_ ?_ 0 _ _ (Nat.zero_le _) ⟨rfl, rfl⟩
  · rintro i loc M' hi ⟨eM, rfl⟩ rec
    subst eM
    have hcl := cnt_le (fun p => n p = net ∧ S (16 + p) = kind) i
    have hni := h.2.1 i (by omega)
    have hki := h.1.2.2.2.1 i (by omega)
    refine wk_90_5 (fun c1 => absurd (by rw [ep]; exact (iN_lt (by omega) (by omega)).mpr hi) c1) (fun _ => iN_in (by omega) (by omega)) (fun _ => ?_) (fun _ _ => by rw [iN_add]; exact iN_in (by omega) (by omega))
    refine rec _ _ ⟨rfl, ?_⟩
    rw [iN_add, iN_ix (by omega), iN_ix (by omega), h.2.2.2.1 i (by omega), h.2.2.1 (16 + i) (by omega), iN_succ, iN_succ, cnt_s]
    simp only [iN_eq (show n i < 2 ^ 31 by omega) (show net < 2 ^ 31 by omega), iN_eq (show S (16 + i) < 2 ^ 31 by omega) (show kind < 2 ^ 31 by omega)]
    by_cases a : n i = net
    · by_cases b : S (16 + i) = kind
      · rw [if_pos a, if_pos b, if_pos ⟨a, b⟩]
      · rw [if_pos a, if_neg b, if_neg (fun x => b x.2)]; rfl
    · rw [if_neg a, if_neg (fun x => a x.1)]; rfl
  · rintro loc M' ⟨eM, rfl⟩
    subst eM
    have hl : ∀ {α : Prop}, iN (S 0) < M' 149 0 → α := fun c4 => absurd (by rw [ep] at c4; exact (iN_lt (by omega) (by omega)).mp c4) (by omega)
    exact wk_90_5 (fun c1 => qv1_i rfl) (fun c1 => hl c1) (fun c1 => hl c1) (fun c1 => hl c1)
theorem nf_1 (S n : Nat → Nat) (net : Nat) : nf S n net = 1 ↔ 2 ≤ kc S n net 1 := by
  unfold nf
  by_cases a : 2 ≤ kc S n net 1
  · rw [if_pos a]; exact ⟨fun _ => a, fun _ => rfl⟩
  · rw [if_neg a]
    refine ⟨fun x => ?_, fun x => absurd x a⟩
    split at x
    · exact absurd x (by decide)
    · exact absurd x (by decide)
theorem nf_2 (S n : Nat → Nat) (net : Nat) : nf S n net = 2 ↔ kc S n net 1 = 0 ∧ kc S n net 3 = 0 ∧ 0 < kc S n net 0 := by
  unfold nf
  by_cases a : 2 ≤ kc S n net 1
  · rw [if_pos a]; exact ⟨fun x => absurd x (by decide), fun x => by omega⟩
  · rw [if_neg a]
    by_cases b : kc S n net 1 = 0 ∧ kc S n net 3 = 0 ∧ 0 < kc S n net 0
    · rw [if_pos b]; exact ⟨fun _ => b, fun _ => rfl⟩
    · rw [if_neg b]; exact ⟨fun x => absurd x (by decide), fun x => absurd x b⟩
theorem nf_3 (S n : Nat → Nat) (net : Nat) : nf S n net = 1 ∨ nf S n net = 2 ∨ nf S n net = -1 := by
  unfold nf
  repeat' split
  · exact Or.inl rfl
  · exact Or.inr (Or.inl rfl)
  · exact Or.inr (Or.inr rfl)
/-- one net in the reference: its faults one after the other -/
theorem rf_fin {S n : Nat → Nat} (h : RD S n M) {x1 x2 : Int32} {net : Nat} (hnet : net < S 0) {o6 o7 o8 : Option Value} {post : qR} (hret : nf S n net ≠ -1 → iN (cf S n net) = x1 → post (some (.int (if x2 = 0 then nf S n net else iN net))) M)
    (hgo : (nf S n net ≠ -1 → iN (cf S n net) ≠ x1) → ∀ o5 o6 o7 o8, gE w 91 16 [some (.ref 148), some (.int x1), some (.int x2), some (.int (iN (cf S n (net + 1)))), some (.int (iN (net + 1))), o5, o6, o7, o8] [] M post) :
    gE w 91 30 [some (.ref 148), some (.int x1), some (.int x2), some (.int (iN (cf S n net))), some (.int (iN net)), some (.int 1), o6, o7, o8] [] M post := by
  have h0 := h.1.1
  have b0 := kc_le (n := n) h.1.1 net 0
  have b1 := kc_le (n := n) h.1.1 net 1
  have b3 := kc_le (n := n) h.1.1 net 3
  have fv1 : (if (1 : Int32) = 1 then (if 1 < iN (kc S n net 1) then 1 else 0 : Int32) else (if 0 < iN (kc S n net 0) then (if (iN (kc S n net 1) + iN (kc S n net 3)) = 0 then 1 else 0 : Int32) else 0 : Int32) : Int32) = bi (nf S n net = 1) := by
    rw [if_pos rfl, bi_y]
    refine bi_congr ?_
    rw [nf_1]
    exact iN_lt (a := 1) (by omega) (by omega)
  have fv2 : (if (iN 2) = 1 then (if 1 < iN (kc S n net 1) then 1 else 0 : Int32) else (if 0 < iN (kc S n net 0) then (if (iN (kc S n net 1) + iN (kc S n net 3)) = 0 then 1 else 0 : Int32) else 0 : Int32) : Int32) = bi (nf S n net = 2) := by
    rw [if_neg (by decide), iN_add]
    by_cases a : 0 < kc S n net 0
    · rw [if_pos ((iN_pos (by omega)).mpr a), bi_y]
      refine bi_congr ?_
      rw [nf_2, iN_z (by omega)]
      omega
    · rw [if_neg (fun x => a ((iN_pos (by omega)).mp x))]
      exact (bi_neg (fun x => a ((nf_2 S n net).mp x).2.2)).symm
  have fin3 : ∀ {x3 : Int32} {o6 o7 o8 : Option Value}, (nf S n net ≠ -1 → iN (cf S n net) ≠ x1) → x3 = iN (cf S n (net + 1)) → gE w 91 30 [some (.ref 148), some (.int x1), some (.int x2), some (.int x3), some (.int (iN net)), some (.int (iN 3)), o6, o7, o8] [] M post := by
    intro x3 o6 o7 o8 hne e3
    subst e3
    have hl : ∀ {α : Prop}, ¬ iN 2 < iN 3 → α := fun c => absurd (by decide) c
    refine wk_91_30 (r1 := 0) (r2 := 0) (r3 := 0) (fun _ => ?_) (fun c => hl c) (fun c => hl c) (fun c => hl c) (fun c => hl c) (fun c => hl c) (fun c => hl c)
    rw [iN_succ]
    exact hgo hne _ _ _ _
  have fin2 : ∀ {x3 : Int32} {o6 o7 o8 : Option Value}, (nf S n net = 1 → iN (cf S n net) ≠ x1) → x3 = iN (if nf S n net = 1 then cf S n net + 1 else cf S n net) → gE w 91 30 [some (.ref 148), some (.int x1), some (.int x2), some (.int x3), some (.int (iN net)), some (.int (iN 2)), o6, o7, o8] [] M post := by
    intro x3 o6 o7 o8 hne e3
    subst e3
    have hl : ∀ {α : Prop}, iN 2 < iN 2 → α := fun c => absurd c (by decide)
    refine wk_91_30 (r1 := iN (kc S n net 1)) (r2 := iN (kc S n net 0)) (r3 := iN (kc S n net 3)) (fun c => hl c) (fun _ => ct_90 (kind := 1) h (by omega) (by decide)) (fun _ => ct_90 (kind := 0) h (by omega) (by decide)) ?_ ?_ ?_ (fun _ _ => ct_90 (kind := 3) h (by omega) (by decide))
    · rw [fv2]
      intro _ c2
      refine fin3 ?_ ?_
      · intro k
        rcases nf_3 S n net with x | x | x
        · exact hne x
        · exact absurd x (bi_eq c2)
        · exact absurd x k
      · rw [if_pos c2]
        rcases nf_3 S n net with x | x | x
        · rw [if_pos x, cf_y (by rw [x]; decide)]
        · exact absurd x (bi_eq c2)
        · rw [if_neg (by rw [x]; decide), cf_n (fun y => y x)]
    · rw [fv2]
      intro _ c2 c4
      have x := bi_ne c2
      have nx1 : ¬ nf S n net = 1 := by rw [x]; decide
      rw [if_neg nx1] at c4
      rw [if_neg nx1, if_neg c2, iN_succ]
      exact fin3 (fun _ => c4) (by rw [cf_y (by rw [x]; decide)])
    · rw [fv2]
      intro _ c2 c4
      have x := bi_ne c2
      have nx1 : ¬ nf S n net = 1 := by rw [x]; decide
      rw [if_neg nx1] at c4
      have := hret (by rw [x]; decide) c4
      rw [x] at this
      exact this
  have hl : ∀ {α : Prop}, iN 2 < 1 → α := fun c => absurd c (by decide)
  refine wk_91_30 (r1 := iN (kc S n net 1)) (r2 := iN (kc S n net 0)) (r3 := iN (kc S n net 3)) (fun c => hl c) (fun _ => ct_90 (kind := 1) h (by omega) (by decide)) (fun _ => ct_90 (kind := 0) h (by omega) (by decide)) ?_ ?_ ?_ (fun _ _ => ct_90 (kind := 3) h (by omega) (by decide))
  · rw [fv1]
    intro _ c2
    refine fin2 (fun x => absurd x (bi_eq c2)) ?_
    rw [if_pos c2, if_neg (bi_eq c2)]
  · rw [fv1]
    intro _ c2 c4
    refine fin2 (fun _ => c4) ?_
    rw [if_neg c2, if_pos (bi_ne c2), iN_succ]
  · rw [fv1]
    intro _ c2 c4
    have x := bi_ne c2
    have := hret (by rw [x]; decide) c4
    rw [x] at this
    exact this
theorem rf_fault {A A' : qA} {x1 x2 v : Int32} (hA : RA2 A) (hSt : StFault A x1 x2 v A') (h : RF A M) : gE w 91 0 [some (.ref 148), some (.int x1), some (.int x2), none, none, none, none, none, none] [] M (RFp v A' M) := by
  obtain ⟨rfl, hSt⟩ := hSt
  have hb := RF_RD hA h
  have h0 := hA.1.1.1
  have hc : ∀ k, cf A'.1 A'.2.1 k ≤ k := fun k => cnt_le _ k
  have ep : M 149 0 = iN (A'.1 0) := h.1.1 0 (by omega)
  have fin : ∀ v', v' = v → RFp v A' M (some (.int v')) M := fun v' e => ⟨by rw [e], h, fun _ _ => rfl⟩
  have bad : (¬ ∃ m, FA A' x1 x2 m) → RFp v A' M (some (.int (-1))) M := fun hn => by
    rcases hSt with ⟨-, k⟩ | ⟨m, hm, -⟩
    · exact fin _ k.symm
    · exact absurd ⟨m, hm⟩ hn
  refine wk_91_0 (fun c1 => bad ?_) (fun c1 c2 => ?_) (fun c1 c2 => bad ?_)
  · rintro ⟨m, m1, m2, m3, m4, m5⟩
    exact m4 c1
  · refine ev_for (A'.1 0) (Inv := fun i loc M' => M' = M ∧ (∀ m, m < i → nf A'.1 A'.2.1 m ≠ -1 → iN (cf A'.1 A'.2.1 m) ≠ x1) ∧ ∃ o5 o6 o7 o8, loc = [some (.ref 148), some (.int x1), some (.int x2), some (.int (iN (cf A'.1 A'.2.1 i))), some (.int (iN i)), o5, o6, o7, o8]) ?_ ?_ 0 _ _ (Nat.zero_le _) ⟨rfl, fun m hm => absurd hm (by omega), _, _, _, _, rfl⟩
    · rintro i loc M' hi ⟨eM, g1, o5, o6, o7, o8, rfl⟩ rec
      subst eM
      have hci := hc i
      refine wk_91_16 (fun c4 => absurd (by rw [ep]; exact (iN_lt (by omega) (by omega)).mpr hi) c4) (fun _ => ?_)
      refine rf_fin hb hi (fun k1 k2 => fin _ ?_) (fun k1 o5 o6 o7 o8 => rec _ _ ⟨rfl, fun m hm hm2 => ?_, _, _, _, _, rfl⟩)
      · rcases hSt with ⟨k, -⟩ | ⟨m, ⟨m1, m2, m3, m4, m5⟩, rfl⟩
        · exact absurd ⟨i, hi, k1, k2.symm, c1, c2⟩ k
        · have hcm := hc m
          rw [← k2] at m3
          have := cf_inj k1 m2 ((iN_eq (by omega) (by omega)).mp m3)
          subst this
          rfl
      · by_cases e : m = i
        · subst e; exact k1 hm2
        · exact g1 m (by omega) hm2
    · rintro loc M' ⟨eM, g1, o5, o6, o7, o8, rfl⟩
      subst eM
      refine wk_91_16 (fun _ => bad ?_) (fun c4 => absurd (by rw [ep] at c4; exact (iN_lt (by omega) (by omega)).mp c4) (by omega))
      rintro ⟨m, m1, m2, m3, -, -⟩
      exact g1 m m1 m2 m3.symm
  · rintro ⟨m, m1, m2, m3, m4, m5⟩
    exact m5 c2
end APIA
