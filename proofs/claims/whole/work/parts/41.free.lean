/-! The class: free cells, faults of nets. -/
theorem dz_0 (r : Nat) : -(iN r) = dz 0 r := by
  unfold dz
  exact (Int32.zero_sub (iN r)).symm
theorem dz_s (i r : Nat) : dz i r + 1 = dz (i + 1) r := by
  unfold dz
  rw [← iN_succ i, Int32.sub_eq_add_neg, Int32.sub_eq_add_neg, Int32.add_assoc, Int32.add_comm (-iN r) 1, ← Int32.add_assoc]
theorem dz_tab : ∀ r : Fin 3, ∀ i : Fin 6, (iN r.val < dz i.val r.val ↔ 2 * r.val < i.val) := by decide +kernel
theorem dz_lt {r i : Nat} (hr : r ≤ 2) (hi : i ≤ 5) : iN r < dz i r ↔ 2 * r < i := dz_tab ⟨r, by omega⟩ ⟨i, by omega⟩
def wv (S n : Nat → Nat) (c i j : Nat) : Nat := if sh (S 2) c i j = 0 then 0 else ow S n (sh (S 2) c i j - 1)
theorem wv_le {S n : Nat → Nat} (h : Ok S) (hn : ∀ p, p < 16 → n p < 16) {c : Nat} (hc : c < 240) (i j : Nat) : wv S n c i j ≤ 16 := by
  unfold wv
  split
  · omega
  · exact ow_le h hn (by have := sh_le (r := S 2) (i := i) (j := j) hc; omega)
theorem fre_wv {S n : Nat → Nat} {c net : Nat} : fre S n c net ↔ S (112 + c) = 0 ∧ ∀ i j, i ≤ 2 * S 2 → j ≤ 2 * S 2 → wv S n c i j = 0 ∨ wv S n c i j = net + 1 := by
  unfold fre wv
  constructor
  · intro h
    refine ⟨h.1, fun i j hi hj => ?_⟩
    by_cases z : sh (S 2) c i j = 0
    · rw [if_pos z]; exact Or.inl rfl
    · rw [if_neg z]; exact h.2 i j hi hj z
  · intro h
    refine ⟨h.1, fun i j hi hj z => ?_⟩
    have := h.2 i j hi hj
    rw [if_neg z] at this
    exact this
theorem wv_eq {S n : Nat → Nat} {c i j : Nat} (hc : c < 240) : (if pm (sh (S 2) c i j) = -1 then -1 else pm (ow S n (sh (S 2) c i j - 1))) = pm (wv S n c i j) := by
  have hs := sh_le (r := S 2) (i := i) (j := j) hc
  unfold wv
  by_cases z : sh (S 2) c i j = 0
  · rw [if_pos z, if_pos ((pm_m1 (by omega)).mpr z)]; rfl
  · rw [if_neg z, if_neg (fun x => z ((pm_m1 (by omega)).mp x))]
section BFREE
variable {w : qS} {S n : Nat → Nat} {M : qM}
theorem ct_sh (h : BD S n M) {c i j : Nat} (hc : c < 240) (c4 : ¬ pm (sh (S 2) c i j) = -1) : gE w 32 0 [some (.ref 1), some (.int (pm (sh (S 2) c i j))), none] [] M (qv1 M (pm (ow S n (sh (S 2) c i j - 1)))) := by
  have hs := sh_le (r := S 2) (i := i) (j := j) hc
  have z : sh (S 2) c i j ≠ 0 := fun x => c4 ((pm_m1 (by omega)).mpr x)
  rw [pm_of z]
  exact ct_32 h (by omega)
theorem ct_36 (h : BD S n M) {c net : Nat} (hc : c < 240) (hnet : net < 16) : gE w 36 0 [some (.ref 1), some (.int (iN c)), some (.int (iN net)), none, none, none, none, none] [] M (qv1 M (bi (fre S n c net))) := by
  have hr := h.1.2.2.1
  have eh : M 8 (iN c).toNatClampNeg = hv S c := by rw [iN_ix (by omega), rb_hold h hc]
  refine wk_36_0 (iN_in hc (by omega)) (fun c1 => ?_) (fun c1 => qv1_i ?_)
  · rw [eh] at c1
    have hbar : S (112 + c) = 0 := Classical.byContradiction fun x => c1 ((hv_m2 h.1 hc).mpr x)
    rw [rb_clr h, dz_0]
    refine ev_for (2 * S 2 + 1) (Inv := fun i loc M' => M' = M ∧ (∃ o5 o6 o7, loc = [some (.ref 1), some (.int (iN c)), some (.int (iN net)), some (.int (iN (S 2))), some (.int (dz i (S 2))), o5, o6, o7]) ∧ ∀ i' j, i' < i → j ≤ 2 * S 2 → wv S n c i' j = 0 ∨ wv S n c i' j = net + 1) ?_ ?_ 0 _ _ (Nat.zero_le _) ⟨rfl, ⟨_, _, _, rfl⟩, fun i' j x => absurd x (by omega)⟩
    · rintro i loc M' hi ⟨eM, ⟨o5, o6, o7, rfl⟩, hprev⟩ rec
      subst eM
      refine wk_36_28 (fun c1 => absurd ((dz_lt hr.2 (by omega)).mp c1) (by omega)) (fun c1 => ?_)
      rw [dz_0]
      refine ev_for (2 * S 2 + 1) (Inv := fun j loc M'' => M'' = M' ∧ (∃ o6 o7, loc = [some (.ref 1), some (.int (iN c)), some (.int (iN net)), some (.int (iN (S 2))), some (.int (dz i (S 2))), some (.int (dz j (S 2))), o6, o7]) ∧ ∀ j', j' < j → wv S n c i j' = 0 ∨ wv S n c i j' = net + 1) ?_ ?_ 0 _ _ (Nat.zero_le _) ⟨rfl, ⟨_, _, rfl⟩, fun j' x => absurd x (by omega)⟩
      · rintro j loc M'' hj ⟨eM, ⟨o6, o7, rfl⟩, hin⟩ rec2
        subst eM
        have hw := wv_le h.1 h.2.1 hc i j
        have hgo : (wv S n c i j = 0 ∨ wv S n c i j = net + 1) → ∀ v1 v2 : Value, gE w 36 38 [some (.ref 1), some (.int (iN c)), some (.int (iN net)), some (.int (iN (S 2))), some (.int (dz i (S 2))), some (.int (dz j (S 2) + 1)), some v1, some v2] [] M'' (qv1 M'' (bi (fre S n c net))) := by
          intro hok v1 v2
          rw [dz_s]
          refine rec2 _ _ ⟨rfl, ⟨_, _, rfl⟩, fun j' hj' => ?_⟩
          by_cases e : j' = j
          · rw [e]; exact hok
          · exact hin j' (by omega)
        refine wk_36_38 (r1 := pm (sh (S 2) c i j)) (r2 := pm (ow S n (sh (S 2) c i j - 1))) (fun c1 => absurd ((dz_lt hr.2 (by omega)).mp c1) (by omega)) (fun _ => ct_27 hc hr.2 (by omega) (by omega)) (fun _ c2 => ?_) (fun _ c2 c3 => ?_) (fun _ c2 c3 => qv1_i ?_) (fun _ c4 => ct_sh h hc c4)
        · rw [wv_eq hc, pm_m1 (by omega)] at c2
          exact hgo (Or.inl c2) _ _
        · rw [wv_eq hc, pm_iN (by omega) (by omega)] at c3
          exact hgo (Or.inr c3) _ _
        · rw [wv_eq hc, pm_m1 (by omega)] at c2
          rw [wv_eq hc, pm_iN (by omega) (by omega)] at c3
          refine (bi_neg (fun f => ?_)).symm
          rcases (fre_wv.mp f).2 i j (by omega) (by omega) with x | x
          · exact c2 x
          · exact c3 x
      · rintro loc M'' ⟨eM, ⟨o6, o7, rfl⟩, hin⟩
        subst eM
        refine wk_36_38 (r1 := 0) (r2 := 0) (fun c1 => ?_) (fun c1 => absurd ((dz_lt hr.2 (by omega)).mpr (by omega)) c1) (fun c1 _ => absurd ((dz_lt hr.2 (by omega)).mpr (by omega)) c1) (fun c1 _ _ => absurd ((dz_lt hr.2 (by omega)).mpr (by omega)) c1) (fun c1 _ _ => absurd ((dz_lt hr.2 (by omega)).mpr (by omega)) c1) (fun c1 _ => absurd ((dz_lt hr.2 (by omega)).mpr (by omega)) c1)
        rw [dz_s]
        refine rec _ _ ⟨rfl, ⟨_, _, _, rfl⟩, fun i' j hi' hj => ?_⟩
        by_cases e : i' = i
        · rw [e]; exact hin j (by omega)
        · exact hprev i' j (by omega) hj
    · rintro loc M' ⟨eM, ⟨o5, o6, o7, rfl⟩, hprev⟩
      subst eM
      refine wk_36_28 (fun c1 => qv1_i ?_) (fun c1 => absurd ((dz_lt hr.2 (by omega)).mpr (by omega)) c1)
      exact (bi_pos (fre_wv.mpr ⟨hbar, fun i j hi hj => hprev i j (by omega) hj⟩)).symm
  · rw [eh] at c1
    exact (bi_neg (fun f => (hv_m2 h.1 hc).mp c1 f.1)).symm
theorem cnt_s (k : Nat) (p : Nat → Prop) : cnt (k + 1) p = cnt k p + @ite _ (p k) (Classical.propDecidable _) 1 0 := rfl
/-- how many pins of a kind a net has -/
noncomputable def kc (S n : Nat → Nat) (net kind : Nat) : Nat := cnt (S 0) (fun p => n p = net ∧ S (16 + p) = kind)
theorem kc_le {S n : Nat → Nat} (h : S 0 ≤ 16) (net kind : Nat) : kc S n net kind ≤ 16 := Nat.le_trans (cnt_le _ _) h
theorem ct_43 (h : BD S n M) {net kind : Nat} (hnet : net < 16) (hk : kind < 4) : gE w 43 0 [some (.ref 1), some (.int (iN net)), some (.int (iN kind)), none, none] [] M (qv1 M (iN (kc S n net kind))) := by
  have h0 := h.1.1
  refine wk_43_0 ?_
  refine ev_for (S 0) (Inv := fun i loc M' => M' = M ∧ loc = [some (.ref 1), some (.int (iN net)), some (.int (iN kind)), some (.int (iN (cnt i (fun p => n p = net ∧ S (16 + p) = kind)))), some (.int (iN i))]) ?_ ?_ 0 _ _ (Nat.zero_le _) ⟨rfl, rfl⟩
  · rintro i loc M' hi ⟨eM, rfl⟩ rec
    subst eM
    have hcl := cnt_le (fun p => n p = net ∧ S (16 + p) = kind) i
    have hni := h.2.1 i (by omega)
    have hki := h.1.2.2.2.1 i (by omega)
    refine wk_43_5 (fun c1 => absurd (by rw [rb_pins h]; exact (iN_lt (by omega) (by omega)).mpr hi) c1) (fun _ => iN_in (by omega) (by omega)) (fun _ => ?_)
    refine rec _ _ ⟨rfl, ?_⟩
    rw [iN_ix (by omega), rb_net h (by omega), rb_kind h hi, iN_succ, iN_succ, cnt_s]
    simp only [iN_eq (show n i < 2 ^ 31 by omega) (show net < 2 ^ 31 by omega), iN_eq (show S (16 + i) < 2 ^ 31 by omega) (show kind < 2 ^ 31 by omega)]
    by_cases a : n i = net
    · by_cases b : S (16 + i) = kind
      · rw [if_pos a, if_pos b, if_pos ⟨a, b⟩]
      · rw [if_pos a, if_neg b, if_neg (fun x => b x.2)]; rfl
    · rw [if_neg a, if_neg (fun x => a x.1)]; rfl
  · rintro loc M' ⟨eM, rfl⟩
    subst eM
    exact wk_43_5 (fun c1 => qv1_i rfl) (fun c1 => absurd (by rw [rb_pins h] at c1; exact (iN_lt (by omega) (by omega)).mp c1) (by omega)) (fun c1 => absurd (by rw [rb_pins h] at c1; exact (iN_lt (by omega) (by omega)).mp c1) (by omega))
/-- the fault of a net -/
noncomputable def nf (S n : Nat → Nat) (net : Nat) : Int32 := if 2 ≤ kc S n net 1 then 1 else if kc S n net 1 = 0 ∧ kc S n net 3 = 0 ∧ 0 < kc S n net 0 then 2 else -1
theorem ct_42 (h : BD S n M) {net : Nat} (hnet : net < 16) : gE w 42 0 [some (.ref 1), some (.int (iN net)), none, none] [] M (qv1 M (nf S n net)) := by
  have b0 := kc_le (n := n) h.1.1 net 0
  have b1 := kc_le (n := n) h.1.1 net 1
  have b3 := kc_le (n := n) h.1.1 net 3
  refine wk_42_0 (r1 := iN (kc S n net 1)) (r2 := iN (kc S n net 3)) (r3 := iN (kc S n net 0)) (ct_43 (kind := 1) h hnet (by decide)) (fun c1 => qv1_i ?_) (fun _ _ => ct_43 (kind := 0) h hnet (by decide)) (fun _ _ => ct_43 (kind := 3) h hnet (by decide)) (fun c1 => qv1_i ?_)
  · have c1 : kc S n net 1 < 2 := (iN_lt (by omega) (by omega)).mp c1
    have e : nf S n net = if kc S n net 1 = 0 ∧ kc S n net 3 = 0 ∧ 0 < kc S n net 0 then 2 else -1 := by
      unfold nf
      rw [if_neg (by omega)]
    rw [e]
    simp only [iN_pos (show kc S n net 1 < 2 ^ 31 by omega), iN_pos (show kc S n net 3 < 2 ^ 31 by omega), iN_pos (show kc S n net 0 < 2 ^ 31 by omega)]
    by_cases a : 0 < kc S n net 1
    · rw [if_pos a, if_neg (by decide), if_neg (fun x => by omega)]
    · by_cases b : 0 < kc S n net 3
      · rw [if_neg a, if_pos b, if_neg (by decide), if_neg (fun x => by omega)]
      · by_cases d : 0 < kc S n net 0
        · rw [if_neg a, if_neg b, if_pos rfl, if_pos d, if_pos (by omega)]; rfl
        · rw [if_neg a, if_neg b, if_pos rfl, if_neg d, if_neg (by omega)]
  · unfold nf
    rw [if_pos (Nat.le_of_not_lt (fun x => c1 ((iN_lt (by omega) (by omega)).mpr x)))]
end BFREE
