/-! The class: a way is laid. -/
/-- costs where a way may go -/
noncomputable def CRf (I F : Nat → Prop) (C : Nat → Nat) : Nat → Nat := fun c => @ite _ (I c ∨ F c) (Classical.propDecidable _) (C c) 1000000
theorem CRf_pos {I F : Nat → Prop} {C : Nat → Nat} {c : Nat} (h : I c ∨ F c) : CRf I F C c = C c := if_pos h
theorem CRf_neg {I F : Nat → Prop} {C : Nat → Nat} {c : Nat} (h : ¬ (I c ∨ F c)) : CRf I F C c = 1000000 := if_neg h
theorem rch_pad {I F Pd : Nat → Prop} {C : Nat → Nat} {T : Nat → Prop} {h t : Nat → Nat} {q : Nat → Nat → Nat} {D dd : Nat} (v : dInv I F Pd C T h t q D 999 dd) (hall : ∀ c, c < 240 → C c < 1000000 → T c) {s : Nat} (hs : s < 240) (hI : ¬ I s) (hp : Pd s) : rch (CRf I F C) s = C s := by
  obtain ⟨h1, h2, h3⟩ := dInv_pad v hall hs hI hp
  refine rch_eq (fun d hd hn => ?_) (fun hk => ?_) h3
  · by_cases y : I (nx s d - 1) ∨ F (nx s d - 1)
    · rw [CRf_pos y]; exact h1 d hd hn y
    · rw [CRf_neg y]; omega
  · obtain ⟨d, hd, hn, hp, hl⟩ := h2 hk
    exact ⟨d, hd, hn, by rw [CRf_pos hp]; exact hl⟩
/-- a cell, or 240 for none -/
def wcd (k : Nat) : Int32 := if k = 240 then -1 else iN k
theorem wcd_of {k : Nat} (h : k ≠ 240) : wcd k = iN k := if_neg h
theorem wcd_step {W e : Nat} (hW : W ≤ 240) (he : e < 240) : (if wcd W = -1 then iN e else if iN e < wcd W then iN e else wcd W) = wcd (if e < W then e else W) := by
  by_cases z : W = 240
  · subst z
    rw [if_pos (show wcd 240 = -1 from rfl), if_pos he, wcd_of (by omega)]
  · rw [wcd_of z, if_neg (fun x => iN_nn (a := W) (by omega) (by rw [x]; decide))]
    by_cases k : e < W
    · rw [if_pos ((iN_lt (by omega) (by omega)).mpr k), if_pos k, wcd_of (by omega)]
    · rw [if_neg (fun x => k ((iN_lt (by omega) (by omega)).mp x)), if_neg k, wcd_of z]
theorem wst_s0 {C : Nat → Nat} {c left d : Nat} (h : ¬ (nx c d ≠ 0 ∧ C (nx c d - 1) + prc d = left ∧ nx c d - 1 < wst C c left d)) : wst C c left (d + 1) = wst C c left d := if_neg h
theorem wst_s1 {C : Nat → Nat} {c left d : Nat} (y : nx c d ≠ 0) (g : C (nx c d - 1) + prc d = left) : wst C c left (d + 1) = if nx c d - 1 < wst C c left d then nx c d - 1 else wst C c left d := by
  by_cases k : nx c d - 1 < wst C c left d
  · rw [if_pos k]; exact if_pos ⟨y, g, k⟩
  · rw [if_neg k]; exact if_neg (fun x => k x.2.2)
section BCONN
variable {w : qS} {S n : Nat → Nat} {M : qM}
theorem bt3_tab : ∀ v : Fin 4, v.val ≠ 0 → (v.val ≠ 2 → (bt v.val 1 = 1 ↔ v.val = 3)) ∧ (v.val = 2 → ¬ bt v.val 0 = 1) := by decide +kernel
theorem ct_70 (h : BD S n M) {m : Nat} {C : Nat → Nat} (hm : m < S 0) (hpl : S (32 + m) ≠ 0) (hC : ∀ c, c < 240 → M 16 c = iN (C c)) (hCl : ∀ c, c < 240 → C c ≤ 1000000) :
    gE w 70 0 [some (.ref 12), some (.ref 1), some (.int (iN m)), none, none] [] M (qv1 M (iN (if S (32 + m) / 120 = 3 ∧ C (fp S m + 120) < C (fp S m) then fp S m + 120 else fp S m))) := by
  have h0 := h.1.1
  have h1 := (h.1.2.2.2.2.1 m (by omega)).resolve_left hpl
  have hlt := fp_lt (S := S) m
  have hb := bt3_tab ⟨S (32 + m) / 120, by omega⟩ (by dsimp only; omega)
  dsimp only at hb
  by_cases c2 : S (32 + m) / 120 = 2
  · have ef : fp S m = 120 + S (32 + m) % 120 := by unfold fp; rw [if_pos c2]
    have en : nx (fp S m) 8 = fp S m - 119 := by unfold nx; rw [if_pos rfl, if_neg (by omega)]
    have hno : ¬ hp S m (fp S m - 120) := fun x => hb.2 c2 (by have := x.1; rw [show (fp S m - 120) / 120 = 0 by omega] at this; exact this)
    refine wk_70_0 (r1 := iN (fp S m)) (r2 := iN (fp S m - 120)) (r3 := bi (hp S m (fp S m - 120))) (ct_35 h (by omega) hpl) ?_ (ct_33 h (by omega) (by omega)) (qv1_i ?_) (fun c1 => absurd (bi_ne c1) hno) (fun c1 => absurd (bi_ne c1) hno)
    · have := ct_28 (w := w) (M := M) hlt (show 8 < 9 by omega)
      rw [en, pm_of (by omega)] at this
      rw [show fp S m - 119 - 1 = fp S m - 120 by omega] at this
      exact this
    · rw [bi_neg hno, if_pos rfl, if_neg (fun x => by omega)]
  · have ef : fp S m = S (32 + m) % 120 := by unfold fp; rw [if_neg c2]
    have en : nx (fp S m) 8 = fp S m + 121 := by unfold nx; rw [if_pos rfl, if_pos (by omega)]
    have hiff : hp S m (fp S m + 120) ↔ S (32 + m) / 120 = 3 := by
      unfold hp
      rw [show (fp S m + 120) / 120 = 1 by omega, hb.1 c2]
      exact ⟨fun x => x.1, fun x => ⟨x, by omega⟩⟩
    refine wk_70_0 (r1 := iN (fp S m)) (r2 := iN (fp S m + 120)) (r3 := bi (hp S m (fp S m + 120))) (ct_35 h (by omega) hpl) ?_ (ct_33 h (by omega) (by omega)) (qv1_i ?_) (fun _ => iN_in (by omega) (by omega)) (fun _ => iN_in (by omega) (by omega))
    · have := ct_28 (w := w) (M := M) hlt (show 8 < 9 by omega)
      rw [en, pm_of (by omega)] at this
      exact this
    · have l1 := hCl (fp S m + 120) (by omega)
      have l2 := hCl (fp S m) (by omega)
      rw [iN_ix (by omega), iN_ix (by omega), hC _ (by omega), hC _ (by omega)]
      by_cases c3 : S (32 + m) / 120 = 3
      · rw [bi_pos (hiff.mpr c3), if_neg (by decide)]
        by_cases d : C (fp S m + 120) < C (fp S m)
        · rw [if_pos ((iN_lt (by omega) (by omega)).mpr d), if_pos ⟨c3, d⟩]
        · rw [if_neg (fun x => d ((iN_lt (by omega) (by omega)).mp x)), if_neg (fun x => d x.2)]
      · rw [bi_neg (fun x => c3 (hiff.mp x)), if_pos rfl, if_neg (fun x => c3 x.1)]
theorem ct_72 {I F : Nat → Prop} {C : Nat → Nat} {c : Nat} (h1 : ∀ c, c < 240 → M 13 c = bi (I c)) (h2 : ∀ c, c < 240 → M 15 c = bi (F c)) (hC : ∀ c, c < 240 → M 16 c = iN (C c)) (hCl : ∀ c, c < 240 → C c ≤ 1000000) (hc : c < 240) :
    gE w 72 0 [some (.ref 12), some (.int (iN c)), none, none, none, none] [] M (qv1 M (wcd (wst (CRf I F C) c (C c) 9))) := by
  refine wk_72_0 ?_
  refine ev_for 9 (Inv := fun d loc M' => M' = M ∧ ∃ o4 o5, loc = [some (.ref 12), some (.int (iN c)), some (.int (wcd (wst (CRf I F C) c (C c) d))), some (.int (iN d)), o4, o5]) ?_ ?_ 0 _ _ (Nat.zero_le _) ⟨rfl, _, _, rfl⟩
  · rintro d loc M' hd ⟨eM, o4, o5, rfl⟩ rec
    subst eM
    have hw := (wst_hit (C := CRf I F C) (left := C c) hc d (by omega)).1
    have hpp := prc_pos d
    have hlc := hCl c hc
    have hgo : ∀ (x : Int32) (o4 o5 : Option Value), x = wcd (wst (CRf I F C) c (C c) (d + 1)) → gE w 72 4 [some (.ref 12), some (.int (iN c)), some (.int x), some (.int (iN (d + 1))), o4, o5] [] M' (qv1 M' (wcd (wst (CRf I F C) c (C c) 9))) := by
      intro x o4 o5 e
      subst x
      exact rec _ _ ⟨rfl, _, _, rfl⟩
    by_cases y : nx c d = 0
    · have er : pm (nx c d) = -1 := by rw [y]; rfl
      refine wk_72_4 (r1 := pm (nx c d)) (r2 := 0) (fun c1 => absurd ((iN_lt (by omega) (by omega)).mpr hd) c1) (fun _ => ct_28 hc hd) (fun _ => ?_) (fun _ c5 => absurd er c5) (fun _ c5 => absurd er c5) (fun _ c5 => absurd er c5) (fun _ c5 => absurd er c5)
      rw [iN_succ]
      refine hgo _ _ _ ?_
      rw [if_pos er, if_pos rfl, wst_s0 (fun x => x.1 y)]
    · have he := (nx_ok hc hd y).1
      have hle := hCl (nx c d - 1) (by omega)
      have er : ¬ pm (nx c d) = -1 := fun x => y ((pm_m1 (by omega)).mp x)
      have hcost := cost_tab ⟨d, hd⟩
      dsimp only at hcost
      refine wk_72_4 (r1 := pm (nx c d)) (r2 := bi (I (nx c d - 1) ∨ F (nx c d - 1))) (fun c1 => absurd ((iN_lt (by omega) (by omega)).mpr hd) c1) (fun _ => ct_28 hc hd) (fun _ => ?_) (fun _ _ => by rw [pm_of y]; exact ct_68 h1 h2 (by omega)) (fun _ _ _ => by rw [pm_of y]; exact iN_in (by omega) (by omega)) (fun _ _ _ => iN_in hd (by omega)) (fun _ _ _ => iN_in hc (by omega))
      rw [iN_succ]
      refine hgo _ _ _ ?_
      simp only [if_neg er]
      rw [pm_of y, iN_ix (a := nx c d - 1) (by omega), iN_ix (a := d) (by omega), iN_ix (a := c) (by omega), hC _ (by omega), hC _ hc, hcost, iN_add]
      by_cases p : I (nx c d - 1) ∨ F (nx c d - 1)
      · have e1 : ¬ bi (I (nx c d - 1) ∨ F (nx c d - 1)) = 0 := by rw [bi_pos p]; decide
        simp only [if_neg e1]
        by_cases g : C (nx c d - 1) + prc d = C c
        · rw [if_pos (show iN (C (nx c d - 1) + prc d) = iN (C c) by rw [g]), if_neg (show ¬ (1 : Int32) = 0 by decide), wst_s1 y (by rw [CRf_pos p]; exact g)]
          exact wcd_step hw (by omega)
        · rw [if_neg (show ¬ iN (C (nx c d - 1) + prc d) = iN (C c) from fun x => g ((iN_eq (by omega) (by omega)).mp x)), if_pos rfl, wst_s0 (fun x => g (by have := x.2.1; rw [CRf_pos p] at this; exact this))]
      · have e1 : bi (I (nx c d - 1) ∨ F (nx c d - 1)) = 0 := bi_neg p
        simp only [if_pos e1]
        rw [if_true, wst_s0 (fun x => by have := x.2.1; rw [CRf_neg p] at this; omega)]
  · rintro loc M' ⟨eM, o4, o5, rfl⟩
    subst eM
    have hno : ∀ {α : Prop}, iN 9 < iN 9 → α := fun c1 => absurd ((iN_lt (by omega) (by omega)).mp c1) (by omega)
    exact wk_72_4 (r1 := 0) (r2 := 0) (fun _ => qv1_i rfl) (fun c1 => hno c1) (fun c1 => hno c1) (fun c1 => hno c1) (fun c1 => hno c1) (fun c1 => hno c1) (fun c1 => hno c1)
end BCONN
