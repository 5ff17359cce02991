/-! The reference: methods that only look. -/
def RD (S n : Nat → Nat) (M : qM) : Prop := Ok S ∧ (∀ p, p < 16 → n p < 16) ∧ FB S n M
def inV (x4 x5 x7 x8 : Int32) : Int32 := if (x4 + x8) < 0 then 0 else (if (x4 + x8) < (iN 12) then (if (x5 + x7) < 0 then 0 else (if (x5 + x7) < (iN 10) then 1 else 0)) else 0)
theorem inV_tab : ∀ c : Fin 240, ∀ r : Fin 3, ∀ i : Fin 5, ∀ j : Fin 5, (inV (iN (c.val % 12)) (iN (c.val % 120 / 12)) (dz i.val r.val) (dz j.val r.val) = 0 ↔ sh r.val c.val i.val j.val = 0) ∧ (sh r.val c.val i.val j.val ≠ 0 → ((iN c.val + (iN 12 * dz i.val r.val)) + dz j.val r.val) = iN (sh r.val c.val i.val j.val - 1)) := by decide +kernel
def acV (x0 : Int32) : Int32 := if x0 = 0 then 1 else (if x0 = 1 then 1 else (if x0 = (iN 7) then 1 else (if (iN 2) < x0 then (if x0 < (iN 6) then (-1) else 0) else 0)))
def dnV (x0 : Int32) : Int32 := if 0 < x0 then (if x0 < (iN 4) then 1 else (if (iN 4) < x0 then (if x0 < (iN 8) then (-1) else 0) else 0)) else (if (iN 4) < x0 then (if x0 < (iN 8) then (-1) else 0) else 0)
def ntV (x0 r1 r2 : Int32) : Int32 := if ((x0 - x0 / (iN 12) * (iN 12)) + r1) < 0 then (-1) else (if (iN 11) < ((x0 - x0 / (iN 12) * (iN 12)) + r1) then (-1) else (if (((x0 - x0 / (iN 120) * (iN 120)) / (iN 12)) + r2) < 0 then (-1) else (if (iN 9) < (((x0 - x0 / (iN 120) * (iN 120)) / (iN 12)) + r2) then (-1) else ((x0 + ((iN 12) * r2)) + r1))))
theorem ntV_tab : ∀ c : Fin 240, ∀ d : Fin 8, ntV (iN c.val) (acV (iN d.val)) (dnV (iN d.val)) = pm (nx c.val d.val) := by decide +kernel
theorem prc_tab : ∀ d : Fin 9, (if iN d.val = (iN 8) then (iN 30) else (if (iN d.val - iN d.val / (iN 2) * (iN 2)) = 0 then (iN 10) else (iN 14))) = iN (prc d.val) := by decide +kernel
/-- some net near a cell: of the net itself, or (b false) another one -/
def nr (S n : Nat → Nat) (c net : Nat) (b : Prop) : Prop := ∃ i j, i ≤ 2 * S 2 ∧ j ≤ 2 * S 2 ∧ wv S n c i j ≠ 0 ∧ (wv S n c i j = net + 1 ↔ b)
section RLEAF
variable {w : qS} {S n : Nat → Nat} {M : qM}
theorem ct_100 {c d : Nat} (hc : c < 240) (hd : d < 9) : gE w 100 0 [some (.int (iN c)), some (.int (iN d)), none, none] [] M (qv1 M (pm (nx c d))) := by
  refine wk_100_0 (r1 := acV (iN d)) (r2 := dnV (iN d)) (fun _ => wk_98_0 (qv1_i rfl)) (fun _ => wk_99_0 (qv1_i rfl)) (fun c1 => qv1_i ?_) (fun c1 => qv1_i ?_)
  · have hd8 : d < 8 := by
      have : d ≠ 8 := fun e => c1 (by rw [e])
      omega
    exact ntV_tab ⟨c, hc⟩ ⟨d, hd8⟩
  · have e : d = 8 := (iN_eq (by omega) (by omega)).mp c1
    subst e
    exact nb_tab8 ⟨c, hc⟩
theorem ct_109 {d : Nat} (hd : d < 9) : gE w 109 0 [some (.int (iN d))] [] M (qv1 M (iN (prc d))) := wk_109_0 (qv1_i (prc_tab ⟨d, hd⟩))
theorem ct_110 {C : Nat → Nat} {c : Nat} (hC : ∀ c, c < 240 → M 157 c = iN (C c)) (hCl : ∀ c, c < 240 → C c ≤ 1000000) (hc : c < 240) : gE w 110 0 [some (.ref 148), some (.int (iN c)), none, none, none, none] [] M (qv1 M (iN (rch C c))) := by
  refine wk_110_0 ?_
  refine ev_for 9 (Inv := fun d loc M' => M' = M ∧ ∃ o4 o5, loc = [some (.ref 148), some (.int (iN c)), some (.int (iN (rchF C c d))), some (.int (iN d)), o4, o5]) ?_ ?_ 0 _ _ (Nat.zero_le _) ⟨rfl, _, _, rfl⟩
  · rintro d loc M' hd ⟨eM, o4, o5, rfl⟩ rec
    subst eM
    have hr := (rchF_le C c d).1
    have hpp := prc_pos d
    have hgo : ∀ (x : Int32) (o4 o5 : Option Value), x = iN (rchF C c (d + 1)) → gE w 110 5 [some (.ref 148), some (.int (iN c)), some (.int x), some (.int (iN (d + 1))), o4, o5] [] M' (qv1 M' (iN (rch C c))) := by
      intro x o4 o5 e
      subst x
      exact rec _ _ ⟨rfl, _, _, rfl⟩
    have hnx : nx c d ≤ 240 := by
      by_cases y : nx c d = 0
      · omega
      · exact (nx_ok hc hd y).1
    refine wk_110_5 (r1 := pm (nx c d)) (r2 := iN (prc d)) (fun c1 => absurd ((iN_lt (by omega) (by omega)).mpr hd) c1) (fun _ => ct_100 hc hd) (fun _ => ?_) (fun _ c3 => ?_) (fun _ _ => ct_109 hd)
    · rw [iN_succ]
      refine hgo _ _ _ ?_
      by_cases y : nx c d = 0
      · have e1 : pm (nx c d) < 0 := (pm_neg (by omega)).mpr y
        simp only [if_pos e1]
        rw [if_neg (fun x => by have := (iN_lt (by omega) (by omega)).mp x; omega)]
        exact congrArg iN (if_neg (fun x => x.1 y)).symm
      · have e1 : ¬ pm (nx c d) < 0 := fun x => y ((pm_neg (by omega)).mp x)
        have hl := hCl (nx c d - 1) (by omega)
        simp only [if_neg e1]
        rw [pm_of y, iN_ix (by omega), hC _ (by omega), iN_add]
        by_cases k : C (nx c d - 1) + prc d < rchF C c d
        · rw [if_pos ((iN_lt (by omega) (by omega)).mpr k)]
          exact congrArg iN (if_pos ⟨y, k⟩).symm
        · rw [if_neg (fun x => k ((iN_lt (by omega) (by omega)).mp x))]
          exact congrArg iN (if_neg (fun x => k x.2)).symm
    · have y : nx c d ≠ 0 := fun x => c3 ((pm_neg (by omega)).mpr x)
      rw [pm_of y]
      exact iN_in (by omega) (by omega)
  · rintro loc M' ⟨eM, o4, o5, rfl⟩
    subst eM
    have hno : ∀ {α : Prop}, iN 9 < iN 9 → α := fun c1 => absurd ((iN_lt (by omega) (by omega)).mp c1) (by omega)
    exact wk_110_5 (r1 := 0) (r2 := 0) (fun _ => qv1_i rfl) (fun c1 => hno c1) (fun c1 => hno c1) (fun c1 => hno c1) (fun c1 => hno c1)
theorem rd_now (h : RD S n M) {i : Nat} (hi : i < 592) : M 149 i = iN (S i) := h.2.2.1 i hi
theorem ct_106 (h : RD S n M) {p : Nat} (hp0 : p < 16) : gE w 106 0 [some (.ref 148), some (.int (iN p)), none] [] M (qv1 M (iN (fp S p))) := by
  have hl := ok_pl h.1 hp0
  have e : M 149 (iN 32 + iN p).toNatClampNeg = iN (S (32 + p)) := by rw [iN_add, iN_ix (by omega)]; exact rd_now h (by omega)
  refine wk_106_0 (by rw [iN_add]; exact iN_in (by omega) (by omega)) (qv1_i ?_)
  rw [e, iN_rem (by omega) (by omega), iN_div (by omega) (by omega), iN_add]
  unfold fp
  by_cases c : S (32 + p) / 120 = 2
  · rw [if_pos c, if_pos (by rw [c])]
  · rw [if_neg c, if_neg (fun x => c ((iN_eq (by omega) (by omega)).mp x))]
theorem ct_92 (h : RD S n M) {c net : Nat} {b : Prop} (hc : c < 240) (hnet : net < 16) : gE w 92 0 [some (.ref 148), some (.int (iN c)), some (.int (iN net)), some (.int (bi b)), none, none, none, none, none, none, none] [] M (qv1 M (bi (nr S n c net b))) := by
  have hr := h.1.2.2.1
  have e2 : M 149 2 = iN (S 2) := rd_now h (by omega)
  refine wk_92_0 ?_
  rw [iN_rem (by omega) (by omega), iN_rem (by omega) (by omega), iN_div (by omega) (by omega), e2, dz_0]
  refine ev_for (2 * S 2 + 1) (Inv := fun i loc M' => M' = M ∧ ∃ o8 o9 o10, loc = [some (.ref 148), some (.int (iN c)), some (.int (iN net)), some (.int (bi b)), some (.int (iN (c % 12))), some (.int (iN (c % 120 / 12))), some (.int (bi (∃ i' j, i' < i ∧ j ≤ 2 * S 2 ∧ wv S n c i' j ≠ 0 ∧ (wv S n c i' j = net + 1 ↔ b)))), some (.int (dz i (S 2))), o8, o9, o10]) ?_ ?_ 0 _ _ (Nat.zero_le _) ⟨rfl, none, none, none, ?_⟩
  · rintro i loc M' hi ⟨eM, o8, o9, o10, rfl⟩ rec
    subst eM
    refine wk_92_27 (fun c1 => z1_bi) (fun c1 => absurd (by rw [e2] at c1; exact (dz_lt hr.2 (by omega)).mp c1) (by omega)) (fun c1 => ?_)
    rw [e2, dz_0]
    refine ev_for (2 * S 2 + 1) (Inv := fun j loc M'' => M'' = M' ∧ ∃ o9 o10, loc = [some (.ref 148), some (.int (iN c)), some (.int (iN net)), some (.int (bi b)), some (.int (iN (c % 12))), some (.int (iN (c % 120 / 12))), some (.int (bi ((∃ i' j, i' < i ∧ j ≤ 2 * S 2 ∧ wv S n c i' j ≠ 0 ∧ (wv S n c i' j = net + 1 ↔ b)) ∨ ∃ j', j' < j ∧ wv S n c i j' ≠ 0 ∧ (wv S n c i j' = net + 1 ↔ b)))), some (.int (dz i (S 2))), some (.int (dz j (S 2))), o9, o10]) ?_ ?_ 0 _ _ (Nat.zero_le _) ⟨rfl, o9, o10, ?_⟩
    · rintro j loc M'' hj ⟨eM, o9, o10, rfl⟩ rec2
      subst eM
      have htab := inV_tab ⟨c, hc⟩ ⟨S 2, by omega⟩ ⟨i, by omega⟩ ⟨j, by omega⟩
      dsimp only at htab
      have hsl := sh_le (r := S 2) (i := i) (j := j) hc
      have hwl := wv_le h.1 h.2.1 (n := n) hc i j
      have eow : (if inV (iN (c % 12)) (iN (c % 120 / 12)) (dz i (S 2)) (dz j (S 2)) = 0 then (-1 : Int32) else M'' 154 ((iN c + (iN 12 * dz i (S 2))) + dz j (S 2)).toNatClampNeg) = pm (wv S n c i j) := by
        by_cases z : sh (S 2) c i j = 0
        · rw [if_pos (htab.1.mpr z)]
          unfold wv
          rw [if_pos z]; rfl
        · rw [if_neg (fun x => z (htab.1.mp x)), htab.2 z, iN_ix (by omega), h.2.2.2.2.2 _ (by omega)]
          unfold wv
          rw [if_neg z]
      have hgo : ∀ (x : Int32) (o9 o10 : Option Value), x = bi ((∃ i' j, i' < i ∧ j ≤ 2 * S 2 ∧ wv S n c i' j ≠ 0 ∧ (wv S n c i' j = net + 1 ↔ b)) ∨ ∃ j', j' < j + 1 ∧ wv S n c i j' ≠ 0 ∧ (wv S n c i j' = net + 1 ↔ b)) → gE w 92 47 [some (.ref 148), some (.int (iN c)), some (.int (iN net)), some (.int (bi b)), some (.int (iN (c % 12))), some (.int (iN (c % 120 / 12))), some (.int x), some (.int (dz i (S 2))), some (.int (dz (j + 1) (S 2))), o9, o10] [] M'' (qv1 M'' (bi (nr S n c net b))) := by
        intro x o9 o10 e
        subst x
        exact rec2 _ _ ⟨rfl, _, _, rfl⟩
      refine wk_92_47 (fun c1 => absurd (by rw [e2] at c1; exact (dz_lt hr.2 (by omega)).mp c1) (by omega)) (fun _ => ?_) (fun _ c7 => ?_)
      · rw [dz_s]
        refine hgo _ _ _ ?_
        show (if bi _ = 0 then (if (if inV (iN (c % 12)) (iN (c % 120 / 12)) (dz i (S 2)) (dz j (S 2)) = 0 then (-1 : Int32) else M'' 154 ((iN c + (iN 12 * dz i (S 2))) + dz j (S 2)).toNatClampNeg) < 0 then (0 : Int32) else (if (if inV (iN (c % 12)) (iN (c % 120 / 12)) (dz i (S 2)) (dz j (S 2)) = 0 then (-1 : Int32) else M'' 154 ((iN c + (iN 12 * dz i (S 2))) + dz j (S 2)).toNatClampNeg) = iN net then (if 1 = bi b then 1 else 0) else (if 0 = bi b then 1 else 0))) else 1) = _
        rw [eow]
        by_cases f : (∃ i' j, i' < i ∧ j ≤ 2 * S 2 ∧ wv S n c i' j ≠ 0 ∧ (wv S n c i' j = net + 1 ↔ b)) ∨ ∃ j', j' < j ∧ wv S n c i j' ≠ 0 ∧ (wv S n c i j' = net + 1 ↔ b)
        · rw [bi_pos f, if_neg (by decide)]
          refine (bi_pos ?_).symm
          rcases f with f | ⟨j', x1, x2⟩
          · exact Or.inl f
          · exact Or.inr ⟨j', by omega, x2⟩
        · rw [bi_neg f, if_pos rfl]
          have hiff : ((∃ i' j, i' < i ∧ j ≤ 2 * S 2 ∧ wv S n c i' j ≠ 0 ∧ (wv S n c i' j = net + 1 ↔ b)) ∨ ∃ j', j' < j + 1 ∧ wv S n c i j' ≠ 0 ∧ (wv S n c i j' = net + 1 ↔ b)) ↔ wv S n c i j ≠ 0 ∧ (wv S n c i j = net + 1 ↔ b) := by
            constructor
            · intro x
              rcases x with x | ⟨j', x1, x2⟩
              · exact absurd (Or.inl x) f
              · by_cases k : j' = j
                · rw [k] at x2; exact x2
                · exact absurd (Or.inr ⟨j', by omega, x2⟩) f
            · intro x
              exact Or.inr ⟨j, by omega, x⟩
          rw [bi_congr hiff]
          by_cases z : wv S n c i j = 0
          · rw [if_pos ((pm_neg (by omega)).mpr z), bi_neg (fun x => x.1 z)]
          · rw [if_neg (fun x => z ((pm_neg (by omega)).mp x))]
            by_cases g : wv S n c i j = net + 1
            · rw [if_pos ((pm_iN (by omega) (by omega)).mpr g)]
              by_cases hb : b
              · rw [bi_pos hb, if_pos rfl, bi_pos ⟨z, fun _ => hb, fun _ => g⟩]
              · rw [bi_neg hb, if_neg (by decide), bi_neg (fun x => hb (x.2.mp g))]
            · rw [if_neg (fun x => g ((pm_iN (by omega) (by omega)).mp x))]
              by_cases hb : b
              · rw [bi_pos hb, if_neg (by decide), bi_neg (fun x => g (x.2.mpr hb))]
              · rw [bi_neg hb, if_pos rfl, bi_pos ⟨z, fun x => absurd x g, fun x => absurd x hb⟩]
      · have z : sh (S 2) c i j ≠ 0 := fun x => c7 (htab.1.mpr x)
        rw [htab.2 z]
        exact iN_in (by omega) (by omega)
    · rintro loc M'' ⟨eM, o9, o10, rfl⟩
      subst eM
      have hin : M'' 149 2 < dz (2 * S 2 + 1) (S 2) := by rw [e2]; exact (dz_lt hr.2 (by omega)).mpr (by omega)
      refine wk_92_47 (fun _ => ?_) (fun c1 => absurd hin c1) (fun c1 => absurd hin c1)
      rw [dz_s]
      have hiff : ((∃ i' j, i' < i ∧ j ≤ 2 * S 2 ∧ wv S n c i' j ≠ 0 ∧ (wv S n c i' j = net + 1 ↔ b)) ∨ ∃ j', j' < 2 * S 2 + 1 ∧ wv S n c i j' ≠ 0 ∧ (wv S n c i j' = net + 1 ↔ b)) ↔ (∃ i' j, i' < i + 1 ∧ j ≤ 2 * S 2 ∧ wv S n c i' j ≠ 0 ∧ (wv S n c i' j = net + 1 ↔ b)) := by
        constructor
        · rintro (⟨i', j, x1, x2⟩ | ⟨j, x1, x2⟩)
          · exact ⟨i', j, by omega, x2⟩
          · exact ⟨i, j, by omega, by omega, x2⟩
        · rintro ⟨i', j, x1, x2, x3⟩
          by_cases k : i' = i
          · rw [k] at x3; exact Or.inr ⟨j, by omega, x3⟩
          · exact Or.inl ⟨i', j, by omega, x2, x3⟩
      rw [bi_congr hiff]
      exact rec _ _ ⟨rfl, _, _, _, rfl⟩
    · have e : bi ((∃ i' j, i' < i ∧ j ≤ 2 * S 2 ∧ wv S n c i' j ≠ 0 ∧ (wv S n c i' j = net + 1 ↔ b)) ∨ ∃ j', j' < 0 ∧ wv S n c i j' ≠ 0 ∧ (wv S n c i j' = net + 1 ↔ b)) = bi (∃ i' j, i' < i ∧ j ≤ 2 * S 2 ∧ wv S n c i' j ≠ 0 ∧ (wv S n c i' j = net + 1 ↔ b)) := bi_congr ⟨fun x => x.elim (fun y => y) (fun ⟨j', y, _⟩ => absurd y (by omega)), fun x => Or.inl x⟩
      rw [e]
  · rintro loc M' ⟨eM, o8, o9, o10, rfl⟩
    subst eM
    have hin : M' 149 2 < dz (2 * S 2 + 1) (S 2) := by rw [e2]; exact (dz_lt hr.2 (by omega)).mpr (by omega)
    refine wk_92_27 (fun _ => z1_bi) (fun _ => qv1_i (bi_congr ?_)) (fun c1 => absurd hin c1)
    unfold nr
    exact ⟨fun ⟨i, j, x1, x2⟩ => ⟨i, j, by omega, x2⟩, fun ⟨i, j, x1, x2⟩ => ⟨i, j, by omega, x2⟩⟩
  · have e : bi (∃ i' j, i' < 0 ∧ j ≤ 2 * S 2 ∧ wv S n c i' j ≠ 0 ∧ (wv S n c i' j = net + 1 ↔ b)) = 0 := bi_neg (fun ⟨i', j, x, _⟩ => absurd x (by omega))
    rw [e]
theorem ct_93 (h : RD S n M) {c net : Nat} (hc : c < 240) (hnet : net < 16) : gE w 93 0 [some (.ref 148), some (.int (iN c)), some (.int (iN net))] [] M (qv1 M (bi (fre S n c net))) := by
  have hbr := (h.1.2.2.2.2.2.2.1 c hc).1
  have e : M 149 (iN 112 + iN c).toNatClampNeg = iN (S (112 + c)) := by rw [iN_add, iN_ix (by omega)]; exact rd_now h (by omega)
  have hk := ct_92 (w := w) (b := False) h hc hnet
  rw [bi_neg (p := False) (fun x => x)] at hk
  refine wk_93_0 (r1 := bi (nr S n c net False)) (by rw [iN_add]; exact iN_in (by omega) (by omega)) (qv1_i ?_) (fun _ => hk)
  rw [e]
  by_cases z : S (112 + c) = 0
  · rw [if_pos ((iN_z (by omega)).mpr z), bi_y]
    refine bi_congr ?_
    rw [fre_wv]
    constructor
    · intro x
      refine ⟨z, fun i j hi hj => ?_⟩
      have hn := bi_eq x
      apply Classical.byContradiction
      intro y
      exact hn ⟨i, j, hi, hj, fun k => y (Or.inl k), fun k => y (Or.inr k), fun k => k.elim⟩
    · intro x
      refine bi_neg (fun ⟨i, j, hi, hj, y1, y2⟩ => ?_)
      rcases x.2 i j hi hj with k | k
      · exact y1 k
      · exact y2.mp k
  · rw [if_neg (fun x => z ((iN_z (by omega)).mp x))]
    exact (bi_neg (fun f => z f.1)).symm
end RLEAF
