/-! The whole world, and what is known of the tables. -/
def M0 (k : Nat) : Nat → Int32 := if k = 8 ∨ (29 ≤ k ∧ k < 148 ∧ (k - 29) % 7 = 6) then fH 240 else if k = 2 ∨ (29 ≤ k ∧ k < 148 ∧ (k - 29) % 7 = 0) then (fun j => if j = 8 then 1 else 0) else if k = 149 then upd (fun _ => 0) 2 1 else fun _ => 0
/-- where the cells lie -/
def aF (aL b2 mm : Nat → Nat) (tR tD tC b : Nat) : Nat → Nat := fun k => if k < 29 then aL k else if k < 148 then b2 (k - 29) else if k < 161 then mm (k - 148) else if k = 200 then tR else if k = 201 then tD else if k = 202 then tC else b
/-- what stands beside the cells: three tables, the script, links of nest mates -/
def STt (tR tD tC b : Nat) (w : qS) : (Nat → Prop) → State → Heap → Prop := fun A U H =>
  (va_Z "BoardDesk" "RIGHT_STEPS" "[I" (.ref tR) A U H ∧ va_Z "BoardDesk" "DOWN_STEPS" "[I" (.ref tD) A U H ∧ va_Z "BoardDesk" "STEP_COSTS" "[I" (.ref tC) A U H) ∧
  (va_T .int tR 8 (fun j => .int (tb_right j)) A U H ∧ va_T .int tD 8 (fun j => .int (tb_down j)) A U H ∧ va_T .int tC 9 (fun j => .int (tb_cost j)) A U H ∧ va_T .int b w.1 (fun j => .int (w.2 j)) A U H) ∧
  (va_Nw (Cond.methodLinkNest "BoardDesk$Board" (42 : Nat) ({ cls := "BoardDesk", name := "shifted", desc := "(III)I" } : MethodName) "BoardDesk") U ∧ va_Nw (Cond.methodLinkNest "BoardDesk$Board" (87 : Nat) ({ cls := "BoardDesk", name := "neighbour", desc := "(II)I" } : MethodName) "BoardDesk") U ∧ va_Nw (Cond.methodLinkNest "BoardDesk$Router" (83 : Nat) ({ cls := "BoardDesk", name := "neighbour", desc := "(II)I" } : MethodName) "BoardDesk") U ∧ va_Nw (Cond.fieldLinkNest "BoardDesk$Router" (114 : Nat) "BoardDesk" "STEP_COSTS" "[I" "BoardDesk") U ∧ va_Nw (Cond.methodLinkNest "BoardDesk$Board" (100 : Nat) ({ cls := "BoardDesk", name := "columnOf", desc := "(I)I" } : MethodName) "BoardDesk") U ∧ va_Nw (Cond.methodLinkNest "BoardDesk$Board" (103 : Nat) ({ cls := "BoardDesk", name := "rowOf", desc := "(I)I" } : MethodName) "BoardDesk") U)
theorem ST_warm {tR tD tC b : Nat} {w : qS} {A : Nat → Prop} {u U : State} {H : Heap} (hW : u.WarmedH U.vm) (h : STt tR tD tC b w A u H) : STt tR tD tC b w A U H :=
  ⟨⟨va_Z.moved hW.alike h.1.1, va_Z.moved hW.alike h.1.2.1, va_Z.moved hW.alike h.1.2.2⟩, ⟨va_T.moved hW.alike h.2.1.1, va_T.moved hW.alike h.2.1.2.1, va_T.moved hW.alike h.2.1.2.2.1, va_T.moved hW.alike h.2.1.2.2.2⟩, va_Nw.warmM hW h.2.2.1, va_Nw.warmM hW h.2.2.2.1, va_Nw.warmM hW h.2.2.2.2.1, va_Nw.warmF hW h.2.2.2.2.2.1, va_Nw.warmM hW h.2.2.2.2.2.2.1, va_Nw.warmM hW h.2.2.2.2.2.2.2⟩
theorem ST_kept {tR tD tC b : Nat} {w : qS} {A : Nat → Prop} {U : State} {H H1 : Heap} (h : STt tR tD tC b w A U H) (hq : ∀ q : Nat, q < H.size → ¬ A q → H1[q]? = H[q]?) : STt tR tD tC b w A U H1 :=
  ⟨⟨va_Z.kept h.1.1 hq, va_Z.kept h.1.2.1 hq, va_Z.kept h.1.2.2 hq⟩, ⟨va_T.kept h.2.1.1 hq, va_T.kept h.2.1.2.1 hq, va_T.kept h.2.1.2.2.1 hq, va_T.kept h.2.1.2.2.2 hq⟩, h.2.2⟩
theorem ST_narrow {tR tD tC b : Nat} {w : qS} {A B : Nat → Prop} {U : State} {H : Heap} (h : STt tR tD tC b w A U H) (hq : ∀ q : Nat, B q → A q) : STt tR tD tC b w B U H :=
  ⟨⟨va_Z.narrow h.1.1 hq, va_Z.narrow h.1.2.1 hq, va_Z.narrow h.1.2.2 hq⟩, ⟨va_T.narrow h.2.1.1 hq, va_T.narrow h.2.1.2.1 hq, va_T.narrow h.2.1.2.2.1 hq, va_T.narrow h.2.1.2.2.2 hq⟩, h.2.2⟩
def okL (c : qL) : Prop := match c with
  | .inl x => x.1 < 2
  | .inr (.inl x) => x.1 = 2 ∨ x.1 = 3
  | .inr (.inr (.inl _)) => True
  | .inr (.inr (.inr _)) => False
theorem gL0_ok : ∀ k, k < 29 → okL (gL0.getD k (lTb 0 tb_right)) := by
  intro k hk
  rcases (show k = 0 ∨ k = 1 ∨ k = 2 ∨ k = 3 ∨ k = 4 ∨ k = 5 ∨ k = 6 ∨ k = 7 ∨ k = 8 ∨ k = 9 ∨ k = 10 ∨ k = 11 ∨ k = 12 ∨ k = 13 ∨ k = 14 ∨ k = 15 ∨ k = 16 ∨ k = 17 ∨ k = 18 ∨ k = 19 ∨ k = 20 ∨ k = 21 ∨ k = 22 ∨ k = 23 ∨ k = 24 ∨ k = 25 ∨ k = 26 ∨ k = 27 ∨ k = 28 by omega) with rfl | rfl | rfl | rfl | rfl | rfl | rfl | rfl | rfl | rfl | rfl | rfl | rfl | rfl | rfl | rfl | rfl | rfl | rfl | rfl | rfl | rfl | rfl | rfl | rfl | rfl | rfl | rfl | rfl <;> first | exact trivial | exact (show 0 < 2 by decide) | exact (show 1 < 2 by decide) | exact Or.inl rfl | exact Or.inr rfl
theorem gL1_ok : ∀ k, k < 13 → okL (gL1.getD k (lTb 0 tb_right)) := by
  intro k hk
  rcases (show k = 0 ∨ k = 1 ∨ k = 2 ∨ k = 3 ∨ k = 4 ∨ k = 5 ∨ k = 6 ∨ k = 7 ∨ k = 8 ∨ k = 9 ∨ k = 10 ∨ k = 11 ∨ k = 12 by omega) with rfl | rfl | rfl | rfl | rfl | rfl | rfl | rfl | rfl | rfl | rfl | rfl | rfl <;> first | exact trivial | exact (show 0 < 2 by decide) | exact (show 1 < 2 by decide)
theorem gL_ok (w : qS) {k : Nat} (hk : k < 161) : okL (gL w k) := by
  unfold gL
  by_cases a : k < 29
  · rw [if_pos a]; exact gL0_ok k a
  · rw [if_neg a]
    by_cases b : k < 148
    · rw [if_pos b]
      unfold gLk
      repeat' split
      all_goals first | exact trivial | exact (show 0 < 2 by decide)
    · rw [if_neg b, if_pos hk]
      have hj : k - 148 < 13 := by omega
      generalize k - 148 = j at hj ⊢
      exact gL1_ok j hj
theorem gL_hi (w : qS) {k : Nat} (hk : 161 ≤ k) : gL w k = if k = 200 then lTb 8 tb_right else if k = 201 then lTb 8 tb_down else if k = 202 then lTb 9 tb_cost else lTb w.1 w.2 := by
  unfold gL
  rw [if_neg (by omega), if_neg (by omega), if_neg (by omega)]
section FIN
variable {aL b2 mm : Nat → Nat} {tR tD tC b : Nat} {ca : Nat → ClassId} {D : va_G} {l : Launch} {w : qS}
theorem fin_OK : qq_OK (gZ (aF aL b2 mm tR tD tC b) ca D (STt tR tD tC b w) l w) := by
  refine ⟨fun q hq => ?_, rfl, rfl, fun q x hx => ?_, fun q x hx => ?_, fun A u U H hW h => ST_warm hW h, fun A U H H1 h hq => ST_kept h hq, fun A B U H h hq => ST_narrow h hq, fun A U H q x h hx => ?_⟩
  · show q < 161
    apply Classical.byContradiction
    intro n
    have hq : qq_cell (gL w q) := hq
    rw [gL_hi w (by omega)] at hq
    repeat' split at hq
    all_goals exact hq
  · have hx : gL w q = .inl x := hx
    by_cases n : q < 161
    · have h := gL_ok w n
      rw [hx] at h
      have h : x.1 < 2 := h
      rcases (show x.1 = 0 ∨ x.1 = 1 by omega) with e | e
      · exact ⟨.int, by rw [e]; rfl⟩
      · exact ⟨.boolean, by rw [e]; rfl⟩
    · rw [gL_hi w (by omega)] at hx
      repeat' split at hx
      all_goals cases hx
  · have hx : gL w q = .inr (.inl x) := hx
    by_cases n : q < 161
    · have h := gL_ok w n
      rw [hx] at h
      have h : x.1 = 2 ∨ x.1 = 3 := h
      rcases h with e | e
      · exact ⟨.object "BoardDesk$Sheet", by rw [e]; rfl, rfl⟩
      · exact ⟨.array .int, by rw [e]; rfl, rfl⟩
    · rw [gL_hi w (by omega)] at hx
      repeat' split at hx
      all_goals cases hx
  · have hx : gL w q = .inr (.inr (.inr x)) := hx
    have h : STt tR tD tC b w A U H := h
    by_cases n : q < 161
    · have h := gL_ok w n
      rw [hx] at h
      exact h.elim
    · rw [gL_hi w (by omega)] at hx
      show va_T .int (aF aL b2 mm tR tD tC b q) x.1 (fun j => .int (x.2 j)) A U H
      unfold aF
      rw [if_neg (by omega), if_neg (by omega), if_neg n]
      by_cases a : q = 200
      · rw [if_pos a] at hx ⊢
        cases hx
        exact h.2.1.1
      · rw [if_neg a] at hx ⊢
        by_cases d : q = 201
        · rw [if_pos d] at hx ⊢
          cases hx
          exact h.2.1.2.1
        · rw [if_neg d] at hx ⊢
          by_cases f : q = 202
          · rw [if_pos f] at hx ⊢
            cases hx
            exact h.2.1.2.2.1
          · rw [if_neg f] at hx ⊢
            cases hx
            exact h.2.1.2.2.2
set_option maxRecDepth 20000 in
theorem fin_gp : qq_gp (gZ (aF aL b2 mm tR tD tC b) ca D (STt tR tD tC b w) l w) (gP w) :=
  (gp_bm (gp_bm (gp_bm (gp_bm (gp_bm (gp_bm (gp_lm (sd_0 fin_OK))
    (gp_bm (gp_lm (sd_1 fin_OK))
    (gp_lm (sd_2 fin_OK))))
    (gp_bm (gp_bm (gp_lm (sd_3 fin_OK))
    (gp_lm (sd_4 fin_OK)))
    (gp_bm (gp_lm (sd_5 fin_OK))
    (gp_lm (sd_6 fin_OK)))))
    (gp_bm (gp_bm (gp_bm (gp_lm (sd_7 fin_OK))
    (gp_lm (sd_8 fin_OK)))
    (gp_bm (gp_lm (sd_9 fin_OK))
    (gp_lm (sd_10 fin_OK))))
    (gp_bm (gp_bm (gp_lm (sd_11 fin_OK))
    (gp_lm (sd_12 fin_OK)))
    (gp_bm (gp_lm (sd_13 fin_OK))
    (gp_lm (sd_14 fin_OK))))))
    (gp_bm (gp_bm (gp_bm (gp_bm (gp_lm (sd_15 fin_OK))
    (gp_lm (sd_16 fin_OK)))
    (gp_bm (gp_lm (sd_17 fin_OK))
    (gp_lm (sd_18 fin_OK))))
    (gp_bm (gp_bm (gp_lm (sd_19 fin_OK))
    (gp_lm (sd_20 fin_OK)))
    (gp_bm (gp_lm (sd_21 fin_OK))
    (gp_lm (sd_22 fin_OK)))))
    (gp_bm (gp_bm (gp_bm (gp_lm (sd_23 fin_OK))
    (gp_lm (sd_24 fin_OK)))
    (gp_bm (gp_lm (sd_25 fin_OK))
    (gp_lm (sd_26 fin_OK))))
    (gp_bm (gp_bm (gp_lm (sd_27 fin_OK))
    (gp_lm (sd_28 fin_OK (fun A U H h => h.1.1) (fun A U H h => h.1.2.1))))
    (gp_bm (gp_lm (sd_29 fin_OK))
    (gp_lm (sd_30 fin_OK)))))))
    (gp_bm (gp_bm (gp_bm (gp_bm (gp_lm (sd_31 fin_OK))
    (gp_bm (gp_lm (sd_32 fin_OK))
    (gp_lm (sd_33 fin_OK))))
    (gp_bm (gp_bm (gp_lm (sd_34 fin_OK))
    (gp_lm (sd_35 fin_OK)))
    (gp_bm (gp_lm (sd_36 fin_OK (fun A U H h => h.2.2.1)))
    (gp_lm (sd_37 fin_OK)))))
    (gp_bm (gp_bm (gp_bm (gp_lm (sd_38 fin_OK))
    (gp_lm (sd_39 fin_OK)))
    (gp_bm (gp_lm (sd_40 fin_OK))
    (gp_lm (sd_41 fin_OK))))
    (gp_bm (gp_bm (gp_lm (sd_42 fin_OK))
    (gp_lm (sd_43 fin_OK)))
    (gp_bm (gp_lm (sd_44 fin_OK))
    (gp_lm (sd_45 fin_OK))))))
    (gp_bm (gp_bm (gp_bm (gp_bm (gp_lm (sd_46 fin_OK))
    (gp_lm (sd_47 fin_OK)))
    (gp_bm (gp_lm (sd_48 fin_OK (fun A U H h => h.2.2.2.1)))
    (gp_lm (sd_49 fin_OK (fun A U H h => h.2.2.2.1)))))
    (gp_bm (gp_bm (gp_lm (sd_50 fin_OK))
    (gp_lm (sd_51 fin_OK)))
    (gp_bm (gp_lm (sd_52 fin_OK (fun A U H h => h.2.2.2.2.2.2.1) (fun A U H h => h.2.2.2.2.2.2.2)))
    (gp_lm (sd_53 fin_OK)))))
    (gp_bm (gp_bm (gp_bm (gp_lm (sd_54 fin_OK (fun A U H h => h.2.2.1)))
    (gp_lm (sd_55 fin_OK (fun A U H h => h.2.2.2.2.2.2.1))))
    (gp_bm (gp_lm (sd_56 fin_OK))
    (gp_lm (sd_57 fin_OK))))
    (gp_bm (gp_bm (gp_lm (sd_58 fin_OK))
    (gp_lm (sd_59 fin_OK)))
    (gp_bm (gp_lm (sd_60 fin_OK))
    (gp_lm (sd_61 fin_OK))))))))
    (gp_bm (gp_bm (gp_bm (gp_bm (gp_bm (gp_lm (sd_62 fin_OK))
    (gp_bm (gp_lm (sd_63 fin_OK))
    (gp_lm (sd_64 fin_OK))))
    (gp_bm (gp_bm (gp_lm (sd_65 fin_OK (fun A U H h => h.2.2.2.2.1)))
    (gp_lm (sd_66 fin_OK)))
    (gp_bm (gp_lm (sd_67 fin_OK))
    (gp_lm (sd_68 fin_OK)))))
    (gp_bm (gp_bm (gp_bm (gp_lm (sd_69 fin_OK (fun A U H h => h.1.2.2) (fun A U H h => h.2.2.2.2.1) (fun A U H h => h.2.2.2.2.2.1)))
    (gp_lm (sd_70 fin_OK (fun A U H h => h.2.2.2.2.1))))
    (gp_bm (gp_lm (sd_71 fin_OK))
    (gp_lm (sd_72 fin_OK (fun A U H h => h.1.2.2) (fun A U H h => h.2.2.2.2.1) (fun A U H h => h.2.2.2.2.2.1)))))
    (gp_bm (gp_bm (gp_lm (sd_73 fin_OK))
    (gp_lm (sd_74 fin_OK)))
    (gp_bm (gp_lm (sd_75 fin_OK))
    (gp_lm (sd_76 fin_OK))))))
    (gp_bm (gp_bm (gp_bm (gp_bm (gp_lm (sd_77 fin_OK))
    (gp_lm (sd_78 fin_OK)))
    (gp_bm (gp_lm (sd_79 fin_OK))
    (gp_lm (sd_80 fin_OK))))
    (gp_bm (gp_bm (gp_lm (sd_81 fin_OK))
    (gp_lm (sd_82 fin_OK)))
    (gp_bm (gp_lm (sd_83 fin_OK))
    (gp_lm (sd_84 fin_OK)))))
    (gp_bm (gp_bm (gp_bm (gp_lm (sd_85 fin_OK))
    (gp_lm (sd_86 fin_OK)))
    (gp_bm (gp_lm (sd_87 fin_OK))
    (gp_lm (sd_88 fin_OK))))
    (gp_bm (gp_bm (gp_lm (sd_89 fin_OK))
    (gp_lm (sd_90 fin_OK)))
    (gp_bm (gp_lm (sd_91 fin_OK))
    (gp_lm (sd_92 fin_OK)))))))
    (gp_bm (gp_bm (gp_bm (gp_bm (gp_lm (sd_93 fin_OK))
    (gp_bm (gp_lm (sd_94 fin_OK))
    (gp_lm (sd_95 fin_OK))))
    (gp_bm (gp_bm (gp_lm (sd_96 fin_OK))
    (gp_lm (sd_97 fin_OK)))
    (gp_bm (gp_lm (sd_98 fin_OK))
    (gp_lm (sd_99 fin_OK)))))
    (gp_bm (gp_bm (gp_bm (gp_lm (sd_100 fin_OK))
    (gp_lm (sd_101 fin_OK)))
    (gp_bm (gp_lm (sd_102 fin_OK))
    (gp_lm (sd_103 fin_OK))))
    (gp_bm (gp_bm (gp_lm (sd_104 fin_OK))
    (gp_lm (sd_105 fin_OK)))
    (gp_bm (gp_lm (sd_106 fin_OK))
    (gp_lm (sd_107 fin_OK))))))
    (gp_bm (gp_bm (gp_bm (gp_bm (gp_lm (sd_108 fin_OK))
    (gp_lm (sd_109 fin_OK)))
    (gp_bm (gp_lm (sd_110 fin_OK))
    (gp_lm (sd_111 fin_OK))))
    (gp_bm (gp_bm (gp_lm (sd_112 fin_OK))
    (gp_lm (sd_113 fin_OK)))
    (gp_bm (gp_lm (sd_114 fin_OK))
    (gp_lm (sd_115 fin_OK)))))
    (gp_bm (gp_bm (gp_bm (gp_lm (sd_116 fin_OK))
    (gp_lm (sd_117 fin_OK)))
    (gp_bm (gp_lm (sd_118 fin_OK))
    (gp_lm (sd_119 fin_OK))))
    (gp_bm (gp_bm (gp_lm (sd_120 fin_OK))
    (gp_lm (sd_121 fin_OK)))
    (gp_bm (gp_lm (sd_122 fin_OK))
    (gp_lm (sd_123 fin_OK)))))))))
theorem fin_X {mi pc : Nat} {loc : List (Option Value)} {st : List Value} {M : qM} {post : qR} (h : gE w mi pc loc st M post) : qq_X (gZ (aF aL b2 mm tR tD tC b) ca D (STt tR tD tC b w) l w) mi pc loc st M post :=
  gp_sound fin_OK fin_gp gY_plain h
end FIN
