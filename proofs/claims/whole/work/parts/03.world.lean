/-! The abstract machine's worlds: what a cell is at its address. -/
def qv (a : Nat → Nat) (v : Value) : Value := match v with
  | .ref k => .ref (a k)
  | w => w
theorem qv_cat (a : Nat → Nat) (v : Value) : (qv a v).category = v.category := by cases v <;> rfl
theorem qv_cats (a : Nat → Nat) (l : List Value) : ((l.map (qv a)).map fun v => v.category).sum = (l.map fun v => v.category).sum := by
  rw [List.map_map]
  congr 1
  exact List.map_congr_left fun v _ => qv_cat a v
def qv_F (a : Nat → Nat) (g : Nat → Int32) : List (Option (Option Nat)) → Nat → List Value
  | [], _ => []
  | none :: r, i => .int (g i) :: qv_F a g r (i + 1)
  | some o :: r, i => va_rf (o.map a) :: qv_F a g r (i + 1)
theorem qv_F_len (a : Nat → Nat) (g : Nat → Int32) : ∀ (fl : List (Option (Option Nat))) (i : Nat), (qv_F a g fl i).length = fl.length
  | [], _ => rfl
  | none :: r, i => by simp [qv_F, qv_F_len a g r (i + 1)]
  | some o :: r, i => by simp [qv_F, qv_F_len a g r (i + 1)]
theorem qv_F_int {a : Nat → Nat} {g : Nat → Int32} : ∀ (fl : List (Option (Option Nat))) (i k : Nat), fl[k]? = some none → (qv_F a g fl i)[k]? = some (.int (g (i + k)))
  | [], _, _, h => by simp at h
  | none :: r, i, 0, _ => by simp [qv_F]
  | none :: r, i, k + 1, h => by
    have h2 := qv_F_int (a := a) (g := g) r (i + 1) k (by simpa using h)
    simp only [qv_F, List.getElem?_cons_succ]
    rw [h2, Nat.add_right_comm, Nat.add_assoc]
  | some o :: r, i, 0, h => by simp at h
  | some o :: r, i, k + 1, h => by
    have h2 := qv_F_int (a := a) (g := g) r (i + 1) k (by simpa using h)
    simp only [qv_F, List.getElem?_cons_succ]
    rw [h2, Nat.add_right_comm, Nat.add_assoc]
theorem qv_F_ref {a : Nat → Nat} {g : Nat → Int32} {z : Nat} : ∀ (fl : List (Option (Option Nat))) (i k : Nat), fl[k]? = some (some (some z)) → (qv_F a g fl i)[k]? = some (.ref (a z))
  | [], _, _, h => by simp at h
  | none :: r, i, 0, h => by simp at h
  | none :: r, i, k + 1, h => by
    simp only [qv_F, List.getElem?_cons_succ]
    exact qv_F_ref r (i + 1) k (by simpa using h)
  | some o :: r, i, 0, h => by
    have h : o = some z := by simpa using h
    subst h
    rfl
  | some o :: r, i, k + 1, h => by
    simp only [qv_F, List.getElem?_cons_succ]
    exact qv_F_ref r (i + 1) k (by simpa using h)
theorem qv_F_congr {a : Nat → Nat} {g g' : Nat → Int32} : ∀ (fl : List (Option (Option Nat))) (i : Nat), (∀ j, i ≤ j → g j = g' j) → qv_F a g fl i = qv_F a g' fl i
  | [], _, _ => rfl
  | none :: r, i, h => by simp only [qv_F]; rw [h i (Nat.le_refl i), qv_F_congr r (i + 1) fun j hj => h j (by omega)]
  | some o :: r, i, h => by simp only [qv_F]; rw [qv_F_congr r (i + 1) fun j hj => h j (by omega)]
theorem qv_F_set {a : Nat → Nat} {g : Nat → Int32} {v : Int32} : ∀ (fl : List (Option (Option Nat))) (i k : Nat), fl[k]? = some none → (qv_F a g fl i).set k (.int v) = qv_F a (upd g (i + k) v) fl i
  | [], _, _, h => by simp at h
  | none :: r, i, 0, _ => by
    simp only [qv_F, List.set_cons_zero, Nat.add_zero]
    rw [qv_F_congr (g := upd g i v) (g' := g) r (i + 1) fun j hj => by unfold upd; rw [if_neg (by omega)]]
    unfold upd
    rw [if_pos rfl]
  | none :: r, i, k + 1, h => by
    have h2 := qv_F_set (a := a) (g := g) (v := v) r (i + 1) k (by simpa using h)
    simp only [qv_F, List.set_cons_succ]
    rw [h2, show i + 1 + k = i + (k + 1) by omega]
    congr 1
    unfold upd
    rw [if_neg (by omega)]
  | some o :: r, i, 0, h => by simp at h
  | some o :: r, i, k + 1, h => by
    have h2 := qv_F_set (a := a) (g := g) (v := v) r (i + 1) k (by simpa using h)
    simp only [qv_F, List.set_cons_succ]
    rw [h2, show i + 1 + k = i + (k + 1) by omega]
def qv_E (a : Nat → Nat) (ca : Nat → ClassId) (lc : qL) (g : Nat → Int32) : va_E := match lc with
  | .inl x => .inl (ca x.1, x.2, .inl g)
  | .inr (.inl x) => .inl (ca x.1, x.2.1, .inr (.inr (.inr (.inr (fun j => (x.2.2 j).map a)))))
  | .inr (.inr (.inl x)) => .inr (x.1, qv_F a g x.2 0)
  | .inr (.inr (.inr x)) => .inl (ca 0, x.1, .inl x.2)
/-- all that stands still: layouts, how many cells, addresses, array classes, class numbers and slots, classes, array types, what is known of tables, methods (names, code, locals, returns, frames, words), words, the launch -/
abbrev qZ : Type := (Nat → qL) × Nat × (Nat → Nat) × (Nat → ClassId) × va_G × List vw_C × List (ClassId × FieldType) × ((Nat → Prop) → State → Heap → Prop) × (Nat → MethodName) × (Nat → ByteArray) × (Nat → Nat) × (Nat → Option FieldType) × (Nat → Nat) × (Nat → Nat) × List Cond × Launch
abbrev z_lay (Z : qZ) : Nat → qL := Z.1
abbrev z_N (Z : qZ) : Nat := Z.2.1
abbrev z_a (Z : qZ) : Nat → Nat := Z.2.2.1
abbrev z_ca (Z : qZ) : Nat → ClassId := Z.2.2.2.1
abbrev z_D (Z : qZ) : va_G := Z.2.2.2.2.1
abbrev z_cl (Z : qZ) : List vw_C := Z.2.2.2.2.2.1
abbrev z_ty (Z : qZ) : List (ClassId × FieldType) := Z.2.2.2.2.2.2.1
abbrev z_St (Z : qZ) : (Nat → Prop) → State → Heap → Prop := Z.2.2.2.2.2.2.2.1
abbrev z_y (Z : qZ) : Nat → MethodName := Z.2.2.2.2.2.2.2.2.1
abbrev z_bc (Z : qZ) : Nat → ByteArray := Z.2.2.2.2.2.2.2.2.2.1
abbrev z_mx (Z : qZ) : Nat → Nat := Z.2.2.2.2.2.2.2.2.2.2.1
abbrev z_rt (Z : qZ) : Nat → Option FieldType := Z.2.2.2.2.2.2.2.2.2.2.2.1
abbrev z_fr (Z : qZ) : Nat → Nat := Z.2.2.2.2.2.2.2.2.2.2.2.2.1
abbrev z_lo (Z : qZ) : Nat → Nat := Z.2.2.2.2.2.2.2.2.2.2.2.2.2.1
abbrev z_Ts (Z : qZ) : List Cond := Z.2.2.2.2.2.2.2.2.2.2.2.2.2.2.1
abbrev z_l (Z : qZ) : Launch := Z.2.2.2.2.2.2.2.2.2.2.2.2.2.2.2
def qw (Z : qZ) (M : qM) : va_W := (List.range (z_N Z)).map (fun k => (z_a Z k, qv_E (z_a Z) (z_ca Z) (z_lay Z k) (M k)))
theorem qw_len (Z : qZ) (M : qM) : (qw Z M).length = z_N Z := by simp [qw]
theorem qw_at {Z : qZ} {k : Nat} (M : qM) (h : k < z_N Z) : (qw Z M)[k]? = some (z_a Z k, qv_E (z_a Z) (z_ca Z) (z_lay Z k) (M k)) := by
  unfold qw
  rw [List.getElem?_map, List.getElem?_range h]
  rfl
theorem qw_set {Z : qZ} {k : Nat} {M : qM} {g : Nat → Int32} {e : va_E} (h : k < z_N Z) (he : qv_E (z_a Z) (z_ca Z) (z_lay Z k) g = e) : (qw Z M).set k (z_a Z k, e) = qw Z (va_up M k g) := by
  apply List.ext_getElem?
  intro i
  by_cases hi : k = i
  · subst hi
    rw [List.getElem?_set_self (by rw [qw_len]; exact h), qw_at _ h, va_up_self, he]
  · rw [List.getElem?_set_ne hi]
    by_cases hN : i < z_N Z
    · rw [qw_at _ hN, qw_at _ hN, va_up_ne _ _ (fun q => hi q.symm)]
    · rw [List.getElem?_eq_none (by rw [qw_len]; omega), List.getElem?_eq_none (by rw [qw_len]; omega)]
def qq_cell (c : qL) : Prop := match c with
  | .inr (.inr (.inr _)) => False
  | _ => True
/-- what must hold of it -/
def qq_OK (Z : qZ) : Prop :=
  (∀ q, qq_cell (z_lay Z q) → q < z_N Z) ∧ (z_ty Z)[0]? = some (z_ca Z 0, .int) ∧ (z_ty Z)[1]? = some (z_ca Z 1, .boolean) ∧
  (∀ q x, z_lay Z q = .inl x → ∃ T, (z_ty Z)[x.1]? = some (z_ca Z x.1, T)) ∧ (∀ q x, z_lay Z q = .inr (.inl x) → ∃ T, (z_ty Z)[x.1]? = some (z_ca Z x.1, T) ∧ T.isReference = true) ∧
  (∀ (A : Nat → Prop) (u U : State) (H : Heap), u.WarmedH U.vm → z_St Z A u H → z_St Z A U H) ∧ (∀ A U H H1, z_St Z A U H → (∀ q : Nat, q < H.size → ¬ A q → H1[q]? = H[q]?) → z_St Z A U H1) ∧ (∀ A B U H, z_St Z A U H → (∀ q : Nat, B q → A q) → z_St Z B U H) ∧
  (∀ A U H q x, z_St Z A U H → z_lay Z q = .inr (.inr (.inr x)) → va_T .int (z_a Z q) x.1 (fun j => .int (x.2 j)) A U H)
-- locals
def qv_lv (a : Nat → Nat) (loc : List (Option Value)) : List (Nat × Value) := (List.range loc.length).filterMap (fun i => match loc[i]? with
  | some (some v) => if v.category = 1 then some (i, qv a v) else none
  | _ => none)
theorem qv_lv_in {a : Nat → Nat} {loc : List (Option Value)} {i : Nat} {v : Value} (h : loc[i]? = some (some v)) (hc : v.category = 1) : (i, qv a v) ∈ qv_lv a loc := by
  unfold qv_lv
  refine List.mem_filterMap.mpr ⟨i, List.mem_range.mpr (List.getElem?_eq_some_iff.mp h).1, ?_⟩
  simp only [h, hc, if_true]
theorem qv_lv_of {a : Nat → Nat} {loc : List (Option Value)} {q : Nat × Value} (h : q ∈ qv_lv a loc) : ∃ v : Value, loc[q.1]? = some (some v) ∧ v.category = 1 ∧ q.2 = qv a v := by
  unfold qv_lv at h
  obtain ⟨i, -, h⟩ := List.mem_filterMap.mp h
  split at h
  · rename_i v hv
    split at h
    · rename_i hc
      cases h
      exact ⟨v, hv, hc, rfl⟩
    · cases h
  · cases h
theorem qv_store {a : Nat → Nat} {loc : List (Option Value)} {ls : Array Slot} {n i : Nat} {v : Value} (hc : v.category = 1)
    (h : lv_has ls n ((i, qv a v) :: (qv_lv a loc).filter (fun q => !(q.1 == i) && !(q.1 + 1 == i && q.2.category == 2)))) : lv_has ls n (qv_lv a (loc.set i (some v))) := by
  refine ⟨h.1, h.2.1, fun q hq => ?_⟩
  obtain ⟨w, hw, hwc, e⟩ := qv_lv_of hq
  obtain ⟨j, z⟩ := q
  dsimp only at hw e
  subst e
  by_cases hi : i = j
  · subst hi
    have hl : i < loc.length := by
      have := (List.getElem?_eq_some_iff.mp hw).1
      simpa using this
    rw [List.getElem?_set_self hl] at hw
    cases hw
    exact h.2.2 _ List.mem_cons_self
  · rw [List.getElem?_set_ne hi] at hw
    refine h.2.2 _ (List.mem_cons_of_mem _ (List.mem_filter.mpr ⟨qv_lv_in hw hwc, ?_⟩))
    have h1 : (j == i) = false := by simpa using fun e => hi e.symm
    have h2 : ((qv a w).category == 2) = false := by rw [qv_cat, hwc]; rfl
    simp [h1, h2]
theorem qv_entry {a : Nat → Nat} {vs : List Value} {n : Nat} {mx : Nat → Nat} {mj : Nat} (hn : vs.length ≤ n) (hm : mx mj = n) (hc : ∀ v ∈ vs, v.category = 1) :
    ∃ ls, (lg_sl (vs.map (qv a)) ++ List.replicate (n - (lg_sl (vs.map (qv a))).length) Slot.unset).toArray = ls ∧ lv_has ls n (qv_lv a (qq_ent mx mj vs)) := by
  have hs : ∀ l : List Value, (∀ v ∈ l, v.category = 1) → lg_sl (l.map (qv a)) = l.map (fun v => Slot.val (qv a v)) := by
    intro l
    induction l with
    | nil => intro _; rfl
    | cons v t ih =>
      intro h
      have h1 : (qv a v).category = 1 := by rw [qv_cat]; exact h v List.mem_cons_self
      have h2 := ih fun w hw => h w (List.mem_cons_of_mem _ hw)
      simp only [lg_sl, List.map_cons, List.flatMap_cons, h1] at h2 ⊢
      rw [h2]
      rfl
  have hlen : (lg_sl (vs.map (qv a))).length ≤ n := by rw [hs vs hc]; simpa using hn
  refine ⟨_, rfl, ?_⟩
  have he := lv_entry (vs.map (qv a)) hlen
  refine ⟨he.1, he.2.1, fun q hq => ?_⟩
  obtain ⟨w, hw, hwc, e⟩ := qv_lv_of hq
  obtain ⟨j, z⟩ := q
  dsimp only at hw e
  subst e
  have hj : vs[j]? = some w := by
    unfold qq_ent at hw
    by_cases hjl : j < vs.length
    · rw [List.getElem?_append_left (by simpa using hjl), List.getElem?_map] at hw
      cases hv : vs[j]? with
      | none => rw [hv] at hw; cases hw
      | some u => rw [hv] at hw; cases hw; rfl
    · rw [List.getElem?_append_right (by simpa using hjl)] at hw
      have := List.mem_of_getElem? hw
      have := List.eq_of_mem_replicate this
      cases this
  rw [hs vs hc]
  have hjl := (List.getElem?_eq_some_iff.mp hj).1
  rw [List.getElem?_toArray, List.getElem?_append_left (by simpa using hjl), List.getElem?_map, hj]
  rfl
