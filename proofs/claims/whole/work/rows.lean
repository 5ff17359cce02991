section
/-! An abstract machine for methods that make no objects: the layouts of the cells stand, only numbers change.
 Layout of a cell: an array of numbers (place of its type, length); an array of references (place of its type, length, which cells);
 an object (place of its class, slots: none is a number, some r a reference or null); a table that nobody writes (length, contents). -/
abbrev qL : Type := (Nat × Nat) ⊕ (Nat × Nat × (Nat → Option Nat)) ⊕ (Nat × List (Option (Option Nat))) ⊕ (Nat × (Nat → Int32))
abbrev qM : Type := Nat → Nat → Int32
abbrev qK : Type := Nat → List (Option Value) → List Value → qM → Prop
abbrev qO : Type := Nat → List (Option Value) → List Value → qM → qK → Prop
/-- an entry of a method's table: an instruction; a call (method, how many values, the receiver's class); a return (0 void, 1 int, 2 boolean) -/
abbrev qE : Type := qO ⊕ (Nat × Nat × Option Nat) ⊕ Nat
abbrev qR : Type := Option Value → qM → Prop
abbrev qX : Type := Nat → Nat → List (Option Value) → List Value → qM → qR → Prop
abbrev qP : Type := Nat → Nat → Option qE
-- instructions
def qo_k (v : Int32) (n : Nat) : qO := fun pc loc st M k => k (pc + n) loc (.int v :: st) M
def qo_il (i n : Nat) : qO := fun pc loc st M k => match loc[i]? with
  | some (some (.int x)) => k (pc + n) loc (.int x :: st) M
  | _ => False
def qo_al (i n : Nat) : qO := fun pc loc st M k => match loc[i]? with
  | some (some (.ref x)) => k (pc + n) loc (.ref x :: st) M
  | _ => False
def qo_is (i n : Nat) : qO := fun pc loc st M k => match st with
  | .int x :: r => k (pc + n) (loc.set i (some (.int x))) r M
  | _ => False
def qo_as (i n : Nat) : qO := fun pc loc st M k => match st with
  | .ref x :: r => k (pc + n) (loc.set i (some (.ref x))) r M
  | _ => False
def qo_inc (i : Nat) (d : Int32) : qO := fun pc loc st M k => match loc[i]? with
  | some (some (.int x)) => k (pc + 3) (loc.set i (some (.int (x + d)))) st M
  | _ => False
def qo_b (f : Int32 → Int32 → Int32) : qO := fun pc loc st M k => match st with
  | .int y :: .int x :: r => k (pc + 1) loc (.int (f x y) :: r) M
  | _ => False
def qo_d (f : Int32 → Int32 → Int32) : qO := fun pc loc st M k => match st with
  | .int y :: .int x :: r => (¬ y = 0) ∧ k (pc + 1) loc (.int (f x y) :: r) M
  | _ => False
def qo_u (f : Int32 → Int32) : qO := fun pc loc st M k => match st with
  | .int x :: r => k (pc + 1) loc (.int (f x) :: r) M
  | _ => False
def qo_z (c : Int32 → Prop) (t : Nat) : qO := fun pc loc st M k => match st with
  | .int x :: r => (c x → k t loc r M) ∧ (¬ c x → k (pc + 3) loc r M)
  | _ => False
def qo_c (c : Int32 → Int32 → Prop) (t : Nat) : qO := fun pc loc st M k => match st with
  | .int y :: .int x :: r => (c x y → k t loc r M) ∧ (¬ c x y → k (pc + 3) loc r M)
  | _ => False
def qo_g (t : Nat) : qO := fun _ loc st M k => k t loc st M
def qo_sw (lo : Int) (ts : List Nat) (d : Nat) : qO := fun _ loc st M k => match st with
  | .int x :: r => k (if x.toInt < lo then d else ts.getD (x.toInt - lo).toNat d) loc r M
  | _ => False
def qo_dup : qO := fun pc loc st M k => match st with
  | v :: r => v.category = 1 ∧ k (pc + 1) loc (v :: v :: r) M
  | _ => False
def qo_pop : qO := fun pc loc st M k => match st with
  | v :: r => v.category = 1 ∧ k (pc + 1) loc r M
  | _ => False
def qo_dup2 : qO := fun pc loc st M k => match st with
  | v :: w :: r => v.category = 1 ∧ w.category = 1 ∧ k (pc + 1) loc (v :: w :: v :: w :: r) M
  | _ => False
def qo_dx1 : qO := fun pc loc st M k => match st with
  | v :: w :: r => v.category = 1 ∧ w.category = 1 ∧ k (pc + 1) loc (v :: w :: v :: r) M
  | _ => False
def qo_dx2 : qO := fun pc loc st M k => match st with
  | v :: w :: x :: r => v.category = 1 ∧ w.category = 1 ∧ x.category = 1 ∧ k (pc + 1) loc (v :: w :: x :: v :: r) M
  | _ => False
def qo_get (lay : Nat → qL) (ci j : Nat) : qO := fun pc loc st M k => match st with
  | .ref q :: r => match lay q with
    | .inr (.inr (.inl x)) => x.1 = ci ∧ match x.2[j]? with
      | some none => k (pc + 3) loc (.int (M q j) :: r) M
      | some (some (some z)) => k (pc + 3) loc (.ref z :: r) M
      | _ => False
    | _ => False
  | _ => False
def qo_put (lay : Nat → qL) (ci j : Nat) : qO := fun pc loc st M k => match st with
  | .int v :: .ref q :: r => match lay q with
    | .inr (.inr (.inl x)) => x.1 = ci ∧ x.2[j]? = some none ∧ k (pc + 3) loc r (va_up M q (upd (M q) j v))
    | _ => False
  | _ => False
def qo_ia (lay : Nat → qL) : qO := fun pc loc st M k => match st with
  | .int i :: .ref q :: r => match lay q with
    | .inl x => x.1 = 0 ∧ vp_in i x.2 ∧ k (pc + 1) loc (.int (M q i.toNatClampNeg) :: r) M
    | .inr (.inr (.inr x)) => vp_in i x.1 ∧ k (pc + 1) loc (.int (x.2 i.toNatClampNeg) :: r) M
    | _ => False
  | _ => False
def qo_ias (lay : Nat → qL) : qO := fun pc loc st M k => match st with
  | .int v :: .int i :: .ref q :: r => match lay q with
    | .inl x => x.1 = 0 ∧ vp_in i x.2 ∧ k (pc + 1) loc r (va_up M q (upd (M q) i.toNatClampNeg v))
    | _ => False
  | _ => False
def qo_za (lay : Nat → qL) : qO := fun pc loc st M k => match st with
  | .int i :: .ref q :: r => match lay q with
    | .inl x => x.1 = 1 ∧ vp_in i x.2 ∧ k (pc + 1) loc (.int (M q i.toNatClampNeg) :: r) M
    | _ => False
  | _ => False
def qo_zas (lay : Nat → qL) : qO := fun pc loc st M k => match st with
  | .int v :: .int i :: .ref q :: r => match lay q with
    | .inl x => x.1 = 1 ∧ vp_in i x.2 ∧ k (pc + 1) loc r (va_up M q (upd (M q) i.toNatClampNeg (vp_nar .boolean v)))
    | _ => False
  | _ => False
def qo_aa (lay : Nat → qL) : qO := fun pc loc st M k => match st with
  | .int i :: .ref q :: r => match lay q with
    | .inr (.inl x) => vp_in i x.2.1 ∧ match x.2.2 i.toNatClampNeg with
      | some z => k (pc + 1) loc (.ref z :: r) M
      | none => False
    | _ => False
  | _ => False
def qo_len (lay : Nat → qL) : qO := fun pc loc st M k => match st with
  | .ref q :: r => match lay q with
    | .inl x => k (pc + 1) loc (.int (Int32.ofNat x.2) :: r) M
    | .inr (.inl x) => k (pc + 1) loc (.int (Int32.ofNat x.2.1) :: r) M
    | .inr (.inr (.inr x)) => k (pc + 1) loc (.int (Int32.ofNat x.1) :: r) M
    | _ => False
  | _ => False
def qo_ss (z : Nat) : qO := fun pc loc st M k => k (pc + 3) loc (.ref z :: st) M
def qo_mx : qO := fun pc loc st M k => match st with
  | .int y :: .int x :: r => (r.map fun v => v.category).sum ≤ 8 ∧ k (pc + 3) loc (.int (if x < y then y else x) :: r) M
  | _ => False
def qo_mn : qO := fun pc loc st M k => match st with
  | .int y :: .int x :: r => (r.map fun v => v.category).sum ≤ 8 ∧ k (pc + 3) loc (.int (if y < x then y else x) :: r) M
  | _ => False
def qo_cp (lay : Nat → qL) : qO := fun pc loc st M k => match st with
  | .int n :: .int dp :: .ref q1 :: .int sp :: .ref q0 :: r => match lay q0, lay q1 with
    | .inl x0, .inl x1 => x0.1 = 0 ∧ x1.1 = 0 ∧ (r.map fun v => v.category).sum ≤ 8 ∧ (¬ sp < 0) ∧ (¬ dp < 0) ∧ (¬ n < 0) ∧ sp.toNatClampNeg + n.toNatClampNeg ≤ x0.2 ∧ dp.toNatClampNeg + n.toNatClampNeg ≤ x1.2 ∧
        k (pc + 3) loc r (va_up M q1 (va_cpy (M q0) (M q1) sp.toNatClampNeg dp.toNatClampNeg n.toNatClampNeg))
    | _, _ => False
  | _ => False
-- an instruction asks no more of a weaker goal
def qq_Mon (op : qO) : Prop := ∀ pc loc st M (k k' : qK), (∀ pc' loc' st' M', k pc' loc' st' M' → k' pc' loc' st' M') → op pc loc st M k → op pc loc st M k'
-- the machine: the least relation closed under the tables
def qq_ent (mx : Nat → Nat) (mj : Nat) (vs : List Value) : List (Option Value) := vs.map some ++ List.replicate (mx mj - vs.length) none
def qq_rcv (lay : Nat → qL) (rc : Option Nat) (vs : List Value) : Prop := match rc with
  | none => True
  | some ci => match vs with
    | .ref q :: _ => match lay q with
      | .inr (.inr (.inl x)) => x.1 = ci
      | _ => False
    | _ => False
def qq_ret (b : Nat) (st : List Value) (M : qM) (post : qR) : Prop := match st with
  | [] => b = 0 ∧ post none M
  | [.int v] => (b = 1 ∨ (b = 2 ∧ (v = 0 ∨ v = 1))) ∧ post (some (.int v)) M
  | _ => False
def qq_stp (lay : Nat → qL) (mx : Nat → Nat) (P : qP) (X : qX) : qX := fun mi pc loc st M post => match P mi pc with
  | none => False
  | some (.inl op) => op pc loc st M (fun pc' loc' st' M' => X mi pc' loc' st' M' post)
  | some (.inr (.inl c)) => ∃ vs rest : List Value, st = vs.reverse ++ rest ∧ vs.length = c.2.1 ∧ (∀ v ∈ vs, v.category = 1) ∧ (rest.map fun v => v.category).sum ≤ 8 ∧ qq_rcv lay c.2.2 vs ∧
      X c.1 0 (qq_ent mx c.1 vs) [] M (fun r M' => X mi (pc + 3) loc (r.toList ++ rest) M' post)
  | some (.inr (.inr b)) => qq_ret b st M post
def qq_cl (lay : Nat → qL) (mx : Nat → Nat) (P : qP) (X : qX) : Prop :=
  (∀ mi pc loc st M (p p' : qR), (∀ r M', p r M' → p' r M') → X mi pc loc st M p → X mi pc loc st M p') ∧ ∀ mi pc loc st M post, qq_stp lay mx P X mi pc loc st M post → X mi pc loc st M post
def qq_Ev (lay : Nat → qL) (mx : Nat → Nat) (P : qP) : qX := fun mi pc loc st M post => ∀ X : qX, qq_cl lay mx P X → X mi pc loc st M post
section QEV
variable {lay : Nat → qL} {mx : Nat → Nat} {P : qP}
theorem qq_Ev.mono {mi pc : Nat} {loc : List (Option Value)} {st : List Value} {M : qM} {p p' : qR} (h : qq_Ev lay mx P mi pc loc st M p) (hp : ∀ r M', p r M' → p' r M') : qq_Ev lay mx P mi pc loc st M p' :=
  fun X hX => hX.1 _ _ _ _ _ _ _ hp (h X hX)
theorem qq_Ev.op {mi pc : Nat} {loc : List (Option Value)} {st : List Value} {M : qM} {post : qR} {op : qO} (hP : P mi pc = some (.inl op)) (hm : qq_Mon op)
    (h : op pc loc st M (fun pc' loc' st' M' => qq_Ev lay mx P mi pc' loc' st' M' post)) : qq_Ev lay mx P mi pc loc st M post := by
  intro X hX
  refine hX.2 _ _ _ _ _ _ ?_
  unfold qq_stp
  rw [hP]
  exact hm _ _ _ _ _ _ (fun _ _ _ _ k => k X hX) h
theorem qq_Ev.call {mi pc mj n : Nat} {rc : Option Nat} {loc : List (Option Value)} {st : List Value} {M : qM} {post : qR} (hP : P mi pc = some (.inr (.inl (mj, n, rc)))) (vs rest : List Value) (hst : st = vs.reverse ++ rest) (hn : vs.length = n)
    (hc : ∀ v ∈ vs, v.category = 1) (hr : (rest.map fun v => v.category).sum ≤ 8) (hv : qq_rcv lay rc vs) {pc2 : qR} (h : qq_Ev lay mx P mj 0 (qq_ent mx mj vs) [] M pc2)
    (k : ∀ r M', pc2 r M' → qq_Ev lay mx P mi (pc + 3) loc (r.toList ++ rest) M' post) : qq_Ev lay mx P mi pc loc st M post := by
  intro X hX
  refine hX.2 _ _ _ _ _ _ ?_
  unfold qq_stp
  rw [hP]
  exact ⟨vs, rest, hst, hn, hc, hr, hv, hX.1 _ _ _ _ _ _ _ (fun r M' hp => k r M' hp X hX) (h X hX)⟩
theorem qq_Ev.ret {mi pc b : Nat} {loc : List (Option Value)} {st : List Value} {M : qM} {post : qR} (hP : P mi pc = some (.inr (.inr b))) (h : qq_ret b st M post) : qq_Ev lay mx P mi pc loc st M post := by
  intro X hX
  refine hX.2 _ _ _ _ _ _ ?_
  unfold qq_stp
  rw [hP]
  exact h
end QEV
-- monotone
theorem qm_k (v : Int32) (n : Nat) : qq_Mon (qo_k v n) := fun _ _ _ _ _ _ h g => h _ _ _ _ g
theorem qm_g (t : Nat) : qq_Mon (qo_g t) := fun _ _ _ _ _ _ h g => h _ _ _ _ g
theorem qm_ss (z : Nat) : qq_Mon (qo_ss z) := fun _ _ _ _ _ _ h g => h _ _ _ _ g
theorem qm_il (i n : Nat) : qq_Mon (qo_il i n) := by
  intro pc loc st M k k' h g
  unfold qo_il at g ⊢
  split at g
  · rename_i x hx
    try simp only [hx]
    exact h _ _ _ _ g
  · exact g.elim
theorem qm_al (i n : Nat) : qq_Mon (qo_al i n) := by
  intro pc loc st M k k' h g
  unfold qo_al at g ⊢
  split at g
  · rename_i x hx
    try simp only [hx]
    exact h _ _ _ _ g
  · exact g.elim
theorem qm_inc (i : Nat) (d : Int32) : qq_Mon (qo_inc i d) := by
  intro pc loc st M k k' h g
  unfold qo_inc at g ⊢
  split at g
  · rename_i x hx
    try simp only [hx]
    exact h _ _ _ _ g
  · exact g.elim
theorem qm_is (i n : Nat) : qq_Mon (qo_is i n) := by
  intro pc loc st M k k' h g
  unfold qo_is at g ⊢
  split at g
  · exact h _ _ _ _ g
  · exact g.elim
theorem qm_as (i n : Nat) : qq_Mon (qo_as i n) := by
  intro pc loc st M k k' h g
  unfold qo_as at g ⊢
  split at g
  · exact h _ _ _ _ g
  · exact g.elim
theorem qm_b (f : Int32 → Int32 → Int32) : qq_Mon (qo_b f) := by
  intro pc loc st M k k' h g
  unfold qo_b at g ⊢
  split at g
  · exact h _ _ _ _ g
  · exact g.elim
theorem qm_d (f : Int32 → Int32 → Int32) : qq_Mon (qo_d f) := by
  intro pc loc st M k k' h g
  unfold qo_d at g ⊢
  split at g
  · exact ⟨g.1, h _ _ _ _ g.2⟩
  · exact g.elim
theorem qm_u (f : Int32 → Int32) : qq_Mon (qo_u f) := by
  intro pc loc st M k k' h g
  unfold qo_u at g ⊢
  split at g
  · exact h _ _ _ _ g
  · exact g.elim
theorem qm_z (c : Int32 → Prop) (t : Nat) : qq_Mon (qo_z c t) := by
  intro pc loc st M k k' h g
  unfold qo_z at g ⊢
  split at g
  · exact ⟨fun q => h _ _ _ _ (g.1 q), fun q => h _ _ _ _ (g.2 q)⟩
  · exact g.elim
theorem qm_c (c : Int32 → Int32 → Prop) (t : Nat) : qq_Mon (qo_c c t) := by
  intro pc loc st M k k' h g
  unfold qo_c at g ⊢
  split at g
  · exact ⟨fun q => h _ _ _ _ (g.1 q), fun q => h _ _ _ _ (g.2 q)⟩
  · exact g.elim
theorem qm_sw (lo : Int) (ts : List Nat) (d : Nat) : qq_Mon (qo_sw lo ts d) := by
  intro pc loc st M k k' h g
  unfold qo_sw at g ⊢
  split at g
  · exact h _ _ _ _ g
  · exact g.elim
theorem qm_dup : qq_Mon qo_dup := by
  intro pc loc st M k k' h g
  unfold qo_dup at g ⊢
  split at g
  · exact ⟨g.1, h _ _ _ _ g.2⟩
  · exact g.elim
theorem qm_pop : qq_Mon qo_pop := by
  intro pc loc st M k k' h g
  unfold qo_pop at g ⊢
  split at g
  · exact ⟨g.1, h _ _ _ _ g.2⟩
  · exact g.elim
theorem qm_dup2 : qq_Mon qo_dup2 := by
  intro pc loc st M k k' h g
  unfold qo_dup2 at g ⊢
  split at g
  · exact ⟨g.1, g.2.1, h _ _ _ _ g.2.2⟩
  · exact g.elim
theorem qm_dx1 : qq_Mon qo_dx1 := by
  intro pc loc st M k k' h g
  unfold qo_dx1 at g ⊢
  split at g
  · exact ⟨g.1, g.2.1, h _ _ _ _ g.2.2⟩
  · exact g.elim
theorem qm_dx2 : qq_Mon qo_dx2 := by
  intro pc loc st M k k' h g
  unfold qo_dx2 at g ⊢
  split at g
  · exact ⟨g.1, g.2.1, g.2.2.1, h _ _ _ _ g.2.2.2⟩
  · exact g.elim
theorem qm_mx : qq_Mon qo_mx := by
  intro pc loc st M k k' h g
  unfold qo_mx at g ⊢
  split at g
  · exact ⟨g.1, h _ _ _ _ g.2⟩
  · exact g.elim
theorem qm_mn : qq_Mon qo_mn := by
  intro pc loc st M k k' h g
  unfold qo_mn at g ⊢
  split at g
  · exact ⟨g.1, h _ _ _ _ g.2⟩
  · exact g.elim
theorem qm_put (lay : Nat → qL) (ci j : Nat) : qq_Mon (qo_put lay ci j) := by
  intro pc loc st M k k' h g
  unfold qo_put at g ⊢
  split at g
  · split at g
    · rename_i x hx
      try simp only [hx]
      exact ⟨g.1, g.2.1, h _ _ _ _ g.2.2⟩
    · exact g.elim
  · exact g.elim
theorem qm_ia (lay : Nat → qL) : qq_Mon (qo_ia lay) := by
  intro pc loc st M k k' h g
  unfold qo_ia at g ⊢
  split at g
  · split at g
    · rename_i x hx
      try simp only [hx]
      exact ⟨g.1, g.2.1, h _ _ _ _ g.2.2⟩
    · rename_i x hx
      try simp only [hx]
      exact ⟨g.1, h _ _ _ _ g.2⟩
    · exact g.elim
  · exact g.elim
theorem qm_ias (lay : Nat → qL) : qq_Mon (qo_ias lay) := by
  intro pc loc st M k k' h g
  unfold qo_ias at g ⊢
  split at g
  · split at g
    · rename_i x hx
      try simp only [hx]
      exact ⟨g.1, g.2.1, h _ _ _ _ g.2.2⟩
    · exact g.elim
  · exact g.elim
theorem qm_za (lay : Nat → qL) : qq_Mon (qo_za lay) := by
  intro pc loc st M k k' h g
  unfold qo_za at g ⊢
  split at g
  · split at g
    · rename_i x hx
      try simp only [hx]
      exact ⟨g.1, g.2.1, h _ _ _ _ g.2.2⟩
    · exact g.elim
  · exact g.elim
theorem qm_zas (lay : Nat → qL) : qq_Mon (qo_zas lay) := by
  intro pc loc st M k k' h g
  unfold qo_zas at g ⊢
  split at g
  · split at g
    · rename_i x hx
      try simp only [hx]
      exact ⟨g.1, g.2.1, h _ _ _ _ g.2.2⟩
    · exact g.elim
  · exact g.elim
theorem qm_len (lay : Nat → qL) : qq_Mon (qo_len lay) := by
  intro pc loc st M k k' h g
  unfold qo_len at g ⊢
  split at g
  · split at g
    · rename_i x hx
      try simp only [hx]
      exact h _ _ _ _ g
    · rename_i x hx
      try simp only [hx]
      exact h _ _ _ _ g
    · rename_i x hx
      try simp only [hx]
      exact h _ _ _ _ g
    · exact g.elim
  · exact g.elim
theorem qm_get (lay : Nat → qL) (ci j : Nat) : qq_Mon (qo_get lay ci j) := by
  intro pc loc st M k k' h g
  unfold qo_get at g ⊢
  split at g
  · split at g
    · rename_i x hx
      try simp only [hx]
      refine ⟨g.1, ?_⟩
      have g := g.2
      split at g
      · rename_i hj
        try simp only [hj]
        exact h _ _ _ _ g
      · rename_i z hj
        try simp only [hj]
        exact h _ _ _ _ g
      · exact g.elim
    · exact g.elim
  · exact g.elim
theorem qm_aa (lay : Nat → qL) : qq_Mon (qo_aa lay) := by
  intro pc loc st M k k' h g
  unfold qo_aa at g ⊢
  split at g
  · split at g
    · rename_i x hx
      try simp only [hx]
      refine ⟨g.1, ?_⟩
      have g := g.2
      split at g
      · rename_i z hj
        try simp only [hj]
        exact h _ _ _ _ g
      · exact g.elim
    · exact g.elim
  · exact g.elim
theorem qm_cp (lay : Nat → qL) : qq_Mon (qo_cp lay) := by
  intro pc loc st M k k' h g
  unfold qo_cp at g ⊢
  split at g
  · split at g
    · rename_i x0 x1 h0 h1
      try simp only [h0, h1]
      exact ⟨g.1, g.2.1, g.2.2.1, g.2.2.2.1, g.2.2.2.2.1, g.2.2.2.2.2.1, g.2.2.2.2.2.2.1, g.2.2.2.2.2.2.2.1, h _ _ _ _ g.2.2.2.2.2.2.2.2⟩
    · exact g.elim
  · exact g.elim
end
section
/-! The abstract machine's worlds: what a cell is at its address. -/
def qv (a : Nat → Nat) (v : Value) : Value := match v with
  | .ref k => .ref (a k)
  | w => w
theorem qv_cat (a : Nat → Nat) (v : Value) : (qv a v).category = v.category := by cases v <;> rfl
theorem qv_cats (a : Nat → Nat) (l : List Value) : ((l.map (qv a)).map fun v => v.category).sum = (l.map fun v => v.category).sum := by
  rw [List.map_map]
  congr 1
  exact List.map_congr_left fun v _ => qv_cat a v
def qv_F (a : Nat → Nat) (g : Nat → Int32) : List (Option (Option Nat)) → Nat → List Value
  | [], _ => []
  | none :: r, i => .int (g i) :: qv_F a g r (i + 1)
  | some o :: r, i => va_rf (o.map a) :: qv_F a g r (i + 1)
theorem qv_F_len (a : Nat → Nat) (g : Nat → Int32) : ∀ (fl : List (Option (Option Nat))) (i : Nat), (qv_F a g fl i).length = fl.length
  | [], _ => rfl
  | none :: r, i => by simp [qv_F, qv_F_len a g r (i + 1)]
  | some o :: r, i => by simp [qv_F, qv_F_len a g r (i + 1)]
theorem qv_F_int {a : Nat → Nat} {g : Nat → Int32} : ∀ (fl : List (Option (Option Nat))) (i k : Nat), fl[k]? = some none → (qv_F a g fl i)[k]? = some (.int (g (i + k)))
  | [], _, _, h => by simp at h
  | none :: r, i, 0, _ => by simp [qv_F]
  | none :: r, i, k + 1, h => by
    have h2 := qv_F_int (a := a) (g := g) r (i + 1) k (by simpa using h)
    simp only [qv_F, List.getElem?_cons_succ]
    rw [h2, Nat.add_right_comm, Nat.add_assoc]
  | some o :: r, i, 0, h => by simp at h
  | some o :: r, i, k + 1, h => by
    have h2 := qv_F_int (a := a) (g := g) r (i + 1) k (by simpa using h)
    simp only [qv_F, List.getElem?_cons_succ]
    rw [h2, Nat.add_right_comm, Nat.add_assoc]
theorem qv_F_ref {a : Nat → Nat} {g : Nat → Int32} {z : Nat} : ∀ (fl : List (Option (Option Nat))) (i k : Nat), fl[k]? = some (some (some z)) → (qv_F a g fl i)[k]? = some (.ref (a z))
  | [], _, _, h => by simp at h
  | none :: r, i, 0, h => by simp at h
  | none :: r, i, k + 1, h => by
    simp only [qv_F, List.getElem?_cons_succ]
    exact qv_F_ref r (i + 1) k (by simpa using h)
  | some o :: r, i, 0, h => by
    have h : o = some z := by simpa using h
    subst h
    rfl
  | some o :: r, i, k + 1, h => by
    simp only [qv_F, List.getElem?_cons_succ]
    exact qv_F_ref r (i + 1) k (by simpa using h)
theorem qv_F_congr {a : Nat → Nat} {g g' : Nat → Int32} : ∀ (fl : List (Option (Option Nat))) (i : Nat), (∀ j, i ≤ j → g j = g' j) → qv_F a g fl i = qv_F a g' fl i
  | [], _, _ => rfl
  | none :: r, i, h => by simp only [qv_F]; rw [h i (Nat.le_refl i), qv_F_congr r (i + 1) fun j hj => h j (by omega)]
  | some o :: r, i, h => by simp only [qv_F]; rw [qv_F_congr r (i + 1) fun j hj => h j (by omega)]
theorem qv_F_set {a : Nat → Nat} {g : Nat → Int32} {v : Int32} : ∀ (fl : List (Option (Option Nat))) (i k : Nat), fl[k]? = some none → (qv_F a g fl i).set k (.int v) = qv_F a (upd g (i + k) v) fl i
  | [], _, _, h => by simp at h
  | none :: r, i, 0, _ => by
    simp only [qv_F, List.set_cons_zero, Nat.add_zero]
    rw [qv_F_congr (g := upd g i v) (g' := g) r (i + 1) fun j hj => by unfold upd; rw [if_neg (by omega)]]
    unfold upd
    rw [if_pos rfl]
  | none :: r, i, k + 1, h => by
    have h2 := qv_F_set (a := a) (g := g) (v := v) r (i + 1) k (by simpa using h)
    simp only [qv_F, List.set_cons_succ]
    rw [h2, show i + 1 + k = i + (k + 1) by omega]
    congr 1
    unfold upd
    rw [if_neg (by omega)]
  | some o :: r, i, 0, h => by simp at h
  | some o :: r, i, k + 1, h => by
    have h2 := qv_F_set (a := a) (g := g) (v := v) r (i + 1) k (by simpa using h)
    simp only [qv_F, List.set_cons_succ]
    rw [h2, show i + 1 + k = i + (k + 1) by omega]
def qv_E (a : Nat → Nat) (ca : Nat → ClassId) (lc : qL) (g : Nat → Int32) : va_E := match lc with
  | .inl x => .inl (ca x.1, x.2, .inl g)
  | .inr (.inl x) => .inl (ca x.1, x.2.1, .inr (.inr (.inr (.inr (fun j => (x.2.2 j).map a)))))
  | .inr (.inr (.inl x)) => .inr (x.1, qv_F a g x.2 0)
  | .inr (.inr (.inr x)) => .inl (ca 0, x.1, .inl x.2)
/-- all that stands still: layouts, how many cells, addresses, array classes, class numbers and slots, classes, array types, what is known of tables, methods (names, code, locals, returns, frames, words), words, the launch -/
abbrev qZ : Type := (Nat → qL) × Nat × (Nat → Nat) × (Nat → ClassId) × va_G × List vw_C × List (ClassId × FieldType) × ((Nat → Prop) → State → Heap → Prop) × (Nat → MethodName) × (Nat → ByteArray) × (Nat → Nat) × (Nat → Option FieldType) × (Nat → Nat) × (Nat → Nat) × List Cond × Launch
abbrev z_lay (Z : qZ) : Nat → qL := Z.1
abbrev z_N (Z : qZ) : Nat := Z.2.1
abbrev z_a (Z : qZ) : Nat → Nat := Z.2.2.1
abbrev z_ca (Z : qZ) : Nat → ClassId := Z.2.2.2.1
abbrev z_D (Z : qZ) : va_G := Z.2.2.2.2.1
abbrev z_cl (Z : qZ) : List vw_C := Z.2.2.2.2.2.1
abbrev z_ty (Z : qZ) : List (ClassId × FieldType) := Z.2.2.2.2.2.2.1
abbrev z_St (Z : qZ) : (Nat → Prop) → State → Heap → Prop := Z.2.2.2.2.2.2.2.1
abbrev z_y (Z : qZ) : Nat → MethodName := Z.2.2.2.2.2.2.2.2.1
abbrev z_bc (Z : qZ) : Nat → ByteArray := Z.2.2.2.2.2.2.2.2.2.1
abbrev z_mx (Z : qZ) : Nat → Nat := Z.2.2.2.2.2.2.2.2.2.2.1
abbrev z_rt (Z : qZ) : Nat → Option FieldType := Z.2.2.2.2.2.2.2.2.2.2.2.1
abbrev z_fr (Z : qZ) : Nat → Nat := Z.2.2.2.2.2.2.2.2.2.2.2.2.1
abbrev z_lo (Z : qZ) : Nat → Nat := Z.2.2.2.2.2.2.2.2.2.2.2.2.2.1
abbrev z_Ts (Z : qZ) : List Cond := Z.2.2.2.2.2.2.2.2.2.2.2.2.2.2.1
abbrev z_l (Z : qZ) : Launch := Z.2.2.2.2.2.2.2.2.2.2.2.2.2.2.2
def qw (Z : qZ) (M : qM) : va_W := (List.range (z_N Z)).map (fun k => (z_a Z k, qv_E (z_a Z) (z_ca Z) (z_lay Z k) (M k)))
theorem qw_len (Z : qZ) (M : qM) : (qw Z M).length = z_N Z := by simp [qw]
theorem qw_at {Z : qZ} {k : Nat} (M : qM) (h : k < z_N Z) : (qw Z M)[k]? = some (z_a Z k, qv_E (z_a Z) (z_ca Z) (z_lay Z k) (M k)) := by
  unfold qw
  rw [List.getElem?_map, List.getElem?_range h]
  rfl
theorem qw_set {Z : qZ} {k : Nat} {M : qM} {g : Nat → Int32} {e : va_E} (h : k < z_N Z) (he : qv_E (z_a Z) (z_ca Z) (z_lay Z k) g = e) : (qw Z M).set k (z_a Z k, e) = qw Z (va_up M k g) := by
  apply List.ext_getElem?
  intro i
  by_cases hi : k = i
  · subst hi
    rw [List.getElem?_set_self (by rw [qw_len]; exact h), qw_at _ h, va_up_self, he]
  · rw [List.getElem?_set_ne hi]
    by_cases hN : i < z_N Z
    · rw [qw_at _ hN, qw_at _ hN, va_up_ne _ _ (fun q => hi q.symm)]
    · rw [List.getElem?_eq_none (by rw [qw_len]; omega), List.getElem?_eq_none (by rw [qw_len]; omega)]
def qq_cell (c : qL) : Prop := match c with
  | .inr (.inr (.inr _)) => False
  | _ => True
/-- what must hold of it -/
def qq_OK (Z : qZ) : Prop :=
  (∀ q, qq_cell (z_lay Z q) → q < z_N Z) ∧ (z_ty Z)[0]? = some (z_ca Z 0, .int) ∧ (z_ty Z)[1]? = some (z_ca Z 1, .boolean) ∧
  (∀ q x, z_lay Z q = .inl x → ∃ T, (z_ty Z)[x.1]? = some (z_ca Z x.1, T)) ∧ (∀ q x, z_lay Z q = .inr (.inl x) → ∃ T, (z_ty Z)[x.1]? = some (z_ca Z x.1, T) ∧ T.isReference = true) ∧
  (∀ A u U H, u.vm.Alike U.vm → z_St Z A u H → z_St Z A U H) ∧ (∀ A U H H1, z_St Z A U H → (∀ q : Nat, q < H.size → ¬ A q → H1[q]? = H[q]?) → z_St Z A U H1) ∧ (∀ A B U H, z_St Z A U H → (∀ q : Nat, B q → A q) → z_St Z B U H) ∧
  (∀ A U H q x, z_St Z A U H → z_lay Z q = .inr (.inr (.inr x)) → va_T .int (z_a Z q) x.1 (fun j => .int (x.2 j)) A U H)
-- locals
def qv_lv (a : Nat → Nat) (loc : List (Option Value)) : List (Nat × Value) := (List.range loc.length).filterMap (fun i => match loc[i]? with
  | some (some v) => if v.category = 1 then some (i, qv a v) else none
  | _ => none)
theorem qv_lv_in {a : Nat → Nat} {loc : List (Option Value)} {i : Nat} {v : Value} (h : loc[i]? = some (some v)) (hc : v.category = 1) : (i, qv a v) ∈ qv_lv a loc := by
  unfold qv_lv
  refine List.mem_filterMap.mpr ⟨i, List.mem_range.mpr (List.getElem?_eq_some_iff.mp h).1, ?_⟩
  simp only [h, hc, if_true]
theorem qv_lv_of {a : Nat → Nat} {loc : List (Option Value)} {q : Nat × Value} (h : q ∈ qv_lv a loc) : ∃ v : Value, loc[q.1]? = some (some v) ∧ v.category = 1 ∧ q.2 = qv a v := by
  unfold qv_lv at h
  obtain ⟨i, -, h⟩ := List.mem_filterMap.mp h
  split at h
  · rename_i v hv
    split at h
    · rename_i hc
      cases h
      exact ⟨v, hv, hc, rfl⟩
    · cases h
  · cases h
theorem qv_store {a : Nat → Nat} {loc : List (Option Value)} {ls : Array Slot} {n i : Nat} {v : Value} (hc : v.category = 1)
    (h : lv_has ls n ((i, qv a v) :: (qv_lv a loc).filter (fun q => !(q.1 == i) && !(q.1 + 1 == i && q.2.category == 2)))) : lv_has ls n (qv_lv a (loc.set i (some v))) := by
  refine ⟨h.1, h.2.1, fun q hq => ?_⟩
  obtain ⟨w, hw, hwc, e⟩ := qv_lv_of hq
  obtain ⟨j, z⟩ := q
  dsimp only at hw e
  subst e
  by_cases hi : i = j
  · subst hi
    have hl : i < loc.length := by
      have := (List.getElem?_eq_some_iff.mp hw).1
      simpa using this
    rw [List.getElem?_set_self hl] at hw
    cases hw
    exact h.2.2 _ List.mem_cons_self
  · rw [List.getElem?_set_ne hi] at hw
    refine h.2.2 _ (List.mem_cons_of_mem _ (List.mem_filter.mpr ⟨qv_lv_in hw hwc, ?_⟩))
    have h1 : (j == i) = false := by simpa using fun e => hi e.symm
    have h2 : ((qv a w).category == 2) = false := by rw [qv_cat, hwc]; rfl
    simp [h1, h2]
theorem qv_entry {a : Nat → Nat} {vs : List Value} {n : Nat} {mx : Nat → Nat} {mj : Nat} (hn : vs.length ≤ n) (hm : mx mj = n) (hc : ∀ v ∈ vs, v.category = 1) :
    ∃ ls, (lg_sl (vs.map (qv a)) ++ List.replicate (n - (lg_sl (vs.map (qv a))).length) Slot.unset).toArray = ls ∧ lv_has ls n (qv_lv a (qq_ent mx mj vs)) := by
  have hs : ∀ l : List Value, (∀ v ∈ l, v.category = 1) → lg_sl (l.map (qv a)) = l.map (fun v => Slot.val (qv a v)) := by
    intro l
    induction l with
    | nil => intro _; rfl
    | cons v t ih =>
      intro h
      have h1 : (qv a v).category = 1 := by rw [qv_cat]; exact h v List.mem_cons_self
      have h2 := ih fun w hw => h w (List.mem_cons_of_mem _ hw)
      simp only [lg_sl, List.map_cons, List.flatMap_cons, h1] at h2 ⊢
      rw [h2]
      rfl
  have hlen : (lg_sl (vs.map (qv a))).length ≤ n := by rw [hs vs hc]; simpa using hn
  refine ⟨_, rfl, ?_⟩
  have he := lv_entry (vs.map (qv a)) hlen
  refine ⟨he.1, he.2.1, fun q hq => ?_⟩
  obtain ⟨w, hw, hwc, e⟩ := qv_lv_of hq
  obtain ⟨j, z⟩ := q
  dsimp only at hw e
  subst e
  have hj : vs[j]? = some w := by
    unfold qq_ent at hw
    by_cases hjl : j < vs.length
    · rw [List.getElem?_append_left (by simpa using hjl), List.getElem?_map] at hw
      cases hv : vs[j]? with
      | none => rw [hv] at hw; cases hw
      | some u => rw [hv] at hw; cases hw; rfl
    · rw [List.getElem?_append_right (by simpa using hjl)] at hw
      have := List.mem_of_getElem? hw
      have := List.eq_of_mem_replicate this
      cases this
  rw [hs vs hc]
  have hjl := (List.getElem?_eq_some_iff.mp hj).1
  rw [List.getElem?_toArray, List.getElem?_append_left (by simpa using hjl), List.getElem?_map, hj]
  rfl
end
section
/-! Where a method stands, and that an instruction is sound there. -/
def qq_Cx (Z : qZ) (mi : Nat) (p : Program) (R : Room) (s : State) (m : MethodId) (args : Array Value) (meth : Method) (c : Code) (A : Nat → Prop) (cells slots : Nat) : Prop :=
  p.tables.exec = Jvm.exec ∧ c.code = z_bc Z mi ∧ c.maxLocals = z_mx Z mi ∧ s.vm.findClass (z_y Z mi).cls = some m.cls ∧ (∀ w ∈ z_Ts Z, w.before args s = true) ∧ va_K (z_D Z) (z_cl Z) (z_ty Z) s ∧
  (∀ q : Nat, s.heap.size ≤ q → A q) ∧ z_St Z A s s.heap ∧ (z_fr Z mi ≤ R.frames ∧ z_lo Z mi ≤ R.locals) ∧ meth.sig.returnType = z_rt Z mi ∧ meth.locks = false ∧ (cells ≤ R.cells ∧ slots ≤ R.slots)
def qq_G (Z : qZ) (mi : Nat) (p : Program) (e : Env) (R : Room) (s : State) (m : MethodId) (args : Array Value) (below : List Frame) (meth : Method) (c : Code) (A : Nat → Prop) (cells slots : Nat) (Q : State → Prop) (pc : Nat) (loc : List (Option Value)) (st : List Value) (M : qM) : Prop :=
  ∀ (H : Heap) (locs : List Loc) (ls : Array Slot), lv_has ls (z_mx Z mi) (qv_lv (z_a Z) loc) → va_P (z_D Z) (z_cl Z) (qw Z M) H → va_D A (qw Z M) → va_S A s.heap H locs →
    W p (z_l Z) e R s m args below meth c H locs cells slots Q (F0 m pc ls (st.map (qv (z_a Z))))
def qq_Snd (Z : qZ) (mi pc : Nat) (op : qO) : Prop :=
  ∀ (p : Program) (e : Env) (R : Room) (s : State) (m : MethodId) (args : Array Value) (below : List Frame) (meth : Method) (c : Code) (A : Nat → Prop) (cells slots : Nat) (Q : State → Prop) (loc : List (Option Value)) (st : List Value) (M : qM),
    qq_Cx Z mi p R s m args meth c A cells slots → op pc loc st M (fun pc' loc' st' M' => qq_G Z mi p e R s m args below meth c A cells slots Q pc' loc' st' M') → qq_G Z mi p e R s m args below meth c A cells slots Q pc loc st M
section QROWS
variable {Z : qZ} {mi pc : Nat}
theorem qs_iconst {n : Int} {v : Int32} (hd : decode (z_bc Z mi) pc = .ok (.iconst n, 1)) (hv : Int32.ofInt n = v) : qq_Snd Z mi pc (qo_k v 1) := by
  intro p e R s m args below meth c A cells slots Q loc st M cx h H locs ls hl hP hD hS
  exact lv_iconst cx.1 cx.2.1 hd hv (h H locs ls hl hP hD hS)
theorem qs_bipush {n : Int} {v : Int32} (hd : decode (z_bc Z mi) pc = .ok (.bipush n, 2)) (hv : (Int8.ofInt n).toInt32 = v) : qq_Snd Z mi pc (qo_k v 2) := by
  intro p e R s m args below meth c A cells slots Q loc st M cx h H locs ls hl hP hD hS
  exact lv_bipush cx.1 cx.2.1 hd hv (h H locs ls hl hP hD hS)
theorem qs_sipush {n : Int} {v : Int32} (hd : decode (z_bc Z mi) pc = .ok (.sipush n, 3)) (hv : (Int16.ofInt n).toInt32 = v) : qq_Snd Z mi pc (qo_k v 3) := by
  intro p e R s m args below meth c A cells slots Q loc st M cx h H locs ls hl hP hD hS
  exact lv_sipush cx.1 cx.2.1 hd hv (h H locs ls hl hP hD hS)
theorem qs_ldc {index : Nat} {v : Int32} (hd : decode (z_bc Z mi) pc = .ok (.ldc index, 2)) (hc : Cond.constant (z_y Z mi).cls index v ∈ z_Ts Z) : qq_Snd Z mi pc (qo_k v 2) := by
  intro p e R s m args below meth c A cells slots Q loc st M cx h H locs ls hl hP hD hS
  exact lv_ldc cx.1 cx.2.1 cx.2.2.2.1 (cx.2.2.2.2.1 _ hc) hd (h H locs ls hl hP hD hS)
theorem qs_iload_n {k : Fin 4} {i : Nat} (hd : decode (z_bc Z mi) pc = .ok (.iload_n k, 1)) (hi : (k : Nat) = i) : qq_Snd Z mi pc (qo_il i 1) := by
  intro p e R s m args below meth c A cells slots Q loc st M cx h H locs ls hl hP hD hS
  unfold qo_il at h
  split at h
  · rename_i x hx
    exact lv_iload_n cx.1 cx.2.1 hd hi (hl.2.2 _ (qv_lv_in hx rfl)) (h H locs ls hl hP hD hS)
  · exact h.elim
theorem qs_iload {i : Nat} (hd : decode (z_bc Z mi) pc = .ok (.iload i, 2)) : qq_Snd Z mi pc (qo_il i 2) := by
  intro p e R s m args below meth c A cells slots Q loc st M cx h H locs ls hl hP hD hS
  unfold qo_il at h
  split at h
  · rename_i x hx
    exact lv_iload cx.1 cx.2.1 hd (hl.2.2 _ (qv_lv_in hx rfl)) (h H locs ls hl hP hD hS)
  · exact h.elim
theorem qs_aload_n {k : Fin 4} {i : Nat} (hd : decode (z_bc Z mi) pc = .ok (.aload_n k, 1)) (hi : (k : Nat) = i) : qq_Snd Z mi pc (qo_al i 1) := by
  intro p e R s m args below meth c A cells slots Q loc st M cx h H locs ls hl hP hD hS
  unfold qo_al at h
  split at h
  · rename_i x hx
    exact lv_aload_n cx.1 cx.2.1 hd hi (hl.2.2 _ (qv_lv_in hx rfl)) (h H locs ls hl hP hD hS)
  · exact h.elim
theorem qs_aload {i : Nat} (hd : decode (z_bc Z mi) pc = .ok (.aload i, 2)) : qq_Snd Z mi pc (qo_al i 2) := by
  intro p e R s m args below meth c A cells slots Q loc st M cx h H locs ls hl hP hD hS
  unfold qo_al at h
  split at h
  · rename_i x hx
    exact lv_aload cx.1 cx.2.1 hd (hl.2.2 _ (qv_lv_in hx rfl)) (h H locs ls hl hP hD hS)
  · exact h.elim
theorem qs_istore_n {k : Fin 4} {i : Nat} (hd : decode (z_bc Z mi) pc = .ok (.istore_n k, 1)) (hi : (k : Nat) = i) (hn : i < z_mx Z mi) : qq_Snd Z mi pc (qo_is i 1) := by
  intro p e R s m args below meth c A cells slots Q loc st M cx h H locs ls hl hP hD hS
  unfold qo_is at h
  split at h
  · rename_i x r
    exact lv_istore_n cx.1 cx.2.1 hd hi hl hn rfl (fun ls1 hl1 => h H locs ls1 (qv_store (v := .int x) rfl hl1) hP hD hS)
  · exact h.elim
theorem qs_istore {i : Nat} (hd : decode (z_bc Z mi) pc = .ok (.istore i, 2)) (hn : i < z_mx Z mi) : qq_Snd Z mi pc (qo_is i 2) := by
  intro p e R s m args below meth c A cells slots Q loc st M cx h H locs ls hl hP hD hS
  unfold qo_is at h
  split at h
  · rename_i x r
    exact lv_istore cx.1 cx.2.1 hd hl hn rfl (fun ls1 hl1 => h H locs ls1 (qv_store (v := .int x) rfl hl1) hP hD hS)
  · exact h.elim
theorem qs_astore_n {k : Fin 4} {i : Nat} (hd : decode (z_bc Z mi) pc = .ok (.astore_n k, 1)) (hi : (k : Nat) = i) (hn : i < z_mx Z mi) : qq_Snd Z mi pc (qo_as i 1) := by
  intro p e R s m args below meth c A cells slots Q loc st M cx h H locs ls hl hP hD hS
  unfold qo_as at h
  split at h
  · rename_i x r
    exact lv_astore_n cx.1 cx.2.1 hd hi hl hn rfl (fun ls1 hl1 => h H locs ls1 (qv_store (v := .ref x) rfl hl1) hP hD hS)
  · exact h.elim
theorem qs_astore {i : Nat} (hd : decode (z_bc Z mi) pc = .ok (.astore i, 2)) (hn : i < z_mx Z mi) : qq_Snd Z mi pc (qo_as i 2) := by
  intro p e R s m args below meth c A cells slots Q loc st M cx h H locs ls hl hP hD hS
  unfold qo_as at h
  split at h
  · rename_i x r
    exact lv_astore cx.1 cx.2.1 hd hl hn rfl (fun ls1 hl1 => h H locs ls1 (qv_store (v := .ref x) rfl hl1) hP hD hS)
  · exact h.elim
theorem qs_iinc {i : Nat} {n : Int} {v : Int32} (hd : decode (z_bc Z mi) pc = .ok (.iinc i n, 3)) (hv : Int32.ofInt n = v) (hn : i < z_mx Z mi) : qq_Snd Z mi pc (qo_inc i v) := by
  intro p e R s m args below meth c A cells slots Q loc st M cx h H locs ls hl hP hD hS
  unfold qo_inc at h
  split at h
  · rename_i x hx
    obtain ⟨k, hk⟩ := List.getElem?_of_mem (qv_lv_in (a := z_a Z) hx rfl)
    exact lv_iinc cx.1 cx.2.1 hd hl hk (by rw [hv]) hn rfl (fun ls1 hl1 => h H locs ls1 (qv_store (v := .int (x + v)) rfl hl1) hP hD hS)
  · exact h.elim
theorem qs_iadd (hd : decode (z_bc Z mi) pc = .ok (.iadd, 1)) : qq_Snd Z mi pc (qo_b (fun x y => x + y)) := by
  intro p e R s m args below meth c A cells slots Q loc st M cx h H locs ls hl hP hD hS
  unfold qo_b at h
  split at h
  · exact lv_iadd cx.1 cx.2.1 hd (h H locs ls hl hP hD hS)
  · exact h.elim
theorem qs_isub (hd : decode (z_bc Z mi) pc = .ok (.isub, 1)) : qq_Snd Z mi pc (qo_b (fun x y => x - y)) := by
  intro p e R s m args below meth c A cells slots Q loc st M cx h H locs ls hl hP hD hS
  unfold qo_b at h
  split at h
  · exact lv_isub cx.1 cx.2.1 hd (h H locs ls hl hP hD hS)
  · exact h.elim
theorem qs_imul (hd : decode (z_bc Z mi) pc = .ok (.imul, 1)) : qq_Snd Z mi pc (qo_b (fun x y => x * y)) := by
  intro p e R s m args below meth c A cells slots Q loc st M cx h H locs ls hl hP hD hS
  unfold qo_b at h
  split at h
  · exact lv_imul cx.1 cx.2.1 hd (h H locs ls hl hP hD hS)
  · exact h.elim
theorem qs_iand (hd : decode (z_bc Z mi) pc = .ok (.iand, 1)) : qq_Snd Z mi pc (qo_b (fun x y => x &&& y)) := by
  intro p e R s m args below meth c A cells slots Q loc st M cx h H locs ls hl hP hD hS
  unfold qo_b at h
  split at h
  · exact lv_iand cx.1 cx.2.1 hd (h H locs ls hl hP hD hS)
  · exact h.elim
theorem qs_ior (hd : decode (z_bc Z mi) pc = .ok (.ior, 1)) : qq_Snd Z mi pc (qo_b (fun x y => x ||| y)) := by
  intro p e R s m args below meth c A cells slots Q loc st M cx h H locs ls hl hP hD hS
  unfold qo_b at h
  split at h
  · exact lv_ior cx.1 cx.2.1 hd (h H locs ls hl hP hD hS)
  · exact h.elim
theorem qs_ixor (hd : decode (z_bc Z mi) pc = .ok (.ixor, 1)) : qq_Snd Z mi pc (qo_b (fun x y => x ^^^ y)) := by
  intro p e R s m args below meth c A cells slots Q loc st M cx h H locs ls hl hP hD hS
  unfold qo_b at h
  split at h
  · exact lv_ixor cx.1 cx.2.1 hd (h H locs ls hl hP hD hS)
  · exact h.elim
theorem qs_ishl (hd : decode (z_bc Z mi) pc = .ok (.ishl, 1)) : qq_Snd Z mi pc (qo_b (fun x y => x <<< (y &&& 31))) := by
  intro p e R s m args below meth c A cells slots Q loc st M cx h H locs ls hl hP hD hS
  unfold qo_b at h
  split at h
  · exact lv_ishl cx.1 cx.2.1 hd (h H locs ls hl hP hD hS)
  · exact h.elim
theorem qs_ishr (hd : decode (z_bc Z mi) pc = .ok (.ishr, 1)) : qq_Snd Z mi pc (qo_b (fun x y => x >>> (y &&& 31))) := by
  intro p e R s m args below meth c A cells slots Q loc st M cx h H locs ls hl hP hD hS
  unfold qo_b at h
  split at h
  · exact lv_ishr cx.1 cx.2.1 hd (h H locs ls hl hP hD hS)
  · exact h.elim
theorem qs_idiv (hd : decode (z_bc Z mi) pc = .ok (.idiv, 1)) : qq_Snd Z mi pc (qo_d (fun x y => x / y)) := by
  intro p e R s m args below meth c A cells slots Q loc st M cx h H locs ls hl hP hD hS
  unfold qo_d at h
  split at h
  · exact lv_idiv cx.1 cx.2.1 hd h.1 (h.2 H locs ls hl hP hD hS)
  · exact h.elim
theorem qs_irem (hd : decode (z_bc Z mi) pc = .ok (.irem, 1)) : qq_Snd Z mi pc (qo_d (fun x y => x - x / y * y)) := by
  intro p e R s m args below meth c A cells slots Q loc st M cx h H locs ls hl hP hD hS
  unfold qo_d at h
  split at h
  · exact lv_irem cx.1 cx.2.1 hd h.1 (h.2 H locs ls hl hP hD hS)
  · exact h.elim
theorem qs_ineg (hd : decode (z_bc Z mi) pc = .ok (.ineg, 1)) : qq_Snd Z mi pc (qo_u (fun x => -x)) := by
  intro p e R s m args below meth c A cells slots Q loc st M cx h H locs ls hl hP hD hS
  unfold qo_u at h
  split at h
  · exact lv_ineg cx.1 cx.2.1 hd (h H locs ls hl hP hD hS)
  · exact h.elim
theorem qs_dup (hd : decode (z_bc Z mi) pc = .ok (.dup, 1)) : qq_Snd Z mi pc qo_dup := by
  intro p e R s m args below meth c A cells slots Q loc st M cx h H locs ls hl hP hD hS
  unfold qo_dup at h
  split at h
  · exact lv_dup cx.1 cx.2.1 hd (by rw [qv_cat]; exact h.1) (h.2 H locs ls hl hP hD hS)
  · exact h.elim
theorem qs_pop (hd : decode (z_bc Z mi) pc = .ok (.pop, 1)) : qq_Snd Z mi pc qo_pop := by
  intro p e R s m args below meth c A cells slots Q loc st M cx h H locs ls hl hP hD hS
  unfold qo_pop at h
  split at h
  · rename_i v r
    exact lv_pop (va := qv (z_a Z) v) cx.1 cx.2.1 hd (by rw [qv_cat]; exact h.1) (h.2 H locs ls hl hP hD hS)
  · exact h.elim
theorem qs_dup2 (hd : decode (z_bc Z mi) pc = .ok (.dup2, 1)) : qq_Snd Z mi pc qo_dup2 := by
  intro p e R s m args below meth c A cells slots Q loc st M cx h H locs ls hl hP hD hS
  unfold qo_dup2 at h
  split at h
  · exact lv_dup2_11 cx.1 cx.2.1 hd (by rw [qv_cat]; exact h.1) (by rw [qv_cat]; exact h.2.1) (h.2.2 H locs ls hl hP hD hS)
  · exact h.elim
theorem qs_dup_x1 (hd : decode (z_bc Z mi) pc = .ok (.dup_x1, 1)) : qq_Snd Z mi pc qo_dx1 := by
  intro p e R s m args below meth c A cells slots Q loc st M cx h H locs ls hl hP hD hS
  unfold qo_dx1 at h
  split at h
  · exact lv_dup_x1 cx.1 cx.2.1 hd (by rw [qv_cat]; exact h.1) (by rw [qv_cat]; exact h.2.1) (h.2.2 H locs ls hl hP hD hS)
  · exact h.elim
theorem qs_dup_x2 (hd : decode (z_bc Z mi) pc = .ok (.dup_x2, 1)) : qq_Snd Z mi pc qo_dx2 := by
  intro p e R s m args below meth c A cells slots Q loc st M cx h H locs ls hl hP hD hS
  unfold qo_dx2 at h
  split at h
  · exact lv_dup_x2 cx.1 cx.2.1 hd (by rw [qv_cat]; exact h.1) (by rw [qv_cat]; exact h.2.1) (by rw [qv_cat]; exact h.2.2.1) (h.2.2.2 H locs ls hl hP hD hS)
  · exact h.elim
theorem qs_if_eq {off : Int} {t : Nat} (hd : decode (z_bc Z mi) pc = .ok (.ifCond .eq off, 3)) (ht : (pc : Int) + off = (t : Int)) : qq_Snd Z mi pc (qo_z (fun x => x = 0) t) := by
  intro p e R s m args below meth c A cells slots Q loc st M cx h H locs ls hl hP hD hS
  unfold qo_z at h
  split at h
  · exact lv_if_eq cx.1 cx.2.1 hd ht (fun q => h.1 q H locs ls hl hP hD hS) (fun q => h.2 q H locs ls hl hP hD hS)
  · exact h.elim
theorem qs_if_ne {off : Int} {t : Nat} (hd : decode (z_bc Z mi) pc = .ok (.ifCond .ne off, 3)) (ht : (pc : Int) + off = (t : Int)) : qq_Snd Z mi pc (qo_z (fun x => ¬ x = 0) t) := by
  intro p e R s m args below meth c A cells slots Q loc st M cx h H locs ls hl hP hD hS
  unfold qo_z at h
  split at h
  · exact lv_if_ne cx.1 cx.2.1 hd ht (fun q => h.1 q H locs ls hl hP hD hS) (fun q => h.2 (fun n => n q) H locs ls hl hP hD hS)
  · exact h.elim
theorem qs_if_lt {off : Int} {t : Nat} (hd : decode (z_bc Z mi) pc = .ok (.ifCond .lt off, 3)) (ht : (pc : Int) + off = (t : Int)) : qq_Snd Z mi pc (qo_z (fun x => x < 0) t) := by
  intro p e R s m args below meth c A cells slots Q loc st M cx h H locs ls hl hP hD hS
  unfold qo_z at h
  split at h
  · exact lv_if_lt cx.1 cx.2.1 hd ht (fun q => h.1 q H locs ls hl hP hD hS) (fun q => h.2 q H locs ls hl hP hD hS)
  · exact h.elim
theorem qs_if_ge {off : Int} {t : Nat} (hd : decode (z_bc Z mi) pc = .ok (.ifCond .ge off, 3)) (ht : (pc : Int) + off = (t : Int)) : qq_Snd Z mi pc (qo_z (fun x => 0 ≤ x) t) := by
  intro p e R s m args below meth c A cells slots Q loc st M cx h H locs ls hl hP hD hS
  unfold qo_z at h
  split at h
  · exact lv_if_ge cx.1 cx.2.1 hd ht (fun q => h.1 q H locs ls hl hP hD hS) (fun q => h.2 q H locs ls hl hP hD hS)
  · exact h.elim
theorem qs_if_gt {off : Int} {t : Nat} (hd : decode (z_bc Z mi) pc = .ok (.ifCond .gt off, 3)) (ht : (pc : Int) + off = (t : Int)) : qq_Snd Z mi pc (qo_z (fun x => 0 < x) t) := by
  intro p e R s m args below meth c A cells slots Q loc st M cx h H locs ls hl hP hD hS
  unfold qo_z at h
  split at h
  · exact lv_if_gt cx.1 cx.2.1 hd ht (fun q => h.1 q H locs ls hl hP hD hS) (fun q => h.2 q H locs ls hl hP hD hS)
  · exact h.elim
theorem qs_if_le {off : Int} {t : Nat} (hd : decode (z_bc Z mi) pc = .ok (.ifCond .le off, 3)) (ht : (pc : Int) + off = (t : Int)) : qq_Snd Z mi pc (qo_z (fun x => x ≤ 0) t) := by
  intro p e R s m args below meth c A cells slots Q loc st M cx h H locs ls hl hP hD hS
  unfold qo_z at h
  split at h
  · exact lv_if_le cx.1 cx.2.1 hd ht (fun q => h.1 q H locs ls hl hP hD hS) (fun q => h.2 q H locs ls hl hP hD hS)
  · exact h.elim
theorem qs_icmp_eq {off : Int} {t : Nat} (hd : decode (z_bc Z mi) pc = .ok (.if_icmp .eq off, 3)) (ht : (pc : Int) + off = (t : Int)) : qq_Snd Z mi pc (qo_c (fun x y => x = y) t) := by
  intro p e R s m args below meth c A cells slots Q loc st M cx h H locs ls hl hP hD hS
  unfold qo_c at h
  split at h
  · exact lv_icmp_eq cx.1 cx.2.1 hd ht (fun q => h.1 q H locs ls hl hP hD hS) (fun q => h.2 q H locs ls hl hP hD hS)
  · exact h.elim
theorem qs_icmp_ne {off : Int} {t : Nat} (hd : decode (z_bc Z mi) pc = .ok (.if_icmp .ne off, 3)) (ht : (pc : Int) + off = (t : Int)) : qq_Snd Z mi pc (qo_c (fun x y => ¬ x = y) t) := by
  intro p e R s m args below meth c A cells slots Q loc st M cx h H locs ls hl hP hD hS
  unfold qo_c at h
  split at h
  · exact lv_icmp_ne cx.1 cx.2.1 hd ht (fun q => h.1 q H locs ls hl hP hD hS) (fun q => h.2 (fun n => n q) H locs ls hl hP hD hS)
  · exact h.elim
theorem qs_icmp_lt {off : Int} {t : Nat} (hd : decode (z_bc Z mi) pc = .ok (.if_icmp .lt off, 3)) (ht : (pc : Int) + off = (t : Int)) : qq_Snd Z mi pc (qo_c (fun x y => x < y) t) := by
  intro p e R s m args below meth c A cells slots Q loc st M cx h H locs ls hl hP hD hS
  unfold qo_c at h
  split at h
  · exact lv_icmp_lt cx.1 cx.2.1 hd ht (fun q => h.1 q H locs ls hl hP hD hS) (fun q => h.2 q H locs ls hl hP hD hS)
  · exact h.elim
theorem qs_icmp_ge {off : Int} {t : Nat} (hd : decode (z_bc Z mi) pc = .ok (.if_icmp .ge off, 3)) (ht : (pc : Int) + off = (t : Int)) : qq_Snd Z mi pc (qo_c (fun x y => y ≤ x) t) := by
  intro p e R s m args below meth c A cells slots Q loc st M cx h H locs ls hl hP hD hS
  unfold qo_c at h
  split at h
  · exact lv_icmp_ge cx.1 cx.2.1 hd ht (fun q => h.1 q H locs ls hl hP hD hS) (fun q => h.2 q H locs ls hl hP hD hS)
  · exact h.elim
theorem qs_icmp_gt {off : Int} {t : Nat} (hd : decode (z_bc Z mi) pc = .ok (.if_icmp .gt off, 3)) (ht : (pc : Int) + off = (t : Int)) : qq_Snd Z mi pc (qo_c (fun x y => y < x) t) := by
  intro p e R s m args below meth c A cells slots Q loc st M cx h H locs ls hl hP hD hS
  unfold qo_c at h
  split at h
  · exact lv_icmp_gt cx.1 cx.2.1 hd ht (fun q => h.1 q H locs ls hl hP hD hS) (fun q => h.2 q H locs ls hl hP hD hS)
  · exact h.elim
theorem qs_icmp_le {off : Int} {t : Nat} (hd : decode (z_bc Z mi) pc = .ok (.if_icmp .le off, 3)) (ht : (pc : Int) + off = (t : Int)) : qq_Snd Z mi pc (qo_c (fun x y => x ≤ y) t) := by
  intro p e R s m args below meth c A cells slots Q loc st M cx h H locs ls hl hP hD hS
  unfold qo_c at h
  split at h
  · exact lv_icmp_le cx.1 cx.2.1 hd ht (fun q => h.1 q H locs ls hl hP hD hS) (fun q => h.2 q H locs ls hl hP hD hS)
  · exact h.elim
theorem qs_goto {off : Int} {t : Nat} (hd : decode (z_bc Z mi) pc = .ok (.goto off, 3)) (ht : (pc : Int) + off = (t : Int)) : qq_Snd Z mi pc (qo_g t) := by
  intro p e R s m args below meth c A cells slots Q loc st M cx h H locs ls hl hP hD hS
  exact lv_goto cx.1 cx.2.1 hd ht (h H locs ls hl hP hD hS)
theorem qs_table {dflt lo hi : Int} {offs : Array Int} {len : Nat} {ts : List Nat} {t : Nat} (hd : decode (z_bc Z mi) pc = .ok (.tableswitch dflt lo hi offs, len)) (ht : (pc : Int) + dflt = (t : Int)) (hn : (offs.size : Int) = hi - lo + 1) (ho : offs.toList.map (fun o => (pc : Int) + o) = ts.map (fun (x : Nat) => (x : Int))) : qq_Snd Z mi pc (qo_sw lo ts t) := by
  intro p e R s m args below meth c A cells slots Q loc st M cx h H locs ls hl hP hD hS
  unfold qo_sw at h
  split at h
  · rename_i x r
    have hl1 : ts.length = offs.size := by have := congrArg List.length ho; simpa using this.symm
    by_cases h1 : x.toInt < lo
    · rw [if_pos h1] at h
      exact lv_tableOut cx.1 cx.2.1 hd (Or.inl h1) ht (h H locs ls hl hP hD hS)
    · rw [if_neg h1] at h
      by_cases h2 : hi < x.toInt
      · rw [List.getD_eq_getElem?_getD, List.getElem?_eq_none (by omega)] at h
        exact lv_tableOut cx.1 cx.2.1 hd (Or.inr h2) ht (h H locs ls hl hP hD hS)
      · have hj : (x.toInt - lo).toNat < ts.length := by omega
        have hj2 : (x.toInt - lo).toNat < offs.size := by omega
        have he : (offs.toList.map (fun o => (pc : Int) + o))[(x.toInt - lo).toNat]? = (ts.map (fun (x : Nat) => (x : Int)))[(x.toInt - lo).toNat]? := by rw [ho]
        rw [List.getElem?_map, List.getElem?_map, List.getElem?_eq_getElem hj, Array.getElem?_toList, Array.getElem?_eq_getElem hj2] at he
        rw [List.getD_eq_getElem?_getD, List.getElem?_eq_getElem hj] at h
        exact lv_tableIn cx.1 cx.2.1 hd h1 h2 (Array.getElem?_eq_getElem hj2) (by simpa using he) (h H locs ls hl hP hD hS)
  · exact h.elim
theorem qs_ss {index z : Nat} {C n d : String} (hd : decode (z_bc Z mi) pc = .ok (.getstatic index, 3)) (hZ : ∀ A U H, z_St Z A U H → va_Z C n d (.ref (z_a Z z)) A U H) (hl0 : Cond.fieldLink (z_y Z mi).cls index C n d ∈ z_Ts Z) : qq_Snd Z mi pc (qo_ss z) := by
  intro p e R s m args below meth c A cells slots Q loc st M cx h H locs ls hl hP hD hS
  exact va_gets cx.1 cx.2.1 (hZ _ _ _ cx.2.2.2.2.2.2.2.1) hS cx.2.2.2.1 (cx.2.2.2.2.1 _ hl0) (fun _ h9 => h9) hd (h H locs ls hl hP hD hS)
theorem qs_ssN {index z : Nat} {C n d host : String} (hd : decode (z_bc Z mi) pc = .ok (.getstatic index, 3)) (hZ : ∀ A U H, z_St Z A U H → va_Z C n d (.ref (z_a Z z)) A U H) (hl0 : Cond.fieldLinkNest (z_y Z mi).cls index C n d host ∈ z_Ts Z) : qq_Snd Z mi pc (qo_ss z) := by
  intro p e R s m args below meth c A cells slots Q loc st M cx h H locs ls hl hP hD hS
  exact va_getsN cx.1 cx.2.1 (hZ _ _ _ cx.2.2.2.2.2.2.2.1) hS cx.2.2.2.1 (cx.2.2.2.2.1 _ hl0) (fun _ h9 => h9) hd (h H locs ls hl hP hD hS)
theorem qs_get {index ci j : Nat} {C : String} {T : u_T} {n : Nat} (hd : decode (z_bc Z mi) pc = .ok (.getfield index, 3)) (hOK : qq_OK Z) (hc : (z_cl Z)[ci]? = some (C, T, n)) (hin : ∀ w ∈ u_ws C T n, w ∈ z_Ts Z) (hk : j < n) (hl0 : Cond.fieldLink (z_y Z mi).cls index (T j).1 (T j).2.1 (T j).2.2.1 ∈ z_Ts Z) : qq_Snd Z mi pc (qo_get (z_lay Z) ci j) := by
  intro p e R s m args below meth c A cells slots Q loc st M cx h H locs ls hl hP hD hS
  unfold qo_get at h
  split at h
  · rename_i q r
    split at h
    · rename_i x hx
      obtain ⟨hx1, h⟩ := h
      subst hx1
      have hN : q < z_N Z := hOK.1 q (by rw [hx]; trivial)
      have he : (qw Z M)[q]? = some (z_a Z q, .inr (x.1, qv_F (z_a Z) (M q) x.2 0)) := by rw [qw_at M hN, hx]; rfl
      split at h
      · rename_i hj
        have hv := qv_F_int (a := z_a Z) (g := M q) x.2 0 j hj
        rw [Nat.zero_add] at hv
        exact va_get cx.1 cx.2.1 cx.2.2.2.2.1 hin cx.2.2.2.1 cx.2.2.2.2.2.1 hP q he hc j hk (cx.2.2.2.2.1 _ hl0) (fun _ h9 => h9) hv hd (h H locs ls hl hP hD hS)
      · rename_i z hj
        exact va_get cx.1 cx.2.1 cx.2.2.2.2.1 hin cx.2.2.2.1 cx.2.2.2.2.2.1 hP q he hc j hk (cx.2.2.2.2.1 _ hl0) (fun _ h9 => h9) (qv_F_ref x.2 0 j hj) hd (h H locs ls hl hP hD hS)
      · exact h.elim
    · exact h.elim
  · exact h.elim
theorem qs_put {index ci j : Nat} {C : String} {T : u_T} {n : Nat} (hd : decode (z_bc Z mi) pc = .ok (.putfield index, 3)) (hOK : qq_OK Z) (hc : (z_cl Z)[ci]? = some (C, T, n)) (hin : ∀ w ∈ u_ws C T n, w ∈ z_Ts Z) (ty0 : Nat → FieldType) (hty : ∀ k, k < n → parseFieldDescriptor (T k).2.2.1 = some (ty0 k)) (hnm : ∀ a, a < n → ∀ b, b < n → a ≠ b → (T a).2.1 ≠ (T b).2.1) (hk : j < n) (hfin : (T j).2.2.2 = false) (hint : parseFieldDescriptor (T j).2.2.1 = some .int) (hl0 : Cond.fieldLink (z_y Z mi).cls index (T j).1 (T j).2.1 (T j).2.2.1 ∈ z_Ts Z) : qq_Snd Z mi pc (qo_put (z_lay Z) ci j) := by
  intro p e R s m args below meth c A cells slots Q loc st M cx h H locs ls hl hP hD hS
  unfold qo_put at h
  split at h
  · rename_i v q r
    split at h
    · rename_i x hx
      obtain ⟨hx1, hj, h⟩ := h
      subst hx1
      have hN : q < z_N Z := hOK.1 q (by rw [hx]; trivial)
      have he : (qw Z M)[q]? = some (z_a Z q, .inr (x.1, qv_F (z_a Z) (M q) x.2 0)) := by rw [qw_at M hN, hx]; rfl
      have hs : (qw Z M).set q (z_a Z q, .inr (x.1, (qv_F (z_a Z) (M q) x.2 0).set j (.int v))) = qw Z (va_up M q (upd (M q) j v)) := by
        refine qw_set hN ?_
        rw [hx, qv_F_set x.2 0 j hj, Nat.zero_add]
        rfl
      refine va_put (ty := .int) (v := .int v) cx.1 cx.2.1 cx.2.2.2.2.1 hin ty0 hty hnm cx.2.2.2.1 cx.2.2.2.2.2.1 hP hD hS q he hc j hk (cx.2.2.2.2.1 _ hl0) (fun _ h9 => h9) hfin hint rfl rfl (by rw [qv_F_len]; exact (List.getElem?_eq_some_iff.mp hj).1) hd (fun H1 locs1 hP1 hD1 hS1 => ?_)
      rw [hs] at hP1 hD1
      exact h H1 locs1 ls hl hP1 hD1 hS1
    · exact h.elim
  · exact h.elim
theorem qs_getN {index ci j : Nat} {C : String} {T : u_T} {n : Nat} {host : String} (hd : decode (z_bc Z mi) pc = .ok (.getfield index, 3)) (hOK : qq_OK Z) (hc : (z_cl Z)[ci]? = some (C, T, n)) (hin : ∀ w ∈ u_ws C T n, w ∈ z_Ts Z) (hk : j < n) (hl0 : Cond.fieldLinkNest (z_y Z mi).cls index (T j).1 (T j).2.1 (T j).2.2.1 host ∈ z_Ts Z) : qq_Snd Z mi pc (qo_get (z_lay Z) ci j) := by
  intro p e R s m args below meth c A cells slots Q loc st M cx h H locs ls hl hP hD hS
  unfold qo_get at h
  split at h
  · rename_i q r
    split at h
    · rename_i x hx
      obtain ⟨hx1, h⟩ := h
      subst hx1
      have hN : q < z_N Z := hOK.1 q (by rw [hx]; trivial)
      have he : (qw Z M)[q]? = some (z_a Z q, .inr (x.1, qv_F (z_a Z) (M q) x.2 0)) := by rw [qw_at M hN, hx]; rfl
      split at h
      · rename_i hj
        have hv := qv_F_int (a := z_a Z) (g := M q) x.2 0 j hj
        rw [Nat.zero_add] at hv
        exact va_getN cx.1 cx.2.1 cx.2.2.2.2.1 hin cx.2.2.2.1 cx.2.2.2.2.2.1 hP q he hc j hk (cx.2.2.2.2.1 _ hl0) (fun _ h9 => h9) hv hd (h H locs ls hl hP hD hS)
      · rename_i z hj
        exact va_getN cx.1 cx.2.1 cx.2.2.2.2.1 hin cx.2.2.2.1 cx.2.2.2.2.2.1 hP q he hc j hk (cx.2.2.2.2.1 _ hl0) (fun _ h9 => h9) (qv_F_ref x.2 0 j hj) hd (h H locs ls hl hP hD hS)
      · exact h.elim
    · exact h.elim
  · exact h.elim
theorem qs_putN {index ci j : Nat} {C : String} {T : u_T} {n : Nat} {host : String} (hd : decode (z_bc Z mi) pc = .ok (.putfield index, 3)) (hOK : qq_OK Z) (hc : (z_cl Z)[ci]? = some (C, T, n)) (hin : ∀ w ∈ u_ws C T n, w ∈ z_Ts Z) (ty0 : Nat → FieldType) (hty : ∀ k, k < n → parseFieldDescriptor (T k).2.2.1 = some (ty0 k)) (hnm : ∀ a, a < n → ∀ b, b < n → a ≠ b → (T a).2.1 ≠ (T b).2.1) (hk : j < n) (hfin : (T j).2.2.2 = false) (hint : parseFieldDescriptor (T j).2.2.1 = some .int) (hl0 : Cond.fieldLinkNest (z_y Z mi).cls index (T j).1 (T j).2.1 (T j).2.2.1 host ∈ z_Ts Z) : qq_Snd Z mi pc (qo_put (z_lay Z) ci j) := by
  intro p e R s m args below meth c A cells slots Q loc st M cx h H locs ls hl hP hD hS
  unfold qo_put at h
  split at h
  · rename_i v q r
    split at h
    · rename_i x hx
      obtain ⟨hx1, hj, h⟩ := h
      subst hx1
      have hN : q < z_N Z := hOK.1 q (by rw [hx]; trivial)
      have he : (qw Z M)[q]? = some (z_a Z q, .inr (x.1, qv_F (z_a Z) (M q) x.2 0)) := by rw [qw_at M hN, hx]; rfl
      have hs : (qw Z M).set q (z_a Z q, .inr (x.1, (qv_F (z_a Z) (M q) x.2 0).set j (.int v))) = qw Z (va_up M q (upd (M q) j v)) := by
        refine qw_set hN ?_
        rw [hx, qv_F_set x.2 0 j hj, Nat.zero_add]
        rfl
      refine va_putN (ty := .int) (v := .int v) cx.1 cx.2.1 cx.2.2.2.2.1 hin ty0 hty hnm cx.2.2.2.1 cx.2.2.2.2.2.1 hP hD hS q he hc j hk (cx.2.2.2.2.1 _ hl0) (fun _ h9 => h9) hfin hint rfl rfl (by rw [qv_F_len]; exact (List.getElem?_eq_some_iff.mp hj).1) hd (fun H1 locs1 hP1 hD1 hS1 => ?_)
      rw [hs] at hP1 hD1
      exact h H1 locs1 ls hl hP1 hD1 hS1
    · exact h.elim
  · exact h.elim
theorem qs_ia (hd : decode (z_bc Z mi) pc = .ok (.iaload, 1)) (hOK : qq_OK Z) : qq_Snd Z mi pc (qo_ia (z_lay Z)) := by
  intro p e R s m args below meth c A cells slots Q loc st M cx h H locs ls hl hP hD hS
  unfold qo_ia at h
  split at h
  · rename_i i q r
    split at h
    · rename_i x hx
      obtain ⟨t, n⟩ := x
      obtain ⟨ht, hin, h⟩ := h
      dsimp only at ht hin
      subst ht
      have hN : q < z_N Z := hOK.1 q (by rw [hx]; trivial)
      have he : (qw Z M)[q]? = some (z_a Z q, .inl (z_ca Z 0, n, .inl (M q))) := by rw [qw_at M hN, hx]; rfl
      exact va_iald cx.1 cx.2.1 cx.2.2.2.2.2.1 hP q 0 he hOK.2.1 hin hd (h H locs ls hl hP hD hS)
    · rename_i x hx
      exact va_ti cx.1 cx.2.1 (hOK.2.2.2.2.2.2.2.2 _ _ _ q x cx.2.2.2.2.2.2.2.1 hx) hS h.1 rfl hd (h.2 H locs ls hl hP hD hS)
    · exact h.elim
  · exact h.elim
theorem qs_za (hd : decode (z_bc Z mi) pc = .ok (.baload, 1)) (hOK : qq_OK Z) : qq_Snd Z mi pc (qo_za (z_lay Z)) := by
  intro p e R s m args below meth c A cells slots Q loc st M cx h H locs ls hl hP hD hS
  unfold qo_za at h
  split at h
  · rename_i i q r
    split at h
    · rename_i x hx
      obtain ⟨t, n⟩ := x
      obtain ⟨ht, hin, h⟩ := h
      dsimp only at ht hin
      subst ht
      have hN : q < z_N Z := hOK.1 q (by rw [hx]; trivial)
      have he : (qw Z M)[q]? = some (z_a Z q, .inl (z_ca Z 1, n, .inl (M q))) := by rw [qw_at M hN, hx]; rfl
      exact va_zald cx.1 cx.2.1 cx.2.2.2.2.2.1 hP q 1 he hOK.2.2.1 hin hd (h H locs ls hl hP hD hS)
    · exact h.elim
  · exact h.elim
theorem qs_ias (hd : decode (z_bc Z mi) pc = .ok (.iastore, 1)) (hOK : qq_OK Z) : qq_Snd Z mi pc (qo_ias (z_lay Z)) := by
  intro p e R s m args below meth c A cells slots Q loc st M cx h H locs ls hl hP hD hS
  unfold qo_ias at h
  split at h
  · rename_i v i q r
    split at h
    · rename_i x hx
      obtain ⟨t, n⟩ := x
      obtain ⟨ht, hin, h⟩ := h
      dsimp only at ht hin
      subst ht
      have hN : q < z_N Z := hOK.1 q (by rw [hx]; trivial)
      have he : (qw Z M)[q]? = some (z_a Z q, .inl (z_ca Z 0, n, .inl (M q))) := by rw [qw_at M hN, hx]; rfl
      have hs : (qw Z M).set q (z_a Z q, .inl (z_ca Z 0, n, .inl (upd (M q) i.toNatClampNeg v))) = qw Z (va_up M q (upd (M q) i.toNatClampNeg v)) := qw_set hN (by rw [hx]; rfl)
      refine va_iast cx.1 cx.2.1 cx.2.2.2.2.2.1 hP hD hS q 0 he hOK.2.1 hin hd (fun H1 locs1 hP1 hD1 hS1 => ?_)
      rw [hs] at hP1 hD1
      exact h H1 locs1 ls hl hP1 hD1 hS1
    · exact h.elim
  · exact h.elim
theorem qs_zas (hd : decode (z_bc Z mi) pc = .ok (.bastore, 1)) (hOK : qq_OK Z) : qq_Snd Z mi pc (qo_zas (z_lay Z)) := by
  intro p e R s m args below meth c A cells slots Q loc st M cx h H locs ls hl hP hD hS
  unfold qo_zas at h
  split at h
  · rename_i v i q r
    split at h
    · rename_i x hx
      obtain ⟨t, n⟩ := x
      obtain ⟨ht, hin, h⟩ := h
      dsimp only at ht hin
      subst ht
      have hN : q < z_N Z := hOK.1 q (by rw [hx]; trivial)
      have he : (qw Z M)[q]? = some (z_a Z q, .inl (z_ca Z 1, n, .inl (M q))) := by rw [qw_at M hN, hx]; rfl
      have hs : (qw Z M).set q (z_a Z q, .inl (z_ca Z 1, n, .inl (upd (M q) i.toNatClampNeg (vp_nar .boolean v)))) = qw Z (va_up M q (upd (M q) i.toNatClampNeg (vp_nar .boolean v))) := qw_set hN (by rw [hx]; rfl)
      refine va_zast cx.1 cx.2.1 cx.2.2.2.2.2.1 hP hD hS q 1 he hOK.2.2.1 hin hd (fun H1 locs1 hP1 hD1 hS1 => ?_)
      rw [hs] at hP1 hD1
      exact h H1 locs1 ls hl hP1 hD1 hS1
    · exact h.elim
  · exact h.elim
theorem qs_aa (hd : decode (z_bc Z mi) pc = .ok (.aaload, 1)) (hOK : qq_OK Z) : qq_Snd Z mi pc (qo_aa (z_lay Z)) := by
  intro p e R s m args below meth c A cells slots Q loc st M cx h H locs ls hl hP hD hS
  unfold qo_aa at h
  split at h
  · rename_i i q r
    split at h
    · rename_i x hx
      obtain ⟨hin, h⟩ := h
      split at h
      · rename_i z hz
        have hN : q < z_N Z := hOK.1 q (by rw [hx]; trivial)
        obtain ⟨T, hT, hR⟩ := hOK.2.2.2.2.1 q x hx
        have he : (qw Z M)[q]? = some (z_a Z q, .inl (z_ca Z x.1, x.2.1, .inr (.inr (.inr (.inr (fun j => (x.2.2 j).map (z_a Z))))))) := by rw [qw_at M hN, hx]; rfl
        have hlt : i.toNatClampNeg < x.2.1 := Nat.not_le.mp fun q => hin (Or.inr q)
        exact W.aald (v := .ref (z_a Z z)) (ty := T) cx.1 cx.2.1 (hP q _ he) ((cx.2.2.2.2.2.1.2 x.1 _ hT).1 x.2.1 (fun j => va_rf ((x.2.2 j).map (z_a Z)))) hR (fun q => by cases q) (by show ¬ (i < 0 ∨ (arrV _ _ _).slots.size ≤ _); rw [arrV_size]; exact hin) (by show (arrV _ _ _).slots[_]? = _; rw [arrV_read _ _ hlt]; show some (va_rf ((x.2.2 i.toNatClampNeg).map (z_a Z))) = _; rw [hz]; rfl) rfl rfl hd (h H locs ls hl hP hD hS)
      · exact h.elim
    · exact h.elim
  · exact h.elim
theorem qs_len (hd : decode (z_bc Z mi) pc = .ok (.arraylength, 1)) (hOK : qq_OK Z) : qq_Snd Z mi pc (qo_len (z_lay Z)) := by
  intro p e R s m args below meth c A cells slots Q loc st M cx h H locs ls hl hP hD hS
  unfold qo_len at h
  split at h
  · rename_i q r
    split at h
    · rename_i x hx
      have hN : q < z_N Z := hOK.1 q (by rw [hx]; trivial)
      obtain ⟨T, hT⟩ := hOK.2.2.2.1 q x hx
      have he : (qw Z M)[q]? = some (z_a Z q, .inl (z_ca Z x.1, x.2, .inl (M q))) := by rw [qw_at M hN, hx]; rfl
      exact va_alen cx.1 cx.2.1 cx.2.2.2.2.2.1 hP q x.1 he hT rfl hd (h H locs ls hl hP hD hS)
    · rename_i x hx
      have hN : q < z_N Z := hOK.1 q (by rw [hx]; trivial)
      obtain ⟨T, hT, -⟩ := hOK.2.2.2.2.1 q x hx
      have he : (qw Z M)[q]? = some (z_a Z q, .inl (z_ca Z x.1, x.2.1, .inr (.inr (.inr (.inr (fun j => (x.2.2 j).map (z_a Z))))))) := by rw [qw_at M hN, hx]; rfl
      exact va_alen cx.1 cx.2.1 cx.2.2.2.2.2.1 hP q x.1 he hT rfl hd (h H locs ls hl hP hD hS)
    · rename_i x hx
      exact va_tlen cx.1 cx.2.1 (hOK.2.2.2.2.2.2.2.2 _ _ _ q x cx.2.2.2.2.2.2.2.1 hx) hS rfl hd (h H locs ls hl hP hD hS)
    · exact h.elim
  · exact h.elim
theorem qs_mmax {index : Nat} (hd : decode (z_bc Z mi) pc = .ok (.invokestatic index, 3)) (hl0 : Cond.methodLink (z_y Z mi).cls index Lib.Math.max.name ∈ z_Ts Z) (hst : Cond.static Lib.Math.max.name ∈ z_Ts Z) (hini : Cond.initialized "java/lang/Math" ∈ z_Ts Z) (hcode : Cond.code Lib.Math.max.name Lib.Math.max.code 2 (some .int) ∈ z_Ts Z) (hf : 1 ≤ z_fr Z mi) (hlo : 21 ≤ z_lo Z mi) : qq_Snd Z mi pc qo_mx := by
  intro p e R s m args below meth c A cells slots Q loc st M cx h H locs ls hl hP hD hS
  unfold qo_mx at h
  split at h
  · rename_i y x r
    have hr := h.1
    have hR := cx.2.2.2.2.2.2.2.2.1
    have hcs := cx.2.2.2.2.2.2.2.2.2.2.2
    exact va_mmax cx.1 cx.2.1 (cx.2.2.1.trans hl.1.symm) cx.2.2.2.1 (cx.2.2.2.2.1 _ hl0) (cx.2.2.2.2.1 _ hst) (cx.2.2.2.2.1 _ hini) (cx.2.2.2.2.1 _ hcode) (Nat.le_trans hf hR.1) (by rw [qv_cats]; omega) hcs.1 hcs.2 hd (h.2 H locs ls hl hP hD hS)
  · exact h.elim
theorem qs_mmin {index : Nat} (hd : decode (z_bc Z mi) pc = .ok (.invokestatic index, 3)) (hl0 : Cond.methodLink (z_y Z mi).cls index Lib.Math.min.name ∈ z_Ts Z) (hst : Cond.static Lib.Math.min.name ∈ z_Ts Z) (hini : Cond.initialized "java/lang/Math" ∈ z_Ts Z) (hcode : Cond.code Lib.Math.min.name Lib.Math.min.code 2 (some .int) ∈ z_Ts Z) (hf : 1 ≤ z_fr Z mi) (hlo : 21 ≤ z_lo Z mi) : qq_Snd Z mi pc qo_mn := by
  intro p e R s m args below meth c A cells slots Q loc st M cx h H locs ls hl hP hD hS
  unfold qo_mn at h
  split at h
  · rename_i y x r
    have hr := h.1
    have hR := cx.2.2.2.2.2.2.2.2.1
    have hcs := cx.2.2.2.2.2.2.2.2.2.2.2
    exact va_mmin cx.1 cx.2.1 (cx.2.2.1.trans hl.1.symm) cx.2.2.2.1 (cx.2.2.2.2.1 _ hl0) (cx.2.2.2.2.1 _ hst) (cx.2.2.2.2.1 _ hini) (cx.2.2.2.2.1 _ hcode) (Nat.le_trans hf hR.1) (by rw [qv_cats]; omega) hcs.1 hcs.2 hd (h.2 H locs ls hl hP hD hS)
  · exact h.elim
theorem qs_cp {index : Nat} (hd : decode (z_bc Z mi) pc = .ok (.invokestatic index, 3)) (hOK : qq_OK Z) (hl0 : Cond.methodLink (z_y Z mi).cls index arraycopyName ∈ z_Ts Z) (hnat : Cond.native arraycopyName ∈ z_Ts Z) (hst : Cond.static arraycopyName ∈ z_Ts Z) (hini : Cond.initialized "java/lang/System" ∈ z_Ts Z) (hf : 1 ≤ z_fr Z mi) (hlo : 8 + (nativeFrameWords "java/lang/System" "arraycopy" 5 + 11) ≤ z_lo Z mi) : qq_Snd Z mi pc (qo_cp (z_lay Z)) := by
  intro p e R s m args below meth c A cells slots Q loc st M cx h H locs ls hl hP hD hS
  unfold qo_cp at h
  split at h
  · rename_i n dp q1 sp q0 r
    split at h
    · rename_i x0 x1 h0 h1
      obtain ⟨t0, n0⟩ := x0
      obtain ⟨t1, n1⟩ := x1
      obtain ⟨ht0, ht1, hr, hs1, hs2, hs3, hs4, hs5, h⟩ := h
      dsimp only at ht0 ht1 hs4 hs5
      subst ht0
      subst ht1
      have hR := cx.2.2.2.2.2.2.2.2.1
      have hN0 : q0 < z_N Z := hOK.1 q0 (by rw [h0]; trivial)
      have hN1 : q1 < z_N Z := hOK.1 q1 (by rw [h1]; trivial)
      have he0 : (qw Z M)[q0]? = some (z_a Z q0, .inl (z_ca Z 0, n0, .inl (M q0))) := by rw [qw_at M hN0, h0]; rfl
      have he1 : (qw Z M)[q1]? = some (z_a Z q1, .inl (z_ca Z 0, n1, .inl (M q1))) := by rw [qw_at M hN1, h1]; rfl
      have hs : (qw Z M).set q1 (z_a Z q1, .inl (z_ca Z 0, n1, .inl (va_cpy (M q0) (M q1) sp.toNatClampNeg dp.toNatClampNeg n.toNatClampNeg))) = qw Z (va_up M q1 (va_cpy (M q0) (M q1) sp.toNatClampNeg dp.toNatClampNeg n.toNatClampNeg)) := qw_set hN1 (by rw [h1]; rfl)
      refine va_copyi (ty := .int) cx.1 cx.2.1 (cx.2.2.1.trans hl.1.symm) cx.2.2.2.1 (cx.2.2.2.2.1 _ hl0) (cx.2.2.2.2.1 _ hnat) (cx.2.2.2.2.1 _ hst) (cx.2.2.2.2.1 _ hini) cx.2.2.2.2.2.1 hP hD hS q0 q1 0 0 he0 he1 hOK.2.1 hOK.2.1 rfl hs1 hs2 hs3 hs4 hs5 (fun _ _ => rfl) (Nat.le_trans hf hR.1) (by rw [qv_cats]; omega) hd (fun H1 locs1 hP1 hD1 hS1 => ?_)
      rw [hs] at hP1 hD1
      exact h H1 locs1 ls hl hP1 hD1 hS1
    · exact h.elim
  · exact h.elim
end QROWS
end
section
/-! What the abstract machine says of a method is its contract. -/
def qq_ws (Z : qZ) (mj : Nat) : List Cond := .code (z_y Z mj) (z_bc Z mj) (z_mx Z mj) (z_rt Z mj) :: z_Ts Z
def qq_rm (Z : qZ) (mj : Nat) : Room := { frames := z_fr Z mj, cells := 0, slots := 0, locals := z_lo Z mj }
def qq_Pc (Z : qZ) (vs : List Value) (M : qM) (sz : Nat) : Array Value → State → Prop :=
  va_Pc (vs.map (qv (z_a Z))) (fun U => U.heap.size = sz ∧ va_P (z_D Z) (z_cl Z) (qw Z M) U.heap ∧ va_K (z_D Z) (z_cl Z) (z_ty Z) U ∧ va_D (fun _ => True) (qw Z M) ∧ z_St Z (va_A (qw Z M) sz) U U.heap)
def qq_Q (Z : qZ) (post : qR) (A : Nat → Prop) : Array Value → State → Outcome → State → Prop := fun _ st oc t =>
  (∃ (r : Option Value) (M : qM), oc = .returned (r.map (qv (z_a Z))) ∧ post r M ∧ va_P (z_D Z) (z_cl Z) (qw Z M) t.heap ∧ va_K (z_D Z) (z_cl Z) (z_ty Z) t ∧ va_D A (qw Z M)) ∧ va_F A st t
def qq_X (Z : qZ) : qX := fun mi pc loc st M post =>
  ∀ (p : Program) (e : Env) (R : Room) (s : State) (m : MethodId) (args : Array Value) (below : List Frame) (meth : Method) (c : Code) (A : Nat → Prop) (cells slots : Nat),
    qq_Cx Z mi p R s m args meth c A cells slots → qq_G Z mi p e R s m args below meth c A cells slots (MQ below (qq_Q Z post A) args s cells slots A) pc loc st M
/-- a call: the callee's contract is enough for it -/
def qq_SC (Z : qZ) (mi pc mj n : Nat) (rc : Option Nat) : Prop :=
  ∀ (p : Program) (e : Env) (R : Room) (s : State) (m : MethodId) (args : Array Value) (below : List Frame) (meth : Method) (c : Code) (A : Nat → Prop) (cells slots : Nat), qq_Cx Z mi p R s m args meth c A cells slots →
  ∀ (H : Heap) (locs : List Loc) (ls : Array Slot) (M : qM) (Pc : Array Value → State → Prop) (Qc : Array Value → State → Outcome → State → Prop) (free : Addr → Prop), Met (z_l Z) (z_y Z mj) (qq_ws Z mj) (qq_rm Z mj) Pc Qc 0 0 free →
  ∀ vs rest : List Value, vs.length = n → ls.size = z_mx Z mi → (rest.map fun v => v.category).sum ≤ 8 → qq_rcv (z_lay Z) rc vs → va_P (z_D Z) (z_cl Z) (qw Z M) H → FrameBlind Pc →
    (∀ U : State, U.heap = H → s.WarmedH U.vm → Pc (vs.map (qv (z_a Z))).toArray U) →
    va_Run p (z_l Z) e R s m args below meth c H locs cells slots 0 0 (F0 m pc ls ((vs.map (qv (z_a Z))).reverse ++ rest.map (qv (z_a Z)))) (rest.map (qv (z_a Z))) (Qc (vs.map (qv (z_a Z))).toArray) free
def qq_SR (Z : qZ) (mi pc b : Nat) : Prop :=
  (b = 0 ∧ decode (z_bc Z mi) pc = .ok (.return_, 1) ∧ z_rt Z mi = none) ∨ (b = 1 ∧ decode (z_bc Z mi) pc = .ok (.ireturn, 1) ∧ z_rt Z mi = some .int) ∨ (b = 2 ∧ decode (z_bc Z mi) pc = .ok (.ireturn, 1) ∧ z_rt Z mi = some .boolean)
theorem qq_Qmono {Z : qZ} {p p' : qR} {A : Nat → Prop} {av : Array Value} {st : State} {o : Outcome} {t : State} (hp : ∀ r M, p r M → p' r M) (h : qq_Q Z p A av st o t) : qq_Q Z p' A av st o t := by
  obtain ⟨⟨r, M, h1, h2, h3⟩, h4⟩ := h
  exact ⟨⟨r, M, h1, hp r M h2, h3⟩, h4⟩
theorem qq_met {Z : qZ} {mj : Nat} {vs : List Value} {M : qM} {post : qR} {sz : Nat} (hX : qq_X Z mj 0 (qq_ent (z_mx Z) mj vs) [] M post) (hpl : plainName (z_y Z mj).cls = true) (hc : ∀ v ∈ vs, v.category = 1) (hn : vs.length ≤ z_mx Z mj) :
    Met (z_l Z) (z_y Z mj) (qq_ws Z mj) (qq_rm Z mj) (qq_Pc Z vs M sz) (qq_Q Z post (va_A (qw Z M) sz)) 0 0 (va_A (qw Z M) sz) := by
  refine Met.ofW (cc := z_bc Z mj) (maxL := z_mx Z mj) (ret := z_rt Z mj) hpl rfl ?_
  intro p e s m args below meth c s₁ B hml hv
  obtain ⟨rfl, hsz, hP, hK, hD0, hSt⟩ := hv
  subst hsz
  have hts := atoms_spec (ws := qq_ws Z mj) B.pre
  obtain ⟨ls, hls, hl⟩ := qv_entry (a := z_a Z) (mx := z_mx Z) (mj := mj) hn rfl hc
  rw [lg_entry_eq, hls]
  exact hX p e _ s m _ below meth c _ 0 0 ⟨B.exec, B.bytes, hml, findClass_of_methodNamed B.named, fun w hw => hts w (List.mem_cons_of_mem _ hw), hK, fun q h => Or.inr h, hSt, ⟨Nat.le_refl _, Nat.le_refl _⟩, B.returns, B.notSynchronized, ⟨Nat.zero_le _, Nat.zero_le _⟩⟩ s.heap [] ls hl hP hD0.self va_S.rf
theorem qq_callW {Z : qZ} {p : Program} {l : Launch} {e : Env} {R : Room} {s : State} {m : MethodId} {args : Array Value} {below : List Frame} {meth : Method} {c : Code} {H : Heap} {locs : List Loc} {cells slots : Nat} {Q : State → Prop} {pc : Nat} {ls : Array Slot} {rest st0 : List Value} {av : Array Value} {A A1 : Nat → Prop} {H0 : Heap} {free : Addr → Prop} {post : qR}
    (hr : va_Run p l e R s m args below meth c H locs cells slots 0 0 (F0 m pc ls st0) rest (qq_Q Z post A1 av) free) (hS : va_S A H0 H locs) (hA : ∀ q : Nat, A1 q → A q) (hf : ∀ q : Nat, free q → A q)
    (kk : ∀ (r : Option Value) (M1 : qM) (H1 : Heap) (locs1 : List Loc), post r M1 → va_P (z_D Z) (z_cl Z) (qw Z M1) H1 → va_D A1 (qw Z M1) → va_S A H0 H1 locs1 → W p l e R s m args below meth c H1 locs1 cells slots Q (F0 m (pc + 3) ls ((r.map (qv (z_a Z))).toList ++ rest))) :
    W p l e R s m args below meth c H locs cells slots Q (F0 m pc ls st0) := by
  intro T hT X
  obtain ⟨v, st₀, t, T', L, h0, X', hL, e1, e2, ⟨⟨r, M1, hv, hp, hPt, hKt, hDt⟩, hz, hk⟩, st⟩ := hr T hT X
  cases hv
  rw [h0] at hz hk
  obtain ⟨t2, a1, b1⟩ := kk r M1 T'.heap (locs ++ L) hp (by rw [e1]; exact hPt) hDt
    ⟨Nat.le_trans hS.1 (by rw [e1]; exact hz), fun q h1 h2 => by rw [e1, hk q (Nat.lt_of_lt_of_le h1 hS.1) (fun z => h2 (hA q z))]; exact hS.2.1 q h1 h2, fun q hq => by
      rcases List.mem_append.mp hq with h | h
      · exact hS.2.2 q h
      · exact hf _ (hL q h)⟩ T' rfl X'
  exact ⟨t2, st t2 a1, b1⟩
theorem qq_ret_sound {Z : qZ} {mi pc b : Nat} {loc : List (Option Value)} {st : List Value} {M : qM} {post : qR} (hb : qq_SR Z mi pc b) (h : qq_ret b st M post) : qq_X Z mi pc loc st M post := by
  intro p e R s m args below meth c A cells slots cx H locs ls hl hP hD hS
  have hK := cx.2.2.2.2.2.1
  have hlocks : meth.locks = false := cx.2.2.2.2.2.2.2.2.2.2.1
  have hr := cx.2.2.2.2.2.2.2.2.2.1
  unfold qq_ret at h
  split at h
  · obtain ⟨hb0, hp⟩ := h
    rcases hb with ⟨-, hd, ht⟩ | ⟨h1, -⟩ | ⟨h1, -⟩
    · exact W.vret cx.1 cx.2.1 (hr.trans ht) (fun t ht hW => ⟨⟨none, M, rfl, hp, by rw [ht]; exact hP, va_K.moved hW.alike hK, hD⟩, hS.F ht⟩) hS.2.2 hd hlocks
    · omega
    · omega
  · rename_i v
    obtain ⟨hv, hp⟩ := h
    rcases hb with ⟨h1, -⟩ | ⟨h1, hd, ht⟩ | ⟨h1, hd, ht⟩
    · omega
    · exact W.iret (v := v) cx.1 cx.2.1 (hr.trans ht) (fun t ht hW => ⟨⟨some (.int v), M, rfl, hp, by rw [ht]; exact hP, va_K.moved hW.alike hK, hD⟩, hS.F ht⟩) hS.2.2 hd hlocks
    · have hv2 : v = 0 ∨ v = 1 := by
        rcases hv with h2 | ⟨-, h2⟩
        · omega
        · exact h2
      have hn : narrow .boolean (.int v) = .int v := by rcases hv2 with rfl | rfl <;> rfl
      exact W.zret (v := v) cx.1 cx.2.1 (hr.trans ht) hn (fun t ht hW => ⟨⟨some (.int v), M, rfl, hp, by rw [ht]; exact hP, va_K.moved hW.alike hK, hD⟩, hS.F ht⟩) hS.2.2 hd hlocks
  · exact h.elim
theorem qq_closed {Z : qZ} {P : qP} (hOK : qq_OK Z) (hO : ∀ mi pc op, P mi pc = some (.inl op) → qq_Mon op ∧ qq_Snd Z mi pc op) (hC : ∀ mi pc mj n rc, P mi pc = some (.inr (.inl (mj, n, rc))) → qq_SC Z mi pc mj n rc ∧ n ≤ z_mx Z mj)
    (hR : ∀ mi pc b, P mi pc = some (.inr (.inr b)) → qq_SR Z mi pc b) (hY : ∀ mj, plainName (z_y Z mj).cls = true) : qq_cl (z_lay Z) (z_mx Z) P (qq_X Z) := by
  refine ⟨fun mi pc loc st M p1 p2 hp h => ?_, fun mi pc loc st M post h => ?_⟩
  · intro p e R s m args below meth c A cells slots cx H locs ls hl hP hD hS T hT X
    obtain ⟨t, a1, o, b1, b2, b3, b4⟩ := h p e R s m args below meth c A cells slots cx H locs ls hl hP hD hS T hT X
    exact ⟨t, a1, o, b1, b2, qq_Qmono hp b3, b4⟩
  · unfold qq_stp at h
    split at h
    · exact h.elim
    · rename_i op hop
      intro p e R s m args below meth c A cells slots cx
      obtain ⟨hm, hs⟩ := hO mi pc op hop
      exact hs p e R s m args below meth c A cells slots _ loc st M cx (hm _ _ _ _ _ _ (fun _ _ _ _ k => k p e R s m args below meth c A cells slots cx) h)
    · rename_i cc hcc
      obtain ⟨mj, n, rc⟩ := cc
      obtain ⟨vs, rest, rfl, hn, hcat, hsum, hrcv, hX⟩ := h
      dsimp only at hn hrcv hX
      intro p e R s m args below meth c A cells slots cx H locs ls hl hP hD hS
      obtain ⟨hsc, hmx⟩ := hC mi pc mj n rc hcc
      have hFA : ∀ q : Nat, va_A (qw Z M) H.size q → A q := by
        intro q hq
        rcases hq with ⟨k, e', hk⟩ | hq
        · exact hD.2 k (q, e') hk
        · exact cx.2.2.2.2.2.2.1 q (Nat.le_trans hS.1 hq)
      have hM := qq_met (sz := H.size) hX (hY mj) hcat (by rw [hn]; exact hmx)
      have hrun := hsc p e R s m args below meth c A cells slots cx H locs ls M _ _ _ hM vs rest hn hl.1 hsum hrcv hP
        (fun av U g mk q => by
          obtain ⟨q0, q1, qP, qK, qD, qS⟩ := q
          exact ⟨q0, q1, qP, va_K.moved (u := U) (U := U.calling g mk av) (Vm.Alike.refl U.vm) qK, qD, hOK.2.2.2.2.2.1 _ U (U.calling g mk av) _ (Vm.Alike.refl U.vm) qS⟩)
        (fun U hU hW => ⟨rfl, by rw [hU], by rw [hU]; exact hP, va_K.moved hW.alike cx.2.2.2.2.2.1, hD.weaken (fun _ _ _ _ => trivial), by
          rw [hU]
          exact hOK.2.2.2.2.2.2.2.1 _ _ _ _ (hOK.2.2.2.2.2.1 _ s U _ hW.alike (hOK.2.2.2.2.2.2.1 _ _ _ _ cx.2.2.2.2.2.2.2.1 hS.2.1)) hFA⟩)
      rw [List.map_append, List.map_reverse]
      refine qq_callW hrun hS hFA hFA (fun r M1 H1 locs1 hp hP1 hD1 hS1 => ?_)
      have hgo := hp p e R s m args below meth c A cells slots cx H1 locs1 ls hl hP1 (hD1.weaken (fun k q _ h => hFA q.1 h)) hS1
      have he : (r.toList ++ rest).map (qv (z_a Z)) = (r.map (qv (z_a Z))).toList ++ rest.map (qv (z_a Z)) := by cases r <;> simp
      rw [he] at hgo
      exact hgo
    · rename_i b hb
      exact qq_ret_sound (hR mi pc b hb) h
/-- what is run is so -/
theorem qq_sound {Z : qZ} {P : qP} (hOK : qq_OK Z) (hO : ∀ mi pc op, P mi pc = some (.inl op) → qq_Mon op ∧ qq_Snd Z mi pc op) (hC : ∀ mi pc mj n rc, P mi pc = some (.inr (.inl (mj, n, rc))) → qq_SC Z mi pc mj n rc ∧ n ≤ z_mx Z mj)
    (hR : ∀ mi pc b, P mi pc = some (.inr (.inr b)) → qq_SR Z mi pc b) (hY : ∀ mj, plainName (z_y Z mj).cls = true) {mi pc : Nat} {loc : List (Option Value)} {st : List Value} {M : qM} {post : qR} (h : qq_Ev (z_lay Z) (z_mx Z) P mi pc loc st M post) : qq_X Z mi pc loc st M post :=
  h _ (qq_closed hOK hO hC hR hY)
/-! calls, by their kind -/
section QCALLS
variable {Z : qZ} {mi pc mj : Nat}
theorem qq_good {L : List Cond} (hG : ∀ w ∈ z_Ts Z, (w.onTables && w.keeps) = true ∨ ∃ ty, w = .arrayClass ty) (h : ∀ w ∈ L, w ∈ z_Ts Z) : GoodIn (z_Ts Z) L := fun w hw => ⟨h w hw, hG w (h w hw)⟩
theorem qq_ws_in (hcode : Cond.code (z_y Z mj) (z_bc Z mj) (z_mx Z mj) (z_rt Z mj) ∈ z_Ts Z) : ∀ w ∈ qq_ws Z mj, w ∈ z_Ts Z := by
  intro w hw
  rcases List.mem_cons.mp hw with rfl | h
  · exact hcode
  · exact h
/-- a static method, of any class -/
theorem qs_callS {index n : Nat} (hd : decode (z_bc Z mi) pc = .ok (.invokestatic index, 3)) (hG : ∀ w ∈ z_Ts Z, (w.onTables && w.keeps) = true ∨ ∃ ty, w = .arrayClass ty) (hcode : Cond.code (z_y Z mj) (z_bc Z mj) (z_mx Z mj) (z_rt Z mj) ∈ z_Ts Z)
    (hl0 : Cond.methodLink (z_y Z mi).cls index (z_y Z mj) ∈ z_Ts Z) (hst : Cond.static (z_y Z mj) ∈ z_Ts Z) (hini : Cond.initialized (z_y Z mj).cls ∈ z_Ts Z)
    (hy : (z_y Z mj).cls ≠ "java/lang/invoke/MethodHandle" ∧ (z_y Z mj).cls ≠ "java/lang/invoke/VarHandle" ∧ (parseMethodDescriptor (z_y Z mj).desc).map (fun d => d.parameters.length) = some n) (hf : z_fr Z mj + 1 ≤ z_fr Z mi) (hlo : 8 + (z_mx Z mj + 11) + z_lo Z mj ≤ z_lo Z mi) : qq_SC Z mi pc mj n none := by
  intro p e R s m args below meth c A cells slots cx H locs ls M Pc Qc free hM vs rest hn hsz hsum hrcv hP hbl hpre
  have hR := cx.2.2.2.2.2.2.2.2.1
  have hcs := cx.2.2.2.2.2.2.2.2.2.2.2
  have hGI : GoodIn (z_Ts Z) (va_wsS (z_y Z mi).cls index (z_y Z mj) (qq_ws Z mj)) := qq_good hG (by
    intro w hw
    rcases List.mem_append.mp hw with h | h
    · rcases List.mem_cons.mp h with rfl | h
      · exact hl0
      · rcases List.mem_cons.mp h with rfl | h
        · exact hst
        · rcases List.mem_cons.mp h with rfl | h
          · exact hini
          · cases h
    · exact qq_ws_in hcode w h)
  exact va_runS (As := vs.map (qv (z_a Z))) (rest := rest.map (qv (z_a Z))) ⟨cx.1, cx.2.1, cx.2.2.1, cx.2.2.2.1, cx.2.2.2.2.1⟩ hM (va_cwS n cx.2.2.2.2.1 hGI rfl rfl rfl hy ⟨Nat.le_trans hf hR.1, Nat.le_trans hlo hR.2⟩) ⟨hbl, hpre⟩ rfl (by rw [List.length_map]; exact hn) hsz rfl (lv_room (by rw [qv_cats]; exact hsum)) hd ⟨hcs.1, hcs.2⟩
/-- a private static method of a nest mate -/
theorem qs_callSN {index n : Nat} {host : String} (hd : decode (z_bc Z mi) pc = .ok (.invokestatic index, 3)) (hG : ∀ w ∈ z_Ts Z, (w.onTables && w.keeps) = true ∨ ∃ ty, w = .arrayClass ty) (hcode : Cond.code (z_y Z mj) (z_bc Z mj) (z_mx Z mj) (z_rt Z mj) ∈ z_Ts Z)
    (hl0 : Cond.methodLinkNest (z_y Z mi).cls index (z_y Z mj) host ∈ z_Ts Z) (hst : Cond.static (z_y Z mj) ∈ z_Ts Z) (hini : Cond.initialized (z_y Z mj).cls ∈ z_Ts Z)
    (hy : (z_y Z mj).cls ≠ "java/lang/invoke/MethodHandle" ∧ (z_y Z mj).cls ≠ "java/lang/invoke/VarHandle" ∧ (parseMethodDescriptor (z_y Z mj).desc).map (fun d => d.parameters.length) = some n) (hf : z_fr Z mj + 1 ≤ z_fr Z mi) (hlo : 8 + (z_mx Z mj + 11) + z_lo Z mj ≤ z_lo Z mi) : qq_SC Z mi pc mj n none := by
  intro p e R s m args below meth c A cells slots cx H locs ls M Pc Qc free hM vs rest hn hsz hsum hrcv hP hbl hpre
  have hR := cx.2.2.2.2.2.2.2.2.1
  have hcs := cx.2.2.2.2.2.2.2.2.2.2.2
  exact va_runSN (As := vs.map (qv (z_a Z))) (rest := rest.map (qv (z_a Z))) ⟨cx.1, cx.2.1, cx.2.2.1, cx.2.2.2.1, cx.2.2.2.2.1⟩ hM
    ⟨va_cnB n cx.2.2.2.2.1 (qq_good hG (qq_ws_in hcode)) rfl rfl rfl (va_Nw.of rfl (cx.2.2.2.2.1 _ hl0)) (cx.2.2.2.2.1 _ hini) hy ⟨Nat.le_trans hf hR.1, Nat.le_trans hlo hR.2⟩, cx.2.2.2.2.1 _ hst, trivial⟩ ⟨hbl, hpre⟩ rfl (by rw [List.length_map]; exact hn) hsz rfl (lv_room (by rw [qv_cats]; exact hsum)) hd ⟨hcs.1, hcs.2⟩
/-- a method of an object whose class is known -/
theorem qs_callV {index n ci : Nat} {C : String} {T : u_T} {nn : Nat} (hd : decode (z_bc Z mi) pc = .ok (.invokevirtual index, 3)) (hOK : qq_OK Z) (hG : ∀ w ∈ z_Ts Z, (w.onTables && w.keeps) = true ∨ ∃ ty, w = .arrayClass ty) (hcode : Cond.code (z_y Z mj) (z_bc Z mj) (z_mx Z mj) (z_rt Z mj) ∈ z_Ts Z) (hcl : (z_cl Z)[ci]? = some (C, T, nn))
    (hl0 : Cond.methodLink (z_y Z mi).cls index (z_y Z mj) ∈ z_Ts Z) (hst : Cond.instanceMethod (z_y Z mj) ∈ z_Ts Z) (hse : Cond.selects C (z_y Z mj) (z_y Z mj) ∈ z_Ts Z) (hini : Cond.initialized C ∈ z_Ts Z)
    (hy : (z_y Z mj).cls = C ∧ (z_y Z mj).cls ≠ "java/lang/invoke/MethodHandle" ∧ (z_y Z mj).cls ≠ "java/lang/invoke/VarHandle" ∧ (parseMethodDescriptor (z_y Z mj).desc).map (fun d => d.parameters.length) = some n) (hf : z_fr Z mj + 1 ≤ z_fr Z mi) (hlo : 8 + (z_mx Z mj + 11) + z_lo Z mj ≤ z_lo Z mi) : qq_SC Z mi pc mj (n + 1) (some ci) := by
  intro p e R s m args below meth c A cells slots cx H locs ls M Pc Qc free hM vs rest hn hsz hsum hrcv hP hbl hpre
  have hR := cx.2.2.2.2.2.2.2.2.1
  have hcs := cx.2.2.2.2.2.2.2.2.2.2.2
  have hGI : GoodIn (z_Ts Z) (wsV (z_y Z mi).cls index C (z_y Z mj) (qq_ws Z mj)) := qq_good hG (by
    intro w hw
    rcases List.mem_append.mp hw with h | h
    · rcases List.mem_cons.mp h with rfl | h
      · exact hl0
      · rcases List.mem_cons.mp h with rfl | h
        · exact hst
        · rcases List.mem_cons.mp h with rfl | h
          · exact hse
          · rcases List.mem_cons.mp h with rfl | h
            · exact hini
            · cases h
    · exact qq_ws_in hcode w h)
  unfold qq_rcv at hrcv
  dsimp only at hrcv
  split at hrcv
  · rename_i q vt
    split at hrcv
    · rename_i x hx
      subst hrcv
      have hN : q < z_N Z := hOK.1 q (by rw [hx]; trivial)
      have he : (qw Z M)[q]? = some (z_a Z q, .inr (x.1, qv_F (z_a Z) (M q) x.2 0)) := by rw [qw_at M hN, hx]; rfl
      have hrc := va_recv cx.2.2.2.2.2.1 hP hcl he
      have hst0 : ((Value.ref q :: vt).map (qv (z_a Z))).reverse ++ rest.map (qv (z_a Z)) = (vt.map (qv (z_a Z))).reverse ++ Value.ref (z_a Z q) :: rest.map (qv (z_a Z)) := by
        rw [List.map_cons, List.reverse_cons, List.append_assoc]
        rfl
      rw [hst0]
      exact va_runV (C := C) (As := vt.map (qv (z_a Z))) (rest := rest.map (qv (z_a Z))) ⟨cx.1, cx.2.1, cx.2.2.1, cx.2.2.2.1, cx.2.2.2.2.1⟩ hM (cwV n cx.2.2.2.2.1 hGI rfl rfl rfl hy ⟨Nat.le_trans hf hR.1, Nat.le_trans hlo hR.2⟩) ⟨hbl, hrc, hpre⟩ rfl (by rw [List.length_map]; simpa using hn) hsz rfl (lv_room (by rw [qv_cats]; exact hsum)) hd ⟨hcs.1, hcs.2⟩
    · exact hrcv.elim
  · exact hrcv.elim
/-- a private method of an object of a nest mate's (or the own) class -/
theorem qs_callVN {index n ci : Nat} {C host : String} {T : u_T} {nn : Nat} (hd : decode (z_bc Z mi) pc = .ok (.invokevirtual index, 3)) (hOK : qq_OK Z) (hG : ∀ w ∈ z_Ts Z, (w.onTables && w.keeps) = true ∨ ∃ ty, w = .arrayClass ty) (hcode : Cond.code (z_y Z mj) (z_bc Z mj) (z_mx Z mj) (z_rt Z mj) ∈ z_Ts Z) (hcl : (z_cl Z)[ci]? = some (C, T, nn))
    (hl0 : Cond.methodLinkNest (z_y Z mi).cls index (z_y Z mj) host ∈ z_Ts Z) (hst : Cond.instanceMethod (z_y Z mj) ∈ z_Ts Z) (hse : Cond.selects C (z_y Z mj) (z_y Z mj) ∈ z_Ts Z) (hini : Cond.initialized (z_y Z mj).cls ∈ z_Ts Z)
    (hy : (z_y Z mj).cls ≠ "java/lang/invoke/MethodHandle" ∧ (z_y Z mj).cls ≠ "java/lang/invoke/VarHandle" ∧ (parseMethodDescriptor (z_y Z mj).desc).map (fun d => d.parameters.length) = some n) (hf : z_fr Z mj + 1 ≤ z_fr Z mi) (hlo : 8 + (z_mx Z mj + 11) + z_lo Z mj ≤ z_lo Z mi) : qq_SC Z mi pc mj (n + 1) (some ci) := by
  intro p e R s m args below meth c A cells slots cx H locs ls M Pc Qc free hM vs rest hn hsz hsum hrcv hP hbl hpre
  have hR := cx.2.2.2.2.2.2.2.2.1
  have hcs := cx.2.2.2.2.2.2.2.2.2.2.2
  unfold qq_rcv at hrcv
  dsimp only at hrcv
  split at hrcv
  · rename_i q vt
    split at hrcv
    · rename_i x hx
      subst hrcv
      have hN : q < z_N Z := hOK.1 q (by rw [hx]; trivial)
      have he : (qw Z M)[q]? = some (z_a Z q, .inr (x.1, qv_F (z_a Z) (M q) x.2 0)) := by rw [qw_at M hN, hx]; rfl
      have hrc := va_recv cx.2.2.2.2.2.1 hP hcl he
      have hst0 : ((Value.ref q :: vt).map (qv (z_a Z))).reverse ++ rest.map (qv (z_a Z)) = (vt.map (qv (z_a Z))).reverse ++ Value.ref (z_a Z q) :: rest.map (qv (z_a Z)) := by
        rw [List.map_cons, List.reverse_cons, List.append_assoc]
        rfl
      rw [hst0]
      exact va_runVN (C := C) (As := vt.map (qv (z_a Z))) (rest := rest.map (qv (z_a Z))) ⟨cx.1, cx.2.1, cx.2.2.1, cx.2.2.2.1, cx.2.2.2.2.1⟩ hM
        ⟨va_cnB n cx.2.2.2.2.1 (qq_good hG (qq_ws_in hcode)) rfl rfl rfl (va_Nw.of rfl (cx.2.2.2.2.1 _ hl0)) (cx.2.2.2.2.1 _ hini) hy ⟨Nat.le_trans hf hR.1, Nat.le_trans hlo hR.2⟩, cx.2.2.2.2.1 _ hst, cx.2.2.2.2.1 _ hse⟩ ⟨hbl, hrc, hpre⟩ rfl (by rw [List.length_map]; simpa using hn) hsz rfl (lv_room (by rw [qv_cats]; exact hsum)) hd ⟨hcs.1, hcs.2⟩
    · exact hrcv.elim
  · exact hrcv.elim
end QCALLS
end
section
/-! One step of the abstract machine, goal first. -/
def ms (M : qM) (q j : Nat) (v : Int32) : qM := va_up M q (upd (M q) j v)
theorem ms_at (M : qM) (q j : Nat) (v : Int32) : ms M q j v q j = v := by unfold ms; rw [va_up_self]; unfold upd; rw [if_pos rfl]
theorem ms_row {M : qM} {q j i : Nat} {v : Int32} (h : i ≠ j) : ms M q j v q i = M q i := by unfold ms; rw [va_up_self]; unfold upd; rw [if_neg h]
theorem ms_ne {M : qM} {q j a i : Nat} {v : Int32} (h : a ≠ q) : ms M q j v a i = M a i := by unfold ms; rw [va_up_ne _ _ h]
theorem ms_rows {M : qM} {q j a : Nat} {v : Int32} (h : a ≠ q) : ms M q j v a = M a := by unfold ms; rw [va_up_ne _ _ h]
section QSTEP
variable {lay : Nat → qL} {mx : Nat → Nat} {P : qP} {mi pc pc' : Nat} {loc : List (Option Value)} {st : List Value} {M : qM} {post : qR}
theorem ev_k {v : Int32} {n : Nat} (hP : P mi pc = some (.inl (qo_k v n))) (hpc : pc + n = pc') (h : qq_Ev lay mx P mi pc' loc (.int v :: st) M post) : qq_Ev lay mx P mi pc loc st M post := by
  subst hpc
  refine qq_Ev.op hP (qm_k _ _) ?_
  exact h
theorem ev_il {i n : Nat} {x : Int32} (hP : P mi pc = some (.inl (qo_il i n))) (hpc : pc + n = pc') (hl : loc[i]? = some (some (.int x))) (h : qq_Ev lay mx P mi pc' loc (.int x :: st) M post) : qq_Ev lay mx P mi pc loc st M post := by
  subst hpc
  refine qq_Ev.op hP (qm_il _ _) ?_
  unfold qo_il
  rw [hl]
  exact h
theorem ev_al {i n x : Nat} (hP : P mi pc = some (.inl (qo_al i n))) (hpc : pc + n = pc') (hl : loc[i]? = some (some (.ref x))) (h : qq_Ev lay mx P mi pc' loc (.ref x :: st) M post) : qq_Ev lay mx P mi pc loc st M post := by
  subst hpc
  refine qq_Ev.op hP (qm_al _ _) ?_
  unfold qo_al
  rw [hl]
  exact h
theorem ev_is {i n : Nat} {x : Int32} (hP : P mi pc = some (.inl (qo_is i n))) (hpc : pc + n = pc') {loc1 : List (Option Value)} (hl : loc.set i (some (.int x)) = loc1) (h : qq_Ev lay mx P mi pc' loc1 st M post) : qq_Ev lay mx P mi pc loc (.int x :: st) M post := by
  subst hpc
  refine qq_Ev.op hP (qm_is _ _) ?_
  subst hl
  exact h
theorem ev_as {i n x : Nat} (hP : P mi pc = some (.inl (qo_as i n))) (hpc : pc + n = pc') {loc1 : List (Option Value)} (hl : loc.set i (some (.ref x)) = loc1) (h : qq_Ev lay mx P mi pc' loc1 st M post) : qq_Ev lay mx P mi pc loc (.ref x :: st) M post := by
  subst hpc
  refine qq_Ev.op hP (qm_as _ _) ?_
  subst hl
  exact h
theorem ev_inc {i : Nat} {d x : Int32} (hP : P mi pc = some (.inl (qo_inc i d))) (hpc : pc + 3 = pc') (hl : loc[i]? = some (some (.int x))) {loc1 : List (Option Value)} (hs : loc.set i (some (.int (x + d))) = loc1) (h : qq_Ev lay mx P mi pc' loc1 st M post) : qq_Ev lay mx P mi pc loc st M post := by
  subst hpc
  refine qq_Ev.op hP (qm_inc _ _) ?_
  subst hs
  unfold qo_inc
  rw [hl]
  exact h
theorem ev_b {f : Int32 → Int32 → Int32} {x y : Int32} (hP : P mi pc = some (.inl (qo_b f))) (hpc : pc + 1 = pc') (h : qq_Ev lay mx P mi pc' loc (.int (f x y) :: st) M post) : qq_Ev lay mx P mi pc loc (.int y :: .int x :: st) M post := by
  subst hpc
  refine qq_Ev.op hP (qm_b _) ?_
  exact h
theorem ev_d {f : Int32 → Int32 → Int32} {x y : Int32} (hP : P mi pc = some (.inl (qo_d f))) (hpc : pc + 1 = pc') (hy : ¬ y = 0) (h : qq_Ev lay mx P mi pc' loc (.int (f x y) :: st) M post) : qq_Ev lay mx P mi pc loc (.int y :: .int x :: st) M post := by
  subst hpc
  refine qq_Ev.op hP (qm_d _) ?_
  exact ⟨hy, h⟩
theorem ev_u {f : Int32 → Int32} {x : Int32} (hP : P mi pc = some (.inl (qo_u f))) (hpc : pc + 1 = pc') (h : qq_Ev lay mx P mi pc' loc (.int (f x) :: st) M post) : qq_Ev lay mx P mi pc loc (.int x :: st) M post := by
  subst hpc
  refine qq_Ev.op hP (qm_u _) ?_
  exact h
theorem ev_z {c : Int32 → Prop} {t : Nat} {x : Int32} (hP : P mi pc = some (.inl (qo_z c t))) (hpc : pc + 3 = pc') (ht : c x → qq_Ev lay mx P mi t loc st M post) (hf : ¬ c x → qq_Ev lay mx P mi pc' loc st M post) : qq_Ev lay mx P mi pc loc (.int x :: st) M post := by
  subst hpc
  exact qq_Ev.op hP (qm_z _ _) ⟨ht, hf⟩
theorem ev_c {c : Int32 → Int32 → Prop} {t : Nat} {x y : Int32} (hP : P mi pc = some (.inl (qo_c c t))) (hpc : pc + 3 = pc') (ht : c x y → qq_Ev lay mx P mi t loc st M post) (hf : ¬ c x y → qq_Ev lay mx P mi pc' loc st M post) : qq_Ev lay mx P mi pc loc (.int y :: .int x :: st) M post := by
  subst hpc
  exact qq_Ev.op hP (qm_c _ _) ⟨ht, hf⟩
theorem ev_zt {c : Int32 → Prop} {t : Nat} {x : Int32} (hP : P mi pc = some (.inl (qo_z c t))) (hc : c x) (h : qq_Ev lay mx P mi t loc st M post) : qq_Ev lay mx P mi pc loc (.int x :: st) M post := by
  exact qq_Ev.op hP (qm_z _ _) ⟨fun _ => h, fun n => absurd hc n⟩
theorem ev_zf {c : Int32 → Prop} {t : Nat} {x : Int32} (hP : P mi pc = some (.inl (qo_z c t))) (hpc : pc + 3 = pc') (hc : ¬ c x) (h : qq_Ev lay mx P mi pc' loc st M post) : qq_Ev lay mx P mi pc loc (.int x :: st) M post := by
  subst hpc
  exact qq_Ev.op hP (qm_z _ _) ⟨fun n => absurd n hc, fun _ => h⟩
theorem ev_ct {c : Int32 → Int32 → Prop} {t : Nat} {x y : Int32} (hP : P mi pc = some (.inl (qo_c c t))) (hc : c x y) (h : qq_Ev lay mx P mi t loc st M post) : qq_Ev lay mx P mi pc loc (.int y :: .int x :: st) M post := by
  exact qq_Ev.op hP (qm_c _ _) ⟨fun _ => h, fun n => absurd hc n⟩
theorem ev_cf {c : Int32 → Int32 → Prop} {t : Nat} {x y : Int32} (hP : P mi pc = some (.inl (qo_c c t))) (hpc : pc + 3 = pc') (hc : ¬ c x y) (h : qq_Ev lay mx P mi pc' loc st M post) : qq_Ev lay mx P mi pc loc (.int y :: .int x :: st) M post := by
  subst hpc
  exact qq_Ev.op hP (qm_c _ _) ⟨fun n => absurd n hc, fun _ => h⟩
theorem ev_g {t : Nat} (hP : P mi pc = some (.inl (qo_g t)))  (h : qq_Ev lay mx P mi t loc st M post) : qq_Ev lay mx P mi pc loc st M post := by
  exact qq_Ev.op hP (qm_g _) h
theorem ev_sw {lo : Int} {ts : List Nat} {d t : Nat} {x : Int32} (hP : P mi pc = some (.inl (qo_sw lo ts d))) (ht : (if x.toInt < lo then d else ts.getD (x.toInt - lo).toNat d) = t) (h : qq_Ev lay mx P mi t loc st M post) : qq_Ev lay mx P mi pc loc (.int x :: st) M post := by
  subst ht
  exact qq_Ev.op hP (qm_sw _ _ _) h
theorem ev_dup {v : Value} (hP : P mi pc = some (.inl qo_dup)) (hpc : pc + 1 = pc') (hv : v.category = 1) (h : qq_Ev lay mx P mi pc' loc (v :: v :: st) M post) : qq_Ev lay mx P mi pc loc (v :: st) M post := by
  subst hpc
  refine qq_Ev.op hP (qm_dup) ?_
  exact ⟨hv, h⟩
theorem ev_pop {v : Value} (hP : P mi pc = some (.inl qo_pop)) (hpc : pc + 1 = pc') (hv : v.category = 1) (h : qq_Ev lay mx P mi pc' loc st M post) : qq_Ev lay mx P mi pc loc (v :: st) M post := by
  subst hpc
  refine qq_Ev.op hP (qm_pop) ?_
  exact ⟨hv, h⟩
theorem ev_dup2 {v u : Value} (hP : P mi pc = some (.inl qo_dup2)) (hpc : pc + 1 = pc') (hv : v.category = 1) (hu : u.category = 1) (h : qq_Ev lay mx P mi pc' loc (v :: u :: v :: u :: st) M post) : qq_Ev lay mx P mi pc loc (v :: u :: st) M post := by
  subst hpc
  refine qq_Ev.op hP (qm_dup2) ?_
  exact ⟨hv, hu, h⟩
theorem ev_dx1 {v u : Value} (hP : P mi pc = some (.inl qo_dx1)) (hpc : pc + 1 = pc') (hv : v.category = 1) (hu : u.category = 1) (h : qq_Ev lay mx P mi pc' loc (v :: u :: v :: st) M post) : qq_Ev lay mx P mi pc loc (v :: u :: st) M post := by
  subst hpc
  refine qq_Ev.op hP (qm_dx1) ?_
  exact ⟨hv, hu, h⟩
theorem ev_dx2 {v u t : Value} (hP : P mi pc = some (.inl qo_dx2)) (hpc : pc + 1 = pc') (hv : v.category = 1) (hu : u.category = 1) (ht : t.category = 1) (h : qq_Ev lay mx P mi pc' loc (v :: u :: t :: v :: st) M post) : qq_Ev lay mx P mi pc loc (v :: u :: t :: st) M post := by
  subst hpc
  refine qq_Ev.op hP (qm_dx2) ?_
  exact ⟨hv, hu, ht, h⟩
theorem ev_geti {ci j : Nat} {q : Nat} {fl : List (Option (Option Nat))} (hP : P mi pc = some (.inl (qo_get lay ci j))) (hpc : pc + 3 = pc') (hl : lay q = .inr (.inr (.inl (ci, fl)))) (hj : fl[j]? = some none) (h : qq_Ev lay mx P mi pc' loc (.int (M q j) :: st) M post) : qq_Ev lay mx P mi pc loc (.ref q :: st) M post := by
  subst hpc
  refine qq_Ev.op hP (qm_get _ _ _) ?_
  unfold qo_get
  simp only [hl, hj]
  exact ⟨trivial, h⟩
theorem ev_getr {ci j z : Nat} {q : Nat} {fl : List (Option (Option Nat))} (hP : P mi pc = some (.inl (qo_get lay ci j))) (hpc : pc + 3 = pc') (hl : lay q = .inr (.inr (.inl (ci, fl)))) (hj : fl[j]? = some (some (some z))) (h : qq_Ev lay mx P mi pc' loc (.ref z :: st) M post) : qq_Ev lay mx P mi pc loc (.ref q :: st) M post := by
  subst hpc
  refine qq_Ev.op hP (qm_get _ _ _) ?_
  unfold qo_get
  simp only [hl, hj]
  exact ⟨trivial, h⟩
theorem ev_put {ci j : Nat} {v : Int32} {q : Nat} {fl : List (Option (Option Nat))} (hP : P mi pc = some (.inl (qo_put lay ci j))) (hpc : pc + 3 = pc') (hl : lay q = .inr (.inr (.inl (ci, fl)))) (hj : fl[j]? = some none) (h : qq_Ev lay mx P mi pc' loc st (ms M q j v) post) : qq_Ev lay mx P mi pc loc (.int v :: .ref q :: st) M post := by
  subst hpc
  refine qq_Ev.op hP (qm_put _ _ _) ?_
  unfold qo_put
  simp only [hl]
  exact ⟨trivial, hj, h⟩
theorem ev_ia {q n : Nat} {i : Int32} (hP : P mi pc = some (.inl (qo_ia lay))) (hpc : pc + 1 = pc') (hl : lay q = .inl (0, n)) (hin : vp_in i n) (h : qq_Ev lay mx P mi pc' loc (.int (M q i.toNatClampNeg) :: st) M post) : qq_Ev lay mx P mi pc loc (.int i :: .ref q :: st) M post := by
  subst hpc
  refine qq_Ev.op hP (qm_ia _) ?_
  unfold qo_ia
  simp only [hl]
  exact ⟨trivial, hin, h⟩
theorem ev_ta {q n : Nat} {f : Nat → Int32} {i : Int32} (hP : P mi pc = some (.inl (qo_ia lay))) (hpc : pc + 1 = pc') (hl : lay q = .inr (.inr (.inr (n, f)))) (hin : vp_in i n) (h : qq_Ev lay mx P mi pc' loc (.int (f i.toNatClampNeg) :: st) M post) : qq_Ev lay mx P mi pc loc (.int i :: .ref q :: st) M post := by
  subst hpc
  refine qq_Ev.op hP (qm_ia _) ?_
  unfold qo_ia
  simp only [hl]
  exact ⟨hin, h⟩
theorem ev_ias {q n : Nat} {i v : Int32} (hP : P mi pc = some (.inl (qo_ias lay))) (hpc : pc + 1 = pc') (hl : lay q = .inl (0, n)) (hin : vp_in i n) (h : qq_Ev lay mx P mi pc' loc st (ms M q i.toNatClampNeg v) post) : qq_Ev lay mx P mi pc loc (.int v :: .int i :: .ref q :: st) M post := by
  subst hpc
  refine qq_Ev.op hP (qm_ias _) ?_
  unfold qo_ias
  simp only [hl]
  exact ⟨trivial, hin, h⟩
theorem ev_za {q n : Nat} {i : Int32} (hP : P mi pc = some (.inl (qo_za lay))) (hpc : pc + 1 = pc') (hl : lay q = .inl (1, n)) (hin : vp_in i n) (h : qq_Ev lay mx P mi pc' loc (.int (M q i.toNatClampNeg) :: st) M post) : qq_Ev lay mx P mi pc loc (.int i :: .ref q :: st) M post := by
  subst hpc
  refine qq_Ev.op hP (qm_za _) ?_
  unfold qo_za
  simp only [hl]
  exact ⟨trivial, hin, h⟩
theorem ev_zas {q n : Nat} {i v : Int32} (hP : P mi pc = some (.inl (qo_zas lay))) (hpc : pc + 1 = pc') (hl : lay q = .inl (1, n)) (hin : vp_in i n) (h : qq_Ev lay mx P mi pc' loc st (ms M q i.toNatClampNeg (vp_nar .boolean v)) post) : qq_Ev lay mx P mi pc loc (.int v :: .int i :: .ref q :: st) M post := by
  subst hpc
  refine qq_Ev.op hP (qm_zas _) ?_
  unfold qo_zas
  simp only [hl]
  exact ⟨trivial, hin, h⟩
theorem ev_aa {q t n z : Nat} {f : Nat → Option Nat} {i : Int32} (hP : P mi pc = some (.inl (qo_aa lay))) (hpc : pc + 1 = pc') (hl : lay q = .inr (.inl (t, n, f))) (hin : vp_in i n) (hz : f i.toNatClampNeg = some z) (h : qq_Ev lay mx P mi pc' loc (.ref z :: st) M post) : qq_Ev lay mx P mi pc loc (.int i :: .ref q :: st) M post := by
  subst hpc
  refine qq_Ev.op hP (qm_aa _) ?_
  unfold qo_aa
  simp only [hl, hz]
  exact ⟨hin, h⟩
theorem ev_len {q t n : Nat} (hP : P mi pc = some (.inl (qo_len lay))) (hpc : pc + 1 = pc') (hl : lay q = .inl (t, n)) (h : qq_Ev lay mx P mi pc' loc (.int (Int32.ofNat n) :: st) M post) : qq_Ev lay mx P mi pc loc (.ref q :: st) M post := by
  subst hpc
  refine qq_Ev.op hP (qm_len _) ?_
  unfold qo_len
  simp only [hl]
  exact h
theorem ev_tlen {q n : Nat} {f : Nat → Int32} (hP : P mi pc = some (.inl (qo_len lay))) (hpc : pc + 1 = pc') (hl : lay q = .inr (.inr (.inr (n, f)))) (h : qq_Ev lay mx P mi pc' loc (.int (Int32.ofNat n) :: st) M post) : qq_Ev lay mx P mi pc loc (.ref q :: st) M post := by
  subst hpc
  refine qq_Ev.op hP (qm_len _) ?_
  unfold qo_len
  simp only [hl]
  exact h
theorem ev_ss {z : Nat} (hP : P mi pc = some (.inl (qo_ss z))) (hpc : pc + 3 = pc') (h : qq_Ev lay mx P mi pc' loc (.ref z :: st) M post) : qq_Ev lay mx P mi pc loc st M post := by
  subst hpc
  refine qq_Ev.op hP (qm_ss _) ?_
  exact h
theorem ev_mx {x y : Int32} (hP : P mi pc = some (.inl qo_mx)) (hpc : pc + 3 = pc') (hr : (st.map fun v => v.category).sum ≤ 8) (h : qq_Ev lay mx P mi pc' loc (.int (if x < y then y else x) :: st) M post) : qq_Ev lay mx P mi pc loc (.int y :: .int x :: st) M post := by
  subst hpc
  refine qq_Ev.op hP (qm_mx) ?_
  exact ⟨hr, h⟩
theorem ev_mn {x y : Int32} (hP : P mi pc = some (.inl qo_mn)) (hpc : pc + 3 = pc') (hr : (st.map fun v => v.category).sum ≤ 8) (h : qq_Ev lay mx P mi pc' loc (.int (if y < x then y else x) :: st) M post) : qq_Ev lay mx P mi pc loc (.int y :: .int x :: st) M post := by
  subst hpc
  refine qq_Ev.op hP (qm_mn) ?_
  exact ⟨hr, h⟩
theorem ev_cp {q0 q1 n0 n1 : Nat} {n dp sp : Int32} (hP : P mi pc = some (.inl (qo_cp lay))) (hpc : pc + 3 = pc') (h0 : lay q0 = .inl (0, n0)) (h1 : lay q1 = .inl (0, n1)) (hr : (st.map fun v => v.category).sum ≤ 8) (h2 : ¬ sp < 0) (h3 : ¬ dp < 0) (h4 : ¬ n < 0) (h5 : sp.toNatClampNeg + n.toNatClampNeg ≤ n0) (h6 : dp.toNatClampNeg + n.toNatClampNeg ≤ n1) (h : qq_Ev lay mx P mi pc' loc st (va_up M q1 (va_cpy (M q0) (M q1) sp.toNatClampNeg dp.toNatClampNeg n.toNatClampNeg)) post) : qq_Ev lay mx P mi pc loc (.int n :: .int dp :: .ref q1 :: .int sp :: .ref q0 :: st) M post := by
  subst hpc
  refine qq_Ev.op hP (qm_cp _) ?_
  unfold qo_cp
  simp only [h0, h1]
  exact ⟨trivial, trivial, hr, h2, h3, h4, h5, h6, h⟩
theorem ev_ri {b : Nat} {v : Int32} (hP : P mi pc = some (.inr (.inr b))) (hb : b = 1 ∨ (b = 2 ∧ (v = 0 ∨ v = 1))) (h : post (some (.int v)) M) : qq_Ev lay mx P mi pc loc [.int v] M post := qq_Ev.ret hP ⟨hb, h⟩
theorem ev_rv (hP : P mi pc = some (.inr (.inr 0))) (h : post none M) : qq_Ev lay mx P mi pc loc [] M post := qq_Ev.ret hP ⟨rfl, h⟩
end QSTEP
end
section
/-! More steps, in the forms that the printed walks use. -/
noncomputable def bi (p : Prop) : Int32 := @ite _ p (Classical.propDecidable p) 1 0
theorem bi_pos {p : Prop} (h : p) : bi p = 1 := by unfold bi; exact if_pos h
theorem bi_neg {p : Prop} (h : ¬ p) : bi p = 0 := by unfold bi; exact if_neg h
theorem bi_ne {p : Prop} (h : ¬ bi p = 0) : p := Classical.byContradiction fun n => h (bi_neg n)
theorem bi_eq {p : Prop} (h : bi p = 0) : ¬ p := fun n => by rw [bi_pos n] at h; exact absurd h (by decide)
theorem bi_congr {p q : Prop} (h : p ↔ q) : bi p = bi q := by rw [propext h]
theorem bi_if {p : Prop} {c : Prop} (d : Decidable c) (h : c ↔ p) : (@ite _ c d (1 : Int32) 0) = bi p := by
  by_cases hc : c
  · rw [if_pos hc, bi_pos (h.mp hc)]
  · rw [if_neg hc, bi_neg (fun q => hc (h.mpr q))]
theorem zb_0 : vp_nar .boolean 0 = 0 := by decide +kernel
theorem zb_1 : vp_nar .boolean 1 = 1 := by decide +kernel
theorem zb_ite {c : Prop} {d : Decidable c} {a b : Int32} (ha : vp_nar .boolean a = a) (hb : vp_nar .boolean b = b) : vp_nar .boolean (@ite _ c d a b) = @ite _ c d a b := by
  by_cases hc : c
  · rw [if_pos hc]; exact ha
  · rw [if_neg hc]; exact hb
theorem zb_bi {p : Prop} : vp_nar .boolean (bi p) = bi p := zb_ite zb_1 zb_0
theorem z1_0 : (0 : Int32) = 0 ∨ (0 : Int32) = 1 := Or.inl rfl
theorem z1_1 : (1 : Int32) = 0 ∨ (1 : Int32) = 1 := Or.inr rfl
theorem z1_ite {c : Prop} {d : Decidable c} {a b : Int32} (ha : a = 0 ∨ a = 1) (hb : b = 0 ∨ b = 1) : (@ite _ c d a b) = 0 ∨ (@ite _ c d a b) = 1 := by
  by_cases hc : c
  · rw [if_pos hc]; exact ha
  · rw [if_neg hc]; exact hb
theorem z1_bi {p : Prop} : bi p = 0 ∨ bi p = 1 := z1_ite z1_1 z1_0
theorem vp_lit {i : Int32} {n : Nat} (h : ¬ (i < 0 ∨ n ≤ i.toNatClampNeg)) : vp_in i n := h
/-- returns v and leaves the memory -/
def qv1 (M : qM) (v : Int32) : qR := fun r M' => r = some (.int v) ∧ M' = M
/-- returns nothing, and the memory is N -/
def qv0 (N : qM) : qR := fun r M' => r = none ∧ M' = N
section QSTEP2
variable {lay : Nat → qL} {mx : Nat → Nat} {P : qP} {mi pc pc' : Nat} {loc : List (Option Value)} {st : List Value} {M : qM} {post : qR}
theorem ev_iac {q n j : Nat} {i : Int32} (hP : P mi pc = some (.inl (qo_ia lay))) (hpc : pc + 1 = pc') (hl : lay q = .inl (0, n)) (hin : vp_in i n) (hj : i.toNatClampNeg = j) (h : qq_Ev lay mx P mi pc' loc (.int (M q j) :: st) M post) : qq_Ev lay mx P mi pc loc (.int i :: .ref q :: st) M post := by
  subst hj
  exact ev_ia hP hpc hl hin h
theorem ev_zac {q n j : Nat} {i : Int32} (hP : P mi pc = some (.inl (qo_za lay))) (hpc : pc + 1 = pc') (hl : lay q = .inl (1, n)) (hin : vp_in i n) (hj : i.toNatClampNeg = j) (h : qq_Ev lay mx P mi pc' loc (.int (M q j) :: st) M post) : qq_Ev lay mx P mi pc loc (.int i :: .ref q :: st) M post := by
  subst hj
  exact ev_za hP hpc hl hin h
theorem ev_iasc {q n j : Nat} {i v : Int32} (hP : P mi pc = some (.inl (qo_ias lay))) (hpc : pc + 1 = pc') (hl : lay q = .inl (0, n)) (hin : vp_in i n) (hj : i.toNatClampNeg = j) (h : qq_Ev lay mx P mi pc' loc st (ms M q j v) post) : qq_Ev lay mx P mi pc loc (.int v :: .int i :: .ref q :: st) M post := by
  subst hj
  exact ev_ias hP hpc hl hin h
theorem ev_zasb {q n : Nat} {i v : Int32} (hP : P mi pc = some (.inl (qo_zas lay))) (hpc : pc + 1 = pc') (hl : lay q = .inl (1, n)) (hin : vp_in i n) (hz : vp_nar .boolean v = v) (h : qq_Ev lay mx P mi pc' loc st (ms M q i.toNatClampNeg v) post) : qq_Ev lay mx P mi pc loc (.int v :: .int i :: .ref q :: st) M post :=
  ev_zas hP hpc hl hin (by rw [hz]; exact h)
theorem ev_zasc {q n j : Nat} {i v : Int32} (hP : P mi pc = some (.inl (qo_zas lay))) (hpc : pc + 1 = pc') (hl : lay q = .inl (1, n)) (hin : vp_in i n) (hj : i.toNatClampNeg = j) (hz : vp_nar .boolean v = v) (h : qq_Ev lay mx P mi pc' loc st (ms M q j v) post) : qq_Ev lay mx P mi pc loc (.int v :: .int i :: .ref q :: st) M post := by
  subst hj
  exact ev_zasb hP hpc hl hin hz h
theorem ev_cpc {q0 q1 n0 n1 a b k : Nat} {n dp sp : Int32} (hP : P mi pc = some (.inl (qo_cp lay))) (hpc : pc + 3 = pc') (h0 : lay q0 = .inl (0, n0)) (h1 : lay q1 = .inl (0, n1)) (hr : (st.map fun v => v.category).sum ≤ 8) (h2 : ¬ sp < 0) (h3 : ¬ dp < 0) (h4 : ¬ n < 0) (ea : sp.toNatClampNeg = a) (eb : dp.toNatClampNeg = b) (ek : n.toNatClampNeg = k) (h5 : a + k ≤ n0) (h6 : b + k ≤ n1)
    (h : qq_Ev lay mx P mi pc' loc st (va_up M q1 (va_cpy (M q0) (M q1) a b k)) post) : qq_Ev lay mx P mi pc loc (.int n :: .int dp :: .ref q1 :: .int sp :: .ref q0 :: st) M post := by
  subst ea eb ek
  exact ev_cp hP hpc h0 h1 hr h2 h3 h4 h5 h6 h
theorem ev_ri1 {v : Int32} (hP : P mi pc = some (.inr (.inr 1))) (h : post (some (.int v)) M) : qq_Ev lay mx P mi pc loc [.int v] M post := ev_ri hP (Or.inl rfl) h
theorem ev_rz {v : Int32} (hP : P mi pc = some (.inr (.inr 2))) (hz : v = 0 ∨ v = 1) (h : post (some (.int v)) M) : qq_Ev lay mx P mi pc loc [.int v] M post := ev_ri hP (Or.inr ⟨rfl, hz⟩) h
theorem ev_cal {mj n : Nat} {rc : Option Nat} {vs rest : List Value} {en : List (Option Value)} (hP : P mi pc = some (.inr (.inl (mj, n, rc)))) (hst : st = vs.reverse ++ rest) (hn : vs.length = n) (hc : (vs.all fun v => v.category == 1) = true) (hr : Nat.ble ((rest.map fun v => v.category).sum) 8 = true) (hv : qq_rcv lay rc vs) (he : qq_ent mx mj vs = en) (hpc : pc + 3 = pc')
    (h : qq_Ev lay mx P mj 0 en [] M (fun r M' => qq_Ev lay mx P mi pc' loc (r.toList ++ rest) M' post)) : qq_Ev lay mx P mi pc loc st M post := by
  subst he hpc
  exact qq_Ev.call hP vs rest hst hn (fun v hv => by simpa using List.all_eq_true.mp hc v hv) (Nat.le_of_ble_eq_true hr) hv h (fun r M' k => k)
theorem ev_cal1 {mj n : Nat} {rc : Option Nat} {vs rest : List Value} {en : List (Option Value)} {v : Int32} (hP : P mi pc = some (.inr (.inl (mj, n, rc)))) (hst : st = vs.reverse ++ rest) (hn : vs.length = n) (hc : (vs.all fun v => v.category == 1) = true) (hr : Nat.ble ((rest.map fun v => v.category).sum) 8 = true) (hv : qq_rcv lay rc vs) (he : qq_ent mx mj vs = en) (hpc : pc + 3 = pc')
    (h : qq_Ev lay mx P mj 0 en [] M (qv1 M v)) (k : qq_Ev lay mx P mi pc' loc (.int v :: rest) M post) : qq_Ev lay mx P mi pc loc st M post := by
  refine ev_cal hP hst hn hc hr hv he hpc (h.mono ?_)
  rintro r M' ⟨rfl, rfl⟩
  exact k
theorem ev_ceq {t : Nat} {x y : Int32} (hP : P mi pc = some (.inl (qo_c (fun x y => x = y) t))) (hpc : pc + 3 = pc') (ht : x = y → qq_Ev lay mx P mi t loc st M post) (hf : ¬ x = y → qq_Ev lay mx P mi pc' loc st M post) : qq_Ev lay mx P mi pc loc (.int y :: .int x :: st) M post :=
  ev_c hP hpc ht hf
theorem ev_cne {t : Nat} {x y : Int32} (hP : P mi pc = some (.inl (qo_c (fun x y => ¬ x = y) t))) (hpc : pc + 3 = pc') (ht : ¬ x = y → qq_Ev lay mx P mi t loc st M post) (hf : x = y → qq_Ev lay mx P mi pc' loc st M post) : qq_Ev lay mx P mi pc loc (.int y :: .int x :: st) M post :=
  ev_c hP hpc ht (fun h => hf (Classical.not_not.mp h))
theorem ev_clt {t : Nat} {x y : Int32} (hP : P mi pc = some (.inl (qo_c (fun x y => x < y) t))) (hpc : pc + 3 = pc') (ht : x < y → qq_Ev lay mx P mi t loc st M post) (hf : ¬ x < y → qq_Ev lay mx P mi pc' loc st M post) : qq_Ev lay mx P mi pc loc (.int y :: .int x :: st) M post :=
  ev_c hP hpc ht hf
theorem ev_cge {t : Nat} {x y : Int32} (hP : P mi pc = some (.inl (qo_c (fun x y => y ≤ x) t))) (hpc : pc + 3 = pc') (ht : ¬ x < y → qq_Ev lay mx P mi t loc st M post) (hf : x < y → qq_Ev lay mx P mi pc' loc st M post) : qq_Ev lay mx P mi pc loc (.int y :: .int x :: st) M post :=
  ev_c hP hpc (fun h => ht (Int32.not_lt.mpr h)) (fun h => hf (Int32.not_le.mp h))
theorem ev_cgt {t : Nat} {x y : Int32} (hP : P mi pc = some (.inl (qo_c (fun x y => y < x) t))) (hpc : pc + 3 = pc') (ht : y < x → qq_Ev lay mx P mi t loc st M post) (hf : ¬ y < x → qq_Ev lay mx P mi pc' loc st M post) : qq_Ev lay mx P mi pc loc (.int y :: .int x :: st) M post :=
  ev_c hP hpc ht hf
theorem ev_cle {t : Nat} {x y : Int32} (hP : P mi pc = some (.inl (qo_c (fun x y => x ≤ y) t))) (hpc : pc + 3 = pc') (ht : ¬ y < x → qq_Ev lay mx P mi t loc st M post) (hf : y < x → qq_Ev lay mx P mi pc' loc st M post) : qq_Ev lay mx P mi pc loc (.int y :: .int x :: st) M post :=
  ev_c hP hpc (fun h => ht (Int32.not_lt.mpr h)) (fun h => hf (Int32.not_le.mp h))
theorem ev_zeq {t : Nat} {x : Int32} (hP : P mi pc = some (.inl (qo_z (fun x => x = 0) t))) (hpc : pc + 3 = pc') (ht : x = 0 → qq_Ev lay mx P mi t loc st M post) (hf : ¬ x = 0 → qq_Ev lay mx P mi pc' loc st M post) : qq_Ev lay mx P mi pc loc (.int x :: st) M post :=
  ev_z hP hpc ht hf
theorem ev_zne {t : Nat} {x : Int32} (hP : P mi pc = some (.inl (qo_z (fun x => ¬ x = 0) t))) (hpc : pc + 3 = pc') (ht : ¬ x = 0 → qq_Ev lay mx P mi t loc st M post) (hf : x = 0 → qq_Ev lay mx P mi pc' loc st M post) : qq_Ev lay mx P mi pc loc (.int x :: st) M post :=
  ev_z hP hpc ht (fun h => hf (Classical.not_not.mp h))
theorem ev_zlt {t : Nat} {x : Int32} (hP : P mi pc = some (.inl (qo_z (fun x => x < 0) t))) (hpc : pc + 3 = pc') (ht : x < 0 → qq_Ev lay mx P mi t loc st M post) (hf : ¬ x < 0 → qq_Ev lay mx P mi pc' loc st M post) : qq_Ev lay mx P mi pc loc (.int x :: st) M post :=
  ev_z hP hpc ht hf
theorem ev_zge {t : Nat} {x : Int32} (hP : P mi pc = some (.inl (qo_z (fun x => 0 ≤ x) t))) (hpc : pc + 3 = pc') (ht : ¬ x < 0 → qq_Ev lay mx P mi t loc st M post) (hf : x < 0 → qq_Ev lay mx P mi pc' loc st M post) : qq_Ev lay mx P mi pc loc (.int x :: st) M post :=
  ev_z hP hpc (fun h => ht (Int32.not_lt.mpr h)) (fun h => hf (Int32.not_le.mp h))
theorem ev_zgt {t : Nat} {x : Int32} (hP : P mi pc = some (.inl (qo_z (fun x => 0 < x) t))) (hpc : pc + 3 = pc') (ht : 0 < x → qq_Ev lay mx P mi t loc st M post) (hf : ¬ 0 < x → qq_Ev lay mx P mi pc' loc st M post) : qq_Ev lay mx P mi pc loc (.int x :: st) M post :=
  ev_z hP hpc ht hf
theorem ev_zle {t : Nat} {x : Int32} (hP : P mi pc = some (.inl (qo_z (fun x => x ≤ 0) t))) (hpc : pc + 3 = pc') (ht : ¬ 0 < x → qq_Ev lay mx P mi t loc st M post) (hf : 0 < x → qq_Ev lay mx P mi pc' loc st M post) : qq_Ev lay mx P mi pc loc (.int x :: st) M post :=
  ev_z hP hpc (fun h => ht (Int32.not_lt.mpr h)) (fun h => hf (Int32.not_le.mp h))
end QSTEP2
end
section
/-! Tables as trees. -/
abbrev qS : Type := Nat × (Nat → Int32)
def qq_br (k : Nat) (l r : Nat → Option qE) : Nat → Option qE := fun pc => if pc < k then l pc else r pc
def qq_lf (k : Nat) (e : qE) : Nat → Option qE := fun pc => if pc = k then some e else none
def qq_bm (k : Nat) (l r : qP) : qP := fun mi => if mi < k then l mi else r mi
def qq_lm (k : Nat) (t : Nat → Option qE) : qP := fun mi pc => if mi = k then t pc else none
def qq_row (Z : qZ) (mi pc : Nat) (e : qE) : Prop := match e with
  | .inl op => qq_Mon op ∧ qq_Snd Z mi pc op
  | .inr (.inl c) => qq_SC Z mi pc c.1 c.2.1 c.2.2 ∧ c.2.1 ≤ z_mx Z c.1
  | .inr (.inr b) => qq_SR Z mi pc b
def qq_gt (Z : qZ) (mi : Nat) (t : Nat → Option qE) : Prop := ∀ pc e, t pc = some e → qq_row Z mi pc e
def qq_gp (Z : qZ) (P : qP) : Prop := ∀ mi pc e, P mi pc = some e → qq_row Z mi pc e
theorem gt_br {Z : qZ} {mi k : Nat} {l r : Nat → Option qE} (hl : qq_gt Z mi l) (hr : qq_gt Z mi r) : qq_gt Z mi (qq_br k l r) := by
  intro pc e h
  unfold qq_br at h
  split at h
  · exact hl pc e h
  · exact hr pc e h
theorem gt_lf {Z : qZ} {mi k : Nat} {e : qE} (h : qq_row Z mi k e) : qq_gt Z mi (qq_lf k e) := by
  intro pc e' h'
  unfold qq_lf at h'
  split at h'
  · rename_i x
    subst x
    cases h'
    exact h
  · cases h'
theorem gp_bm {Z : qZ} {k : Nat} {l r : qP} (hl : qq_gp Z l) (hr : qq_gp Z r) : qq_gp Z (qq_bm k l r) := by
  intro mi pc e h
  unfold qq_bm at h
  split at h
  · exact hl mi pc e h
  · exact hr mi pc e h
theorem gp_lm {Z : qZ} {k : Nat} {t : Nat → Option qE} (h : qq_gt Z k t) : qq_gp Z (qq_lm k t) := by
  intro mi pc e h'
  unfold qq_lm at h'
  split at h'
  · rename_i x
    subst x
    exact h pc e h'
  · cases h'
theorem gp_sound {Z : qZ} {P : qP} (hOK : qq_OK Z) (hg : qq_gp Z P) (hY : ∀ mj, plainName (z_y Z mj).cls = true) {mi pc : Nat} {loc : List (Option Value)} {st : List Value} {M : qM} {post : qR} (h : qq_Ev (z_lay Z) (z_mx Z) P mi pc loc st M post) : qq_X Z mi pc loc st M post :=
  qq_sound hOK (fun mi pc op h => hg mi pc _ h) (fun mi pc mj n rc h => hg mi pc _ h) (fun mi pc b h => hg mi pc _ h) hY h
end
section
/-! The cells of class and reference. 0 the desk, 1 its board, 2 its sheet with arrays 3 .. 8, 9 names, 10 history, 11 its sheets, 12 router, 13 .. 16, 17 lanes, 18 its rows 19 .. 21, 22 heads, 23 tails, 24 taken, 25 tape, 26 bytes, 27 picture, 28 numbers of nets; 29 + 7 i the i-th sheet kept, with its arrays; 148 the reference, 149 .. 160 its arrays; 200 .. 202 tables, 210 the script. -/
def tb_right (j : Nat) : Int32 := [(1 : Int32), 1, 0, -1, -1, -1, 0, 1].getD j 0
def tb_down (j : Nat) : Int32 := [(0 : Int32), 1, 1, 1, 0, -1, -1, -1].getD j 0
def tb_cost (j : Nat) : Int32 := [(10 : Int32), 14, 10, 14, 10, 14, 10, 14, 30].getD j 0
def lSh (b : Nat) : qL := .inr (.inr (.inl (2, [some (some (b + 1)), some (some (b + 2)), some (some (b + 3)), some (some (b + 4)), some (some (b + 5)), some (some (b + 6)), none, none, none])))
def lAr (n : Nat) : qL := .inl (0, n)
def lBo (n : Nat) : qL := .inl (1, n)
def lOb (c : Nat) (l : List (Option (Option Nat))) : qL := .inr (.inr (.inl (c, l)))
def gL0 : List qL := [lOb 0 [some (some 1), some (some 10), some (some 12), some (some 25), some (some 28)], lOb 1 [some (some 2), some (some 9)], lSh 2, lAr 16, lAr 24, lAr 24, lAr 16, lAr 16, lAr 240, lAr 16,
  lOb 3 [some (some 11), none, none], .inr (.inl (2, 17, fun j => some (29 + 7 * j))), lOb 4 [some (some 13), some (some 14), none, some (some 15), some (some 16), some (some 17)], lBo 240, lAr 240, lBo 240, lAr 240,
  lOb 5 [some (some 18), some (some 22), some (some 23), some (some 24)], .inr (.inl (3, 3, fun j => some (19 + j))), lAr 240, lAr 240, lAr 240, lAr 3, lAr 3, lBo 240, lOb 6 [some (some 26), none, some (some 27)], lAr 400, lAr 120, lAr 16]
def gL1 : List qL := [lOb 7 [some (some 149), some (some 150), some (some 151), none, some (some 152), some (some 153), some (some 154), some (some 155), some (some 156), some (some 157), some (some 158), none, some (some 159), some (some 160)],
  lAr 592, lAr 592, lAr 9472, lAr 16, lAr 240, lAr 240, lAr 240, lBo 240, lAr 240, lAr 400, lAr 120, lAr 16]
def gLk (b j : Nat) : qL := if j = 0 then lSh b else if j = 1 then lAr 16 else if j = 2 then lAr 24 else if j = 3 then lAr 24 else if j = 4 then lAr 16 else if j = 5 then lAr 16 else lAr 240
def lTb (n : Nat) (f : Nat → Int32) : qL := .inr (.inr (.inr (n, f)))
def gL (w : qS) (k : Nat) : qL := if k < 29 then gL0.getD k (lTb 0 tb_right) else if k < 148 then gLk k ((k - 29) % 7) else if k < 161 then gL1.getD (k - 148) (lTb 0 tb_right) else if k = 200 then lTb 8 tb_right else if k = 201 then lTb 8 tb_down else if k = 202 then lTb 9 tb_cost else lTb w.1 w.2
def isSh (s : Nat) : Prop := s = 2 ∨ ∃ i, i < 17 ∧ s = 29 + 7 * i
theorem ly_k {w : qS} {i j : Nat} (hi : i < 17) (hj : j < 7) : gL w (29 + 7 * i + j) = gLk (29 + 7 * i + j) j := by
  unfold gL
  rw [if_neg (by omega), if_pos (by omega), show (29 + 7 * i + j - 29) % 7 = j by omega]
theorem ly_s0 {w : qS} {s : Nat} (h : isSh s) : gL w s = .inr (.inr (.inl (2, [some (some (s + 1)), some (some (s + 2)), some (some (s + 3)), some (some (s + 4)), some (some (s + 5)), some (some (s + 6)), none, none, none]))) := by
  rcases h with rfl | ⟨i, hi, rfl⟩
  · rfl
  · exact ly_k (j := 0) hi (by omega)
theorem ly_s1 {w : qS} {s : Nat} (h : isSh s) : gL w (s + 1) = .inl (0, 16) := by
  rcases h with rfl | ⟨i, hi, rfl⟩
  · rfl
  · exact ly_k hi (by omega)
theorem ly_s2 {w : qS} {s : Nat} (h : isSh s) : gL w (s + 2) = .inl (0, 24) := by
  rcases h with rfl | ⟨i, hi, rfl⟩
  · rfl
  · exact ly_k hi (by omega)
theorem ly_s3 {w : qS} {s : Nat} (h : isSh s) : gL w (s + 3) = .inl (0, 24) := by
  rcases h with rfl | ⟨i, hi, rfl⟩
  · rfl
  · exact ly_k hi (by omega)
theorem ly_s4 {w : qS} {s : Nat} (h : isSh s) : gL w (s + 4) = .inl (0, 16) := by
  rcases h with rfl | ⟨i, hi, rfl⟩
  · rfl
  · exact ly_k hi (by omega)
theorem ly_s5 {w : qS} {s : Nat} (h : isSh s) : gL w (s + 5) = .inl (0, 16) := by
  rcases h with rfl | ⟨i, hi, rfl⟩
  · rfl
  · exact ly_k hi (by omega)
theorem ly_s6 {w : qS} {s : Nat} (h : isSh s) : gL w (s + 6) = .inl (0, 240) := by
  rcases h with rfl | ⟨i, hi, rfl⟩
  · rfl
  · exact ly_k hi (by omega)
theorem vp_lt {i : Int32} {n : Nat} (h : vp_in i n) : i.toNatClampNeg < n := Nat.not_le.mp fun c => h (Or.inr c)
theorem ly_kept {i : Int32} (h : vp_in i 17) : isSh (29 + 7 * i.toNatClampNeg) := Or.inr ⟨_, vp_lt h, rfl⟩
theorem ly_row {w : qS} {i : Int32} (h : vp_in i 3) : gL w (19 + i.toNatClampNeg) = .inl (0, 240) := by
  have h := vp_lt h
  generalize i.toNatClampNeg = k at h
  match k, h with
  | 0, _ => rfl
  | 1, _ => rfl
  | 2, _ => rfl
theorem rc_sh {w : qS} {s : Nat} {vt : List Value} (h : isSh s) : qq_rcv (gL w) (some 2) (.ref s :: vt) := by
  unfold qq_rcv
  simp only [ly_s0 h]
end
section
/-! Small numbers as Java's ints. -/
abbrev iN (n : Nat) : Int32 := Int32.ofNat n
def pm (n : Nat) : Int32 := if n = 0 then -1 else Int32.ofNat (n - 1)
theorem iN_lt {a b : Nat} (ha : a < 2 ^ 31) (hb : b < 2 ^ 31) : iN a < iN b ↔ a < b := Int32.ofNat_lt_iff_lt ha hb
theorem iN_le {a b : Nat} (ha : a < 2 ^ 31) (hb : b < 2 ^ 31) : iN a ≤ iN b ↔ a ≤ b := Int32.ofNat_le_iff_le ha hb
theorem iN_toInt {a : Nat} (ha : a < 2 ^ 31) : (iN a).toInt = (a : Int) := Int32.toInt_ofNat_of_lt ha
theorem iN_eq {a b : Nat} (ha : a < 2 ^ 31) (hb : b < 2 ^ 31) : iN a = iN b ↔ a = b := by
  constructor
  · intro h
    have h1 := congrArg Int32.toInt h
    rw [iN_toInt ha, iN_toInt hb] at h1
    omega
  · intro h; rw [h]
theorem iN_nn {a : Nat} (ha : a < 2 ^ 31) : ¬ iN a < 0 := by
  intro h
  have h1 := (iN_lt ha (show 0 < 2 ^ 31 by decide)).mp h
  omega
theorem iN_pos {a : Nat} (ha : a < 2 ^ 31) : 0 < iN a ↔ 0 < a := iN_lt (show 0 < 2 ^ 31 by decide) ha
theorem iN_z {a : Nat} (ha : a < 2 ^ 31) : iN a = 0 ↔ a = 0 := iN_eq ha (show 0 < 2 ^ 31 by decide)
theorem iN_ix {a : Nat} (ha : a < 2 ^ 31) : (iN a).toNatClampNeg = a := Int32.toNatClampNeg_ofNat_of_lt ha
theorem iN_in {a n : Nat} (h : a < n) (ha : a < 2 ^ 31) : vp_in (iN a) n := by
  intro c
  rcases c with c | c
  · exact iN_nn ha c
  · rw [iN_ix ha] at c; omega
theorem iN_add (a b : Nat) : iN a + iN b = iN (a + b) := (Int32.ofNat_add a b).symm
theorem iN_mul (a b : Nat) : iN a * iN b = iN (a * b) := (Int32.ofNat_mul a b).symm
theorem iN_sub {a b : Nat} (h : b ≤ a) : iN a - iN b = iN (a - b) := (Int32.ofNat_sub a b h).symm
theorem iN_div {a b : Nat} (ha : a < 2 ^ 31) (hb : b < 2 ^ 31) : iN a / iN b = iN (a / b) := (Int32.ofNat_div ha hb).symm
theorem iN_rem {a b : Nat} (ha : a < 2 ^ 31) (hb : b < 2 ^ 31) : iN a - iN a / iN b * iN b = iN (a % b) := by
  rw [iN_div ha hb, iN_mul, iN_sub (Nat.div_mul_le_self a b)]
  congr 1
  have := Nat.div_add_mod a b
  rw [Nat.mul_comm] at this
  omega
theorem iN_succ (a : Nat) : iN a + 1 = iN (a + 1) := iN_add a 1
theorem iN_m1 {a : Nat} (h : 0 < a) : iN a + (-1) = iN (a - 1) := by
  have : iN a - iN 1 = iN (a - 1) := iN_sub h
  rw [← this]
  exact (Int32.sub_eq_add_neg (iN a) (iN 1)).symm
theorem pm_0 : pm 0 = -1 := rfl
theorem pm_s (n : Nat) : pm (n + 1) = iN n := rfl
theorem pm_of {n : Nat} (h : n ≠ 0) : pm n = iN (n - 1) := by unfold pm; rw [if_neg h]
theorem pm_neg {n : Nat} (hn : n ≤ 2 ^ 31) : pm n < 0 ↔ n = 0 := by
  constructor
  · intro h
    apply Classical.byContradiction
    intro h0
    rw [pm_of h0] at h
    exact iN_nn (by omega) h
  · intro h; subst h; decide
theorem pm_m1 {n : Nat} (hn : n ≤ 2 ^ 31) : pm n = -1 ↔ n = 0 := by
  constructor
  · intro h
    exact (pm_neg hn).mp (by rw [h]; decide)
  · intro h; subst h; rfl
theorem pm_eq {a b : Nat} (ha : a ≤ 2 ^ 31) (hb : b ≤ 2 ^ 31) : pm a = pm b ↔ a = b := by
  constructor
  · intro h
    by_cases a0 : a = 0
    · subst a0
      exact ((pm_m1 hb).mp (h.symm.trans pm_0)).symm
    · by_cases b0 : b = 0
      · subst b0
        exact (pm_m1 ha).mp (h.trans pm_0)
      · rw [pm_of a0, pm_of b0, iN_eq (by omega) (by omega)] at h
        omega
  · intro h; rw [h]
theorem pm_iN {a b : Nat} (ha : a ≤ 2 ^ 31) (hb : b < 2 ^ 31) : pm a = iN b ↔ a = b + 1 := by
  rw [← pm_s b, pm_eq ha (by omega)]
end
section
/-! Pure: counting, nets, pieces, costs. -/
noncomputable def cnt : Nat → (Nat → Prop) → Nat
  | 0, _ => 0
  | k + 1, p => cnt k p + @ite _ (p k) (Classical.propDecidable _) 1 0
theorem cnt_le (p : Nat → Prop) : ∀ k, cnt k p ≤ k
  | 0 => Nat.le_refl 0
  | k + 1 => by
    have := cnt_le p k
    simp only [cnt]
    split <;> omega
theorem cnt_mono {p q : Nat → Prop} : ∀ k, (∀ i, i < k → p i → q i) → cnt k p ≤ cnt k q
  | 0, _ => Nat.le_refl 0
  | k + 1, h => by
    have h1 := cnt_mono k (fun i hi => h i (by omega))
    simp only [cnt]
    by_cases hp : p k
    · rw [if_pos hp, if_pos (h k (by omega) hp)]; omega
    · rw [if_neg hp]; split <;> omega
theorem cnt_lt {p q : Nat → Prop} : ∀ k, (∀ i, i < k → p i → q i) → (∃ i, i < k ∧ ¬ p i ∧ q i) → cnt k p < cnt k q
  | 0, _, ⟨_, h, _⟩ => absurd h (by omega)
  | k + 1, h, ⟨i, hi, hn, hq⟩ => by
    simp only [cnt]
    by_cases hik : i = k
    · subst hik
      have h1 := cnt_mono i (fun j hj => h j (by omega))
      rw [if_neg hn, if_pos hq]; omega
    · have h1 := cnt_lt k (fun j hj => h j (by omega)) ⟨i, by omega, hn, hq⟩
      by_cases hp : p k
      · rw [if_pos hp, if_pos (h k (by omega) hp)]; omega
      · rw [if_neg hp]; split <;> omega
theorem cnt_all {p : Nat → Prop} : ∀ k, cnt k p = k → ∀ i, i < k → p i
  | 0, _, _, h => absurd h (by omega)
  | k + 1, h, i, hi => by
    simp only [cnt] at h
    have h1 := cnt_le p k
    by_cases hp : p k
    · rw [if_pos hp] at h
      by_cases hik : i = k
      · subst hik; exact hp
      · exact cnt_all k (by omega) i (by omega)
    · rw [if_neg hp] at h; omega
theorem cnt_none {p : Nat → Prop} : ∀ k, (∀ i, i < k → ¬ p i) → cnt k p = 0
  | 0, _ => rfl
  | k + 1, h => by
    simp only [cnt]
    rw [cnt_none k (fun i hi => h i (by omega)), if_neg (h k (by omega))]
theorem cnt_congr {p q : Nat → Prop} (k : Nat) (h : ∀ i, i < k → (p i ↔ q i)) : cnt k p = cnt k q :=
  Nat.le_antisymm (cnt_mono k fun i hi => (h i hi).mp) (cnt_mono k fun i hi => (h i hi).mpr)
/-- one more -/
theorem cnt_one {p q : Nat → Prop} : ∀ k (a : Nat), a < k → ¬ p a → (∀ i, i < k → (q i ↔ p i ∨ i = a)) → cnt k q = cnt k p + 1
  | 0, _, h, _, _ => absurd h (by omega)
  | k + 1, a, ha, hn, h => by
    simp only [cnt]
    by_cases hak : a = k
    · subst hak
      rw [if_neg hn, if_pos ((h a (by omega)).mpr (Or.inr rfl)), cnt_congr a (q := p) (p := q) (fun i hi => ⟨fun q => ((h i (by omega)).mp q).resolve_right (by omega), fun q => (h i (by omega)).mpr (Or.inl q)⟩)]
    · have h1 := cnt_one k a (by omega) hn (fun i hi => h i (by omega))
      have h2 : q k ↔ p k := ⟨fun q => ((h k (by omega)).mp q).resolve_right (by omega), fun q => (h k (by omega)).mpr (Or.inl q)⟩
      by_cases hp : p k
      · rw [if_pos hp, if_pos (h2.mpr hp)]; omega
      · rw [if_neg hp, if_neg (fun q => hp (h2.mp q))]; omega
-- nets
def jC (k : Nat) (S f : Nat → Nat) : Prop := ∀ j, j < k → f (S (64 + 2 * j)) = f (S (64 + 2 * j + 1))
def isNet (k : Nat) (S n : Nat → Nat) : Prop := jC k S n ∧ (∀ p, p < 16 → n p ≤ p) ∧ ∀ f, jC k S f → ∀ p, p < 16 → f (n p) = f p
theorem isNet_le {k : Nat} {S n m : Nat → Nat} (h : isNet k S n) (g : isNet k S m) (p : Nat) (hp : p < 16) : n p ≤ m p := by
  have h1 := g.2.2 n h.1 p hp
  have h2 := g.2.1 p hp
  have h3 := h.2.1 (m p) (by omega)
  omega
theorem isNet_uniq {k : Nat} {S n m : Nat → Nat} (h : isNet k S n) (g : isNet k S m) (p : Nat) (hp : p < 16) : n p = m p :=
  Nat.le_antisymm (isNet_le h g p hp) (isNet_le g h p hp)
theorem isNet_idem {k : Nat} {S n : Nat → Nat} (h : isNet k S n) {p : Nat} (hp : p < 16) : n (n p) = n p := h.2.2 n h.1 p hp
theorem isNet_lt {k : Nat} {S n : Nat → Nat} (h : isNet k S n) {p : Nat} (hp : p < 16) : n p < 16 := Nat.lt_of_le_of_lt (h.2.1 p hp) hp
theorem isNet_zero (S : Nat → Nat) : isNet 0 S (fun p => p) := ⟨fun j hj => absurd hj (by omega), fun p _ => Nat.le_refl p, fun f _ p _ => rfl⟩
/-- the class: the greater name gives way -/
def nnRen (n : Nat → Nat) (hi lo : Nat) : Nat → Nat := fun p => if n p = hi then lo else n p
theorem isNet_succ {k : Nat} {S n : Nat → Nat} (h : isNet k S n) (ha : S (64 + 2 * k) < 16) (hb : S (64 + 2 * k + 1) < 16) :
    isNet (k + 1) S (nnRen n (if n (S (64 + 2 * k)) < n (S (64 + 2 * k + 1)) then n (S (64 + 2 * k + 1)) else n (S (64 + 2 * k))) (if n (S (64 + 2 * k + 1)) < n (S (64 + 2 * k)) then n (S (64 + 2 * k + 1)) else n (S (64 + 2 * k)))) := by
  refine ⟨fun j hj => ?_, fun p hp => ?_, fun f hf p hp => ?_⟩
  · unfold nnRen
    by_cases hjk : j = k
    · subst hjk
      by_cases h1 : n (S (64 + 2 * j)) < n (S (64 + 2 * j + 1))
      · have h2 : ¬ n (S (64 + 2 * j + 1)) < n (S (64 + 2 * j)) := by omega
        simp only [if_pos h1, if_neg h2, if_true]
        rw [if_neg (by omega)]
      · simp only [if_neg h1, if_true]
        by_cases h2 : n (S (64 + 2 * j + 1)) < n (S (64 + 2 * j))
        · simp only [if_pos h2]
          rw [if_neg (by omega)]
        · simp only [if_neg h2]
          split <;> omega
    · rw [h.1 j (by omega)]
  · unfold nnRen
    have h1 := h.2.1 p hp
    repeat' split
    all_goals omega
  · have hf' : jC k S f := fun j hj => hf j (by omega)
    have e1 := h.2.2 f hf' _ ha
    have e2 := h.2.2 f hf' _ hb
    have e3 := hf k (by omega)
    have e4 := h.2.2 f hf' p hp
    unfold nnRen
    by_cases h1 : n (S (64 + 2 * k)) < n (S (64 + 2 * k + 1))
    · have h2 : ¬ n (S (64 + 2 * k + 1)) < n (S (64 + 2 * k)) := by omega
      simp only [if_pos h1, if_neg h2]
      by_cases h3 : n p = n (S (64 + 2 * k + 1))
      · rw [if_pos h3, e1, e3, ← e2, ← h3, e4]
      · rw [if_neg h3, e4]
    · simp only [if_neg h1]
      by_cases h2 : n (S (64 + 2 * k + 1)) < n (S (64 + 2 * k))
      · simp only [if_pos h2]
        by_cases h3 : n p = n (S (64 + 2 * k))
        · rw [if_pos h3, e2, ← e3, ← e1, ← h3, e4]
        · rw [if_neg h3, e4]
      · simp only [if_neg h2]
        by_cases h3 : n p = n (S (64 + 2 * k))
        · rw [if_pos h3, e1, ← e1, ← h3, e4]
        · rw [if_neg h3, e4]
/-- the reference: one joint pulls both its ends to the lesser -/
def nnPull (S m : Nat → Nat) (j : Nat) : Nat → Nat := fun p => if p = S (64 + 2 * j) ∨ p = S (64 + 2 * j + 1) then (if m (S (64 + 2 * j)) < m (S (64 + 2 * j + 1)) then m (S (64 + 2 * j)) else m (S (64 + 2 * j + 1))) else m p
def nnRow (S m : Nat → Nat) : Nat → Nat → Nat
  | 0 => m
  | j + 1 => nnPull S (nnRow S m j) j
def nnInv (n m : Nat → Nat) : Prop := ∀ p, p < 16 → m p ≤ p ∧ n (m p) = n p
theorem nnInv_ge {k : Nat} {S n m : Nat → Nat} (h : isNet k S n) (g : nnInv n m) {p : Nat} (hp : p < 16) : n p ≤ m p := by
  have := g p hp
  have := h.2.1 (m p) (by omega)
  omega
theorem nnPull_inv {k : Nat} {S n m : Nat → Nat} (h : isNet k S n) (hS : ∀ i, i < 2 * k → S (64 + i) < 16) (g : nnInv n m) {j : Nat} (hj : j < k) : nnInv n (nnPull S m j) ∧ ∀ p, p < 16 → nnPull S m j p ≤ m p := by
  have ha := hS (2 * j) (by omega)
  have hb := hS (2 * j + 1) (by omega)
  have e := h.1 j hj
  rw [← Nat.add_assoc] at hb
  have ga := g _ ha
  have gb := g _ hb
  refine ⟨fun p hp => ?_, fun p hp => ?_⟩
  · have gp := g p hp
    unfold nnPull
    by_cases c : p = S (64 + 2 * j) ∨ p = S (64 + 2 * j + 1)
    · rw [if_pos c]
      by_cases d : m (S (64 + 2 * j)) < m (S (64 + 2 * j + 1))
      · rw [if_pos d]
        rcases c with rfl | rfl
        · exact ga
        · exact ⟨by omega, by rw [ga.2, e]⟩
      · rw [if_neg d]
        rcases c with rfl | rfl
        · exact ⟨by omega, by rw [gb.2, e]⟩
        · exact gb
    · rw [if_neg c]
      exact gp
  · unfold nnPull
    by_cases c : p = S (64 + 2 * j) ∨ p = S (64 + 2 * j + 1)
    · rw [if_pos c]
      rcases c with rfl | rfl <;> split <;> omega
    · rw [if_neg c]
      exact Nat.le_refl _
theorem nnRow_inv {k : Nat} {S n m : Nat → Nat} (h : isNet k S n) (hS : ∀ i, i < 2 * k → S (64 + i) < 16) (g : nnInv n m) : ∀ j, j ≤ k → nnInv n (nnRow S m j) ∧ ∀ p, p < 16 → nnRow S m j p ≤ m p
  | 0, _ => ⟨g, fun p _ => Nat.le_refl _⟩
  | j + 1, hj => by
    have ih := nnRow_inv h hS g j (by omega)
    have st := nnPull_inv h hS ih.1 (show j < k by omega)
    exact ⟨st.1, fun p hp => Nat.le_trans (st.2 p hp) (ih.2 p hp)⟩
theorem nnRow_keep {k : Nat} {S n m : Nat → Nat} (h : isNet k S n) (hS : ∀ i, i < 2 * k → S (64 + i) < 16) (g : nnInv n m) {j : Nat} (hj : j ≤ k) {p : Nat} (hp : p < 16) (e : m p = n p) : nnRow S m j p = n p := by
  have h1 := nnRow_inv h hS g j hj
  have h2 := h1.2 p hp
  have h3 := nnInv_ge h h1.1 hp
  omega
theorem nnRow_hit {k : Nat} {S n m : Nat → Nat} (h : isNet k S n) (hS : ∀ i, i < 2 * k → S (64 + i) < 16) (g : nnInv n m) {i : Nat} (hi : i < k) (e : m (S (64 + 2 * i)) = n (S (64 + 2 * i)) ∨ m (S (64 + 2 * i + 1)) = n (S (64 + 2 * i + 1))) :
    ∀ j, j ≤ k → i < j → nnRow S m j (S (64 + 2 * i)) = n (S (64 + 2 * i)) ∧ nnRow S m j (S (64 + 2 * i + 1)) = n (S (64 + 2 * i + 1))
  | 0, _, hij => absurd hij (by omega)
  | j + 1, hj, hij => by
    have ha := hS (2 * i) (by omega)
    have hb := hS (2 * i + 1) (by omega)
    rw [← Nat.add_assoc] at hb
    have i1 := nnRow_inv h hS g j (by omega)
    have i2 := nnRow_inv h hS g (j + 1) hj
    have st := nnPull_inv h hS i1.1 (show j < k by omega)
    have la := nnInv_ge h i2.1 ha
    have lb := nnInv_ge h i2.1 hb
    by_cases c : i = j
    · subst c
      have eab := h.1 i hi
      have ka := nnInv_ge h i1.1 ha
      have kb := nnInv_ge h i1.1 hb
      have ma := i1.2 _ ha
      have mb := i1.2 _ hb
      have va : nnRow S m (i + 1) (S (64 + 2 * i)) ≤ n (S (64 + 2 * i)) ∧ nnRow S m (i + 1) (S (64 + 2 * i + 1)) ≤ n (S (64 + 2 * i + 1)) := by
        simp only [nnRow, nnPull, true_or, or_true, if_true]
        split <;> omega
      omega
    · have ih := nnRow_hit h hS g hi e j (by omega) (by omega)
      have sa := st.2 _ ha
      have sb := st.2 _ hb
      simp only [nnRow] at la lb ⊢
      omega
theorem nnRow_more {k : Nat} {S n m : Nat → Nat} (h : isNet k S n) (hS : ∀ i, i < 2 * k → S (64 + i) < 16) (g : nnInv n m) (w : ∃ p, p < 16 ∧ m p ≠ n p) : cnt 16 (fun p => m p = n p) < cnt 16 (fun p => nnRow S m k p = n p) := by
  obtain ⟨p, hp, hne⟩ := w
  apply Classical.byContradiction
  intro hno
  have hall : ∀ i, i < k → (m (S (64 + 2 * i)) = n (S (64 + 2 * i)) ↔ m (S (64 + 2 * i + 1)) = n (S (64 + 2 * i + 1))) := by
    intro i hi
    apply Classical.byContradiction
    intro hd
    have ha := hS (2 * i) (by omega)
    have hb := hS (2 * i + 1) (by omega)
    rw [← Nat.add_assoc] at hb
    have hit : m (S (64 + 2 * i)) = n (S (64 + 2 * i)) ∨ m (S (64 + 2 * i + 1)) = n (S (64 + 2 * i + 1)) := by
      apply Classical.byContradiction
      intro hz
      exact hd ⟨fun q => absurd (Or.inl q) hz, fun q => absurd (Or.inr q) hz⟩
    have h2 := nnRow_hit h hS g hi hit k (Nat.le_refl k) hi
    apply hno
    refine cnt_lt 16 (fun q hq e => nnRow_keep h hS g (Nat.le_refl k) hq e) ?_
    by_cases h1 : m (S (64 + 2 * i)) = n (S (64 + 2 * i))
    · exact ⟨_, hb, fun e => hd ⟨fun _ => e, fun _ => h1⟩, h2.2⟩
    · exact ⟨_, ha, h1, h2.1⟩
  have hc := h.2.2 (fun q => @ite _ (m q = n q) (Classical.propDecidable _) 1 0) (by
    intro i hi
    dsimp only
    by_cases h1 : m (S (64 + 2 * i)) = n (S (64 + 2 * i))
    · rw [if_pos h1, if_pos ((hall i hi).mp h1)]
    · rw [if_neg h1, if_neg (fun q => h1 ((hall i hi).mpr q))]) p hp
  try dsimp only at hc
  rw [if_neg hne, if_pos] at hc
  · cases hc
  · have q1 := g (n p) (isNet_lt h hp)
    have q2 := nnInv_ge h g (isNet_lt h hp)
    have q3 := isNet_idem h hp
    omega
def nnTurn (k : Nat) (S m : Nat → Nat) : Nat → Nat → Nat
  | 0 => m
  | t + 1 => nnRow S (nnTurn k S m t) k
theorem nnTurn_inv {k : Nat} {S n m : Nat → Nat} (h : isNet k S n) (hS : ∀ i, i < 2 * k → S (64 + i) < 16) (g : nnInv n m) : ∀ t, nnInv n (nnTurn k S m t)
  | 0 => g
  | t + 1 => (nnRow_inv h hS (nnTurn_inv h hS g t) k (Nat.le_refl k)).1
theorem nnTurn_cnt {k : Nat} {S n m : Nat → Nat} (h : isNet k S n) (hS : ∀ i, i < 2 * k → S (64 + i) < 16) (g : nnInv n m) : ∀ t, t ≤ 16 → t ≤ cnt 16 (fun p => nnTurn k S m t p = n p)
  | 0, _ => Nat.zero_le _
  | t + 1, ht => by
    have ih := nnTurn_cnt h hS g t (by omega)
    by_cases w : ∃ p, p < 16 ∧ nnTurn k S m t p ≠ n p
    · have := nnRow_more h hS (nnTurn_inv h hS g t) w
      simp only [nnTurn]
      omega
    · have hall : ∀ p, p < 16 → nnTurn k S m t p = n p := fun p hp => Classical.byContradiction fun q => w ⟨p, hp, q⟩
      have e : cnt 16 (fun p => nnTurn k S m (t + 1) p = n p) = cnt 16 (fun _ => True) := cnt_congr 16 fun p hp => ⟨fun _ => trivial, fun _ => nnRow_keep h hS (nnTurn_inv h hS g t) (Nat.le_refl k) hp (hall p hp)⟩
      rw [e]
      have : cnt 16 (fun _ => True) = 16 := by simp [cnt]
      omega
theorem nnTurn_end {k : Nat} {S n : Nat → Nat} (h : isNet k S n) (hS : ∀ i, i < 2 * k → S (64 + i) < 16) {p : Nat} (hp : p < 16) : nnTurn k S (fun p => p) 16 p = n p := by
  have g : nnInv n (fun p => p) := fun q hq => ⟨Nat.le_refl _, rfl⟩
  have h1 := nnTurn_cnt h hS g 16 (Nat.le_refl _)
  have h2 := cnt_le (fun p => nnTurn k S (fun p => p) 16 p = n p) 16
  exact cnt_all (p := fun p => nnTurn k S (fun p => p) 16 p = n p) 16 (Nat.le_antisymm h2 h1) p hp
-- the board: cells 0 .. 239, directions 0 .. 8; what is coded as 'one more' is 0 where there is none
def rx (d : Nat) : Nat := if d = 0 ∨ d = 1 ∨ d = 7 then 2 else if d = 2 ∨ d = 6 then 1 else 0
def ry (d : Nat) : Nat := if d = 1 ∨ d = 2 ∨ d = 3 then 2 else if d = 0 ∨ d = 4 then 1 else 0
def nx (c d : Nat) : Nat := if d = 8 then (if c < 120 then c + 121 else c - 119) else if c % 12 + rx d < 1 ∨ 12 < c % 12 + rx d ∨ c % 120 / 12 + ry d < 1 ∨ 10 < c % 120 / 12 + ry d then 0 else c + 12 * ry d + rx d - 12
def dop (d : Nat) : Nat := if d = 8 then 8 else (d + 4) % 8
def prc (d : Nat) : Nat := if d = 8 then 30 else if d % 2 = 0 then 10 else 14
theorem nx_tab : ∀ c : Fin 240, ∀ d : Fin 9, nx c.val d.val = 0 ∨ (nx c.val d.val ≤ 240 ∧ nx (nx c.val d.val - 1) (dop d.val) = c.val + 1 ∧ dop d.val < 9 ∧ prc (dop d.val) = prc d.val) := by decide +kernel
theorem nx_ok {c d : Nat} (hc : c < 240) (hd : d < 9) (h : nx c d ≠ 0) : nx c d ≤ 240 ∧ nx (nx c d - 1) (dop d) = c + 1 ∧ dop d < 9 ∧ prc (dop d) = prc d := (nx_tab ⟨c, hc⟩ ⟨d, hd⟩).resolve_left h
theorem prc_pos (d : Nat) : 10 ≤ prc d ∧ prc d ≤ 30 := by unfold prc; split <;> (try split) <;> omega
def nE (c e : Nat) : Prop := ∃ d, d < 9 ∧ nx c d = e + 1
theorem nE_lt {c e : Nat} (hc : c < 240) (h : nE c e) : e < 240 := by
  obtain ⟨d, hd, h⟩ := h
  have := nx_ok hc hd (by omega)
  omega
theorem nE_sym {c e : Nat} (hc : c < 240) (h : nE c e) : nE e c := by
  obtain ⟨d, hd, h⟩ := h
  have := nx_ok hc hd (by omega)
  rw [h, Nat.add_sub_cancel] at this
  exact ⟨dop d, this.2.2.1, this.2.1⟩
-- a piece: the cells of Q that hang together with s
def eC (Q : Nat → Prop) (f : Nat → Nat) : Prop := ∀ c e, c < 240 → e < 240 → Q c → Q e → nE c e → f c = f e
def isPc (Q : Nat → Prop) (s : Nat) (I : Nat → Prop) : Prop := I s ∧ (∀ c, c < 240 → I c → Q c) ∧ (∀ c e, c < 240 → e < 240 → I c → Q e → nE c e → I e) ∧ ∀ f, eC Q f → ∀ c, c < 240 → I c → f c = f s
theorem isPc_sub {Q I J : Nat → Prop} {s : Nat} (h : isPc Q s I) (g : isPc Q s J) {c : Nat} (hc : c < 240) (hI : I c) : J c := by
  have h1 := h.2.2.2 (fun q => @ite _ (J q) (Classical.propDecidable _) 1 0) (by
    intro a b ha hb qa qb hab
    dsimp only
    by_cases ja : J a
    · rw [if_pos ja, if_pos (g.2.2.1 a b ha hb ja qb hab)]
    · rw [if_neg ja, if_neg (fun jb => ja (g.2.2.1 b a hb ha jb qa (nE_sym ha hab)))]) c hc hI
  try dsimp only at h1
  rw [if_pos g.1] at h1
  apply Classical.byContradiction
  intro n
  rw [if_neg n] at h1
  cases h1
/-- labels of the reference at rest -/
def isLab (Q : Nat → Prop) (L : Nat → Nat) : Prop := eC Q L ∧ (∀ c, c < 240 → Q c → L c < 240 ∧ Q (L c)) ∧ ∀ f, eC Q f → ∀ c, c < 240 → Q c → f (L c) = f c
theorem isLab_pc {Q I : Nat → Prop} {L : Nat → Nat} {s : Nat} (h : isLab Q L) (g : isPc Q s I) (hs : s < 240) {c : Nat} (hc : c < 240) (hq : Q c) : L c = L s ↔ I c := by
  constructor
  · intro e
    have ec : eC Q (fun q => @ite _ (I q) (Classical.propDecidable _) 1 0) := by
      intro a b ha hb qa qb hab
      dsimp only
      by_cases ja : I a
      · rw [if_pos ja, if_pos (g.2.2.1 a b ha hb ja qb hab)]
      · rw [if_neg ja, if_neg (fun jb => ja (g.2.2.1 b a hb ha jb qa (nE_sym ha hab)))]
    have h1 := h.2.2 _ ec c hc hq
    have h2 := h.2.2 _ ec s hs (g.2.1 s hs g.1)
    rw [e, h2] at h1
    try dsimp only at h1
    rw [if_pos g.1] at h1
    apply Classical.byContradiction
    intro n
    rw [if_neg n] at h1
    cases h1
  · intro hI
    exact g.2.2.2 L h.1 c hc hI
-- costs: I the piece, F the free cells

def isCost (I F : Nat → Prop) (C : Nat → Nat) : Prop := (∀ c, c < 240 → I c → C c = 0) ∧ (∀ c, c < 240 → ¬ I c → ¬ F c → C c = 1000000) ∧ (∀ c, c < 240 → C c ≤ 1000000) ∧ (∀ c d, c < 240 → d < 9 → ¬ I c → F c → nx c d ≠ 0 → C c ≤ C (nx c d - 1) + prc d) ∧ ∀ c, c < 240 → ¬ I c → C c < 1000000 → ∃ d, d < 9 ∧ nx c d ≠ 0 ∧ C (nx c d - 1) + prc d ≤ C c
theorem isCost_le {I F : Nat → Prop} {C D : Nat → Nat} (h : isCost I F C) (g : isCost I F D) : ∀ k c, c < 240 → C c ≤ k → C c < 1000000 → D c ≤ C c
  | k, c, hc, hk, hf => by
    by_cases hI : I c
    · rw [g.1 c hc hI]; exact Nat.zero_le _
    · by_cases hF : F c
      · obtain ⟨d, hd, hn, hl⟩ := h.2.2.2.2 c hc hI hf
        have hp := prc_pos d
        have he := (nx_ok hc hd hn).1
        match k, hk with
        | 0, hk => omega
        | k + 1, hk =>
          have ih := isCost_le h g k (nx c d - 1) (by omega) (by omega) (by omega)
          have := g.2.2.2.1 c d hc hd hI hF hn
          omega
      · have := h.2.1 c hc hI hF
        omega
theorem isCost_uniq {I F : Nat → Prop} {C D : Nat → Nat} (h : isCost I F C) (g : isCost I F D) {c : Nat} (hc : c < 240) : C c = D c := by
  have h1 := h.2.2.1 c hc
  have h2 := g.2.2.1 c hc
  by_cases a : C c < 1000000
  · have e1 := isCost_le h g _ c hc (Nat.le_refl _) a
    have e2 := isCost_le g h _ c hc (Nat.le_refl _) (by omega)
    omega
  · by_cases b : D c < 1000000
    · have e2 := isCost_le g h _ c hc (Nat.le_refl _) b
      omega
    · omega
end
section
/-! Pure: cells are taken from three lanes by rising cost. -/
theorem cnt_img {n : Nat} {f : Nat → Nat} : ∀ t, (∀ i, i < t → f i < n) → (∀ i j, i < j → j < t → f i ≠ f j) → cnt n (fun c => ∃ i, i < t ∧ f i = c) = t
  | 0, _, _ => cnt_none n (fun c _ h => by obtain ⟨i, hi, _⟩ := h; omega)
  | t + 1, h, g => by
    have ih := cnt_img t (fun i hi => h i (by omega)) (fun i j hij hj => g i j hij (by omega))
    rw [cnt_one n (f t) (h t (by omega)) (p := fun c => ∃ i, i < t ∧ f i = c) (fun q => by
      obtain ⟨i, hi, e⟩ := q
      exact g i t hi (by omega) e) (fun c _ => ⟨fun q => by
      obtain ⟨i, hi, e⟩ := q
      by_cases it : i = t
      · subst it; exact Or.inr e.symm
      · exact Or.inl ⟨i, by omega, e⟩, fun q => by
      rcases q with ⟨i, hi, e⟩ | e
      · exact ⟨i, by omega, e⟩
      · exact ⟨t, by omega, e.symm⟩⟩), ih]
theorem pigeon {n : Nat} {f : Nat → Nat} {t : Nat} (h : ∀ i, i < t → f i < n) (g : ∀ i j, i < j → j < t → f i ≠ f j) : t ≤ n := by
  have h1 := cnt_img t h g
  have h2 := cnt_le (fun c => ∃ i, i < t ∧ f i = c) n
  omega
theorem pigeon1 {n : Nat} {f : Nat → Nat} {t e : Nat} (h : ∀ i, i < t → f i < n) (g : ∀ i j, i < j → j < t → f i ≠ f j) (he : e < n) (hn : ∀ i, i < t → f i ≠ e) : t < n := by
  refine pigeon (f := fun i => if i = t then e else f i) (t := t + 1) (fun i hi => ?_) (fun i j hij hj => ?_)
  · by_cases c : i = t
    · simp only [if_pos c]; exact he
    · simp only [if_neg c]; exact h i (by omega)
  · have ci : ¬ i = t := by omega
    simp only [if_neg ci]
    by_cases c : j = t
    · simp only [if_pos c]; exact hn i (by omega)
    · simp only [if_neg c]; exact g i j hij (by omega)
def wl (l : Nat) : Nat := if l = 0 then 10 else if l = 1 then 14 else 30
def ln (d : Nat) : Nat := if d = 8 then 2 else d % 2
theorem wl_ln {d : Nat} (hd : d < 9) : wl (ln d) = prc d ∧ ln d < 3 := by
  unfold wl ln prc
  by_cases h : d = 8
  · subst h; decide
  · simp only [if_neg h]
    have h2 : d % 2 = 0 ∨ d % 2 = 1 := by omega
    rcases h2 with h2 | h2 <;> rw [h2] <;> decide
def up1 (f : Nat → Nat) (a v : Nat) : Nat → Nat := fun x => if x = a then v else f x
theorem up1_at (f : Nat → Nat) (a v : Nat) : up1 f a v a = v := by unfold up1; rw [if_pos rfl]
theorem up1_ne {f : Nat → Nat} {a v x : Nat} (h : x ≠ a) : up1 f a v x = f x := by unfold up1; rw [if_neg h]
/-- b: the cell from which it spreads, its directions below dd are done -/
def dInv (I F Pd : Nat → Prop) (C : Nat → Nat) (T : Nat → Prop) (h t : Nat → Nat) (q : Nat → Nat → Nat) (D b dd : Nat) : Prop := ∃ K : Nat → Nat → Nat,
  (∀ l, l < 3 → h l ≤ t l ∧ t l ≤ 240) ∧
  (∀ l i, l < 3 → i < t l → q l i < 240 ∧ C (q l i) ≤ K l i ∧ K l i ≤ D + wl l) ∧
  (∀ l i j, l < 3 → i ≤ j → j < t l → K l i ≤ K l j) ∧
  (∀ l i j, l < 3 → i < j → j < t l → q l i ≠ q l j) ∧
  (∀ c, c < 240 → C c < 1000000 → ¬ T c → ∃ l i, l < 3 ∧ h l ≤ i ∧ i < t l ∧ q l i = c ∧ K l i = C c) ∧
  (∀ c, c < 240 → T c → C c ≤ D ∧ C c < 1000000) ∧ (∀ c, c < 240 → ¬ T c → D ≤ C c) ∧
  (∀ c, c < 240 → I c → C c = 0) ∧ (∀ c, c < 240 → C c ≤ 1000000) ∧
  (∀ c, c < 240 → ¬ I c → C c < 1000000 → (F c ∨ Pd c) ∧ ∃ d, d < 9 ∧ nx c d ≠ 0 ∧ (I (nx c d - 1) ∨ F (nx c d - 1)) ∧ C (nx c d - 1) + prc d ≤ C c) ∧
  (∀ c d, c < 240 → d < 9 → T c → (I c ∨ F c) → (c = b → d < dd) → nx c d ≠ 0 → (F (nx c d - 1) ∨ Pd (nx c d - 1)) → C (nx c d - 1) ≤ C c + prc d)
theorem dInv_take {I F Pd : Nat → Prop} {C : Nat → Nat} {T : Nat → Prop} {h h' t : Nat → Nat} {q : Nat → Nat → Nat} {D dd best l0 : Nat} (v : dInv I F Pd C T h t q D 999 dd)
    (hh : ∀ l, l < 3 → h l ≤ h' l ∧ h' l ≤ t l ∧ ∀ i, h l ≤ i → i < h' l → T (q l i)) (hu : ∀ l, l < 3 → h' l < t l → ¬ T (q l (h' l))) (hl0 : l0 < 3) (hb0 : h' l0 < t l0) (hb1 : best = q l0 (h' l0)) (hb2 : C best < 1000000) (hm : ∀ l, l < 3 → h' l < t l → C best ≤ C (q l (h' l))) :
    dInv I F Pd C (fun c => T c ∨ c = best) h' t q (C best) best 0 ∧ ¬ T best ∧ best < 240 := by
  obtain ⟨K, v1, v2, v3, v4, v5, v6, v7, v8, v9, v10, v11⟩ := v
  have hbn : ¬ T best := by rw [hb1]; exact hu l0 hl0 hb0
  have hb240 : best < 240 := by rw [hb1]; exact (v2 l0 _ hl0 hb0).1
  have hDb : D ≤ C best := v7 best hb240 hbn
  have hmin : ∀ c, c < 240 → ¬ T c → C best ≤ C c := by
    intro c hc hn
    by_cases hf : C c < 1000000
    · obtain ⟨l, i, hl, hi, hit, e1, e2⟩ := v5 c hc hf hn
      have hle : h' l ≤ i := by
        apply Classical.byContradiction
        intro hlt
        have := (hh l hl).2.2 i hi (by omega)
        rw [e1] at this
        exact hn this
      have a1 := hm l hl (by omega)
      have a2 := (v2 l (h' l) hl (by omega)).2.1
      have a3 := v3 l (h' l) i hl hle hit
      omega
    · have := v9 c hc
      omega
  refine ⟨⟨K, fun l hl => ⟨(hh l hl).2.1, (v1 l hl).2⟩, fun l i hl hi => ?_, v3, v4, fun c hc hf hn => ?_, fun c hc hT => ?_, fun c hc hn => ?_, v8, v9, v10, fun c d hc hd hT hp hcb hn hfp => ?_⟩, hbn, hb240⟩
  · have := v2 l i hl hi
    exact ⟨this.1, this.2.1, by omega⟩
  · have hn' : ¬ T c := fun x => hn (Or.inl x)
    obtain ⟨l, i, hl, hi, hit, e1, e2⟩ := v5 c hc hf hn'
    refine ⟨l, i, hl, ?_, hit, e1, e2⟩
    apply Classical.byContradiction
    intro hlt
    have := (hh l hl).2.2 i hi (by omega)
    rw [e1] at this
    exact hn' this
  · rcases hT with hT | rfl
    · have := v6 c hc hT
      exact ⟨by omega, this.2⟩
    · exact ⟨Nat.le_refl _, hb2⟩
  · exact hmin c hc (fun x => hn (Or.inl x))
  · rcases hT with hT | rfl
    · exact v11 c d hc hd hT hp (fun e => by omega) hn hfp
    · exact absurd (hcb rfl) (by omega)
theorem dInv_none {I F Pd : Nat → Prop} {C : Nat → Nat} {T : Nat → Prop} {h h' t : Nat → Nat} {q : Nat → Nat → Nat} {D dd : Nat} (v : dInv I F Pd C T h t q D 999 dd)
    (hh : ∀ l, l < 3 → h l ≤ h' l ∧ h' l ≤ t l ∧ ∀ i, h l ≤ i → i < h' l → T (q l i)) (hu : ∀ l, l < 3 → ¬ h' l < t l) : ∀ c, c < 240 → C c < 1000000 → T c := by
  obtain ⟨K, v1, v2, v3, v4, v5, v6, v7, v8, v9, v10, v11⟩ := v
  intro c hc hf
  apply Classical.byContradiction
  intro hn
  obtain ⟨l, i, hl, hi, hit, e1, e2⟩ := v5 c hc hf hn
  have h1 := hu l hl
  have h2 := (hh l hl).2.2 i hi (by omega)
  rw [e1] at h2
  exact hn h2
theorem dInv_heads {I F Pd : Nat → Prop} {C : Nat → Nat} {T : Nat → Prop} {h h' t : Nat → Nat} {q : Nat → Nat → Nat} {D b dd : Nat} (v : dInv I F Pd C T h t q D b dd)
    (hh : ∀ l, l < 3 → h l ≤ h' l ∧ h' l ≤ t l ∧ ∀ i, h l ≤ i → i < h' l → T (q l i)) : dInv I F Pd C T h' t q D b dd := by
  obtain ⟨K, v1, v2, v3, v4, v5, v6, v7, v8, v9, v10, v11⟩ := v
  refine ⟨K, fun l hl => ⟨(hh l hl).2.1, (v1 l hl).2⟩, v2, v3, v4, fun c hc hf hn => ?_, v6, v7, v8, v9, v10, v11⟩
  obtain ⟨l, i, hl, hi, hit, e1, e2⟩ := v5 c hc hf hn
  refine ⟨l, i, hl, ?_, hit, e1, e2⟩
  apply Classical.byContradiction
  intro hlt
  have := (hh l hl).2.2 i hi (by omega)
  rw [e1] at this
  exact hn this
theorem dInv_room {I F Pd : Nat → Prop} {C : Nat → Nat} {T : Nat → Prop} {h t : Nat → Nat} {q : Nat → Nat → Nat} {D b dd e : Nat} (v : dInv I F Pd C T h t q D b dd) {l : Nat} (hl : l < 3) (he : e < 240) (hlt : D + wl l < C e) : t l < 240 := by
  obtain ⟨K, v1, v2, v3, v4, v5, v6, v7, v8, v9, v10, v11⟩ := v
  refine pigeon1 (f := q l) (e := e) (fun i hi => (v2 l i hl hi).1) (fun i j hij hj => v4 l i j hl hij hj) he (fun i hi x => ?_)
  have := v2 l i hl hi
  rw [x] at this
  omega
theorem dInv_relax {I F Pd : Nat → Prop} {C : Nat → Nat} {T : Nat → Prop} {h t : Nat → Nat} {q : Nat → Nat → Nat} {D b d : Nat} (v : dInv I F Pd C T h t q D b d) (hb : b < 240) (hT : T b) (hC : C b = D) (hp : I b ∨ F b) (hd : d < 9) (hn : nx b d ≠ 0) (hf : F (nx b d - 1) ∨ Pd (nx b d - 1)) (hlt : C b + prc d < C (nx b d - 1)) :
    dInv I F Pd (up1 C (nx b d - 1) (C b + prc d)) T h (up1 t (ln d) (t (ln d) + 1)) (fun l => if l = ln d then up1 (q l) (t l) (nx b d - 1) else q l) D b (d + 1) := by
  have hw := wl_ln hd
  have he := nx_ok hb hd hn
  have hroom := dInv_room (e := nx b d - 1) v hw.2 (by omega) (by rw [hw.1]; omega)
  obtain ⟨K, v1, v2, v3, v4, v5, v6, v7, v8, v9, v10, v11⟩ := v
  generalize hee : nx b d - 1 = e at *
  have he240 : e < 240 := by omega
  have hfar := v9 e he240
  have hpp := prc_pos d
  have heT : ¬ T e := fun x => by have := (v6 e he240 x).1; omega
  have heI : ¬ I e := fun x => by have := v8 e he240 x; omega
  have hbe : b ≠ e := fun x => heT (x ▸ hT)
  have hCle : ∀ c, up1 C e (C b + prc d) c ≤ C c := by
    intro c
    unfold up1
    split
    · rename_i x; subst x; omega
    · exact Nat.le_refl _
  have hnew : ∀ i, i < t (ln d) → q (ln d) i ≠ e := by
    intro i hi x
    have := v2 (ln d) i hw.2 hi
    rw [x, hw.1] at this
    omega
  refine ⟨fun l i => if l = ln d ∧ i = t l then C b + prc d else K l i, fun l hl => ?_, fun l i hl hi => ?_, fun l i j hl hij hj => ?_, fun l i j hl hij hj => ?_, fun c hc hcf hnT => ?_, fun c hc hcT => ?_, fun c hc hcn => ?_, fun c hc hI => ?_, fun c hc => ?_, fun c hc hI hcf => ?_, fun c d2 hc hd2 hcT hcp hcb hn2 hf2 => ?_⟩
  · have := v1 l hl
    by_cases c : l = ln d
    · subst c; rw [up1_at]; omega
    · rw [up1_ne c]; exact this
  · by_cases c : l = ln d
    · subst c
      rw [up1_at] at hi
      simp only [true_and, if_true]
      by_cases c2 : i = t (ln d)
      · subst c2
        rw [if_pos rfl, up1_at, up1_at]
        exact ⟨he240, Nat.le_refl _, by rw [hw.1]; omega⟩
      · rw [if_neg c2, up1_ne c2]
        have := v2 (ln d) i hl (by omega)
        have h3 := hCle (q (ln d) i)
        exact ⟨this.1, by omega, this.2.2⟩
    · rw [up1_ne c] at hi
      have c2 : ¬ (l = ln d ∧ i = t l) := fun x => c x.1
      simp only [if_neg c, if_neg c2]
      have := v2 l i hl hi
      have h3 := hCle (q l i)
      exact ⟨this.1, by omega, this.2.2⟩
  · by_cases c : l = ln d
    · subst c
      rw [up1_at] at hj
      simp only [true_and]
      by_cases c2 : j = t (ln d)
      · rw [if_pos c2]
        by_cases c3 : i = t (ln d)
        · rw [if_pos c3]; exact Nat.le_refl _
        · rw [if_neg c3]
          have := (v2 (ln d) i hl (by omega)).2.2
          rw [hw.1] at this
          omega
      · rw [if_neg c2, if_neg (by omega)]
        exact v3 (ln d) i j hl hij (by omega)
    · rw [up1_ne c] at hj
      have c2 : ¬ (l = ln d ∧ i = t l) := fun x => c x.1
      have c3 : ¬ (l = ln d ∧ j = t l) := fun x => c x.1
      simp only [if_neg c2, if_neg c3]
      exact v3 l i j hl hij hj
  · by_cases c : l = ln d
    · subst c
      rw [up1_at] at hj
      simp only [if_true]
      have ci : i ≠ t (ln d) := by omega
      rw [up1_ne ci]
      by_cases c2 : j = t (ln d)
      · subst c2
        rw [up1_at]
        exact hnew i (by omega)
      · rw [up1_ne c2]
        exact v4 (ln d) i j hl hij (by omega)
    · rw [up1_ne c] at hj
      simp only [if_neg c]
      exact v4 l i j hl hij hj
  · by_cases ce : c = e
    · subst ce
      refine ⟨ln d, t (ln d), hw.2, (v1 _ hw.2).1, by rw [up1_at]; omega, ?_, ?_⟩
      · simp only [if_true]; rw [up1_at]
      · simp only [and_self, if_true]; rw [up1_at]
    · rw [up1_ne ce] at hcf
      obtain ⟨l, i, hl, hi, hit, e1, e2⟩ := v5 c hc hcf hnT
      refine ⟨l, i, hl, hi, ?_, ?_, ?_⟩
      · by_cases c2 : l = ln d
        · subst c2; rw [up1_at]; omega
        · rw [up1_ne c2]; exact hit
      · by_cases c2 : l = ln d
        · subst c2; simp only [if_true]; rw [up1_ne (by omega)]; exact e1
        · simp only [if_neg c2]; exact e1
      · have c2 : ¬ (l = ln d ∧ i = t l) := by omega
        simp only [if_neg c2]
        rw [up1_ne ce]; exact e2
  · have ce : c ≠ e := fun x => heT (x ▸ hcT)
    rw [up1_ne ce]; exact v6 c hc hcT
  · by_cases ce : c = e
    · subst ce; rw [up1_at]; omega
    · rw [up1_ne ce]; exact v7 c hc hcn
  · have ce : c ≠ e := fun x => heI (x ▸ hI)
    rw [up1_ne ce]; exact v8 c hc hI
  · have := hCle c
    have := v9 c hc
    omega
  · by_cases ce : c = e
    · subst ce
      refine ⟨hf, dop d, he.2.2.1, ?_, ?_, ?_⟩
      · rw [he.2.1]; omega
      · rw [he.2.1, Nat.add_sub_cancel]; exact hp
      · rw [he.2.1, Nat.add_sub_cancel, up1_at, up1_ne hbe, he.2.2.2]; exact Nat.le_refl _
    · rw [up1_ne ce] at hcf
      obtain ⟨h1, d2, hd2, hn2, hp2, hle⟩ := v10 c hc hI hcf
      refine ⟨h1, d2, hd2, hn2, hp2, ?_⟩
      have := hCle (nx c d2 - 1)
      rw [up1_ne ce]
      omega
  · have ce : c ≠ e := fun x => heT (x ▸ hcT)
    rw [up1_ne ce]
    by_cases cb : c = b
    · subst cb
      by_cases cd : d2 = d
      · subst cd
        rw [hee, up1_at]; exact Nat.le_refl _
      · have := v11 c d2 hc hd2 hcT hcp (fun _ => by have := hcb rfl; omega) hn2 hf2
        have := hCle (nx c d2 - 1)
        omega
    · have := v11 c d2 hc hd2 hcT hcp (fun x => absurd x cb) hn2 hf2
      have := hCle (nx c d2 - 1)
      omega
theorem dInv_skip {I F Pd : Nat → Prop} {C : Nat → Nat} {T : Nat → Prop} {h t : Nat → Nat} {q : Nat → Nat → Nat} {D b d : Nat} (v : dInv I F Pd C T h t q D b d) (hs : nx b d = 0 ∨ ¬ (F (nx b d - 1) ∨ Pd (nx b d - 1)) ∨ C (nx b d - 1) ≤ C b + prc d) : dInv I F Pd C T h t q D b (d + 1) := by
  obtain ⟨K, v1, v2, v3, v4, v5, v6, v7, v8, v9, v10, v11⟩ := v
  refine ⟨K, v1, v2, v3, v4, v5, v6, v7, v8, v9, v10, fun c d2 hc hd2 hcT hcp hcb hn2 hf2 => ?_⟩
  by_cases cb : c = b
  · subst cb
    by_cases cd : d2 = d
    · subst cd
      rcases hs with hs | hs | hs
      · exact absurd hs hn2
      · exact absurd hf2 hs
      · exact hs
    · exact v11 c d2 hc hd2 hcT hcp (fun _ => by have := hcb rfl; omega) hn2 hf2
  · exact v11 c d2 hc hd2 hcT hcp (fun x => absurd x cb) hn2 hf2
theorem dInv_done {I F Pd : Nat → Prop} {C : Nat → Nat} {T : Nat → Prop} {h t : Nat → Nat} {q : Nat → Nat → Nat} {D b dd : Nat} (v : dInv I F Pd C T h t q D b dd) (hs : dd = 9 ∨ ¬ (I b ∨ F b)) : dInv I F Pd C T h t q D 999 0 := by
  obtain ⟨K, v1, v2, v3, v4, v5, v6, v7, v8, v9, v10, v11⟩ := v
  refine ⟨K, v1, v2, v3, v4, v5, v6, v7, v8, v9, v10, fun c d2 hc hd2 hcT hcp hcb hn2 hf2 => ?_⟩
  refine v11 c d2 hc hd2 hcT hcp (fun x => ?_) hn2 hf2
  rcases hs with hs | hs
  · omega
  · subst x; exact absurd hcp hs
/-- what is left at the end is a table of costs -/
theorem dInv_cost {I F Pd : Nat → Prop} {C : Nat → Nat} {T : Nat → Prop} {h t : Nat → Nat} {q : Nat → Nat → Nat} {D dd : Nat} (v : dInv I F Pd C T h t q D 999 dd) (hall : ∀ c, c < 240 → C c < 1000000 → T c) :
    isCost I F (fun c => @ite _ (I c ∨ F c) (Classical.propDecidable _) (C c) 1000000) := by
  obtain ⟨K, v1, v2, v3, v4, v5, v6, v7, v8, v9, v10, v11⟩ := v
  refine ⟨fun c hc hI => ?_, fun c hc hI hF => ?_, fun c hc => ?_, fun c d hc hd hI hF hn => ?_, fun c hc hI hcf => ?_⟩
  · simp only [if_pos (Or.inl hI : I c ∨ F c)]; exact v8 c hc hI
  · dsimp only; rw [if_neg (fun x : I c ∨ F c => x.elim hI hF)]
  · have := v9 c hc
    dsimp only
    split <;> omega
  · simp only [if_pos (Or.inr hF : I c ∨ F c)]
    have he := nx_ok hc hd hn
    by_cases hp : I (nx c d - 1) ∨ F (nx c d - 1)
    · rw [if_pos hp]
      by_cases hf : C (nx c d - 1) < 1000000
      · have h1 := v11 (nx c d - 1) (dop d) (by omega) he.2.2.1 (hall _ (by omega) hf) hp (fun x => by omega) (by rw [he.2.1]; omega) (by rw [he.2.1, Nat.add_sub_cancel]; exact Or.inl hF)
        rw [he.2.1, Nat.add_sub_cancel, he.2.2.2] at h1
        exact h1
      · have := v9 c hc
        omega
    · rw [if_neg hp]
      have := v9 c hc
      omega
  · dsimp only at hcf ⊢
    by_cases hp : I c ∨ F c
    · rw [if_pos hp] at hcf ⊢
      obtain ⟨_, d, hd, hn, hpe, hle⟩ := v10 c hc hI hcf
      exact ⟨d, hd, hn, by rw [if_pos hpe]; exact hle⟩
    · rw [if_neg hp] at hcf
      omega
/-- and a pad's own cost is the least of its neighbours' -/
theorem dInv_pad {I F Pd : Nat → Prop} {C : Nat → Nat} {T : Nat → Prop} {h t : Nat → Nat} {q : Nat → Nat → Nat} {D dd : Nat} (v : dInv I F Pd C T h t q D 999 dd) (hall : ∀ c, c < 240 → C c < 1000000 → T c) {s : Nat} (hs : s < 240) (hI : ¬ I s) (hp : Pd s) :
    (∀ d, d < 9 → nx s d ≠ 0 → (I (nx s d - 1) ∨ F (nx s d - 1)) → C s ≤ C (nx s d - 1) + prc d) ∧ (C s < 1000000 → ∃ d, d < 9 ∧ nx s d ≠ 0 ∧ (I (nx s d - 1) ∨ F (nx s d - 1)) ∧ C (nx s d - 1) + prc d ≤ C s) ∧ C s ≤ 1000000 := by
  obtain ⟨K, v1, v2, v3, v4, v5, v6, v7, v8, v9, v10, v11⟩ := v
  refine ⟨fun d hd hn hpe => ?_, fun hf => (v10 s hs hI hf).2, v9 s hs⟩
  have he := nx_ok hs hd hn
  by_cases hf : C (nx s d - 1) < 1000000
  · have h1 := v11 (nx s d - 1) (dop d) (by omega) he.2.2.1 (hall _ (by omega) hf) hpe (fun x => by omega) (by rw [he.2.1]; omega) (by rw [he.2.1, Nat.add_sub_cancel]; exact Or.inr hp)
    rw [he.2.1, Nat.add_sub_cancel, he.2.2.2] at h1
    exact h1
  · have := v9 s hs
    omega
end
section
/-! Pure: what a sheet is. S has the reference's places: 0 pins, 1 joints, 2 clearance, 16.. kinds, 32.. places, 64.. joints' ends, 112.. bars, 352.. copper (one more than its pin). -/
def bt (v l : Nat) : Nat := v / 2 ^ l % 2
abbrev hp (S : Nat → Nat) (p c : Nat) : Prop := bt (S (32 + p) / 120) (c / 120) = 1 ∧ S (32 + p) % 120 = c % 120
def padF (S : Nat → Nat) : Nat → Nat → Nat
  | 0, _ => 0
  | p + 1, c => if hp S p c then p + 1 else padF S p c
def pad (S : Nat → Nat) (c : Nat) : Nat := padF S (S 0) c
def own (S : Nat → Nat) (c : Nat) : Nat := if pad S c = 0 then S (352 + c) else pad S c
def ow (S n : Nat → Nat) (c : Nat) : Nat := if own S c = 0 then 0 else n (own S c - 1) + 1
def Ok (S : Nat → Nat) : Prop := S 0 ≤ 16 ∧ S 1 ≤ 24 ∧ (1 ≤ S 2 ∧ S 2 ≤ 2) ∧ (∀ p, p < 16 → S (16 + p) < 4) ∧ (∀ p, p < 16 → S (32 + p) = 0 ∨ (120 ≤ S (32 + p) ∧ S (32 + p) < 480 ∧ p < S 0)) ∧ (∀ i, i < 2 * S 1 → S (64 + i) < S 0) ∧
  (∀ c, c < 240 → S (112 + c) ≤ 1 ∧ S (352 + c) ≤ S 0) ∧ (∀ p q c, p < S 0 → q < S 0 → c < 240 → hp S p c → hp S q c → p = q) ∧ (∀ c, c < 240 → pad S c ≠ 0 → S (352 + c) = 0) ∧ (∀ c, c < 240 → S (112 + c) ≠ 0 → own S c = 0)
theorem padF_le (S : Nat → Nat) (c : Nat) : ∀ k, padF S k c ≤ k
  | 0 => Nat.le_refl 0
  | k + 1 => by
    have := padF_le S c k
    simp only [padF]
    split <;> omega
theorem padF_some {S : Nat → Nat} {c p : Nat} : ∀ k, padF S k c = p + 1 → p < k ∧ hp S p c
  | 0, h => by simp [padF] at h
  | k + 1, h => by
    simp only [padF] at h
    by_cases g : hp S k c
    · rw [if_pos g] at h
      have : k = p := by omega
      subst this
      exact ⟨by omega, g⟩
    · rw [if_neg g] at h
      have := padF_some k h
      exact ⟨by omega, this.2⟩
theorem padF_none {S : Nat → Nat} {c : Nat} : ∀ k, padF S k c = 0 → ∀ p, p < k → ¬ hp S p c
  | 0, _, _, h => absurd h (by omega)
  | k + 1, h, p, hpk => by
    simp only [padF] at h
    by_cases g : hp S k c
    · rw [if_pos g] at h; omega
    · rw [if_neg g] at h
      by_cases e : p = k
      · subst e; exact g
      · exact padF_none k h p (by omega)
theorem pad_le {S : Nat → Nat} (h : Ok S) (c : Nat) : pad S c ≤ S 0 ∧ pad S c ≤ 16 := by
  have := padF_le S c (S 0)
  have := h.1
  unfold pad
  omega
theorem pad_some {S : Nat → Nat} {c p : Nat} (e : pad S c = p + 1) : p < S 0 ∧ hp S p c := padF_some (S 0) e
theorem pad_none {S : Nat → Nat} {c : Nat} (e : pad S c = 0) {p : Nat} (hp0 : p < S 0) : ¬ hp S p c := padF_none (S 0) e p hp0
theorem pad_of {S : Nat → Nat} (h : Ok S) {c p : Nat} (hc : c < 240) (hp0 : p < S 0) (g : hp S p c) : pad S c = p + 1 := by
  match e : pad S c with
  | 0 => exact absurd g (pad_none e hp0)
  | k + 1 =>
    have := pad_some e
    rw [h.2.2.2.2.2.2.2.1 k p c this.1 hp0 hc this.2 g]
theorem pad_iff {S : Nat → Nat} (h : Ok S) {c p : Nat} (hc : c < 240) : pad S c = p + 1 ↔ p < S 0 ∧ hp S p c := ⟨pad_some, fun g => pad_of h hc g.1 g.2⟩
theorem pad_congr {S S' : Nat → Nat} (c : Nat) (h0 : S' 0 = S 0) (h : ∀ p, p < S 0 → S' (32 + p) = S (32 + p)) : pad S' c = pad S c := by
  unfold pad
  rw [h0]
  have : ∀ k, k ≤ S 0 → padF S' k c = padF S k c := by
    intro k
    induction k with
    | zero => intro _; rfl
    | succ k ih =>
      intro hk
      simp only [padF, hp]
      rw [h k (by omega), ih (by omega)]
  exact this _ (Nat.le_refl _)
theorem own_le {S : Nat → Nat} (h : Ok S) {c : Nat} (hc : c < 240) : own S c ≤ S 0 ∧ own S c ≤ 16 := by
  have h1 := pad_le h c
  have h2 := (h.2.2.2.2.2.2.1 c hc).2
  have h3 := h.1
  unfold own
  split <;> omega
theorem ow_le {S n : Nat → Nat} (h : Ok S) (hn : ∀ p, p < 16 → n p < 16) {c : Nat} (hc : c < 240) : ow S n c ≤ 16 := by
  have h1 := own_le h hc
  unfold ow
  split
  · omega
  · have := hn (own S c - 1) (by omega)
    omega
theorem ow_z {S n : Nat → Nat} {c : Nat} : ow S n c = 0 ↔ own S c = 0 := by
  unfold ow
  split <;> omega
/-- what the class keeps of a cell -/
def hv (S : Nat → Nat) (c : Nat) : Int32 := if own S c = 0 then (if S (112 + c) = 0 then -1 else -2) else iN (own S c - 1)
theorem hv_neg {S : Nat → Nat} (h : Ok S) {c : Nat} (hc : c < 240) : hv S c < 0 ↔ own S c = 0 := by
  have h1 := own_le h hc
  unfold hv
  by_cases e : own S c = 0
  · rw [if_pos e]
    refine ⟨fun _ => e, fun _ => ?_⟩
    split <;> decide
  · rw [if_neg e]
    exact ⟨fun x => absurd x (iN_nn (by omega)), fun x => absurd x e⟩
theorem hv_m1 {S : Nat → Nat} (h : Ok S) {c : Nat} (hc : c < 240) : hv S c = -1 ↔ own S c = 0 ∧ S (112 + c) = 0 := by
  constructor
  · intro x
    have e : own S c = 0 := (hv_neg h hc).mp (by rw [x]; decide)
    refine ⟨e, ?_⟩
    unfold hv at x
    rw [if_pos e] at x
    apply Classical.byContradiction
    intro n
    rw [if_neg n] at x
    exact absurd x (by decide)
  · intro x
    unfold hv
    rw [if_pos x.1, if_pos x.2]
theorem hv_m2 {S : Nat → Nat} (h : Ok S) {c : Nat} (hc : c < 240) : hv S c = -2 ↔ S (112 + c) ≠ 0 := by
  constructor
  · intro x n
    have e : own S c = 0 := (hv_neg h hc).mp (by rw [x]; decide)
    have := (hv_m1 h hc).mpr ⟨e, n⟩
    rw [x] at this
    exact absurd this (by decide)
  · intro x
    unfold hv
    rw [if_pos (h.2.2.2.2.2.2.2.2.2 c hc x), if_neg x]
theorem hv_of {S : Nat → Nat} {c : Nat} (e : own S c ≠ 0) : hv S c = iN (own S c - 1) := by unfold hv; rw [if_neg e]
/-- the cell so far from another one: i rows and j columns on, counted from r up and r to the left; one more, 0 where the board ends -/
def sh (r c i j : Nat) : Nat := if c % 12 + j < r ∨ 12 + r ≤ c % 12 + j ∨ c % 120 / 12 + i < r ∨ 10 + r ≤ c % 120 / 12 + i then 0 else c + 12 * i + j - 13 * r + 1
theorem sh_mid {r c : Nat} (hr : r ≤ 2) (hc : c < 240) : sh r c r r = c + 1 := by
  unfold sh
  rw [if_neg (by omega)]
  omega
theorem sh_le {r c i j : Nat} (hc : c < 240) : sh r c i j ≤ 240 := by
  unfold sh
  split
  · omega
  · omega
def fre (S n : Nat → Nat) (c net : Nat) : Prop := S (112 + c) = 0 ∧ ∀ i j, i ≤ 2 * S 2 → j ≤ 2 * S 2 → sh (S 2) c i j ≠ 0 → ow S n (sh (S 2) c i j - 1) = 0 ∨ ow S n (sh (S 2) c i j - 1) = net + 1
theorem fre_self {S n : Nat → Nat} {c net : Nat} (h : Ok S) (hc : c < 240) (f : fre S n c net) : ow S n c = 0 ∨ ow S n c = net + 1 := by
  have h2 := h.2.2.1
  have := f.2 (S 2) (S 2) (by omega) (by omega)
  rw [sh_mid h2.2 hc] at this
  simpa using this
/-- the pad of a placed pin with the least number -/
def fp (S : Nat → Nat) (p : Nat) : Nat := if S (32 + p) / 120 = 2 then 120 + S (32 + p) % 120 else S (32 + p) % 120
end
section
/-! Pure: what a route is. -/
def rchF (C : Nat → Nat) (c : Nat) : Nat → Nat
  | 0 => 1000000
  | d + 1 => if nx c d ≠ 0 ∧ C (nx c d - 1) + prc d < rchF C c d then C (nx c d - 1) + prc d else rchF C c d
def rch (C : Nat → Nat) (c : Nat) : Nat := rchF C c 9
theorem rchF_le (C : Nat → Nat) (c : Nat) : ∀ k, rchF C c k ≤ 1000000 ∧ ∀ d, d < k → nx c d ≠ 0 → rchF C c k ≤ C (nx c d - 1) + prc d
  | 0 => ⟨Nat.le_refl _, fun d hd => absurd hd (by omega)⟩
  | k + 1 => by
    have ih := rchF_le C c k
    simp only [rchF]
    refine ⟨?_, fun d hd hn => ?_⟩
    · split <;> omega
    · by_cases e : d = k
      · subst e
        split
        · exact Nat.le_refl _
        · rename_i h
          apply Classical.byContradiction
          intro h2
          exact h ⟨hn, by omega⟩
      · have := ih.2 d (by omega) hn
        split <;> omega
theorem rchF_hit (C : Nat → Nat) (c : Nat) : ∀ k, rchF C c k < 1000000 → ∃ d, d < k ∧ nx c d ≠ 0 ∧ C (nx c d - 1) + prc d = rchF C c k
  | 0, h => absurd h (by simp [rchF])
  | k + 1, h => by
    simp only [rchF] at h ⊢
    by_cases g : nx c k ≠ 0 ∧ C (nx c k - 1) + prc k < rchF C c k
    · rw [if_pos g]
      exact ⟨k, by omega, g.1, rfl⟩
    · rw [if_neg g] at h ⊢
      obtain ⟨d, hd, h1, h2⟩ := rchF_hit C c k h
      exact ⟨d, by omega, h1, h2⟩
theorem rch_eq {C : Nat → Nat} {c k : Nat} (h1 : ∀ d, d < 9 → nx c d ≠ 0 → k ≤ C (nx c d - 1) + prc d) (h2 : k < 1000000 → ∃ d, d < 9 ∧ nx c d ≠ 0 ∧ C (nx c d - 1) + prc d ≤ k) (h3 : k ≤ 1000000) : rch C c = k := by
  have a := rchF_le C c 9
  unfold rch
  by_cases hk : k < 1000000
  · obtain ⟨d, hd, hn, hl⟩ := h2 hk
    have b := a.2 d hd hn
    obtain ⟨d2, hd2, hn2, hl2⟩ := rchF_hit C c 9 (by omega)
    have e := h1 d2 hd2 hn2
    omega
  · by_cases g : rchF C c 9 < 1000000
    · obtain ⟨d2, hd2, hn2, hl2⟩ := rchF_hit C c 9 g
      have e := h1 d2 hd2 hn2
      omega
    · omega
theorem rchF_congr {C D : Nat → Nat} {c : Nat} (hc : c < 240) (h : ∀ e, e < 240 → C e = D e) : ∀ k, k ≤ 9 → rchF C c k = rchF D c k
  | 0, _ => rfl
  | k + 1, hk => by
    simp only [rchF]
    rw [rchF_congr hc h k (by omega)]
    by_cases hn : nx c k ≠ 0
    · rw [h (nx c k - 1) (by have := (nx_ok hc (by omega) hn).1; omega)]
    · rw [if_neg (fun x => hn x.1), if_neg (fun x => hn x.1)]
theorem rch_congr {C D : Nat → Nat} {c : Nat} (hc : c < 240) (h : ∀ e, e < 240 → C e = D e) : rch C c = rch D c := rchF_congr hc h 9 (by omega)
/-- the least of the neighbours by which what is left is what is left from here -/
def wst (C : Nat → Nat) (c left : Nat) : Nat → Nat
  | 0 => 240
  | d + 1 => if nx c d ≠ 0 ∧ C (nx c d - 1) + prc d = left ∧ nx c d - 1 < wst C c left d then nx c d - 1 else wst C c left d
theorem wst_congr {C D : Nat → Nat} {c : Nat} (left : Nat) (hc : c < 240) (h : ∀ e, e < 240 → C e = D e) : ∀ k, k ≤ 9 → wst C c left k = wst D c left k
  | 0, _ => rfl
  | k + 1, hk => by
    simp only [wst]
    rw [wst_congr left hc h k (by omega)]
    by_cases hn : nx c k ≠ 0
    · rw [h (nx c k - 1) (by have := (nx_ok hc (by omega) hn).1; omega)]
    · rw [if_neg (fun x => hn x.1), if_neg (fun x => hn x.1)]
theorem wst_hit {C : Nat → Nat} {c left : Nat} (hc : c < 240) : ∀ k, k ≤ 9 → wst C c left k ≤ 240 ∧ (wst C c left k < 240 → ∃ d, d < k ∧ nx c d = wst C c left k + 1 ∧ C (wst C c left k) + prc d = left) ∧ ((∃ d, d < k ∧ nx c d ≠ 0 ∧ C (nx c d - 1) + prc d = left) → wst C c left k < 240)
  | 0, _ => ⟨Nat.le_refl _, fun h => absurd h (by simp [wst]), fun ⟨d, h, _⟩ => absurd h (by omega)⟩
  | k + 1, hk => by
    have ih := wst_hit (C := C) (left := left) hc k (by omega)
    simp only [wst]
    by_cases g : nx c k ≠ 0 ∧ C (nx c k - 1) + prc k = left ∧ nx c k - 1 < wst C c left k
    · rw [if_pos g]
      have hn := (nx_ok hc (by omega) g.1).1
      refine ⟨by omega, fun _ => ⟨k, by omega, by omega, g.2.1⟩, fun _ => by omega⟩
    · rw [if_neg g]
      refine ⟨ih.1, fun h => ?_, fun h => ?_⟩
      · obtain ⟨d, hd, e1, e2⟩ := ih.2.1 h
        exact ⟨d, by omega, e1, e2⟩
      · obtain ⟨d, hd, e1, e2⟩ := h
        by_cases e : d = k
        · subst e
          have hn := (nx_ok hc (by omega) e1).1
          apply Classical.byContradiction
          intro h2
          exact g ⟨e1, e2, by omega⟩
        · exact ih.2.2 ⟨d, by omega, e1, e2⟩
def lay1 (S : Nat → Nat) (m c : Nat) : Nat → Nat := if pad S c = 0 then up1 S (352 + c) (m + 1) else S
def wayF (C : Nat → Nat) (m : Nat) : Nat → Nat → Nat → (Nat → Nat) → Nat → Nat
  | 0, _, _, S => S
  | k + 1, c, left, S => if left = 0 then S else wayF C m k (wst C c left 9) (C (wst C c left 9)) (lay1 S m (wst C c left 9))
theorem wayF_congr {C D : Nat → Nat} (m : Nat) (h : ∀ e, e < 240 → C e = D e) : ∀ k c left S, c < 240 → (left = 0 ∨ left < 1000000 ∧ ∃ d, d < 9 ∧ nx c d ≠ 0 ∧ C (nx c d - 1) + prc d = left) → (∀ e, e < 240 → C e = 0 ∨ C e = 1000000 ∨ ∃ d, d < 9 ∧ nx e d ≠ 0 ∧ C (nx e d - 1) + prc d = C e) → wayF C m k c left S = wayF D m k c left S
  | 0, _, _, _, _, _, _ => rfl
  | k + 1, c, left, S, hc, hl, ha => by
    simp only [wayF]
    by_cases h0 : left = 0
    · rw [if_pos h0, if_pos h0]
    · rw [if_neg h0, if_neg h0]
      have hl := hl.resolve_left h0
      have hw := wst_hit (C := C) (left := left) hc 9 (Nat.le_refl _)
      have he := hw.2.2 hl.2
      rw [← wst_congr left hc h 9 (Nat.le_refl _), ← h _ he]
      refine wayF_congr m h k _ _ _ he ?_ ha
      obtain ⟨d, hd, e1, e2⟩ := hw.2.1 he
      have := prc_pos d
      rcases ha _ he with x | x | x
      · exact Or.inl x
      · omega
      · exact Or.inr ⟨by omega, x⟩
-- nets' pins
def inN (S n : Nat → Nat) (net p : Nat) : Prop := p < S 0 ∧ n p = net ∧ S (32 + p) ≠ 0
def isFst (S n : Nat → Nat) (net p : Nat) : Prop := inN S n net p ∧ ∀ q, q < p → ¬ inN S n net q
def isPie (S n : Nat → Nat) (net : Nat) (I : Nat → Prop) : Prop := ∃ p, isFst S n net p ∧ isPc (fun c => ow S n c = net + 1) (fp S p) I
def isMis (S n : Nat → Nat) (net : Nat) (I : Nat → Prop) (m : Nat) : Prop := (inN S n net m ∧ ¬ I (fp S m)) ∧ ∀ q, q < m → ¬ (inN S n net q ∧ ¬ I (fp S q))
/-- code of the missing pin: one more, 0 for none -/
def Mis (S n : Nat → Nat) (net k : Nat) : Prop := (k = 0 ∧ ∀ p, ¬ inN S n net p) ∨ ∃ I, isPie S n net I ∧ ((k = 0 ∧ ∀ p, ¬ (inN S n net p ∧ ¬ I (fp S p))) ∨ ∃ m, k = m + 1 ∧ isMis S n net I m)
def pd2 (S : Nat → Nat) (C : Nat → Nat) (m : Nat) : Nat := if S (32 + m) / 120 = 3 ∧ rch C (fp S m + 120) < rch C (fp S m) then fp S m + 120 else fp S m
def Rt (S n : Nat → Nat) (net : Nat) (v : Int32) (S' : Nat → Nat) : Prop :=
  ((∀ p, ¬ inN S n net p) ∧ v = 0 ∧ S' = S) ∨ ∃ I, isPie S n net I ∧ (((∀ p, ¬ (inN S n net p ∧ ¬ I (fp S p))) ∧ v = 0 ∧ S' = S) ∨
    ∃ m C, isMis S n net I m ∧ isCost I (fun c => fre S n c net) C ∧ ((rch C (pd2 S C m) = 1000000 ∧ v = -2 ∧ S' = S) ∨
      (rch C (pd2 S C m) < 1000000 ∧ v = iN (rch C (pd2 S C m)) ∧ S' = wayF C m 240 (pd2 S C m) (rch C (pd2 S C m)) S)))
theorem fp_lt {S : Nat → Nat} (p : Nat) : fp S p < 240 := by
  unfold fp
  split <;> omega
theorem isFst_uniq {S n : Nat → Nat} {net p q : Nat} (h : isFst S n net p) (g : isFst S n net q) : p = q := by
  rcases Nat.lt_trichotomy p q with c | c | c
  · exact absurd h.1 (g.2 p c)
  · exact c
  · exact absurd g.1 (h.2 q c)
theorem isPie_uniq {S n : Nat → Nat} {net : Nat} {I J : Nat → Prop} (h : isPie S n net I) (g : isPie S n net J) {c : Nat} (hc : c < 240) : I c ↔ J c := by
  obtain ⟨p, h1, h2⟩ := h
  obtain ⟨q, g1, g2⟩ := g
  cases isFst_uniq h1 g1
  exact ⟨isPc_sub h2 g2 hc, isPc_sub g2 h2 hc⟩
theorem isMis_uniq {S n : Nat → Nat} {net m k : Nat} {I J : Nat → Prop} (e : ∀ c, c < 240 → (I c ↔ J c)) (h : isMis S n net I m) (g : isMis S n net J k) : m = k := by
  rcases Nat.lt_trichotomy m k with c | c | c
  · exact absurd ⟨h.1.1, fun x => h.1.2 ((e _ (fp_lt m)).mpr x)⟩ (g.2 m c)
  · exact c
  · exact absurd ⟨g.1.1, fun x => g.1.2 ((e _ (fp_lt k)).mp x)⟩ (h.2 k c)
theorem isCost_congr {I J F : Nat → Prop} {C : Nat → Nat} (e : ∀ c, c < 240 → (I c ↔ J c)) (h : isCost I F C) : isCost J F C :=
  ⟨fun c hc hJ => h.1 c hc ((e c hc).mpr hJ), fun c hc hJ => h.2.1 c hc (fun x => hJ ((e c hc).mp x)), h.2.2.1, fun c d hc hd hJ => h.2.2.2.1 c d hc hd (fun x => hJ ((e c hc).mp x)), fun c hc hJ => h.2.2.2.2 c hc (fun x => hJ ((e c hc).mp x))⟩
theorem isCost_eq {I F : Nat → Prop} {C : Nat → Nat} (h : isCost I F C) {e : Nat} (he : e < 240) : C e = 0 ∨ C e = 1000000 ∨ ∃ d, d < 9 ∧ nx e d ≠ 0 ∧ C (nx e d - 1) + prc d = C e := by
  by_cases hI : I e
  · exact Or.inl (h.1 e he hI)
  · by_cases hf : C e < 1000000
    · by_cases hF : F e
      · obtain ⟨d, hd, hn, hl⟩ := h.2.2.2.2 e he hI hf
        have := h.2.2.2.1 e d he hd hI hF hn
        exact Or.inr (Or.inr ⟨d, hd, hn, by omega⟩)
      · have := h.2.1 e he hI hF
        omega
    · have := h.2.2.1 e he
      exact Or.inr (Or.inl (by omega))
theorem pd2_lt {S C : Nat → Nat} {m : Nat} : pd2 S C m < 240 := by
  unfold pd2
  split
  · rename_i h
    unfold fp
    rw [if_neg (by omega)]
    omega
  · exact fp_lt m
theorem pd2_congr {S C D : Nat → Nat} {m : Nat} (h : ∀ e, e < 240 → C e = D e) : pd2 S C m = pd2 S D m := by
  unfold pd2
  by_cases g : S (32 + m) / 120 = 3
  · have hl : fp S m + 120 < 240 := by unfold fp; rw [if_neg (by omega)]; omega
    rw [rch_congr hl h, rch_congr (fp_lt m) h]
  · rw [if_neg (fun x => g x.1), if_neg (fun x => g x.1)]
theorem Rt_uniq {S n S1 S2 : Nat → Nat} {net : Nat} {v w : Int32} (h : Rt S n net v S1) (g : Rt S n net w S2) : v = w ∧ S1 = S2 := by
  rcases h with ⟨h0, rfl, rfl⟩ | ⟨I, hI, h⟩
  · rcases g with ⟨g0, rfl, rfl⟩ | ⟨J, ⟨p, hp, _⟩, _⟩
    · exact ⟨rfl, rfl⟩
    · exact absurd hp.1 (h0 p)
  · rcases g with ⟨g0, rfl, rfl⟩ | ⟨J, hJ, g⟩
    · obtain ⟨p, hp, _⟩ := hI
      exact absurd hp.1 (g0 p)
    · have e : ∀ c, c < 240 → (I c ↔ J c) := fun c hc => isPie_uniq hI hJ hc
      rcases h with ⟨h0, rfl, rfl⟩ | ⟨m, C, hm, hC, h⟩
      · rcases g with ⟨g0, rfl, rfl⟩ | ⟨k, D, hk, hD, g⟩
        · exact ⟨rfl, rfl⟩
        · exact absurd ⟨hk.1.1, fun x => hk.1.2 ((e _ (fp_lt k)).mp x)⟩ (h0 k)
      · rcases g with ⟨g0, rfl, rfl⟩ | ⟨k, D, hk, hD, g⟩
        · exact absurd ⟨hm.1.1, fun x => hm.1.2 ((e _ (fp_lt m)).mpr x)⟩ (g0 m)
        · cases isMis_uniq e hm hk
          have ec : ∀ c, c < 240 → C c = D c := fun c hc => isCost_uniq (isCost_congr e hC) hD hc
          have ep := pd2_congr (S := S) (m := m) ec
          have er := rch_congr (pd2_lt (S := S) (C := C) (m := m)) ec
          rw [← ep, ← er] at g
          rcases h with ⟨h1, rfl, rfl⟩ | ⟨h1, rfl, rfl⟩
          · rcases g with ⟨g1, rfl, rfl⟩ | ⟨g1, rfl, rfl⟩
            · exact ⟨rfl, rfl⟩
            · omega
          · rcases g with ⟨g1, rfl, rfl⟩ | ⟨g1, rfl, rfl⟩
            · omega
            · refine ⟨rfl, wayF_congr m ec 240 _ _ S pd2_lt (Or.inr ⟨h1, ?_⟩) (fun c hc => isCost_eq hC hc)⟩
              exact rchF_hit C _ 9 h1
end
section
/-! Pure: what a way changes. -/
theorem lay1_at (S : Nat → Nat) (m c i : Nat) : lay1 S m c i = if i = 352 + c ∧ pad S c = 0 then m + 1 else S i := by
  unfold lay1
  by_cases h : pad S c = 0
  · rw [if_pos h]
    unfold up1
    by_cases e : i = 352 + c
    · rw [if_pos e, if_pos ⟨e, h⟩]
    · rw [if_neg e, if_neg (fun x => e x.1)]
  · rw [if_neg h, if_neg (fun x => h x.2)]
theorem lay1_pad (S : Nat → Nat) (hS : S 0 ≤ 16) (m c e : Nat) : pad (lay1 S m c) e = pad S e := by
  refine pad_congr e ?_ (fun p hp => ?_)
  · rw [lay1_at, if_neg (fun x => by omega)]
  · rw [lay1_at, if_neg (fun x => by omega)]
theorem lay1_lo {S : Nat → Nat} {m c i : Nat} (h : i < 352) : lay1 S m c i = S i := by
  rw [lay1_at, if_neg (fun x => by omega)]
/-- a cell costs nothing just where it is of the piece -/
theorem isCost_z {I F : Nat → Prop} {C : Nat → Nat} (h : isCost I F C) {c : Nat} (hc : c < 240) (e : C c = 0) : I c := by
  apply Classical.byContradiction
  intro n
  obtain ⟨d, hd, hn, hl⟩ := h.2.2.2.2 c hc n (by omega)
  have := prc_pos d
  omega
theorem isCost_pass {I F : Nat → Prop} {C : Nat → Nat} (h : isCost I F C) {c : Nat} (hc : c < 240) (e : C c < 1000000) : I c ∨ F c := by
  by_cases hI : I c
  · exact Or.inl hI
  · by_cases hF : F c
    · exact Or.inr hF
    · have := h.2.1 c hc hI hF
      omega
/-- what is left can be gone -/
def wOK (C : Nat → Nat) (c left : Nat) : Prop := left = 0 ∨ left < 1000000 ∧ ∃ d, d < 9 ∧ nx c d ≠ 0 ∧ C (nx c d - 1) + prc d = left
theorem wOK_step {I F : Nat → Prop} {C : Nat → Nat} (h : isCost I F C) {c left : Nat} (hc : c < 240) (hl : wOK C c left) (h0 : left ≠ 0) :
    wst C c left 9 < 240 ∧ nE c (wst C c left 9) ∧ C (wst C c left 9) < left ∧ left < 1000000 ∧ (I (wst C c left 9) ∨ F (wst C c left 9)) ∧ wOK C (wst C c left 9) (C (wst C c left 9)) := by
  have hl := hl.resolve_left h0
  have hw := wst_hit (C := C) (left := left) hc 9 (Nat.le_refl _)
  have he := hw.2.2 hl.2
  obtain ⟨d, hd, e1, e2⟩ := hw.2.1 he
  have hp := prc_pos d
  refine ⟨he, ⟨d, hd, e1⟩, by omega, hl.1, isCost_pass h he (by omega), ?_⟩
  rcases isCost_eq h he with x | x | x
  · exact Or.inl x
  · omega
  · exact Or.inr ⟨by omega, x⟩
theorem wayF_prop {I F : Nat → Prop} {C : Nat → Nat} (h : isCost I F C) (m : Nat) {N : Nat} (hN : N = 240) : ∀ k c left S, S 0 ≤ 16 → c < 240 → wOK C c left → (cnt N (fun a => C a < left) ≤ k) → (∃ a, a < 240 ∧ I a) → (left = 0 → I c) →
    ∃ Y : Nat → Prop, (∀ e, Y e → e < 240 ∧ (I e ∨ F e)) ∧ (∀ i, (∃ e, i = 352 + e ∧ Y e ∧ pad S e = 0) → wayF C m k c left S i = m + 1) ∧ (∀ i, ¬ (∃ e, i = 352 + e ∧ Y e ∧ pad S e = 0) → wayF C m k c left S i = S i) ∧
      ∀ X : Nat → Prop, (∀ e, e < 240 → I e → X e) → (∀ a b, a < 240 → b < 240 → nE a b → X b → (Y a ∨ a = c) → X a) → X c
  | 0, c, left, S, hS, hc, hl, hk, ⟨a, ha, hI⟩, hz => by
    have h0 : left = 0 := by
      apply Classical.byContradiction
      intro h0
      have h1 : cnt N (fun a => C a < left) = 0 := by omega
      have h2 : cnt N (fun _ => False) < cnt N (fun a => C a < left) := cnt_lt N (fun _ _ x => x.elim) ⟨a, by omega, fun x => x, by rw [h.1 a ha hI]; omega⟩
      omega
    refine ⟨fun _ => False, fun _ x => x.elim, fun i x => ?_, fun i _ => rfl, fun X hX _ => hX c hc (hz h0)⟩
    obtain ⟨_, _, x, _⟩ := x
    exact x.elim
  | k + 1, c, left, S, hS, hc, hl, hk, hex, hz => by
    simp only [wayF]
    by_cases h0 : left = 0
    · rw [if_pos h0]
      refine ⟨fun _ => False, fun _ x => x.elim, fun i x => ?_, fun i _ => rfl, fun X hX _ => hX c hc (hz h0)⟩
      obtain ⟨_, _, x, _⟩ := x
      exact x.elim
    · rw [if_neg h0]
      obtain ⟨he, hE, hlt, hlf, hp, hok⟩ := wOK_step h hc hl h0
      generalize wst C c left 9 = e at *
      have hcnt : cnt N (fun a => C a < C e) < cnt N (fun a => C a < left) := cnt_lt N (fun a _ x => by omega) ⟨e, by omega, by omega, hlt⟩
      obtain ⟨Y, y1, y2, y3, y4⟩ := wayF_prop h m hN k e (C e) (lay1 S m e) (by rw [lay1_lo (by omega)]; exact hS) he hok (by omega) hex (fun z => isCost_z h he z)
      have hpad : ∀ x, pad (lay1 S m e) x = pad S x := fun x => lay1_pad S hS m e x
      refine ⟨fun x => Y x ∨ x = e, ?_, ?_, ?_, ?_⟩
      · rintro x (hx | rfl)
        · exact y1 x hx
        · exact ⟨he, hp⟩
      · rintro i ⟨x, rfl, hx, hpx⟩
        by_cases hy : Y x
        · exact y2 _ ⟨x, rfl, hy, by rw [hpad]; exact hpx⟩
        · have hxe := hx.resolve_left hy
          subst hxe
          rw [y3 _ (fun z => by
            obtain ⟨x2, e2, hx2, _⟩ := z
            have : x2 = x := by omega
            exact hy (this ▸ hx2)), lay1_at, if_pos ⟨rfl, hpx⟩]
      · intro i hi
        rw [y3 i (fun z => by
          obtain ⟨x, e1, hx, hpx⟩ := z
          exact hi ⟨x, e1, Or.inl hx, by rw [hpad] at hpx; exact hpx⟩), lay1_at, if_neg (fun z => hi ⟨e, z.1, Or.inr rfl, z.2⟩)]
      · intro X hX hcl
        have hXe : X e := y4 X hX (fun a b ha hb hab hXb hY => hcl a b ha hb hab hXb (Or.inl hY))
        exact hcl c e hc he hE hXe (Or.inr rfl)
end
section
/-! Printed: the methods as tables. -/
def tm_0 (w : qS) : Nat → Option qE := (qq_br 33 (qq_br 12 (qq_br 6 (qq_br 4 (qq_br 1 (qq_lf 0 (.inl (qo_il 1 1))) (qq_lf 1 (.inl (qo_z (fun x => x < 0) 9)))) (qq_br 5 (qq_lf 4 (.inl (qo_il 1 1))) (qq_lf 5 (.inl (qo_k (iN 4) 1))))) (qq_br 10 (qq_br 9 (qq_lf 6 (.inl (qo_c (fun x y => x < y) 11))) (qq_lf 9 (.inl (qo_k (-1) 1)))) (qq_br 11 (qq_lf 10 (.inr (.inr 1))) (qq_lf 11 (.inl (qo_al 0 1)))))) (qq_br 23 (qq_br 18 (qq_br 15 (qq_lf 12 (.inl (qo_get (gL w) 0 0))) (qq_lf 15 (.inl (qo_get (gL w) 1 0)))) (qq_br 21 (qq_lf 18 (.inl (qo_get (gL w) 2 6))) (qq_lf 21 (.inl (qo_k (iN 16) 2))))) (qq_br 28 (qq_br 26 (qq_lf 23 (.inl (qo_c (fun x y => x < y) 29))) (qq_lf 26 (.inl (qo_k (-2) 2)))) (qq_br 29 (qq_lf 28 (.inr (.inr 1))) (qq_br 30 (qq_lf 29 (.inl (qo_al 0 1))) (qq_lf 30 (.inl (qo_get (gL w) 0 1)))))))) (qq_br 51 (qq_br 43 (qq_br 37 (qq_br 34 (qq_lf 33 (.inl (qo_al 0 1))) (qq_lf 34 (.inl (qo_get (gL w) 0 0)))) (qq_br 40 (qq_lf 37 (.inl (qo_get (gL w) 1 0))) (qq_lf 40 (.inr (.inl (59, 2, some 3)))))) (qq_br 47 (qq_br 44 (qq_lf 43 (.inl (qo_al 0 1))) (qq_lf 44 (.inl (qo_get (gL w) 0 0)))) (qq_br 48 (qq_lf 47 (.inl (qo_il 1 1))) (qq_lf 48 (.inr (.inl (37, 2, some 1))))))) (qq_br 57 (qq_br 53 (qq_br 52 (qq_lf 51 (.inl (qo_is 2 1))) (qq_lf 52 (.inl (qo_al 0 1)))) (qq_br 56 (qq_lf 53 (.inl (qo_get (gL w) 0 1))) (qq_lf 56 (.inl (qo_al 0 1))))) (qq_br 63 (qq_br 60 (qq_lf 57 (.inl (qo_get (gL w) 0 0))) (qq_lf 60 (.inl (qo_get (gL w) 1 0)))) (qq_br 66 (qq_lf 63 (.inr (.inl (60, 2, some 3)))) (qq_br 67 (qq_lf 66 (.inl (qo_il 2 1))) (qq_lf 67 (.inr (.inr 1)))))))))
def tm_1 (w : qS) : Nat → Option qE := (qq_br 44 (qq_br 22 (qq_br 11 (qq_br 4 (qq_br 1 (qq_lf 0 (.inl (qo_al 0 1))) (qq_lf 1 (.inl (qo_get (gL w) 0 0)))) (qq_br 5 (qq_lf 4 (.inl (qo_il 1 1))) (qq_br 8 (qq_lf 5 (.inr (.inl (29, 2, some 1)))) (qq_lf 8 (.inl (qo_z (fun x => x = 0) 27)))))) (qq_br 15 (qq_br 12 (qq_lf 11 (.inl (qo_al 0 1))) (qq_lf 12 (.inl (qo_get (gL w) 0 0)))) (qq_br 16 (qq_lf 15 (.inl (qo_il 2 1))) (qq_br 19 (qq_lf 16 (.inr (.inl (29, 2, some 1)))) (qq_lf 19 (.inl (qo_z (fun x => x = 0) 27))))))) (qq_br 29 (qq_br 24 (qq_br 23 (qq_lf 22 (.inl (qo_il 1 1))) (qq_lf 23 (.inl (qo_il 2 1)))) (qq_br 27 (qq_lf 24 (.inl (qo_c (fun x y => ¬ x = y) 29))) (qq_br 28 (qq_lf 27 (.inl (qo_k (-1) 1))) (qq_lf 28 (.inr (.inr 1)))))) (qq_br 36 (qq_br 30 (qq_lf 29 (.inl (qo_al 0 1))) (qq_br 33 (qq_lf 30 (.inl (qo_get (gL w) 0 0))) (qq_lf 33 (.inl (qo_get (gL w) 1 0))))) (qq_br 39 (qq_lf 36 (.inl (qo_get (gL w) 2 7))) (qq_br 41 (qq_lf 39 (.inl (qo_k (iN 24) 2))) (qq_lf 41 (.inl (qo_c (fun x y => x < y) 47)))))))) (qq_br 66 (qq_br 52 (qq_br 47 (qq_br 46 (qq_lf 44 (.inl (qo_k (-2) 2))) (qq_lf 46 (.inr (.inr 1)))) (qq_br 48 (qq_lf 47 (.inl (qo_al 0 1))) (qq_br 51 (qq_lf 48 (.inl (qo_get (gL w) 0 1))) (qq_lf 51 (.inl (qo_al 0 1)))))) (qq_br 61 (qq_br 55 (qq_lf 52 (.inl (qo_get (gL w) 0 0))) (qq_br 58 (qq_lf 55 (.inl (qo_get (gL w) 1 0))) (qq_lf 58 (.inr (.inl (59, 2, some 3)))))) (qq_br 62 (qq_lf 61 (.inl (qo_al 0 1))) (qq_br 65 (qq_lf 62 (.inl (qo_get (gL w) 0 0))) (qq_lf 65 (.inl (qo_il 1 1))))))) (qq_br 75 (qq_br 70 (qq_br 67 (qq_lf 66 (.inl (qo_il 2 1))) (qq_lf 67 (.inr (.inl (38, 3, some 1))))) (qq_br 71 (qq_lf 70 (.inl (qo_is 3 1))) (qq_br 72 (qq_lf 71 (.inl (qo_al 0 1))) (qq_lf 72 (.inl (qo_get (gL w) 0 1)))))) (qq_br 82 (qq_br 76 (qq_lf 75 (.inl (qo_al 0 1))) (qq_br 79 (qq_lf 76 (.inl (qo_get (gL w) 0 0))) (qq_lf 79 (.inl (qo_get (gL w) 1 0))))) (qq_br 85 (qq_lf 82 (.inr (.inl (60, 2, some 3)))) (qq_br 86 (qq_lf 85 (.inl (qo_il 3 1))) (qq_lf 86 (.inr (.inr 1)))))))))
def tm_2 (w : qS) : Nat → Option qE := (qq_br 31 (qq_br 15 (qq_br 5 (qq_br 1 (qq_lf 0 (.inl (qo_il 1 1))) (qq_br 4 (qq_lf 1 (.inl (qo_z (fun x => x < 0) 18))) (qq_lf 4 (.inl (qo_il 1 1))))) (qq_br 9 (qq_br 6 (qq_lf 5 (.inl (qo_al 0 1))) (qq_lf 6 (.inl (qo_get (gL w) 0 0)))) (qq_br 12 (qq_lf 9 (.inl (qo_get (gL w) 1 0))) (qq_lf 12 (.inl (qo_get (gL w) 2 7)))))) (qq_br 21 (qq_br 19 (qq_br 18 (qq_lf 15 (.inl (qo_c (fun x y => x < y) 20))) (qq_lf 18 (.inl (qo_k (-1) 1)))) (qq_br 20 (qq_lf 19 (.inr (.inr 1))) (qq_lf 20 (.inl (qo_al 0 1))))) (qq_br 25 (qq_br 24 (qq_lf 21 (.inl (qo_get (gL w) 0 1))) (qq_lf 24 (.inl (qo_al 0 1)))) (qq_br 28 (qq_lf 25 (.inl (qo_get (gL w) 0 0))) (qq_lf 28 (.inl (qo_get (gL w) 1 0))))))) (qq_br 47 (qq_br 39 (qq_br 35 (qq_br 34 (qq_lf 31 (.inr (.inl (59, 2, some 3)))) (qq_lf 34 (.inl (qo_al 0 1)))) (qq_br 38 (qq_lf 35 (.inl (qo_get (gL w) 0 0))) (qq_lf 38 (.inl (qo_il 1 1))))) (qq_br 43 (qq_br 42 (qq_lf 39 (.inr (.inl (39, 2, some 1)))) (qq_lf 42 (.inl (qo_al 0 1)))) (qq_br 46 (qq_lf 43 (.inl (qo_get (gL w) 0 1))) (qq_lf 46 (.inl (qo_al 0 1)))))) (qq_br 57 (qq_br 53 (qq_br 50 (qq_lf 47 (.inl (qo_get (gL w) 0 0))) (qq_lf 50 (.inl (qo_get (gL w) 1 0)))) (qq_br 56 (qq_lf 53 (.inr (.inl (60, 2, some 3)))) (qq_lf 56 (.inl (qo_al 0 1))))) (qq_br 63 (qq_br 60 (qq_lf 57 (.inl (qo_get (gL w) 0 0))) (qq_lf 60 (.inl (qo_get (gL w) 1 0)))) (qq_br 66 (qq_lf 63 (.inl (qo_get (gL w) 2 7))) (qq_lf 66 (.inr (.inr 1))))))))
def tm_3 (w : qS) : Nat → Option qE := (qq_br 12 (qq_br 5 (qq_br 1 (qq_lf 0 (.inl (qo_al 0 1))) (qq_br 4 (qq_lf 1 (.inl (qo_get (gL w) 0 0))) (qq_lf 4 (.inl (qo_il 1 1))))) (qq_br 8 (qq_lf 5 (.inr (.inl (29, 2, some 1)))) (qq_br 11 (qq_lf 8 (.inl (qo_z (fun x => x = 0) 22))) (qq_lf 11 (.inl (qo_al 0 1)))))) (qq_br 19 (qq_br 15 (qq_lf 12 (.inl (qo_get (gL w) 0 0))) (qq_br 16 (qq_lf 15 (.inl (qo_il 1 1))) (qq_lf 16 (.inr (.inl (31, 2, some 1)))))) (qq_br 22 (qq_lf 19 (.inl (qo_g 23))) (qq_br 23 (qq_lf 22 (.inl (qo_k (-1) 1))) (qq_lf 23 (.inr (.inr 1)))))))
def tm_4 (w : qS) : Nat → Option qE := (qq_br 36 (qq_br 16 (qq_br 9 (qq_br 4 (qq_br 1 (qq_lf 0 (.inl (qo_il 1 1))) (qq_lf 1 (.inl (qo_z (fun x => x < 0) 13)))) (qq_br 5 (qq_lf 4 (.inl (qo_il 2 1))) (qq_br 8 (qq_lf 5 (.inl (qo_z (fun x => x < 0) 13))) (qq_lf 8 (.inl (qo_il 2 1)))))) (qq_br 13 (qq_br 10 (qq_lf 9 (.inl (qo_k 1 1))) (qq_lf 10 (.inl (qo_c (fun x y => x ≤ y) 15)))) (qq_br 14 (qq_lf 13 (.inl (qo_k (-1) 1))) (qq_br 15 (qq_lf 14 (.inr (.inr 1))) (qq_lf 15 (.inl (qo_il 1 1))))))) (qq_br 23 (qq_br 18 (qq_br 17 (qq_lf 16 (.inl (qo_is 3 1))) (qq_lf 17 (.inl (qo_k 0 1)))) (qq_br 20 (qq_lf 18 (.inl (qo_is 4 2))) (qq_br 22 (qq_lf 20 (.inl (qo_il 4 2))) (qq_lf 22 (.inl (qo_al 0 1)))))) (qq_br 29 (qq_br 26 (qq_lf 23 (.inl (qo_get (gL w) 0 0))) (qq_lf 26 (.inl (qo_get (gL w) 1 0)))) (qq_br 32 (qq_lf 29 (.inl (qo_get (gL w) 2 6))) (qq_br 35 (qq_lf 32 (.inl (qo_c (fun x y => y ≤ x) 80))) (qq_lf 35 (.inl (qo_al 0 1)))))))) (qq_br 59 (qq_br 48 (qq_br 41 (qq_br 39 (qq_lf 36 (.inl (qo_get (gL w) 0 0))) (qq_lf 39 (.inl (qo_il 4 2)))) (qq_br 44 (qq_lf 41 (.inr (.inl (42, 2, some 1)))) (qq_br 46 (qq_lf 44 (.inl (qo_is 5 2))) (qq_lf 46 (.inl (qo_il 5 2)))))) (qq_br 52 (qq_br 49 (qq_lf 48 (.inl (qo_k (-1) 1))) (qq_lf 49 (.inl (qo_c (fun x y => ¬ x = y) 55)))) (qq_br 55 (qq_lf 52 (.inl (qo_g 74))) (qq_br 56 (qq_lf 55 (.inl (qo_il 3 1))) (qq_lf 56 (.inl (qo_z (fun x => ¬ x = 0) 71))))))) (qq_br 70 (qq_br 63 (qq_br 60 (qq_lf 59 (.inl (qo_il 2 1))) (qq_lf 60 (.inl (qo_z (fun x => ¬ x = 0) 68)))) (qq_br 65 (qq_lf 63 (.inl (qo_il 5 2))) (qq_br 68 (qq_lf 65 (.inl (qo_g 70))) (qq_lf 68 (.inl (qo_il 4 2)))))) (qq_br 77 (qq_br 71 (qq_lf 70 (.inr (.inr 1))) (qq_br 74 (qq_lf 71 (.inl (qo_inc 3 (-1)))) (qq_lf 74 (.inl (qo_inc 4 1))))) (qq_br 80 (qq_lf 77 (.inl (qo_g 20))) (qq_br 81 (qq_lf 80 (.inl (qo_k (-1) 1))) (qq_lf 81 (.inr (.inr 1)))))))))
def tm_5 (w : qS) : Nat → Option qE := (qq_br 63 (qq_br 35 (qq_br 16 (qq_br 8 (qq_br 4 (qq_br 1 (qq_lf 0 (.inl (qo_al 0 1))) (qq_lf 1 (.inl (qo_get (gL w) 0 0)))) (qq_br 5 (qq_lf 4 (.inl (qo_il 1 1))) (qq_lf 5 (.inr (.inl (29, 2, some 1)))))) (qq_br 12 (qq_br 11 (qq_lf 8 (.inl (qo_z (fun x => x = 0) 34))) (qq_lf 11 (.inl (qo_al 0 1)))) (qq_br 15 (qq_lf 12 (.inl (qo_get (gL w) 0 0))) (qq_lf 15 (.inl (qo_il 1 1)))))) (qq_br 25 (qq_br 22 (qq_br 19 (qq_lf 16 (.inr (.inl (30, 2, some 1)))) (qq_lf 19 (.inl (qo_z (fun x => ¬ x = 0) 34)))) (qq_br 24 (qq_lf 22 (.inl (qo_il 4 2))) (qq_lf 24 (.inl (qo_k 1 1))))) (qq_br 30 (qq_br 28 (qq_lf 25 (.inl (qo_c (fun x y => x < y) 34))) (qq_lf 28 (.inl (qo_il 4 2)))) (qq_br 31 (qq_lf 30 (.inl (qo_k (iN 3) 1))) (qq_br 34 (qq_lf 31 (.inl (qo_c (fun x y => x ≤ y) 36))) (qq_lf 34 (.inl (qo_k 0 1)))))))) (qq_br 50 (qq_br 41 (qq_br 37 (qq_br 36 (qq_lf 35 (.inr (.inr 2))) (qq_lf 36 (.inl (qo_il 2 1)))) (qq_br 40 (qq_lf 37 (.inl (qo_z (fun x => x < 0) 56))) (qq_lf 40 (.inl (qo_il 2 1))))) (qq_br 46 (qq_br 43 (qq_lf 41 (.inl (qo_k (iN 12) 2))) (qq_lf 43 (.inl (qo_c (fun x y => y ≤ x) 56)))) (qq_br 47 (qq_lf 46 (.inl (qo_il 3 1))) (qq_lf 47 (.inl (qo_z (fun x => x < 0) 56)))))) (qq_br 57 (qq_br 53 (qq_br 51 (qq_lf 50 (.inl (qo_il 3 1))) (qq_lf 51 (.inl (qo_k (iN 10) 2)))) (qq_br 56 (qq_lf 53 (.inl (qo_c (fun x y => x < y) 58))) (qq_lf 56 (.inl (qo_k 0 1))))) (qq_br 59 (qq_br 58 (qq_lf 57 (.inr (.inr 2))) (qq_lf 58 (.inl (qo_il 3 1)))) (qq_br 61 (qq_lf 59 (.inl (qo_k (iN 12) 2))) (qq_br 62 (qq_lf 61 (.inl (qo_b (fun x y => x * y)))) (qq_lf 62 (.inl (qo_il 2 1))))))))) (qq_br 95 (qq_br 78 (qq_br 70 (qq_br 66 (qq_br 64 (qq_lf 63 (.inl (qo_b (fun x y => x + y)))) (qq_lf 64 (.inl (qo_is 5 2)))) (qq_br 67 (qq_lf 66 (.inl (qo_al 0 1))) (qq_lf 67 (.inl (qo_get (gL w) 0 0))))) (qq_br 74 (qq_br 72 (qq_lf 70 (.inl (qo_il 5 2))) (qq_lf 72 (.inl (qo_il 4 2)))) (qq_br 75 (qq_lf 74 (.inl (qo_al 0 1))) (qq_lf 75 (.inl (qo_get (gL w) 0 0)))))) (qq_br 88 (qq_br 82 (qq_br 79 (qq_lf 78 (.inl (qo_il 1 1))) (qq_lf 79 (.inr (.inl (31, 2, some 1))))) (qq_br 85 (qq_lf 82 (.inr (.inl (44, 4, some 1)))) (qq_lf 85 (.inl (qo_z (fun x => ¬ x = 0) 90))))) (qq_br 90 (qq_br 89 (qq_lf 88 (.inl (qo_k 0 1))) (qq_lf 89 (.inr (.inr 2)))) (qq_br 91 (qq_lf 90 (.inl (qo_al 0 1))) (qq_br 94 (qq_lf 91 (.inl (qo_get (gL w) 0 1))) (qq_lf 94 (.inl (qo_al 0 1)))))))) (qq_br 113 (qq_br 105 (qq_br 101 (qq_br 98 (qq_lf 95 (.inl (qo_get (gL w) 0 0))) (qq_lf 98 (.inl (qo_get (gL w) 1 0)))) (qq_br 104 (qq_lf 101 (.inr (.inl (59, 2, some 3)))) (qq_lf 104 (.inl (qo_al 0 1))))) (qq_br 109 (qq_br 108 (qq_lf 105 (.inl (qo_get (gL w) 0 0))) (qq_lf 108 (.inl (qo_il 1 1)))) (qq_br 111 (qq_lf 109 (.inl (qo_il 5 2))) (qq_lf 111 (.inl (qo_il 4 2)))))) (qq_br 121 (qq_br 117 (qq_br 116 (qq_lf 113 (.inr (.inl (45, 4, some 1)))) (qq_lf 116 (.inl (qo_al 0 1)))) (qq_br 120 (qq_lf 117 (.inl (qo_get (gL w) 0 1))) (qq_lf 120 (.inl (qo_al 0 1))))) (qq_br 127 (qq_br 124 (qq_lf 121 (.inl (qo_get (gL w) 0 0))) (qq_lf 124 (.inl (qo_get (gL w) 1 0)))) (qq_br 130 (qq_lf 127 (.inr (.inl (60, 2, some 3)))) (qq_br 131 (qq_lf 130 (.inl (qo_k 1 1))) (qq_lf 131 (.inr (.inr 2))))))))))
def tm_6 (w : qS) : Nat → Option qE := (qq_br 29 (qq_br 15 (qq_br 5 (qq_br 1 (qq_lf 0 (.inl (qo_al 0 1))) (qq_br 4 (qq_lf 1 (.inl (qo_get (gL w) 0 0))) (qq_lf 4 (.inl (qo_il 1 1))))) (qq_br 11 (qq_br 8 (qq_lf 5 (.inr (.inl (29, 2, some 1)))) (qq_lf 8 (.inl (qo_z (fun x => x = 0) 22)))) (qq_br 12 (qq_lf 11 (.inl (qo_al 0 1))) (qq_lf 12 (.inl (qo_get (gL w) 0 0)))))) (qq_br 23 (qq_br 19 (qq_br 16 (qq_lf 15 (.inl (qo_il 1 1))) (qq_lf 16 (.inr (.inl (30, 2, some 1))))) (qq_br 22 (qq_lf 19 (.inl (qo_z (fun x => ¬ x = 0) 24))) (qq_lf 22 (.inl (qo_k 0 1))))) (qq_br 25 (qq_br 24 (qq_lf 23 (.inr (.inr 2))) (qq_lf 24 (.inl (qo_al 0 1)))) (qq_br 28 (qq_lf 25 (.inl (qo_get (gL w) 0 1))) (qq_lf 28 (.inl (qo_al 0 1))))))) (qq_br 46 (qq_br 38 (qq_br 32 (qq_lf 29 (.inl (qo_get (gL w) 0 0))) (qq_br 35 (qq_lf 32 (.inl (qo_get (gL w) 1 0))) (qq_lf 35 (.inr (.inl (59, 2, some 3)))))) (qq_br 42 (qq_br 39 (qq_lf 38 (.inl (qo_al 0 1))) (qq_lf 39 (.inl (qo_get (gL w) 0 0)))) (qq_br 43 (qq_lf 42 (.inl (qo_il 1 1))) (qq_lf 43 (.inr (.inl (46, 2, some 1))))))) (qq_br 54 (qq_br 50 (qq_br 47 (qq_lf 46 (.inl (qo_al 0 1))) (qq_lf 47 (.inl (qo_get (gL w) 0 1)))) (qq_br 51 (qq_lf 50 (.inl (qo_al 0 1))) (qq_lf 51 (.inl (qo_get (gL w) 0 0))))) (qq_br 60 (qq_br 57 (qq_lf 54 (.inl (qo_get (gL w) 1 0))) (qq_lf 57 (.inr (.inl (60, 2, some 3))))) (qq_br 61 (qq_lf 60 (.inl (qo_k 1 1))) (qq_lf 61 (.inr (.inr 2))))))))
def tm_7 (w : qS) : Nat → Option qE := (qq_br 28 (qq_br 12 (qq_br 6 (qq_br 2 (qq_br 1 (qq_lf 0 (.inl (qo_il 1 1))) (qq_lf 1 (.inl (qo_k 1 1)))) (qq_br 5 (qq_lf 2 (.inl (qo_c (fun x y => x < y) 10))) (qq_lf 5 (.inl (qo_il 1 1))))) (qq_br 10 (qq_br 7 (qq_lf 6 (.inl (qo_k (iN 2) 1))) (qq_lf 7 (.inl (qo_c (fun x y => x ≤ y) 12)))) (qq_br 11 (qq_lf 10 (.inl (qo_k (-1) 1))) (qq_lf 11 (.inr (.inr 1)))))) (qq_br 22 (qq_br 16 (qq_br 13 (qq_lf 12 (.inl (qo_al 0 1))) (qq_lf 13 (.inl (qo_get (gL w) 0 0)))) (qq_br 19 (qq_lf 16 (.inl (qo_get (gL w) 1 0))) (qq_lf 19 (.inl (qo_get (gL w) 2 8))))) (qq_br 24 (qq_br 23 (qq_lf 22 (.inl (qo_is 2 1))) (qq_lf 23 (.inl (qo_al 0 1)))) (qq_br 27 (qq_lf 24 (.inl (qo_get (gL w) 0 1))) (qq_lf 27 (.inl (qo_al 0 1))))))) (qq_br 48 (qq_br 38 (qq_br 34 (qq_br 31 (qq_lf 28 (.inl (qo_get (gL w) 0 0))) (qq_lf 31 (.inl (qo_get (gL w) 1 0)))) (qq_br 37 (qq_lf 34 (.inr (.inl (59, 2, some 3)))) (qq_lf 37 (.inl (qo_al 0 1))))) (qq_br 44 (qq_br 41 (qq_lf 38 (.inl (qo_get (gL w) 0 0))) (qq_lf 41 (.inl (qo_get (gL w) 1 0)))) (qq_br 45 (qq_lf 44 (.inl (qo_il 1 1))) (qq_lf 45 (.inl (qo_put (gL w) 2 8)))))) (qq_br 56 (qq_br 52 (qq_br 49 (qq_lf 48 (.inl (qo_al 0 1))) (qq_lf 49 (.inl (qo_get (gL w) 0 1)))) (qq_br 53 (qq_lf 52 (.inl (qo_al 0 1))) (qq_lf 53 (.inl (qo_get (gL w) 0 0))))) (qq_br 62 (qq_br 59 (qq_lf 56 (.inl (qo_get (gL w) 1 0))) (qq_lf 59 (.inr (.inl (60, 2, some 3))))) (qq_br 63 (qq_lf 62 (.inl (qo_il 2 1))) (qq_lf 63 (.inr (.inr 1))))))))
def tm_8 (w : qS) : Nat → Option qE := (qq_br 36 (qq_br 19 (qq_br 8 (qq_br 4 (qq_br 1 (qq_lf 0 (.inl (qo_il 1 1))) (qq_lf 1 (.inr (.inl (24, 1, none))))) (qq_br 7 (qq_lf 4 (.inl (qo_z (fun x => x = 0) 19))) (qq_lf 7 (.inl (qo_al 0 1))))) (qq_br 12 (qq_br 11 (qq_lf 8 (.inl (qo_get (gL w) 0 0))) (qq_lf 11 (.inl (qo_il 1 1)))) (qq_br 15 (qq_lf 12 (.inr (.inl (32, 2, some 1)))) (qq_br 16 (qq_lf 15 (.inl (qo_k (-1) 1))) (qq_lf 16 (.inl (qo_c (fun x y => x = y) 21))))))) (qq_br 25 (qq_br 21 (qq_br 20 (qq_lf 19 (.inl (qo_k 0 1))) (qq_lf 20 (.inr (.inr 2)))) (qq_br 22 (qq_lf 21 (.inl (qo_al 0 1))) (qq_lf 22 (.inl (qo_get (gL w) 0 1))))) (qq_br 29 (qq_br 26 (qq_lf 25 (.inl (qo_al 0 1))) (qq_lf 26 (.inl (qo_get (gL w) 0 0)))) (qq_br 32 (qq_lf 29 (.inl (qo_get (gL w) 1 0))) (qq_br 35 (qq_lf 32 (.inr (.inl (59, 2, some 3)))) (qq_lf 35 (.inl (qo_al 0 1)))))))) (qq_br 56 (qq_br 46 (qq_br 42 (qq_br 39 (qq_lf 36 (.inl (qo_get (gL w) 0 0))) (qq_lf 39 (.inl (qo_get (gL w) 1 0)))) (qq_br 45 (qq_lf 42 (.inl (qo_get (gL w) 2 5))) (qq_lf 45 (.inl (qo_il 1 1))))) (qq_br 50 (qq_br 47 (qq_lf 46 (.inl (qo_il 2 1))) (qq_lf 47 (.inl (qo_z (fun x => x = 0) 55)))) (qq_br 52 (qq_lf 50 (.inl (qo_k (-2) 2))) (qq_br 55 (qq_lf 52 (.inl (qo_g 56))) (qq_lf 55 (.inl (qo_k (-1) 1))))))) (qq_br 62 (qq_br 58 (qq_br 57 (qq_lf 56 (.inl (qo_ias (gL w)))) (qq_lf 57 (.inl (qo_al 0 1)))) (qq_br 61 (qq_lf 58 (.inl (qo_get (gL w) 0 1))) (qq_lf 61 (.inl (qo_al 0 1))))) (qq_br 68 (qq_br 65 (qq_lf 62 (.inl (qo_get (gL w) 0 0))) (qq_lf 65 (.inl (qo_get (gL w) 1 0)))) (qq_br 71 (qq_lf 68 (.inr (.inl (60, 2, some 3)))) (qq_br 72 (qq_lf 71 (.inl (qo_il 2 1))) (qq_lf 72 (.inr (.inr 2)))))))))
def tm_9 (w : qS) : Nat → Option qE := (qq_br 63 (qq_br 31 (qq_br 18 (qq_br 8 (qq_br 4 (qq_br 1 (qq_lf 0 (.inl (qo_al 0 1))) (qq_lf 1 (.inl (qo_get (gL w) 0 0)))) (qq_br 5 (qq_lf 4 (.inl (qo_il 1 1))) (qq_lf 5 (.inr (.inl (29, 2, some 1)))))) (qq_br 12 (qq_br 11 (qq_lf 8 (.inl (qo_z (fun x => x = 0) 28))) (qq_lf 11 (.inl (qo_il 2 1)))) (qq_br 15 (qq_lf 12 (.inr (.inl (24, 1, none)))) (qq_lf 15 (.inl (qo_z (fun x => x = 0) 28)))))) (qq_br 25 (qq_br 22 (qq_br 19 (qq_lf 18 (.inl (qo_il 3 1))) (qq_lf 19 (.inl (qo_z (fun x => x < 0) 28)))) (qq_br 23 (qq_lf 22 (.inl (qo_il 3 1))) (qq_lf 23 (.inl (qo_k (iN 9) 2))))) (qq_br 29 (qq_br 28 (qq_lf 25 (.inl (qo_c (fun x y => x < y) 30))) (qq_lf 28 (.inl (qo_k (-1) 1)))) (qq_br 30 (qq_lf 29 (.inr (.inr 1))) (qq_lf 30 (.inl (qo_il 3 1))))))) (qq_br 49 (qq_br 40 (qq_br 36 (qq_br 33 (qq_lf 31 (.inl (qo_k (iN 8) 2))) (qq_lf 33 (.inl (qo_c (fun x y => ¬ x = y) 40)))) (qq_br 37 (qq_lf 36 (.inl (qo_k 1 1))) (qq_lf 37 (.inl (qo_g 42))))) (qq_br 44 (qq_br 42 (qq_lf 40 (.inl (qo_k (iN 11) 2))) (qq_lf 42 (.inl (qo_is 5 2)))) (qq_br 46 (qq_lf 44 (.inl (qo_il 4 2))) (qq_lf 46 (.inl (qo_z (fun x => x < 0) 56)))))) (qq_br 57 (qq_br 53 (qq_br 51 (qq_lf 49 (.inl (qo_il 4 2))) (qq_lf 51 (.inl (qo_il 5 2)))) (qq_br 56 (qq_lf 53 (.inl (qo_c (fun x y => x ≤ y) 58))) (qq_lf 56 (.inl (qo_k (-1) 1))))) (qq_br 59 (qq_br 58 (qq_lf 57 (.inr (.inr 1))) (qq_lf 58 (.inl (qo_al 0 1)))) (qq_br 62 (qq_lf 59 (.inl (qo_get (gL w) 0 0))) (qq_lf 62 (.inl (qo_al 0 1)))))))) (qq_br 96 (qq_br 80 (qq_br 71 (qq_br 67 (qq_br 66 (qq_lf 63 (.inl (qo_get (gL w) 0 0))) (qq_lf 66 (.inl (qo_il 1 1)))) (qq_br 70 (qq_lf 67 (.inr (.inl (31, 2, some 1)))) (qq_lf 70 (.inl (qo_il 2 1))))) (qq_br 74 (qq_br 72 (qq_lf 71 (.inl (qo_il 3 1))) (qq_lf 72 (.inl (qo_il 4 2)))) (qq_br 77 (qq_lf 74 (.inr (.inl (48, 5, some 1)))) (qq_lf 77 (.inl (qo_z (fun x => ¬ x = 0) 82)))))) (qq_br 86 (qq_br 82 (qq_br 81 (qq_lf 80 (.inl (qo_k (-1) 1))) (qq_lf 81 (.inr (.inr 1)))) (qq_br 83 (qq_lf 82 (.inl (qo_al 0 1))) (qq_lf 83 (.inl (qo_get (gL w) 0 1))))) (qq_br 90 (qq_br 87 (qq_lf 86 (.inl (qo_al 0 1))) (qq_lf 87 (.inl (qo_get (gL w) 0 0)))) (qq_br 93 (qq_lf 90 (.inl (qo_get (gL w) 1 0))) (qq_lf 93 (.inr (.inl (59, 2, some 3)))))))) (qq_br 110 (qq_br 102 (qq_br 100 (qq_br 97 (qq_lf 96 (.inl (qo_al 0 1))) (qq_lf 97 (.inl (qo_get (gL w) 0 0)))) (qq_br 101 (qq_lf 100 (.inl (qo_il 1 1))) (qq_lf 101 (.inl (qo_il 2 1))))) (qq_br 105 (qq_br 103 (qq_lf 102 (.inl (qo_il 3 1))) (qq_lf 103 (.inl (qo_il 4 2)))) (qq_br 108 (qq_lf 105 (.inr (.inl (49, 5, some 1)))) (qq_lf 108 (.inl (qo_is 6 2)))))) (qq_br 118 (qq_br 114 (qq_br 111 (qq_lf 110 (.inl (qo_al 0 1))) (qq_lf 111 (.inl (qo_get (gL w) 0 1)))) (qq_br 115 (qq_lf 114 (.inl (qo_al 0 1))) (qq_lf 115 (.inl (qo_get (gL w) 0 0))))) (qq_br 124 (qq_br 121 (qq_lf 118 (.inl (qo_get (gL w) 1 0))) (qq_lf 121 (.inr (.inl (60, 2, some 3))))) (qq_br 126 (qq_lf 124 (.inl (qo_il 6 2))) (qq_lf 126 (.inr (.inr 1)))))))))
def tm_10 (w : qS) : Nat → Option qE := (qq_br 31 (qq_br 15 (qq_br 7 (qq_br 1 (qq_lf 0 (.inl (qo_il 1 1))) (qq_br 4 (qq_lf 1 (.inr (.inl (24, 1, none)))) (qq_lf 4 (.inl (qo_z (fun x => x = 0) 18))))) (qq_br 11 (qq_br 8 (qq_lf 7 (.inl (qo_al 0 1))) (qq_lf 8 (.inl (qo_get (gL w) 0 0)))) (qq_br 12 (qq_lf 11 (.inl (qo_il 1 1))) (qq_lf 12 (.inr (.inl (34, 2, some 1))))))) (qq_br 21 (qq_br 19 (qq_br 18 (qq_lf 15 (.inl (qo_z (fun x => ¬ x = 0) 20))) (qq_lf 18 (.inl (qo_k 0 1)))) (qq_br 20 (qq_lf 19 (.inr (.inr 2))) (qq_lf 20 (.inl (qo_al 0 1))))) (qq_br 25 (qq_br 24 (qq_lf 21 (.inl (qo_get (gL w) 0 1))) (qq_lf 24 (.inl (qo_al 0 1)))) (qq_br 28 (qq_lf 25 (.inl (qo_get (gL w) 0 0))) (qq_lf 28 (.inl (qo_get (gL w) 1 0))))))) (qq_br 47 (qq_br 41 (qq_br 35 (qq_br 34 (qq_lf 31 (.inr (.inl (59, 2, some 3)))) (qq_lf 34 (.inl (qo_al 0 1)))) (qq_br 38 (qq_lf 35 (.inl (qo_get (gL w) 0 0))) (qq_lf 38 (.inl (qo_get (gL w) 1 0))))) (qq_br 45 (qq_br 44 (qq_lf 41 (.inl (qo_get (gL w) 2 5))) (qq_lf 44 (.inl (qo_il 1 1)))) (qq_br 46 (qq_lf 45 (.inl (qo_k (-1) 1))) (qq_lf 46 (.inl (qo_ias (gL w))))))) (qq_br 55 (qq_br 51 (qq_br 48 (qq_lf 47 (.inl (qo_al 0 1))) (qq_lf 48 (.inl (qo_get (gL w) 0 1)))) (qq_br 52 (qq_lf 51 (.inl (qo_al 0 1))) (qq_lf 52 (.inl (qo_get (gL w) 0 0))))) (qq_br 61 (qq_br 58 (qq_lf 55 (.inl (qo_get (gL w) 1 0))) (qq_lf 58 (.inr (.inl (60, 2, some 3))))) (qq_br 62 (qq_lf 61 (.inl (qo_k 1 1))) (qq_lf 62 (.inr (.inr 2))))))))
def tm_11 (w : qS) : Nat → Option qE := (qq_br 31 (qq_br 13 (qq_br 5 (qq_br 1 (qq_lf 0 (.inl (qo_al 0 1))) (qq_br 4 (qq_lf 1 (.inl (qo_get (gL w) 0 0))) (qq_lf 4 (.inl (qo_il 1 1))))) (qq_br 11 (qq_br 8 (qq_lf 5 (.inr (.inl (29, 2, some 1)))) (qq_lf 8 (.inl (qo_z (fun x => ¬ x = 0) 13)))) (qq_br 12 (qq_lf 11 (.inl (qo_k (-1) 1))) (qq_lf 12 (.inr (.inr 1)))))) (qq_br 21 (qq_br 17 (qq_br 14 (qq_lf 13 (.inl (qo_al 0 1))) (qq_lf 14 (.inl (qo_get (gL w) 0 1)))) (qq_br 18 (qq_lf 17 (.inl (qo_al 0 1))) (qq_lf 18 (.inl (qo_get (gL w) 0 0))))) (qq_br 27 (qq_br 24 (qq_lf 21 (.inl (qo_get (gL w) 1 0))) (qq_lf 24 (.inr (.inl (59, 2, some 3))))) (qq_br 28 (qq_lf 27 (.inl (qo_al 0 1))) (qq_lf 28 (.inl (qo_get (gL w) 0 2))))))) (qq_br 47 (qq_br 39 (qq_br 35 (qq_br 32 (qq_lf 31 (.inl (qo_al 0 1))) (qq_lf 32 (.inl (qo_get (gL w) 0 0)))) (qq_br 36 (qq_lf 35 (.inl (qo_al 0 1))) (qq_lf 36 (.inl (qo_get (gL w) 0 0))))) (qq_br 43 (qq_br 40 (qq_lf 39 (.inl (qo_il 1 1))) (qq_lf 40 (.inr (.inl (31, 2, some 1))))) (qq_br 46 (qq_lf 43 (.inr (.inl (63, 3, some 4)))) (qq_lf 46 (.inl (qo_is 2 1)))))) (qq_br 55 (qq_br 51 (qq_br 48 (qq_lf 47 (.inl (qo_al 0 1))) (qq_lf 48 (.inl (qo_get (gL w) 0 1)))) (qq_br 52 (qq_lf 51 (.inl (qo_al 0 1))) (qq_lf 52 (.inl (qo_get (gL w) 0 0))))) (qq_br 61 (qq_br 58 (qq_lf 55 (.inl (qo_get (gL w) 1 0))) (qq_lf 58 (.inr (.inl (60, 2, some 3))))) (qq_br 62 (qq_lf 61 (.inl (qo_il 2 1))) (qq_lf 62 (.inr (.inr 1))))))))
def tm_12 (w : qS) : Nat → Option qE := (qq_br 28 (qq_br 13 (qq_br 5 (qq_br 1 (qq_lf 0 (.inl (qo_al 0 1))) (qq_br 4 (qq_lf 1 (.inl (qo_get (gL w) 0 0))) (qq_lf 4 (.inl (qo_il 1 1))))) (qq_br 11 (qq_br 8 (qq_lf 5 (.inr (.inl (29, 2, some 1)))) (qq_lf 8 (.inl (qo_z (fun x => ¬ x = 0) 13)))) (qq_br 12 (qq_lf 11 (.inl (qo_k (-1) 1))) (qq_lf 12 (.inr (.inr 1)))))) (qq_br 18 (qq_br 14 (qq_lf 13 (.inl (qo_al 0 1))) (qq_br 17 (qq_lf 14 (.inl (qo_get (gL w) 0 1))) (qq_lf 17 (.inl (qo_al 0 1))))) (qq_br 24 (qq_br 21 (qq_lf 18 (.inl (qo_get (gL w) 0 0))) (qq_lf 21 (.inl (qo_get (gL w) 1 0)))) (qq_br 27 (qq_lf 24 (.inr (.inl (59, 2, some 3)))) (qq_lf 27 (.inl (qo_al 0 1))))))) (qq_br 43 (qq_br 35 (qq_br 31 (qq_lf 28 (.inl (qo_get (gL w) 0 0))) (qq_br 32 (qq_lf 31 (.inl (qo_al 0 1))) (qq_lf 32 (.inl (qo_get (gL w) 0 0))))) (qq_br 39 (qq_br 36 (qq_lf 35 (.inl (qo_il 1 1))) (qq_lf 36 (.inr (.inl (31, 2, some 1))))) (qq_br 42 (qq_lf 39 (.inr (.inl (51, 2, some 1)))) (qq_lf 42 (.inl (qo_is 2 1)))))) (qq_br 51 (qq_br 47 (qq_br 44 (qq_lf 43 (.inl (qo_al 0 1))) (qq_lf 44 (.inl (qo_get (gL w) 0 1)))) (qq_br 48 (qq_lf 47 (.inl (qo_al 0 1))) (qq_lf 48 (.inl (qo_get (gL w) 0 0))))) (qq_br 57 (qq_br 54 (qq_lf 51 (.inl (qo_get (gL w) 1 0))) (qq_lf 54 (.inr (.inl (60, 2, some 3))))) (qq_br 58 (qq_lf 57 (.inl (qo_il 2 1))) (qq_lf 58 (.inr (.inr 1))))))))
def tm_13 (w : qS) : Nat → Option qE := (qq_br 53 (qq_br 27 (qq_br 15 (qq_br 5 (qq_br 1 (qq_lf 0 (.inl (qo_al 0 1))) (qq_br 4 (qq_lf 1 (.inl (qo_get (gL w) 0 1))) (qq_lf 4 (.inl (qo_al 0 1))))) (qq_br 11 (qq_br 8 (qq_lf 5 (.inl (qo_get (gL w) 0 0))) (qq_lf 8 (.inl (qo_get (gL w) 1 0)))) (qq_br 14 (qq_lf 11 (.inr (.inl (59, 2, some 3)))) (qq_lf 14 (.inl (qo_k 0 1)))))) (qq_br 19 (qq_br 16 (qq_lf 15 (.inl (qo_is 1 1))) (qq_br 17 (qq_lf 16 (.inl (qo_il 1 1))) (qq_lf 17 (.inl (qo_k (iN 16) 2))))) (qq_br 23 (qq_br 22 (qq_lf 19 (.inl (qo_c (fun x y => y ≤ x) 42))) (qq_lf 22 (.inl (qo_al 0 1)))) (qq_br 26 (qq_lf 23 (.inl (qo_get (gL w) 0 4))) (qq_lf 26 (.inl (qo_il 1 1))))))) (qq_br 42 (qq_br 32 (qq_br 28 (qq_lf 27 (.inl (qo_al 0 1))) (qq_br 31 (qq_lf 28 (.inl (qo_get (gL w) 0 0))) (qq_lf 31 (.inl (qo_il 1 1))))) (qq_br 36 (qq_br 35 (qq_lf 32 (.inr (.inl (52, 2, some 1)))) (qq_lf 35 (.inl (qo_ias (gL w))))) (qq_br 39 (qq_lf 36 (.inl (qo_inc 1 1))) (qq_lf 39 (.inl (qo_g 16)))))) (qq_br 46 (qq_br 44 (qq_br 43 (qq_lf 42 (.inl (qo_k 0 1))) (qq_lf 43 (.inl (qo_is 1 1)))) (qq_br 45 (qq_lf 44 (.inl (qo_k 0 1))) (qq_lf 45 (.inl (qo_is 2 1))))) (qq_br 49 (qq_br 47 (qq_lf 46 (.inl (qo_il 2 1))) (qq_lf 47 (.inl (qo_k (iN 16) 2)))) (qq_br 52 (qq_lf 49 (.inl (qo_c (fun x y => y ≤ x) 96))) (qq_lf 52 (.inl (qo_al 0 1)))))))) (qq_br 77 (qq_br 66 (qq_br 58 (qq_br 56 (qq_lf 53 (.inr (.inl (20, 1, some 0)))) (qq_br 57 (qq_lf 56 (.inl (qo_is 3 1))) (qq_lf 57 (.inl (qo_il 3 1))))) (qq_br 62 (qq_br 59 (qq_lf 58 (.inl (qo_k (-1) 1))) (qq_lf 59 (.inl (qo_c (fun x y => ¬ x = y) 65)))) (qq_br 65 (qq_lf 62 (.inl (qo_g 96))) (qq_lf 65 (.inl (qo_al 0 1)))))) (qq_br 71 (qq_br 69 (qq_lf 66 (.inl (qo_get (gL w) 0 4))) (qq_br 70 (qq_lf 69 (.inl (qo_il 3 1))) (qq_lf 70 (.inl (qo_k (-1) 1))))) (qq_br 73 (qq_br 72 (qq_lf 71 (.inl (qo_ias (gL w)))) (qq_lf 72 (.inl (qo_al 0 1)))) (qq_br 76 (qq_lf 73 (.inl (qo_get (gL w) 0 2))) (qq_lf 76 (.inl (qo_al 0 1))))))) (qq_br 96 (qq_br 84 (qq_br 80 (qq_lf 77 (.inl (qo_get (gL w) 0 0))) (qq_br 81 (qq_lf 80 (.inl (qo_il 3 1))) (qq_lf 81 (.inr (.inl (62, 3, some 4)))))) (qq_br 90 (qq_br 87 (qq_lf 84 (.inl (qo_z (fun x => x = 0) 90))) (qq_lf 87 (.inl (qo_inc 1 1)))) (qq_br 93 (qq_lf 90 (.inl (qo_inc 2 1))) (qq_lf 93 (.inl (qo_g 46)))))) (qq_br 104 (qq_br 100 (qq_br 97 (qq_lf 96 (.inl (qo_al 0 1))) (qq_lf 97 (.inl (qo_get (gL w) 0 1)))) (qq_br 101 (qq_lf 100 (.inl (qo_al 0 1))) (qq_lf 101 (.inl (qo_get (gL w) 0 0))))) (qq_br 110 (qq_br 107 (qq_lf 104 (.inl (qo_get (gL w) 1 0))) (qq_lf 107 (.inr (.inl (60, 2, some 3))))) (qq_br 111 (qq_lf 110 (.inl (qo_il 1 1))) (qq_lf 111 (.inr (.inr 1)))))))))
def tm_14 (w : qS) : Nat → Option qE := (qq_br 11 (qq_br 4 (qq_br 1 (qq_lf 0 (.inl (qo_il 1 1))) (qq_lf 1 (.inr (.inl (24, 1, none))))) (qq_br 7 (qq_lf 4 (.inl (qo_z (fun x => x = 0) 18))) (qq_br 8 (qq_lf 7 (.inl (qo_al 0 1))) (qq_lf 8 (.inl (qo_get (gL w) 0 0)))))) (qq_br 15 (qq_br 12 (qq_lf 11 (.inl (qo_il 1 1))) (qq_lf 12 (.inr (.inl (32, 2, some 1))))) (qq_br 18 (qq_lf 15 (.inl (qo_g 19))) (qq_br 19 (qq_lf 18 (.inl (qo_k (-1) 1))) (qq_lf 19 (.inr (.inr 1)))))))
def tm_15 (w : qS) : Nat → Option qE := (qq_br 43 (qq_br 17 (qq_br 9 (qq_br 4 (qq_br 1 (qq_lf 0 (.inl (qo_il 1 1))) (qq_lf 1 (.inl (qo_z (fun x => x < 0) 13)))) (qq_br 5 (qq_lf 4 (.inl (qo_il 2 1))) (qq_br 8 (qq_lf 5 (.inl (qo_z (fun x => x < 0) 13))) (qq_lf 8 (.inl (qo_il 2 1)))))) (qq_br 14 (qq_br 10 (qq_lf 9 (.inl (qo_k (iN 3) 1))) (qq_br 13 (qq_lf 10 (.inl (qo_c (fun x y => x ≤ y) 15))) (qq_lf 13 (.inl (qo_k (-1) 1))))) (qq_br 15 (qq_lf 14 (.inr (.inr 1))) (qq_br 16 (qq_lf 15 (.inl (qo_il 1 1))) (qq_lf 16 (.inl (qo_is 3 1))))))) (qq_br 29 (qq_br 22 (qq_br 18 (qq_lf 17 (.inl (qo_k 0 1))) (qq_br 20 (qq_lf 18 (.inl (qo_is 4 2))) (qq_lf 20 (.inl (qo_il 4 2))))) (qq_br 23 (qq_lf 22 (.inl (qo_al 0 1))) (qq_br 26 (qq_lf 23 (.inl (qo_get (gL w) 0 0))) (qq_lf 26 (.inl (qo_get (gL w) 1 0)))))) (qq_br 36 (qq_br 32 (qq_lf 29 (.inl (qo_get (gL w) 2 6))) (qq_br 35 (qq_lf 32 (.inl (qo_c (fun x y => y ≤ x) 83))) (qq_lf 35 (.inl (qo_al 0 1))))) (qq_br 39 (qq_lf 36 (.inl (qo_get (gL w) 0 2))) (qq_br 40 (qq_lf 39 (.inl (qo_al 0 1))) (qq_lf 40 (.inl (qo_get (gL w) 0 0)))))))) (qq_br 67 (qq_br 56 (qq_br 50 (qq_br 45 (qq_lf 43 (.inl (qo_il 4 2))) (qq_br 48 (qq_lf 45 (.inr (.inl (64, 3, some 4)))) (qq_lf 48 (.inl (qo_is 5 2))))) (qq_br 52 (qq_lf 50 (.inl (qo_il 5 2))) (qq_br 53 (qq_lf 52 (.inl (qo_k (-1) 1))) (qq_lf 53 (.inl (qo_c (fun x y => ¬ x = y) 59)))))) (qq_br 63 (qq_br 59 (qq_lf 56 (.inl (qo_g 77))) (qq_br 60 (qq_lf 59 (.inl (qo_il 3 1))) (qq_lf 60 (.inl (qo_z (fun x => ¬ x = 0) 74))))) (qq_br 64 (qq_lf 63 (.inl (qo_il 2 1))) (qq_br 65 (qq_lf 64 (.inl (qo_k 1 1))) (qq_lf 65 (.inl (qo_il 4 2))))))) (qq_br 80 (qq_br 73 (qq_br 69 (qq_lf 67 (.inl (qo_il 5 2))) (qq_br 70 (qq_lf 69 (.inl (qo_k (-1) 1))) (qq_lf 70 (.inr (.inl (22, 5, none)))))) (qq_br 74 (qq_lf 73 (.inr (.inr 1))) (qq_br 77 (qq_lf 74 (.inl (qo_inc 3 (-1)))) (qq_lf 77 (.inl (qo_inc 4 1)))))) (qq_br 85 (qq_br 83 (qq_lf 80 (.inl (qo_g 20))) (qq_br 84 (qq_lf 83 (.inl (qo_al 0 1))) (qq_lf 84 (.inl (qo_il 3 1))))) (qq_br 86 (qq_lf 85 (.inl (qo_il 2 1))) (qq_br 89 (qq_lf 86 (.inr (.inl (21, 3, some 0)))) (qq_lf 89 (.inr (.inr 1)))))))))
def tm_16 (w : qS) : Nat → Option qE := (qq_br 60 (qq_br 26 (qq_br 14 (qq_br 8 (qq_br 4 (qq_br 1 (qq_lf 0 (.inl (qo_il 1 1))) (qq_lf 1 (.inr (.inl (23, 1, none))))) (qq_br 7 (qq_lf 4 (.inl (qo_z (fun x => x = 0) 11))) (qq_lf 7 (.inl (qo_il 2 1))))) (qq_br 12 (qq_br 11 (qq_lf 8 (.inl (qo_z (fun x => 0 ≤ x) 13))) (qq_lf 11 (.inl (qo_k (-1) 1)))) (qq_br 13 (qq_lf 12 (.inr (.inr 1))) (qq_lf 13 (.inl (qo_il 2 1)))))) (qq_br 19 (qq_br 16 (qq_br 15 (qq_lf 14 (.inl (qo_is 3 1))) (qq_lf 15 (.inl (qo_il 1 1)))) (qq_br 18 (qq_lf 16 (.inl (qo_k (iN 120) 2))) (qq_lf 18 (.inl (qo_b (fun x y => x * y)))))) (qq_br 23 (qq_br 21 (qq_lf 19 (.inl (qo_is 4 2))) (qq_lf 21 (.inl (qo_il 4 2)))) (qq_br 25 (qq_lf 23 (.inl (qo_k (iN 120) 2))) (qq_lf 25 (.inl (qo_b (fun x y => x + y)))))))) (qq_br 42 (qq_br 33 (qq_br 29 (qq_br 28 (qq_lf 26 (.inl (qo_is 5 2))) (qq_lf 28 (.inl (qo_k 0 1)))) (qq_br 31 (qq_lf 29 (.inl (qo_is 6 2))) (qq_lf 31 (.inl (qo_il 6 2))))) (qq_br 38 (qq_br 35 (qq_lf 33 (.inl (qo_k (iN 120) 2))) (qq_lf 35 (.inl (qo_c (fun x y => y ≤ x) 115)))) (qq_br 40 (qq_lf 38 (.inl (qo_il 4 2))) (qq_lf 40 (.inl (qo_il 5 2)))))) (qq_br 51 (qq_br 46 (qq_br 45 (qq_lf 42 (.inl (qo_c (fun x y => y ≤ x) 115))) (qq_lf 45 (.inl (qo_al 0 1)))) (qq_br 49 (qq_lf 46 (.inl (qo_get (gL w) 0 0))) (qq_lf 49 (.inl (qo_il 4 2))))) (qq_br 56 (qq_br 54 (qq_lf 51 (.inr (.inl (55, 2, some 1)))) (qq_lf 54 (.inl (qo_is 7 2)))) (qq_br 57 (qq_lf 56 (.inl (qo_al 0 1))) (qq_lf 57 (.inl (qo_get (gL w) 0 0)))))))) (qq_br 93 (qq_br 75 (qq_br 69 (qq_br 65 (qq_br 62 (qq_lf 60 (.inl (qo_il 4 2))) (qq_lf 62 (.inr (.inl (32, 2, some 1))))) (qq_br 67 (qq_lf 65 (.inl (qo_is 8 2))) (qq_lf 67 (.inl (qo_il 8 2))))) (qq_br 73 (qq_br 70 (qq_lf 69 (.inl (qo_k (-1) 1))) (qq_lf 70 (.inl (qo_c (fun x y => x = y) 102)))) (qq_br 74 (qq_lf 73 (.inl (qo_il 3 1))) (qq_lf 74 (.inl (qo_k (iN 4) 1)))))) (qq_br 84 (qq_br 79 (qq_br 78 (qq_lf 75 (.inl (qo_c (fun x y => y ≤ x) 99))) (qq_lf 78 (.inl (qo_il 3 1)))) (qq_br 81 (qq_lf 79 (.inl (qo_il 4 2))) (qq_lf 81 (.inr (.inl (25, 1, none)))))) (qq_br 89 (qq_br 86 (qq_lf 84 (.inl (qo_il 4 2))) (qq_lf 86 (.inr (.inl (26, 1, none))))) (qq_br 91 (qq_lf 89 (.inl (qo_il 7 2))) (qq_lf 91 (.inl (qo_il 8 2))))))) (qq_br 107 (qq_br 99 (qq_br 95 (qq_br 94 (qq_lf 93 (.inl (qo_k 1 1))) (qq_lf 94 (.inl (qo_b (fun x y => x + y))))) (qq_br 98 (qq_lf 95 (.inr (.inl (22, 5, none)))) (qq_lf 98 (.inr (.inr 1))))) (qq_br 104 (qq_br 102 (qq_lf 99 (.inl (qo_inc 3 (-4)))) (qq_lf 102 (.inl (qo_il 4 2)))) (qq_br 106 (qq_lf 104 (.inl (qo_il 7 2))) (qq_lf 106 (.inl (qo_b (fun x y => x + y))))))) (qq_br 116 (qq_br 112 (qq_br 109 (qq_lf 107 (.inl (qo_is 4 2))) (qq_lf 109 (.inl (qo_inc 6 1)))) (qq_br 115 (qq_lf 112 (.inl (qo_g 31))) (qq_lf 115 (.inl (qo_il 3 1))))) (qq_br 122 (qq_br 119 (qq_lf 116 (.inl (qo_z (fun x => ¬ x = 0) 125))) (qq_lf 119 (.inl (qo_k (iN 255) 3)))) (qq_br 125 (qq_lf 122 (.inl (qo_g 126))) (qq_br 126 (qq_lf 125 (.inl (qo_k (-1) 1))) (qq_lf 126 (.inr (.inr 1))))))))))
def tm_17 (w : qS) : Nat → Option qE := (qq_br 17 (qq_br 8 (qq_br 4 (qq_br 1 (qq_lf 0 (.inl (qo_il 1 1))) (qq_lf 1 (.inl (qo_z (fun x => x < 0) 11)))) (qq_br 5 (qq_lf 4 (.inl (qo_il 1 1))) (qq_lf 5 (.inl (qo_k (iN 255) 3))))) (qq_br 12 (qq_br 11 (qq_lf 8 (.inl (qo_c (fun x y => x ≤ y) 13))) (qq_lf 11 (.inl (qo_k (-1) 1)))) (qq_br 13 (qq_lf 12 (.inr (.inr 1))) (qq_br 14 (qq_lf 13 (.inl (qo_al 0 1))) (qq_lf 14 (.inl (qo_get (gL w) 0 3))))))) (qq_br 25 (qq_br 21 (qq_br 18 (qq_lf 17 (.inl (qo_il 1 1))) (qq_lf 18 (.inr (.inl (77, 2, some 6))))) (qq_br 24 (qq_lf 21 (.inl (qo_z (fun x => x = 0) 34))) (qq_lf 24 (.inl (qo_al 0 1))))) (qq_br 31 (qq_br 28 (qq_lf 25 (.inl (qo_get (gL w) 0 3))) (qq_lf 28 (.inl (qo_get (gL w) 6 1)))) (qq_br 34 (qq_lf 31 (.inl (qo_g 36))) (qq_br 36 (qq_lf 34 (.inl (qo_k (-2) 2))) (qq_lf 36 (.inr (.inr 1))))))))
def tm_18 (w : qS) : Nat → Option qE := (qq_br 34 (qq_br 17 (qq_br 8 (qq_br 4 (qq_br 1 (qq_lf 0 (.inl (qo_il 1 1))) (qq_lf 1 (.inr (.inl (23, 1, none))))) (qq_br 7 (qq_lf 4 (.inl (qo_z (fun x => ¬ x = 0) 9))) (qq_lf 7 (.inl (qo_k (-1) 1))))) (qq_br 10 (qq_br 9 (qq_lf 8 (.inr (.inr 1))) (qq_lf 9 (.inl (qo_al 0 1)))) (qq_br 13 (qq_lf 10 (.inl (qo_get (gL w) 0 3))) (qq_br 16 (qq_lf 13 (.inr (.inl (78, 1, some 6)))) (qq_lf 16 (.inl (qo_al 0 1))))))) (qq_br 26 (qq_br 21 (qq_br 20 (qq_lf 17 (.inl (qo_get (gL w) 0 3))) (qq_lf 20 (.inl (qo_k 0 1)))) (qq_br 24 (qq_lf 21 (.inl (qo_put (gL w) 6 1))) (qq_br 25 (qq_lf 24 (.inl (qo_k 0 1))) (qq_lf 25 (.inl (qo_is 2 1)))))) (qq_br 28 (qq_br 27 (qq_lf 26 (.inl (qo_k 0 1))) (qq_lf 27 (.inl (qo_is 3 1)))) (qq_br 29 (qq_lf 28 (.inl (qo_il 3 1))) (qq_br 31 (qq_lf 29 (.inl (qo_k (iN 120) 2))) (qq_lf 31 (.inl (qo_c (fun x y => y ≤ x) 68)))))))) (qq_br 50 (qq_br 42 (qq_br 38 (qq_br 35 (qq_lf 34 (.inl (qo_al 0 1))) (qq_lf 35 (.inl (qo_get (gL w) 0 3)))) (qq_br 41 (qq_lf 38 (.inl (qo_get (gL w) 6 2))) (qq_lf 41 (.inl (qo_il 3 1))))) (qq_br 44 (qq_br 43 (qq_lf 42 (.inl (qo_ia (gL w)))) (qq_lf 43 (.inl (qo_al 0 1)))) (qq_br 47 (qq_lf 44 (.inl (qo_get (gL w) 0 0))) (qq_br 48 (qq_lf 47 (.inl (qo_il 1 1))) (qq_lf 48 (.inl (qo_k (iN 120) 2))))))) (qq_br 59 (qq_br 52 (qq_br 51 (qq_lf 50 (.inl (qo_b (fun x y => x * y)))) (qq_lf 51 (.inl (qo_il 3 1)))) (qq_br 53 (qq_lf 52 (.inl (qo_b (fun x y => x + y)))) (qq_br 56 (qq_lf 53 (.inr (.inl (32, 2, some 1)))) (qq_lf 56 (.inl (qo_c (fun x y => x = y) 62)))))) (qq_br 65 (qq_br 62 (qq_lf 59 (.inl (qo_inc 2 1))) (qq_lf 62 (.inl (qo_inc 3 1)))) (qq_br 68 (qq_lf 65 (.inl (qo_g 28))) (qq_br 69 (qq_lf 68 (.inl (qo_il 2 1))) (qq_lf 69 (.inr (.inr 1)))))))))
def tm_19 (w : qS) : Nat → Option qE := (qq_br 17 (qq_br 10 (qq_br 4 (qq_br 1 (qq_lf 0 (.inl (qo_al 0 1))) (qq_lf 1 (.inl (qo_get (gL w) 0 1)))) (qq_br 7 (qq_lf 4 (.inl (qo_get (gL w) 3 2))) (qq_lf 7 (.inl (qo_z (fun x => ¬ x = 0) 12))))) (qq_br 12 (qq_br 11 (qq_lf 10 (.inl (qo_k (-1) 1))) (qq_lf 11 (.inr (.inr 1)))) (qq_br 13 (qq_lf 12 (.inl (qo_al 0 1))) (qq_br 16 (qq_lf 13 (.inl (qo_get (gL w) 0 1))) (qq_lf 16 (.inl (qo_al 0 1))))))) (qq_br 30 (qq_br 23 (qq_br 20 (qq_lf 17 (.inl (qo_get (gL w) 0 0))) (qq_lf 20 (.inl (qo_get (gL w) 1 0)))) (qq_br 26 (qq_lf 23 (.inr (.inl (61, 2, some 3)))) (qq_br 27 (qq_lf 26 (.inl (qo_al 0 1))) (qq_lf 27 (.inl (qo_get (gL w) 0 0)))))) (qq_br 34 (qq_br 33 (qq_lf 30 (.inr (.inl (40, 1, some 1)))) (qq_lf 33 (.inl (qo_al 0 1)))) (qq_br 37 (qq_lf 34 (.inl (qo_get (gL w) 0 1))) (qq_br 40 (qq_lf 37 (.inl (qo_get (gL w) 3 2))) (qq_lf 40 (.inr (.inr 1))))))))
def tm_20 (w : qS) : Nat → Option qE := (qq_br 22 (qq_br 10 (qq_br 3 (qq_br 1 (qq_lf 0 (.inl (qo_k (-1) 1))) (qq_br 2 (qq_lf 1 (.inl (qo_is 1 1))) (qq_lf 2 (.inl (qo_k 0 1))))) (qq_br 5 (qq_br 4 (qq_lf 3 (.inl (qo_is 2 1))) (qq_lf 4 (.inl (qo_il 2 1)))) (qq_br 7 (qq_lf 5 (.inl (qo_k (iN 16) 2))) (qq_lf 7 (.inl (qo_c (fun x y => y ≤ x) 48)))))) (qq_br 16 (qq_br 14 (qq_br 11 (qq_lf 10 (.inl (qo_al 0 1))) (qq_lf 11 (.inl (qo_get (gL w) 0 4)))) (qq_br 15 (qq_lf 14 (.inl (qo_il 2 1))) (qq_lf 15 (.inl (qo_ia (gL w)))))) (qq_br 20 (qq_br 17 (qq_lf 16 (.inl (qo_k (-1) 1))) (qq_lf 17 (.inl (qo_c (fun x y => x = y) 42)))) (qq_br 21 (qq_lf 20 (.inl (qo_il 1 1))) (qq_lf 21 (.inl (qo_k (-1) 1))))))) (qq_br 36 (qq_br 30 (qq_br 26 (qq_br 25 (qq_lf 22 (.inl (qo_c (fun x y => x = y) 40))) (qq_lf 25 (.inl (qo_al 0 1)))) (qq_br 29 (qq_lf 26 (.inl (qo_get (gL w) 0 4))) (qq_lf 29 (.inl (qo_il 2 1))))) (qq_br 32 (qq_br 31 (qq_lf 30 (.inl (qo_ia (gL w)))) (qq_lf 31 (.inl (qo_al 0 1)))) (qq_br 35 (qq_lf 32 (.inl (qo_get (gL w) 0 4))) (qq_lf 35 (.inl (qo_il 1 1)))))) (qq_br 42 (qq_br 40 (qq_br 37 (qq_lf 36 (.inl (qo_ia (gL w)))) (qq_lf 37 (.inl (qo_c (fun x y => y ≤ x) 42)))) (qq_br 41 (qq_lf 40 (.inl (qo_il 2 1))) (qq_lf 41 (.inl (qo_is 1 1))))) (qq_br 48 (qq_br 45 (qq_lf 42 (.inl (qo_inc 2 1))) (qq_lf 45 (.inl (qo_g 4)))) (qq_br 49 (qq_lf 48 (.inl (qo_il 1 1))) (qq_lf 49 (.inr (.inr 1))))))))
def tm_21 (w : qS) : Nat → Option qE := (qq_br 54 (qq_br 26 (qq_br 8 (qq_br 3 (qq_br 1 (qq_lf 0 (.inl (qo_il 1 1))) (qq_br 2 (qq_lf 1 (.inl (qo_is 3 1))) (qq_lf 2 (.inl (qo_k 0 1))))) (qq_br 5 (qq_lf 3 (.inl (qo_is 4 2))) (qq_br 7 (qq_lf 5 (.inl (qo_il 4 2))) (qq_lf 7 (.inl (qo_al 0 1)))))) (qq_br 17 (qq_br 11 (qq_lf 8 (.inl (qo_get (gL w) 0 0))) (qq_br 14 (qq_lf 11 (.inl (qo_get (gL w) 1 0))) (qq_lf 14 (.inl (qo_get (gL w) 2 6))))) (qq_br 21 (qq_br 20 (qq_lf 17 (.inl (qo_c (fun x y => y ≤ x) 104))) (qq_lf 20 (.inl (qo_al 0 1)))) (qq_br 24 (qq_lf 21 (.inl (qo_get (gL w) 0 0))) (qq_lf 24 (.inl (qo_il 4 2))))))) (qq_br 37 (qq_br 33 (qq_br 27 (qq_lf 26 (.inl (qo_al 0 1))) (qq_br 30 (qq_lf 27 (.inl (qo_get (gL w) 0 4))) (qq_lf 30 (.inr (.inl (53, 3, some 1)))))) (qq_br 35 (qq_lf 33 (.inl (qo_il 4 2))) (qq_br 36 (qq_lf 35 (.inl (qo_k 1 1))) (qq_lf 36 (.inl (qo_b (fun x y => x + y))))))) (qq_br 42 (qq_br 39 (qq_lf 37 (.inl (qo_is 5 2))) (qq_br 41 (qq_lf 39 (.inl (qo_il 5 2))) (qq_lf 41 (.inl (qo_al 0 1))))) (qq_br 48 (qq_br 45 (qq_lf 42 (.inl (qo_get (gL w) 0 0))) (qq_lf 45 (.inl (qo_get (gL w) 1 0)))) (qq_br 51 (qq_lf 48 (.inl (qo_get (gL w) 2 6))) (qq_lf 51 (.inl (qo_c (fun x y => y ≤ x) 98)))))))) (qq_br 78 (qq_br 65 (qq_br 60 (qq_br 55 (qq_lf 54 (.inl (qo_al 0 1))) (qq_br 58 (qq_lf 55 (.inl (qo_get (gL w) 0 4))) (qq_lf 58 (.inl (qo_il 5 2))))) (qq_br 61 (qq_lf 60 (.inl (qo_ia (gL w)))) (qq_br 62 (qq_lf 61 (.inl (qo_k (-1) 1))) (qq_lf 62 (.inl (qo_c (fun x y => ¬ x = y) 68)))))) (qq_br 72 (qq_br 68 (qq_lf 65 (.inl (qo_g 92))) (qq_br 69 (qq_lf 68 (.inl (qo_il 3 1))) (qq_lf 69 (.inl (qo_z (fun x => ¬ x = 0) 89))))) (qq_br 74 (qq_br 73 (qq_lf 72 (.inl (qo_il 2 1))) (qq_lf 73 (.inl (qo_k (iN 2) 1)))) (qq_br 76 (qq_lf 74 (.inl (qo_il 4 2))) (qq_lf 76 (.inl (qo_il 5 2))))))) (qq_br 89 (qq_br 84 (qq_br 79 (qq_lf 78 (.inl (qo_al 0 1))) (qq_br 82 (qq_lf 79 (.inl (qo_get (gL w) 0 4))) (qq_lf 82 (.inl (qo_il 5 2))))) (qq_br 85 (qq_lf 84 (.inl (qo_ia (gL w)))) (qq_br 88 (qq_lf 85 (.inr (.inl (22, 5, none)))) (qq_lf 88 (.inr (.inr 1)))))) (qq_br 98 (qq_br 92 (qq_lf 89 (.inl (qo_inc 3 (-1)))) (qq_br 95 (qq_lf 92 (.inl (qo_inc 5 1))) (qq_lf 95 (.inl (qo_g 39))))) (qq_br 104 (qq_br 101 (qq_lf 98 (.inl (qo_inc 4 1))) (qq_lf 101 (.inl (qo_g 5)))) (qq_br 105 (qq_lf 104 (.inl (qo_k (-1) 1))) (qq_lf 105 (.inr (.inr 1)))))))))
def tm_22 (w : qS) : Nat → Option qE := (qq_br 36 (qq_br 33 (qq_br 1 (qq_lf 0 (.inl (qo_il 0 1))) (qq_br 32 (qq_lf 1 (.inl (qo_sw 0 [32, 34, 36, 38] 41))) (qq_lf 32 (.inl (qo_il 1 1))))) (qq_br 34 (qq_lf 33 (.inr (.inr 1))) (qq_br 35 (qq_lf 34 (.inl (qo_il 2 1))) (qq_lf 35 (.inr (.inr 1)))))) (qq_br 40 (qq_br 37 (qq_lf 36 (.inl (qo_il 3 1))) (qq_br 38 (qq_lf 37 (.inr (.inr 1))) (qq_lf 38 (.inl (qo_il 4 2))))) (qq_br 41 (qq_lf 40 (.inr (.inr 1))) (qq_br 42 (qq_lf 41 (.inl (qo_k (-1) 1))) (qq_lf 42 (.inr (.inr 1)))))))
def tm_23 (w : qS) : Nat → Option qE := (qq_br 6 (qq_br 4 (qq_br 1 (qq_lf 0 (.inl (qo_il 0 1))) (qq_lf 1 (.inl (qo_z (fun x => x < 0) 13)))) (qq_br 5 (qq_lf 4 (.inl (qo_il 0 1))) (qq_lf 5 (.inl (qo_k (iN 2) 1))))) (qq_br 10 (qq_br 9 (qq_lf 6 (.inl (qo_c (fun x y => y ≤ x) 13))) (qq_lf 9 (.inl (qo_k 1 1)))) (qq_br 13 (qq_lf 10 (.inl (qo_g 14))) (qq_br 14 (qq_lf 13 (.inl (qo_k 0 1))) (qq_lf 14 (.inr (.inr 2)))))))
def tm_24 (w : qS) : Nat → Option qE := (qq_br 8 (qq_br 4 (qq_br 1 (qq_lf 0 (.inl (qo_il 0 1))) (qq_lf 1 (.inl (qo_z (fun x => x < 0) 15)))) (qq_br 5 (qq_lf 4 (.inl (qo_il 0 1))) (qq_lf 5 (.inl (qo_k (iN 240) 3))))) (qq_br 12 (qq_br 11 (qq_lf 8 (.inl (qo_c (fun x y => y ≤ x) 15))) (qq_lf 11 (.inl (qo_k 1 1)))) (qq_br 15 (qq_lf 12 (.inl (qo_g 16))) (qq_br 16 (qq_lf 15 (.inl (qo_k 0 1))) (qq_lf 16 (.inr (.inr 2)))))))
def tm_25 (w : qS) : Nat → Option qE := (qq_br 4 (qq_br 1 (qq_lf 0 (.inl (qo_il 0 1))) (qq_br 3 (qq_lf 1 (.inl (qo_k (iN 120) 2))) (qq_lf 3 (.inl (qo_d (fun x y => x - x / y * y)))))) (qq_br 6 (qq_lf 4 (.inl (qo_k (iN 12) 2))) (qq_br 7 (qq_lf 6 (.inl (qo_d (fun x y => x / y)))) (qq_lf 7 (.inr (.inr 1))))))
def tm_26 (w : qS) : Nat → Option qE := (qq_br 3 (qq_br 1 (qq_lf 0 (.inl (qo_il 0 1))) (qq_lf 1 (.inl (qo_k (iN 12) 2)))) (qq_br 4 (qq_lf 3 (.inl (qo_d (fun x y => x - x / y * y)))) (qq_lf 4 (.inr (.inr 1)))))
def tm_27 (w : qS) : Nat → Option qE := (qq_br 23 (qq_br 10 (qq_br 5 (qq_br 3 (qq_br 1 (qq_lf 0 (.inl (qo_il 0 1))) (qq_lf 1 (.inl (qo_k (iN 12) 2)))) (qq_br 4 (qq_lf 3 (.inl (qo_d (fun x y => x - x / y * y)))) (qq_lf 4 (.inl (qo_il 1 1))))) (qq_br 7 (qq_br 6 (qq_lf 5 (.inl (qo_b (fun x y => x + y)))) (qq_lf 6 (.inl (qo_is 3 1)))) (qq_br 8 (qq_lf 7 (.inl (qo_il 0 1))) (qq_lf 8 (.inl (qo_k (iN 120) 2)))))) (qq_br 15 (qq_br 13 (qq_br 11 (qq_lf 10 (.inl (qo_d (fun x y => x - x / y * y)))) (qq_lf 11 (.inl (qo_k (iN 12) 2)))) (qq_br 14 (qq_lf 13 (.inl (qo_d (fun x y => x / y)))) (qq_lf 14 (.inl (qo_il 2 1))))) (qq_br 18 (qq_br 16 (qq_lf 15 (.inl (qo_b (fun x y => x + y)))) (qq_lf 16 (.inl (qo_is 4 2)))) (qq_br 19 (qq_lf 18 (.inl (qo_il 3 1))) (qq_br 22 (qq_lf 19 (.inl (qo_z (fun x => x < 0) 40))) (qq_lf 22 (.inl (qo_il 3 1)))))))) (qq_br 41 (qq_br 33 (qq_br 28 (qq_br 25 (qq_lf 23 (.inl (qo_k (iN 12) 2))) (qq_lf 25 (.inl (qo_c (fun x y => y ≤ x) 40)))) (qq_br 30 (qq_lf 28 (.inl (qo_il 4 2))) (qq_lf 30 (.inl (qo_z (fun x => x < 0) 40))))) (qq_br 37 (qq_br 35 (qq_lf 33 (.inl (qo_il 4 2))) (qq_lf 35 (.inl (qo_k (iN 10) 2)))) (qq_br 40 (qq_lf 37 (.inl (qo_c (fun x y => x < y) 42))) (qq_lf 40 (.inl (qo_k (-1) 1)))))) (qq_br 46 (qq_br 43 (qq_br 42 (qq_lf 41 (.inr (.inr 1))) (qq_lf 42 (.inl (qo_il 0 1)))) (qq_br 44 (qq_lf 43 (.inl (qo_il 2 1))) (qq_lf 44 (.inl (qo_k (iN 12) 2))))) (qq_br 48 (qq_br 47 (qq_lf 46 (.inl (qo_b (fun x y => x * y)))) (qq_lf 47 (.inl (qo_b (fun x y => x + y))))) (qq_br 49 (qq_lf 48 (.inl (qo_il 1 1))) (qq_br 50 (qq_lf 49 (.inl (qo_b (fun x y => x + y)))) (qq_lf 50 (.inr (.inr 1)))))))))
def tm_28 (w : qS) : Nat → Option qE := (qq_br 20 (qq_br 9 (qq_br 3 (qq_br 1 (qq_lf 0 (.inl (qo_il 1 1))) (qq_lf 1 (.inl (qo_k (iN 8) 2)))) (qq_br 6 (qq_lf 3 (.inl (qo_c (fun x y => ¬ x = y) 24))) (qq_br 7 (qq_lf 6 (.inl (qo_il 0 1))) (qq_lf 7 (.inl (qo_k (iN 120) 2)))))) (qq_br 15 (qq_br 12 (qq_lf 9 (.inl (qo_c (fun x y => y ≤ x) 19))) (qq_br 13 (qq_lf 12 (.inl (qo_il 0 1))) (qq_lf 13 (.inl (qo_k (iN 120) 2))))) (qq_br 16 (qq_lf 15 (.inl (qo_b (fun x y => x + y)))) (qq_br 19 (qq_lf 16 (.inl (qo_g 23))) (qq_lf 19 (.inl (qo_il 0 1))))))) (qq_br 29 (qq_br 24 (qq_br 22 (qq_lf 20 (.inl (qo_k (iN 120) 2))) (qq_br 23 (qq_lf 22 (.inl (qo_b (fun x y => x - y)))) (qq_lf 23 (.inr (.inr 1))))) (qq_br 25 (qq_lf 24 (.inl (qo_il 0 1))) (qq_br 28 (qq_lf 25 (.inl (qo_ss 200))) (qq_lf 28 (.inl (qo_il 1 1)))))) (qq_br 34 (qq_br 30 (qq_lf 29 (.inl (qo_ia (gL w)))) (qq_br 33 (qq_lf 30 (.inl (qo_ss 201))) (qq_lf 33 (.inl (qo_il 1 1))))) (qq_br 35 (qq_lf 34 (.inl (qo_ia (gL w)))) (qq_br 38 (qq_lf 35 (.inr (.inl (27, 3, none)))) (qq_lf 38 (.inr (.inr 1))))))))
def tm_29 (w : qS) : Nat → Option qE := (qq_br 9 (qq_br 4 (qq_br 1 (qq_lf 0 (.inl (qo_il 1 1))) (qq_lf 1 (.inl (qo_z (fun x => x < 0) 19)))) (qq_br 5 (qq_lf 4 (.inl (qo_il 1 1))) (qq_br 6 (qq_lf 5 (.inl (qo_al 0 1))) (qq_lf 6 (.inl (qo_get (gL w) 1 0)))))) (qq_br 16 (qq_br 12 (qq_lf 9 (.inl (qo_get (gL w) 2 6))) (qq_br 15 (qq_lf 12 (.inl (qo_c (fun x y => y ≤ x) 19))) (qq_lf 15 (.inl (qo_k 1 1))))) (qq_br 19 (qq_lf 16 (.inl (qo_g 20))) (qq_br 20 (qq_lf 19 (.inl (qo_k 0 1))) (qq_lf 20 (.inr (.inr 2)))))))
def tm_30 (w : qS) : Nat → Option qE := (qq_br 9 (qq_br 4 (qq_br 1 (qq_lf 0 (.inl (qo_al 0 1))) (qq_lf 1 (.inl (qo_get (gL w) 1 0)))) (qq_br 7 (qq_lf 4 (.inl (qo_get (gL w) 2 4))) (qq_br 8 (qq_lf 7 (.inl (qo_il 1 1))) (qq_lf 8 (.inl (qo_ia (gL w))))))) (qq_br 13 (qq_br 12 (qq_lf 9 (.inl (qo_z (fun x => x = 0) 16))) (qq_lf 12 (.inl (qo_k 1 1)))) (qq_br 16 (qq_lf 13 (.inl (qo_g 17))) (qq_br 17 (qq_lf 16 (.inl (qo_k 0 1))) (qq_lf 17 (.inr (.inr 2)))))))
def tm_31 (w : qS) : Nat → Option qE := (qq_br 4 (qq_br 1 (qq_lf 0 (.inl (qo_al 0 1))) (qq_lf 1 (.inl (qo_get (gL w) 1 1)))) (qq_br 5 (qq_lf 4 (.inl (qo_il 1 1))) (qq_br 6 (qq_lf 5 (.inl (qo_ia (gL w)))) (qq_lf 6 (.inr (.inr 1))))))
def tm_32 (w : qS) : Nat → Option qE := (qq_br 11 (qq_br 7 (qq_br 1 (qq_lf 0 (.inl (qo_al 0 1))) (qq_br 4 (qq_lf 1 (.inl (qo_get (gL w) 1 0))) (qq_lf 4 (.inl (qo_get (gL w) 2 5))))) (qq_br 9 (qq_br 8 (qq_lf 7 (.inl (qo_il 1 1))) (qq_lf 8 (.inl (qo_ia (gL w))))) (qq_br 10 (qq_lf 9 (.inl (qo_is 2 1))) (qq_lf 10 (.inl (qo_il 2 1)))))) (qq_br 19 (qq_br 15 (qq_br 14 (qq_lf 11 (.inl (qo_z (fun x => 0 ≤ x) 18))) (qq_lf 14 (.inl (qo_k (-1) 1)))) (qq_br 18 (qq_lf 15 (.inl (qo_g 24))) (qq_lf 18 (.inl (qo_al 0 1))))) (qq_br 23 (qq_br 22 (qq_lf 19 (.inl (qo_get (gL w) 1 1))) (qq_lf 22 (.inl (qo_il 2 1)))) (qq_br 24 (qq_lf 23 (.inl (qo_ia (gL w)))) (qq_lf 24 (.inr (.inr 1)))))))
def tm_33 (w : qS) : Nat → Option qE := (qq_br 24 (qq_br 12 (qq_br 7 (qq_br 1 (qq_lf 0 (.inl (qo_al 0 1))) (qq_br 4 (qq_lf 1 (.inl (qo_get (gL w) 1 0))) (qq_lf 4 (.inl (qo_get (gL w) 2 4))))) (qq_br 9 (qq_br 8 (qq_lf 7 (.inl (qo_il 1 1))) (qq_lf 8 (.inl (qo_ia (gL w))))) (qq_br 10 (qq_lf 9 (.inl (qo_il 2 1))) (qq_lf 10 (.inl (qo_k (iN 120) 2)))))) (qq_br 16 (qq_br 14 (qq_br 13 (qq_lf 12 (.inl (qo_d (fun x y => x / y)))) (qq_lf 13 (.inl (qo_b (fun x y => x >>> (y &&& 31)))))) (qq_br 15 (qq_lf 14 (.inl (qo_k 1 1))) (qq_lf 15 (.inl (qo_b (fun x y => x &&& y)))))) (qq_br 20 (qq_br 19 (qq_lf 16 (.inl (qo_z (fun x => x = 0) 23))) (qq_lf 19 (.inl (qo_k 1 1)))) (qq_br 23 (qq_lf 20 (.inl (qo_g 24))) (qq_lf 23 (.inl (qo_k 0 1))))))) (qq_br 38 (qq_br 30 (qq_br 26 (qq_br 25 (qq_lf 24 (.inl (qo_is 3 1))) (qq_lf 25 (.inl (qo_il 3 1)))) (qq_br 29 (qq_lf 26 (.inl (qo_z (fun x => x = 0) 49))) (qq_lf 29 (.inl (qo_al 0 1))))) (qq_br 36 (qq_br 33 (qq_lf 30 (.inl (qo_get (gL w) 1 0))) (qq_lf 33 (.inl (qo_get (gL w) 2 3)))) (qq_br 37 (qq_lf 36 (.inl (qo_il 1 1))) (qq_lf 37 (.inl (qo_ia (gL w))))))) (qq_br 45 (qq_br 41 (qq_br 39 (qq_lf 38 (.inl (qo_il 2 1))) (qq_lf 39 (.inl (qo_k (iN 120) 2)))) (qq_br 42 (qq_lf 41 (.inl (qo_d (fun x y => x - x / y * y)))) (qq_lf 42 (.inl (qo_c (fun x y => ¬ x = y) 49))))) (qq_br 49 (qq_br 46 (qq_lf 45 (.inl (qo_k 1 1))) (qq_lf 46 (.inl (qo_g 50)))) (qq_br 50 (qq_lf 49 (.inl (qo_k 0 1))) (qq_lf 50 (.inr (.inr 2))))))))
def tm_34 (w : qS) : Nat → Option qE := (qq_br 14 (qq_br 8 (qq_br 4 (qq_br 1 (qq_lf 0 (.inl (qo_al 0 1))) (qq_lf 1 (.inl (qo_get (gL w) 1 0)))) (qq_br 7 (qq_lf 4 (.inl (qo_get (gL w) 2 5))) (qq_lf 7 (.inl (qo_il 1 1))))) (qq_br 10 (qq_br 9 (qq_lf 8 (.inl (qo_ia (gL w)))) (qq_lf 9 (.inl (qo_is 2 1)))) (qq_br 11 (qq_lf 10 (.inl (qo_il 2 1))) (qq_lf 11 (.inl (qo_z (fun x => x < 0) 27)))))) (qq_br 20 (qq_br 16 (qq_br 15 (qq_lf 14 (.inl (qo_al 0 1))) (qq_lf 15 (.inl (qo_il 2 1)))) (qq_br 17 (qq_lf 16 (.inl (qo_il 1 1))) (qq_lf 17 (.inr (.inl (33, 3, some 1)))))) (qq_br 24 (qq_br 23 (qq_lf 20 (.inl (qo_z (fun x => ¬ x = 0) 27))) (qq_lf 23 (.inl (qo_k 1 1)))) (qq_br 27 (qq_lf 24 (.inl (qo_g 28))) (qq_br 28 (qq_lf 27 (.inl (qo_k 0 1))) (qq_lf 28 (.inr (.inr 2))))))))
def tm_35 (w : qS) : Nat → Option qE := (qq_br 21 (qq_br 9 (qq_br 4 (qq_br 1 (qq_lf 0 (.inl (qo_al 0 1))) (qq_lf 1 (.inl (qo_get (gL w) 1 0)))) (qq_br 7 (qq_lf 4 (.inl (qo_get (gL w) 2 4))) (qq_br 8 (qq_lf 7 (.inl (qo_il 1 1))) (qq_lf 8 (.inl (qo_ia (gL w))))))) (qq_br 14 (qq_br 10 (qq_lf 9 (.inl (qo_k 1 1))) (qq_br 11 (qq_lf 10 (.inl (qo_b (fun x y => x &&& y)))) (qq_lf 11 (.inl (qo_z (fun x => x = 0) 26))))) (qq_br 15 (qq_lf 14 (.inl (qo_al 0 1))) (qq_br 18 (qq_lf 15 (.inl (qo_get (gL w) 1 0))) (qq_lf 18 (.inl (qo_get (gL w) 2 3))))))) (qq_br 30 (qq_br 23 (qq_br 22 (qq_lf 21 (.inl (qo_il 1 1))) (qq_lf 22 (.inl (qo_ia (gL w))))) (qq_br 26 (qq_lf 23 (.inl (qo_g 38))) (qq_br 27 (qq_lf 26 (.inl (qo_al 0 1))) (qq_lf 27 (.inl (qo_get (gL w) 1 0)))))) (qq_br 35 (qq_br 33 (qq_lf 30 (.inl (qo_get (gL w) 2 3))) (qq_br 34 (qq_lf 33 (.inl (qo_il 1 1))) (qq_lf 34 (.inl (qo_ia (gL w)))))) (qq_br 37 (qq_lf 35 (.inl (qo_k (iN 120) 2))) (qq_br 38 (qq_lf 37 (.inl (qo_b (fun x y => x + y)))) (qq_lf 38 (.inr (.inr 1))))))))
def tm_36 (w : qS) : Nat → Option qE := (qq_br 45 (qq_br 24 (qq_br 11 (qq_br 7 (qq_br 1 (qq_lf 0 (.inl (qo_al 0 1))) (qq_br 4 (qq_lf 1 (.inl (qo_get (gL w) 1 0))) (qq_lf 4 (.inl (qo_get (gL w) 2 5))))) (qq_br 8 (qq_lf 7 (.inl (qo_il 1 1))) (qq_br 9 (qq_lf 8 (.inl (qo_ia (gL w)))) (qq_lf 9 (.inl (qo_k (-2) 2)))))) (qq_br 16 (qq_br 14 (qq_lf 11 (.inl (qo_c (fun x y => ¬ x = y) 16))) (qq_br 15 (qq_lf 14 (.inl (qo_k 0 1))) (qq_lf 15 (.inr (.inr 2))))) (qq_br 20 (qq_br 17 (qq_lf 16 (.inl (qo_al 0 1))) (qq_lf 17 (.inl (qo_get (gL w) 1 0)))) (qq_br 23 (qq_lf 20 (.inl (qo_get (gL w) 2 8))) (qq_lf 23 (.inl (qo_is 3 1))))))) (qq_br 34 (qq_br 28 (qq_br 25 (qq_lf 24 (.inl (qo_il 3 1))) (qq_br 26 (qq_lf 25 (.inl (qo_u (fun x => -x)))) (qq_lf 26 (.inl (qo_is 4 2))))) (qq_br 30 (qq_lf 28 (.inl (qo_il 4 2))) (qq_br 31 (qq_lf 30 (.inl (qo_il 3 1))) (qq_lf 31 (.inl (qo_c (fun x y => y < x) 98)))))) (qq_br 38 (qq_br 35 (qq_lf 34 (.inl (qo_il 3 1))) (qq_br 36 (qq_lf 35 (.inl (qo_u (fun x => -x)))) (qq_lf 36 (.inl (qo_is 5 2))))) (qq_br 41 (qq_br 40 (qq_lf 38 (.inl (qo_il 5 2))) (qq_lf 40 (.inl (qo_il 3 1)))) (qq_br 44 (qq_lf 41 (.inl (qo_c (fun x y => y < x) 92))) (qq_lf 44 (.inl (qo_il 1 1)))))))) (qq_br 72 (qq_br 57 (qq_br 52 (qq_br 47 (qq_lf 45 (.inl (qo_il 5 2))) (qq_br 49 (qq_lf 47 (.inl (qo_il 4 2))) (qq_lf 49 (.inr (.inl (27, 3, none)))))) (qq_br 54 (qq_lf 52 (.inl (qo_is 6 2))) (qq_br 56 (qq_lf 54 (.inl (qo_il 6 2))) (qq_lf 56 (.inl (qo_k (-1) 1)))))) (qq_br 64 (qq_br 60 (qq_lf 57 (.inl (qo_c (fun x y => ¬ x = y) 64))) (qq_br 61 (qq_lf 60 (.inl (qo_k (-1) 1))) (qq_lf 61 (.inl (qo_g 70))))) (qq_br 67 (qq_br 65 (qq_lf 64 (.inl (qo_al 0 1))) (qq_lf 65 (.inl (qo_il 6 2)))) (qq_br 70 (qq_lf 67 (.inr (.inl (32, 2, some 1)))) (qq_lf 70 (.inl (qo_is 7 2))))))) (qq_br 85 (qq_br 78 (qq_br 74 (qq_lf 72 (.inl (qo_il 7 2))) (qq_br 75 (qq_lf 74 (.inl (qo_k (-1) 1))) (qq_lf 75 (.inl (qo_c (fun x y => x = y) 86))))) (qq_br 81 (qq_br 80 (qq_lf 78 (.inl (qo_il 7 2))) (qq_lf 80 (.inl (qo_il 2 1)))) (qq_br 84 (qq_lf 81 (.inl (qo_c (fun x y => x = y) 86))) (qq_lf 84 (.inl (qo_k 0 1)))))) (qq_br 92 (qq_br 86 (qq_lf 85 (.inr (.inr 2))) (qq_br 89 (qq_lf 86 (.inl (qo_inc 5 1))) (qq_lf 89 (.inl (qo_g 38))))) (qq_br 98 (qq_br 95 (qq_lf 92 (.inl (qo_inc 4 1))) (qq_lf 95 (.inl (qo_g 28)))) (qq_br 99 (qq_lf 98 (.inl (qo_k 1 1))) (qq_lf 99 (.inr (.inr 2)))))))))
def tm_37 (w : qS) : Nat → Option qE := (qq_br 18 (qq_br 9 (qq_br 4 (qq_br 1 (qq_lf 0 (.inl (qo_al 0 1))) (qq_lf 1 (.inl (qo_get (gL w) 1 0)))) (qq_br 7 (qq_lf 4 (.inl (qo_get (gL w) 2 6))) (qq_br 8 (qq_lf 7 (.inl (qo_is 2 1))) (qq_lf 8 (.inl (qo_al 0 1)))))) (qq_br 15 (qq_br 12 (qq_lf 9 (.inl (qo_get (gL w) 1 0))) (qq_lf 12 (.inl (qo_get (gL w) 2 0)))) (qq_br 16 (qq_lf 15 (.inl (qo_il 2 1))) (qq_br 17 (qq_lf 16 (.inl (qo_il 1 1))) (qq_lf 17 (.inl (qo_ias (gL w)))))))) (qq_br 27 (qq_br 22 (qq_br 19 (qq_lf 18 (.inl (qo_al 0 1))) (qq_lf 19 (.inl (qo_get (gL w) 1 0)))) (qq_br 23 (qq_lf 22 (.inl qo_dup)) (qq_br 26 (qq_lf 23 (.inl (qo_get (gL w) 2 6))) (qq_lf 26 (.inl (qo_k 1 1)))))) (qq_br 32 (qq_br 28 (qq_lf 27 (.inl (qo_b (fun x y => x + y)))) (qq_br 31 (qq_lf 28 (.inl (qo_put (gL w) 2 6))) (qq_lf 31 (.inl (qo_al 0 1))))) (qq_br 35 (qq_lf 32 (.inr (.inl (40, 1, some 1)))) (qq_br 36 (qq_lf 35 (.inl (qo_il 2 1))) (qq_lf 36 (.inr (.inr 1))))))))
def tm_38 (w : qS) : Nat → Option qE := (qq_br 25 (qq_br 12 (qq_br 7 (qq_br 1 (qq_lf 0 (.inl (qo_al 0 1))) (qq_br 4 (qq_lf 1 (.inl (qo_get (gL w) 1 0))) (qq_lf 4 (.inl (qo_get (gL w) 2 7))))) (qq_br 8 (qq_lf 7 (.inl (qo_is 3 1))) (qq_br 9 (qq_lf 8 (.inl (qo_al 0 1))) (qq_lf 9 (.inl (qo_get (gL w) 1 0)))))) (qq_br 17 (qq_br 15 (qq_lf 12 (.inl (qo_get (gL w) 2 1))) (qq_br 16 (qq_lf 15 (.inl (qo_il 3 1))) (qq_lf 16 (.inl (qo_il 1 1))))) (qq_br 19 (qq_br 18 (qq_lf 17 (.inl (qo_ias (gL w)))) (qq_lf 18 (.inl (qo_al 0 1)))) (qq_br 22 (qq_lf 19 (.inl (qo_get (gL w) 1 0))) (qq_lf 22 (.inl (qo_get (gL w) 2 2))))))) (qq_br 36 (qq_br 28 (qq_br 26 (qq_lf 25 (.inl (qo_il 3 1))) (qq_br 27 (qq_lf 26 (.inl (qo_il 2 1))) (qq_lf 27 (.inl (qo_ias (gL w)))))) (qq_br 32 (qq_br 29 (qq_lf 28 (.inl (qo_al 0 1))) (qq_lf 29 (.inl (qo_get (gL w) 1 0)))) (qq_br 33 (qq_lf 32 (.inl qo_dup)) (qq_lf 33 (.inl (qo_get (gL w) 2 7)))))) (qq_br 41 (qq_br 37 (qq_lf 36 (.inl (qo_k 1 1))) (qq_br 38 (qq_lf 37 (.inl (qo_b (fun x y => x + y)))) (qq_lf 38 (.inl (qo_put (gL w) 2 7))))) (qq_br 45 (qq_br 42 (qq_lf 41 (.inl (qo_al 0 1))) (qq_lf 42 (.inr (.inl (40, 1, some 1))))) (qq_br 46 (qq_lf 45 (.inl (qo_il 3 1))) (qq_lf 46 (.inr (.inr 1))))))))
def tm_39 (w : qS) : Nat → Option qE := (qq_br 41 (qq_br 16 (qq_br 9 (qq_br 4 (qq_br 1 (qq_lf 0 (.inl (qo_al 0 1))) (qq_lf 1 (.inl (qo_get (gL w) 1 0)))) (qq_br 5 (qq_lf 4 (.inl qo_dup)) (qq_br 8 (qq_lf 5 (.inl (qo_get (gL w) 2 7))) (qq_lf 8 (.inl (qo_k 1 1)))))) (qq_br 13 (qq_br 10 (qq_lf 9 (.inl (qo_b (fun x y => x - y)))) (qq_lf 10 (.inl (qo_put (gL w) 2 7)))) (qq_br 14 (qq_lf 13 (.inl (qo_il 1 1))) (qq_br 15 (qq_lf 14 (.inl (qo_is 2 1))) (qq_lf 15 (.inl (qo_il 2 1))))))) (qq_br 27 (qq_br 20 (qq_br 17 (qq_lf 16 (.inl (qo_al 0 1))) (qq_lf 17 (.inl (qo_get (gL w) 1 0)))) (qq_br 23 (qq_lf 20 (.inl (qo_get (gL w) 2 7))) (qq_br 26 (qq_lf 23 (.inl (qo_c (fun x y => y ≤ x) 72))) (qq_lf 26 (.inl (qo_al 0 1)))))) (qq_br 34 (qq_br 30 (qq_lf 27 (.inl (qo_get (gL w) 1 0))) (qq_br 33 (qq_lf 30 (.inl (qo_get (gL w) 2 1))) (qq_lf 33 (.inl (qo_il 2 1))))) (qq_br 35 (qq_lf 34 (.inl (qo_al 0 1))) (qq_br 38 (qq_lf 35 (.inl (qo_get (gL w) 1 0))) (qq_lf 38 (.inl (qo_get (gL w) 2 1)))))))) (qq_br 58 (qq_br 46 (qq_br 43 (qq_br 42 (qq_lf 41 (.inl (qo_il 2 1))) (qq_lf 42 (.inl (qo_k 1 1)))) (qq_br 44 (qq_lf 43 (.inl (qo_b (fun x y => x + y)))) (qq_br 45 (qq_lf 44 (.inl (qo_ia (gL w)))) (qq_lf 45 (.inl (qo_ias (gL w))))))) (qq_br 53 (qq_br 47 (qq_lf 46 (.inl (qo_al 0 1))) (qq_br 50 (qq_lf 47 (.inl (qo_get (gL w) 1 0))) (qq_lf 50 (.inl (qo_get (gL w) 2 2))))) (qq_br 54 (qq_lf 53 (.inl (qo_il 2 1))) (qq_br 55 (qq_lf 54 (.inl (qo_al 0 1))) (qq_lf 55 (.inl (qo_get (gL w) 1 0))))))) (qq_br 65 (qq_br 62 (qq_br 61 (qq_lf 58 (.inl (qo_get (gL w) 2 2))) (qq_lf 61 (.inl (qo_il 2 1)))) (qq_br 63 (qq_lf 62 (.inl (qo_k 1 1))) (qq_br 64 (qq_lf 63 (.inl (qo_b (fun x y => x + y)))) (qq_lf 64 (.inl (qo_ia (gL w))))))) (qq_br 72 (qq_br 66 (qq_lf 65 (.inl (qo_ias (gL w)))) (qq_br 69 (qq_lf 66 (.inl (qo_inc 2 1))) (qq_lf 69 (.inl (qo_g 15))))) (qq_br 73 (qq_lf 72 (.inl (qo_al 0 1))) (qq_br 76 (qq_lf 73 (.inr (.inl (40, 1, some 1)))) (qq_lf 76 (.inr (.inr 0)))))))))
def tm_40 (w : qS) : Nat → Option qE := (qq_br 45 (qq_br 21 (qq_br 9 (qq_br 3 (qq_br 1 (qq_lf 0 (.inl (qo_k 0 1))) (qq_br 2 (qq_lf 1 (.inl (qo_is 1 1))) (qq_lf 2 (.inl (qo_il 1 1))))) (qq_br 5 (qq_lf 3 (.inl (qo_k (iN 16) 2))) (qq_br 8 (qq_lf 5 (.inl (qo_c (fun x y => y ≤ x) 21))) (qq_lf 8 (.inl (qo_al 0 1)))))) (qq_br 14 (qq_br 12 (qq_lf 9 (.inl (qo_get (gL w) 1 1))) (qq_br 13 (qq_lf 12 (.inl (qo_il 1 1))) (qq_lf 13 (.inl (qo_il 1 1))))) (qq_br 15 (qq_lf 14 (.inl (qo_ias (gL w)))) (qq_br 18 (qq_lf 15 (.inl (qo_inc 1 1))) (qq_lf 18 (.inl (qo_g 2))))))) (qq_br 31 (qq_br 24 (qq_br 22 (qq_lf 21 (.inl (qo_k 0 1))) (qq_br 23 (qq_lf 22 (.inl (qo_is 1 1))) (qq_lf 23 (.inl (qo_il 1 1))))) (qq_br 25 (qq_lf 24 (.inl (qo_al 0 1))) (qq_br 28 (qq_lf 25 (.inl (qo_get (gL w) 1 0))) (qq_lf 28 (.inl (qo_get (gL w) 2 7)))))) (qq_br 38 (qq_br 34 (qq_lf 31 (.inl (qo_c (fun x y => y ≤ x) 84))) (qq_br 35 (qq_lf 34 (.inl (qo_al 0 1))) (qq_lf 35 (.inl (qo_get (gL w) 1 1))))) (qq_br 39 (qq_lf 38 (.inl (qo_al 0 1))) (qq_br 42 (qq_lf 39 (.inl (qo_get (gL w) 1 0))) (qq_lf 42 (.inl (qo_get (gL w) 2 1)))))))) (qq_br 63 (qq_br 53 (qq_br 48 (qq_br 46 (qq_lf 45 (.inl (qo_il 1 1))) (qq_br 47 (qq_lf 46 (.inl (qo_ia (gL w)))) (qq_lf 47 (.inl (qo_ia (gL w)))))) (qq_br 49 (qq_lf 48 (.inl (qo_is 2 1))) (qq_br 50 (qq_lf 49 (.inl (qo_al 0 1))) (qq_lf 50 (.inl (qo_get (gL w) 1 1)))))) (qq_br 60 (qq_br 54 (qq_lf 53 (.inl (qo_al 0 1))) (qq_br 57 (qq_lf 54 (.inl (qo_get (gL w) 1 0))) (qq_lf 57 (.inl (qo_get (gL w) 2 2))))) (qq_br 61 (qq_lf 60 (.inl (qo_il 1 1))) (qq_br 62 (qq_lf 61 (.inl (qo_ia (gL w)))) (qq_lf 62 (.inl (qo_ia (gL w)))))))) (qq_br 71 (qq_br 66 (qq_br 64 (qq_lf 63 (.inl (qo_is 3 1))) (qq_br 65 (qq_lf 64 (.inl (qo_al 0 1))) (qq_lf 65 (.inl (qo_il 2 1))))) (qq_br 67 (qq_lf 66 (.inl (qo_il 3 1))) (qq_br 70 (qq_lf 67 (.inl qo_mx)) (qq_lf 70 (.inl (qo_il 2 1)))))) (qq_br 78 (qq_br 72 (qq_lf 71 (.inl (qo_il 3 1))) (qq_br 75 (qq_lf 72 (.inl qo_mn)) (qq_lf 75 (.inr (.inl (41, 3, some 1)))))) (qq_br 81 (qq_lf 78 (.inl (qo_inc 1 1))) (qq_br 84 (qq_lf 81 (.inl (qo_g 23))) (qq_lf 84 (.inr (.inr 0)))))))))
def tm_41 (w : qS) : Nat → Option qE := (qq_br 14 (qq_br 5 (qq_br 2 (qq_br 1 (qq_lf 0 (.inl (qo_k 0 1))) (qq_lf 1 (.inl (qo_is 3 1)))) (qq_br 3 (qq_lf 2 (.inl (qo_il 3 1))) (qq_lf 3 (.inl (qo_k (iN 16) 2))))) (qq_br 9 (qq_br 8 (qq_lf 5 (.inl (qo_c (fun x y => y ≤ x) 31))) (qq_lf 8 (.inl (qo_al 0 1)))) (qq_br 12 (qq_lf 9 (.inl (qo_get (gL w) 1 1))) (qq_br 13 (qq_lf 12 (.inl (qo_il 3 1))) (qq_lf 13 (.inl (qo_ia (gL w)))))))) (qq_br 23 (qq_br 18 (qq_br 15 (qq_lf 14 (.inl (qo_il 1 1))) (qq_lf 15 (.inl (qo_c (fun x y => ¬ x = y) 25)))) (qq_br 19 (qq_lf 18 (.inl (qo_al 0 1))) (qq_br 22 (qq_lf 19 (.inl (qo_get (gL w) 1 1))) (qq_lf 22 (.inl (qo_il 3 1)))))) (qq_br 25 (qq_br 24 (qq_lf 23 (.inl (qo_il 2 1))) (qq_lf 24 (.inl (qo_ias (gL w))))) (qq_br 28 (qq_lf 25 (.inl (qo_inc 3 1))) (qq_br 31 (qq_lf 28 (.inl (qo_g 2))) (qq_lf 31 (.inr (.inr 0))))))))
def tm_42 (w : qS) : Nat → Option qE := (qq_br 24 (qq_br 12 (qq_br 6 (qq_br 2 (qq_br 1 (qq_lf 0 (.inl (qo_al 0 1))) (qq_lf 1 (.inl (qo_il 1 1)))) (qq_br 3 (qq_lf 2 (.inl (qo_k 1 1))) (qq_lf 3 (.inr (.inl (43, 3, some 1)))))) (qq_br 8 (qq_br 7 (qq_lf 6 (.inl (qo_is 2 1))) (qq_lf 7 (.inl (qo_il 2 1)))) (qq_br 9 (qq_lf 8 (.inl (qo_k (iN 2) 1))) (qq_lf 9 (.inl (qo_c (fun x y => x < y) 14)))))) (qq_br 18 (qq_br 14 (qq_br 13 (qq_lf 12 (.inl (qo_k 1 1))) (qq_lf 13 (.inr (.inr 1)))) (qq_br 15 (qq_lf 14 (.inl (qo_il 2 1))) (qq_lf 15 (.inl (qo_z (fun x => 0 < x) 27))))) (qq_br 20 (qq_br 19 (qq_lf 18 (.inl (qo_al 0 1))) (qq_lf 19 (.inl (qo_il 1 1)))) (qq_br 21 (qq_lf 20 (.inl (qo_k (iN 3) 1))) (qq_lf 21 (.inr (.inl (43, 3, some 1)))))))) (qq_br 38 (qq_br 32 (qq_br 28 (qq_br 27 (qq_lf 24 (.inl (qo_z (fun x => x ≤ 0) 31))) (qq_lf 27 (.inl (qo_k 1 1)))) (qq_br 31 (qq_lf 28 (.inl (qo_g 32))) (qq_lf 31 (.inl (qo_k 0 1))))) (qq_br 34 (qq_br 33 (qq_lf 32 (.inl (qo_is 3 1))) (qq_lf 33 (.inl (qo_il 3 1)))) (qq_br 37 (qq_lf 34 (.inl (qo_z (fun x => ¬ x = 0) 50))) (qq_lf 37 (.inl (qo_al 0 1)))))) (qq_br 46 (qq_br 40 (qq_br 39 (qq_lf 38 (.inl (qo_il 1 1))) (qq_lf 39 (.inl (qo_k 0 1)))) (qq_br 43 (qq_lf 40 (.inr (.inl (43, 3, some 1)))) (qq_lf 43 (.inl (qo_z (fun x => x ≤ 0) 50))))) (qq_br 50 (qq_br 47 (qq_lf 46 (.inl (qo_k (iN 2) 1))) (qq_lf 47 (.inl (qo_g 51)))) (qq_br 51 (qq_lf 50 (.inl (qo_k (-1) 1))) (qq_lf 51 (.inr (.inr 1))))))))
def tm_43 (w : qS) : Nat → Option qE := (qq_br 24 (qq_br 8 (qq_br 3 (qq_br 1 (qq_lf 0 (.inl (qo_k 0 1))) (qq_br 2 (qq_lf 1 (.inl (qo_is 3 1))) (qq_lf 2 (.inl (qo_k 0 1))))) (qq_br 5 (qq_lf 3 (.inl (qo_is 4 2))) (qq_br 7 (qq_lf 5 (.inl (qo_il 4 2))) (qq_lf 7 (.inl (qo_al 0 1)))))) (qq_br 17 (qq_br 11 (qq_lf 8 (.inl (qo_get (gL w) 1 0))) (qq_br 14 (qq_lf 11 (.inl (qo_get (gL w) 2 6))) (qq_lf 14 (.inl (qo_c (fun x y => y ≤ x) 51))))) (qq_br 21 (qq_br 18 (qq_lf 17 (.inl (qo_al 0 1))) (qq_lf 18 (.inl (qo_get (gL w) 1 1)))) (qq_br 23 (qq_lf 21 (.inl (qo_il 4 2))) (qq_lf 23 (.inl (qo_ia (gL w)))))))) (qq_br 38 (qq_br 29 (qq_br 25 (qq_lf 24 (.inl (qo_il 1 1))) (qq_br 28 (qq_lf 25 (.inl (qo_c (fun x y => ¬ x = y) 45))) (qq_lf 28 (.inl (qo_al 0 1))))) (qq_br 35 (qq_br 32 (qq_lf 29 (.inl (qo_get (gL w) 1 0))) (qq_lf 32 (.inl (qo_get (gL w) 2 0)))) (qq_br 37 (qq_lf 35 (.inl (qo_il 4 2))) (qq_lf 37 (.inl (qo_ia (gL w))))))) (qq_br 45 (qq_br 39 (qq_lf 38 (.inl (qo_il 2 1))) (qq_br 42 (qq_lf 39 (.inl (qo_c (fun x y => ¬ x = y) 45))) (qq_lf 42 (.inl (qo_inc 3 1))))) (qq_br 51 (qq_br 48 (qq_lf 45 (.inl (qo_inc 4 1))) (qq_lf 48 (.inl (qo_g 5)))) (qq_br 52 (qq_lf 51 (.inl (qo_il 3 1))) (qq_lf 52 (.inr (.inr 1))))))))
def tm_44 (w : qS) : Nat → Option qE := (qq_br 32 (qq_br 16 (qq_br 9 (qq_br 3 (qq_br 1 (qq_lf 0 (.inl (qo_k 0 1))) (qq_lf 1 (.inl (qo_is 4 2)))) (qq_br 5 (qq_lf 3 (.inl (qo_il 4 2))) (qq_br 6 (qq_lf 5 (.inl (qo_k (iN 2) 1))) (qq_lf 6 (.inl (qo_c (fun x y => y ≤ x) 71)))))) (qq_br 13 (qq_br 11 (qq_lf 9 (.inl (qo_il 4 2))) (qq_lf 11 (.inl (qo_k (iN 120) 2)))) (qq_br 14 (qq_lf 13 (.inl (qo_b (fun x y => x * y)))) (qq_br 15 (qq_lf 14 (.inl (qo_il 1 1))) (qq_lf 15 (.inl (qo_b (fun x y => x + y)))))))) (qq_br 23 (qq_br 19 (qq_br 18 (qq_lf 16 (.inl (qo_is 5 2))) (qq_lf 18 (.inl (qo_il 2 1)))) (qq_br 21 (qq_lf 19 (.inl (qo_il 4 2))) (qq_br 22 (qq_lf 21 (.inl (qo_b (fun x y => x >>> (y &&& 31))))) (qq_lf 22 (.inl (qo_k 1 1)))))) (qq_br 27 (qq_br 24 (qq_lf 23 (.inl (qo_b (fun x y => x &&& y)))) (qq_lf 24 (.inl (qo_z (fun x => x = 0) 31)))) (qq_br 28 (qq_lf 27 (.inl (qo_k 1 1))) (qq_br 31 (qq_lf 28 (.inl (qo_g 32))) (qq_lf 31 (.inl (qo_k 0 1)))))))) (qq_br 53 (qq_br 43 (qq_br 36 (qq_br 34 (qq_lf 32 (.inl (qo_is 6 2))) (qq_lf 34 (.inl (qo_il 6 2)))) (qq_br 39 (qq_lf 36 (.inl (qo_z (fun x => x = 0) 65))) (qq_br 40 (qq_lf 39 (.inl (qo_al 0 1))) (qq_lf 40 (.inl (qo_get (gL w) 1 0)))))) (qq_br 48 (qq_br 46 (qq_lf 43 (.inl (qo_get (gL w) 2 5))) (qq_lf 46 (.inl (qo_il 5 2)))) (qq_br 49 (qq_lf 48 (.inl (qo_ia (gL w)))) (qq_br 50 (qq_lf 49 (.inl (qo_k (-1) 1))) (qq_lf 50 (.inl (qo_c (fun x y => ¬ x = y) 63))))))) (qq_br 63 (qq_br 56 (qq_br 54 (qq_lf 53 (.inl (qo_al 0 1))) (qq_lf 54 (.inl (qo_il 5 2)))) (qq_br 57 (qq_lf 56 (.inl (qo_il 3 1))) (qq_br 60 (qq_lf 57 (.inr (.inl (36, 3, some 1)))) (qq_lf 60 (.inl (qo_z (fun x => ¬ x = 0) 65)))))) (qq_br 68 (qq_br 64 (qq_lf 63 (.inl (qo_k 0 1))) (qq_br 65 (qq_lf 64 (.inr (.inr 2))) (qq_lf 65 (.inl (qo_inc 4 1))))) (qq_br 71 (qq_lf 68 (.inl (qo_g 3))) (qq_br 72 (qq_lf 71 (.inl (qo_k 1 1))) (qq_lf 72 (.inr (.inr 2)))))))))
def tm_45 (w : qS) : Nat → Option qE := (qq_br 14 (qq_br 8 (qq_br 4 (qq_br 1 (qq_lf 0 (.inl (qo_al 0 1))) (qq_lf 1 (.inl (qo_get (gL w) 1 0)))) (qq_br 7 (qq_lf 4 (.inl (qo_get (gL w) 2 3))) (qq_lf 7 (.inl (qo_il 1 1))))) (qq_br 10 (qq_br 9 (qq_lf 8 (.inl (qo_il 2 1))) (qq_lf 9 (.inl (qo_ias (gL w))))) (qq_br 11 (qq_lf 10 (.inl (qo_al 0 1))) (qq_lf 11 (.inl (qo_get (gL w) 1 0)))))) (qq_br 20 (qq_br 18 (qq_br 17 (qq_lf 14 (.inl (qo_get (gL w) 2 4))) (qq_lf 17 (.inl (qo_il 1 1)))) (qq_br 19 (qq_lf 18 (.inl (qo_il 3 1))) (qq_lf 19 (.inl (qo_ias (gL w)))))) (qq_br 22 (qq_br 21 (qq_lf 20 (.inl (qo_al 0 1))) (qq_lf 21 (.inl (qo_il 1 1)))) (qq_br 23 (qq_lf 22 (.inl (qo_il 1 1))) (qq_br 26 (qq_lf 23 (.inr (.inl (47, 3, some 1)))) (qq_lf 26 (.inr (.inr 0))))))))
def tm_46 (w : qS) : Nat → Option qE := (qq_br 14 (qq_br 6 (qq_br 2 (qq_br 1 (qq_lf 0 (.inl (qo_al 0 1))) (qq_lf 1 (.inl (qo_il 1 1)))) (qq_br 3 (qq_lf 2 (.inl (qo_k (-1) 1))) (qq_lf 3 (.inr (.inl (47, 3, some 1)))))) (qq_br 10 (qq_br 7 (qq_lf 6 (.inl (qo_al 0 1))) (qq_lf 7 (.inl (qo_get (gL w) 1 0)))) (qq_br 13 (qq_lf 10 (.inl (qo_get (gL w) 2 3))) (qq_lf 13 (.inl (qo_il 1 1)))))) (qq_br 20 (qq_br 16 (qq_br 15 (qq_lf 14 (.inl (qo_k 0 1))) (qq_lf 15 (.inl (qo_ias (gL w))))) (qq_br 17 (qq_lf 16 (.inl (qo_al 0 1))) (qq_lf 17 (.inl (qo_get (gL w) 1 0))))) (qq_br 24 (qq_br 23 (qq_lf 20 (.inl (qo_get (gL w) 2 4))) (qq_lf 23 (.inl (qo_il 1 1)))) (qq_br 25 (qq_lf 24 (.inl (qo_k 0 1))) (qq_br 26 (qq_lf 25 (.inl (qo_ias (gL w)))) (qq_lf 26 (.inr (.inr 0))))))))
def tm_47 (w : qS) : Nat → Option qE := (qq_br 24 (qq_br 14 (qq_br 4 (qq_br 2 (qq_br 1 (qq_lf 0 (.inl (qo_k 0 1))) (qq_lf 1 (.inl (qo_is 3 1)))) (qq_br 3 (qq_lf 2 (.inl (qo_il 3 1))) (qq_lf 3 (.inl (qo_k (iN 2) 1))))) (qq_br 8 (qq_br 7 (qq_lf 4 (.inl (qo_c (fun x y => y ≤ x) 52))) (qq_lf 7 (.inl (qo_al 0 1)))) (qq_br 11 (qq_lf 8 (.inl (qo_get (gL w) 1 0))) (qq_lf 11 (.inl (qo_get (gL w) 2 4)))))) (qq_br 18 (qq_br 16 (qq_br 15 (qq_lf 14 (.inl (qo_il 1 1))) (qq_lf 15 (.inl (qo_ia (gL w))))) (qq_br 17 (qq_lf 16 (.inl (qo_il 3 1))) (qq_lf 17 (.inl (qo_b (fun x y => x >>> (y &&& 31))))))) (qq_br 20 (qq_br 19 (qq_lf 18 (.inl (qo_k 1 1))) (qq_lf 19 (.inl (qo_b (fun x y => x &&& y))))) (qq_br 23 (qq_lf 20 (.inl (qo_z (fun x => x = 0) 46))) (qq_lf 23 (.inl (qo_al 0 1))))))) (qq_br 41 (qq_br 33 (qq_br 30 (qq_br 27 (qq_lf 24 (.inl (qo_get (gL w) 1 0))) (qq_lf 27 (.inl (qo_get (gL w) 2 5)))) (qq_br 31 (qq_lf 30 (.inl (qo_il 3 1))) (qq_lf 31 (.inl (qo_k (iN 120) 2))))) (qq_br 35 (qq_br 34 (qq_lf 33 (.inl (qo_b (fun x y => x * y)))) (qq_lf 34 (.inl (qo_al 0 1)))) (qq_br 38 (qq_lf 35 (.inl (qo_get (gL w) 1 0))) (qq_lf 38 (.inl (qo_get (gL w) 2 3)))))) (qq_br 45 (qq_br 43 (qq_br 42 (qq_lf 41 (.inl (qo_il 1 1))) (qq_lf 42 (.inl (qo_ia (gL w))))) (qq_br 44 (qq_lf 43 (.inl (qo_b (fun x y => x + y)))) (qq_lf 44 (.inl (qo_il 2 1))))) (qq_br 49 (qq_br 46 (qq_lf 45 (.inl (qo_ias (gL w)))) (qq_lf 46 (.inl (qo_inc 3 1)))) (qq_br 52 (qq_lf 49 (.inl (qo_g 2))) (qq_lf 52 (.inr (.inr 0))))))))
def tm_48 (w : qS) : Nat → Option qE := (qq_br 22 (qq_br 10 (qq_br 4 (qq_br 1 (qq_lf 0 (.inl (qo_il 2 1))) (qq_br 3 (qq_lf 1 (.inl (qo_is 5 2))) (qq_lf 3 (.inl (qo_k 0 1))))) (qq_br 6 (qq_lf 4 (.inl (qo_is 6 2))) (qq_br 8 (qq_lf 6 (.inl (qo_il 6 2))) (qq_lf 8 (.inl (qo_il 4 2)))))) (qq_br 16 (qq_br 13 (qq_lf 10 (.inl (qo_c (fun x y => y < x) 45))) (qq_br 15 (qq_lf 13 (.inl (qo_il 5 2))) (qq_lf 15 (.inl (qo_k (-1) 1))))) (qq_br 19 (qq_lf 16 (.inl (qo_c (fun x y => x = y) 29))) (qq_br 20 (qq_lf 19 (.inl (qo_al 0 1))) (qq_lf 20 (.inl (qo_il 5 2))))))) (qq_br 33 (qq_br 29 (qq_br 23 (qq_lf 22 (.inl (qo_il 1 1))) (qq_br 26 (qq_lf 23 (.inr (.inl (36, 3, some 1)))) (qq_lf 26 (.inl (qo_z (fun x => ¬ x = 0) 31))))) (qq_br 30 (qq_lf 29 (.inl (qo_k 0 1))) (qq_br 31 (qq_lf 30 (.inr (.inr 2))) (qq_lf 31 (.inl (qo_il 5 2)))))) (qq_br 39 (qq_br 34 (qq_lf 33 (.inl (qo_il 3 1))) (qq_br 37 (qq_lf 34 (.inr (.inl (28, 2, none)))) (qq_lf 37 (.inl (qo_is 5 2))))) (qq_br 45 (qq_br 42 (qq_lf 39 (.inl (qo_inc 6 1))) (qq_lf 42 (.inl (qo_g 6)))) (qq_br 46 (qq_lf 45 (.inl (qo_k 1 1))) (qq_lf 46 (.inr (.inr 2))))))))
def tm_49 (w : qS) : Nat → Option qE := (qq_br 31 (qq_br 13 (qq_br 6 (qq_br 3 (qq_br 1 (qq_lf 0 (.inl (qo_k 0 1))) (qq_lf 1 (.inl (qo_is 5 2)))) (qq_br 4 (qq_lf 3 (.inl (qo_il 2 1))) (qq_lf 4 (.inl (qo_is 6 2))))) (qq_br 9 (qq_br 7 (qq_lf 6 (.inl (qo_k 0 1))) (qq_lf 7 (.inl (qo_is 7 2)))) (qq_br 11 (qq_lf 9 (.inl (qo_il 7 2))) (qq_lf 11 (.inl (qo_il 4 2)))))) (qq_br 22 (qq_br 18 (qq_br 16 (qq_lf 13 (.inl (qo_c (fun x y => y < x) 60))) (qq_lf 16 (.inl (qo_il 6 2)))) (qq_br 19 (qq_lf 18 (.inl (qo_k (-1) 1))) (qq_lf 19 (.inl (qo_c (fun x y => x = y) 60))))) (qq_br 26 (qq_br 23 (qq_lf 22 (.inl (qo_al 0 1))) (qq_lf 23 (.inl (qo_get (gL w) 1 0)))) (qq_br 29 (qq_lf 26 (.inl (qo_get (gL w) 2 5))) (qq_lf 29 (.inl (qo_il 6 2))))))) (qq_br 46 (qq_br 39 (qq_br 33 (qq_br 32 (qq_lf 31 (.inl (qo_ia (gL w)))) (qq_lf 32 (.inl (qo_k (-1) 1)))) (qq_br 36 (qq_lf 33 (.inl (qo_c (fun x y => ¬ x = y) 39))) (qq_lf 36 (.inl (qo_inc 5 1))))) (qq_br 42 (qq_br 40 (qq_lf 39 (.inl (qo_al 0 1))) (qq_lf 40 (.inl (qo_il 6 2)))) (qq_br 43 (qq_lf 42 (.inl (qo_il 1 1))) (qq_lf 43 (.inr (.inl (50, 3, some 1))))))) (qq_br 54 (qq_br 49 (qq_br 48 (qq_lf 46 (.inl (qo_il 6 2))) (qq_lf 48 (.inl (qo_il 3 1)))) (qq_br 52 (qq_lf 49 (.inr (.inl (28, 2, none)))) (qq_lf 52 (.inl (qo_is 6 2))))) (qq_br 60 (qq_br 57 (qq_lf 54 (.inl (qo_inc 7 1))) (qq_lf 57 (.inl (qo_g 9)))) (qq_br 62 (qq_lf 60 (.inl (qo_il 5 2))) (qq_lf 62 (.inr (.inr 1))))))))
def tm_50 (w : qS) : Nat → Option qE := (qq_br 15 (qq_br 8 (qq_br 4 (qq_br 1 (qq_lf 0 (.inl (qo_al 0 1))) (qq_lf 1 (.inl (qo_get (gL w) 1 0)))) (qq_br 7 (qq_lf 4 (.inl (qo_get (gL w) 2 5))) (qq_lf 7 (.inl (qo_il 1 1))))) (qq_br 10 (qq_br 9 (qq_lf 8 (.inl (qo_ia (gL w)))) (qq_lf 9 (.inl (qo_k (-1) 1)))) (qq_br 13 (qq_lf 10 (.inl (qo_c (fun x y => x = y) 21))) (qq_br 14 (qq_lf 13 (.inl (qo_al 0 1))) (qq_lf 14 (.inl (qo_il 1 1))))))) (qq_br 25 (qq_br 21 (qq_br 18 (qq_lf 15 (.inr (.inl (34, 2, some 1)))) (qq_lf 18 (.inl (qo_z (fun x => x = 0) 31)))) (qq_br 22 (qq_lf 21 (.inl (qo_al 0 1))) (qq_lf 22 (.inl (qo_get (gL w) 1 0))))) (qq_br 29 (qq_br 28 (qq_lf 25 (.inl (qo_get (gL w) 2 5))) (qq_lf 28 (.inl (qo_il 1 1)))) (qq_br 30 (qq_lf 29 (.inl (qo_il 2 1))) (qq_br 31 (qq_lf 30 (.inl (qo_ias (gL w)))) (qq_lf 31 (.inr (.inr 0))))))))
def tm_51 (w : qS) : Nat → Option qE := (qq_br 21 (qq_br 8 (qq_br 3 (qq_br 1 (qq_lf 0 (.inl (qo_k 0 1))) (qq_br 2 (qq_lf 1 (.inl (qo_is 2 1))) (qq_lf 2 (.inl (qo_k 0 1))))) (qq_br 4 (qq_lf 3 (.inl (qo_is 3 1))) (qq_br 5 (qq_lf 4 (.inl (qo_il 3 1))) (qq_lf 5 (.inl (qo_k (iN 240) 3)))))) (qq_br 13 (qq_br 11 (qq_lf 8 (.inl (qo_c (fun x y => y ≤ x) 47))) (qq_br 12 (qq_lf 11 (.inl (qo_al 0 1))) (qq_lf 12 (.inl (qo_il 3 1))))) (qq_br 19 (qq_br 16 (qq_lf 13 (.inr (.inl (34, 2, some 1)))) (qq_lf 16 (.inl (qo_z (fun x => x = 0) 41)))) (qq_br 20 (qq_lf 19 (.inl (qo_al 0 1))) (qq_lf 20 (.inl (qo_il 3 1))))))) (qq_br 36 (qq_br 28 (qq_br 24 (qq_lf 21 (.inr (.inl (32, 2, some 1)))) (qq_br 25 (qq_lf 24 (.inl (qo_il 1 1))) (qq_lf 25 (.inl (qo_c (fun x y => ¬ x = y) 41))))) (qq_br 32 (qq_br 29 (qq_lf 28 (.inl (qo_al 0 1))) (qq_lf 29 (.inl (qo_get (gL w) 1 0)))) (qq_br 35 (qq_lf 32 (.inl (qo_get (gL w) 2 5))) (qq_lf 35 (.inl (qo_il 3 1)))))) (qq_br 41 (qq_br 37 (qq_lf 36 (.inl (qo_k (-1) 1))) (qq_br 38 (qq_lf 37 (.inl (qo_ias (gL w)))) (qq_lf 38 (.inl (qo_inc 2 1))))) (qq_br 47 (qq_br 44 (qq_lf 41 (.inl (qo_inc 3 1))) (qq_lf 44 (.inl (qo_g 4)))) (qq_br 48 (qq_lf 47 (.inl (qo_il 2 1))) (qq_lf 48 (.inr (.inr 1))))))))
def tm_52 (w : qS) : Nat → Option qE := (qq_br 77 (qq_br 36 (qq_br 15 (qq_br 6 (qq_br 2 (qq_br 1 (qq_lf 0 (.inl (qo_k 0 1))) (qq_lf 1 (.inl (qo_is 2 1)))) (qq_br 4 (qq_lf 2 (.inl (qo_k (iN 12) 2))) (qq_br 5 (qq_lf 4 (.inl (qo_is 3 1))) (qq_lf 5 (.inl (qo_k 0 1)))))) (qq_br 10 (qq_br 8 (qq_lf 6 (.inl (qo_is 4 2))) (qq_lf 8 (.inl (qo_k (iN 10) 2)))) (qq_br 12 (qq_lf 10 (.inl (qo_is 5 2))) (qq_br 13 (qq_lf 12 (.inl (qo_k 0 1))) (qq_lf 13 (.inl (qo_is 6 2))))))) (qq_br 24 (qq_br 18 (qq_br 16 (qq_lf 15 (.inl (qo_k 0 1))) (qq_lf 16 (.inl (qo_is 7 2)))) (qq_br 20 (qq_lf 18 (.inl (qo_il 7 2))) (qq_br 21 (qq_lf 20 (.inl (qo_al 0 1))) (qq_lf 21 (.inl (qo_get (gL w) 1 0)))))) (qq_br 30 (qq_br 27 (qq_lf 24 (.inl (qo_get (gL w) 2 6))) (qq_lf 27 (.inl (qo_c (fun x y => y ≤ x) 140)))) (qq_br 31 (qq_lf 30 (.inl (qo_al 0 1))) (qq_br 34 (qq_lf 31 (.inl (qo_get (gL w) 1 1))) (qq_lf 34 (.inl (qo_il 7 2)))))))) (qq_br 57 (qq_br 44 (qq_br 38 (qq_br 37 (qq_lf 36 (.inl (qo_ia (gL w)))) (qq_lf 37 (.inl (qo_il 1 1)))) (qq_br 41 (qq_lf 38 (.inl (qo_c (fun x y => ¬ x = y) 134))) (qq_br 42 (qq_lf 41 (.inl (qo_al 0 1))) (qq_lf 42 (.inl (qo_il 7 2)))))) (qq_br 50 (qq_br 47 (qq_lf 44 (.inr (.inl (30, 2, some 1)))) (qq_lf 47 (.inl (qo_z (fun x => ¬ x = 0) 53)))) (qq_br 53 (qq_lf 50 (.inl (qo_g 134))) (qq_br 56 (qq_lf 53 (.inl (qo_inc 2 1))) (qq_lf 56 (.inl (qo_il 3 1))))))) (qq_br 67 (qq_br 61 (qq_br 58 (qq_lf 57 (.inl (qo_al 0 1))) (qq_lf 58 (.inl (qo_get (gL w) 1 0)))) (qq_br 64 (qq_lf 61 (.inl (qo_get (gL w) 2 3))) (qq_br 66 (qq_lf 64 (.inl (qo_il 7 2))) (qq_lf 66 (.inl (qo_ia (gL w))))))) (qq_br 73 (qq_br 70 (qq_lf 67 (.inr (.inl (26, 1, none)))) (qq_lf 70 (.inl qo_mn))) (qq_br 74 (qq_lf 73 (.inl (qo_is 3 1))) (qq_br 76 (qq_lf 74 (.inl (qo_il 4 2))) (qq_lf 76 (.inl (qo_al 0 1))))))))) (qq_br 123 (qq_br 100 (qq_br 89 (qq_br 83 (qq_br 80 (qq_lf 77 (.inl (qo_get (gL w) 1 0))) (qq_lf 80 (.inl (qo_get (gL w) 2 3)))) (qq_br 85 (qq_lf 83 (.inl (qo_il 7 2))) (qq_br 86 (qq_lf 85 (.inl (qo_ia (gL w)))) (qq_lf 86 (.inr (.inl (26, 1, none))))))) (qq_br 94 (qq_br 92 (qq_lf 89 (.inl qo_mx)) (qq_lf 92 (.inl (qo_is 4 2)))) (qq_br 96 (qq_lf 94 (.inl (qo_il 5 2))) (qq_br 97 (qq_lf 96 (.inl (qo_al 0 1))) (qq_lf 97 (.inl (qo_get (gL w) 1 0))))))) (qq_br 112 (qq_br 105 (qq_br 103 (qq_lf 100 (.inl (qo_get (gL w) 2 3))) (qq_lf 103 (.inl (qo_il 7 2)))) (qq_br 106 (qq_lf 105 (.inl (qo_ia (gL w)))) (qq_br 109 (qq_lf 106 (.inr (.inl (25, 1, none)))) (qq_lf 109 (.inl qo_mn))))) (qq_br 116 (qq_br 114 (qq_lf 112 (.inl (qo_is 5 2))) (qq_lf 114 (.inl (qo_il 6 2)))) (qq_br 117 (qq_lf 116 (.inl (qo_al 0 1))) (qq_br 120 (qq_lf 117 (.inl (qo_get (gL w) 1 0))) (qq_lf 120 (.inl (qo_get (gL w) 2 3)))))))) (qq_br 145 (qq_br 134 (qq_br 126 (qq_br 125 (qq_lf 123 (.inl (qo_il 7 2))) (qq_lf 125 (.inl (qo_ia (gL w))))) (qq_br 129 (qq_lf 126 (.inr (.inl (25, 1, none)))) (qq_br 132 (qq_lf 129 (.inl qo_mx)) (qq_lf 132 (.inl (qo_is 6 2)))))) (qq_br 140 (qq_br 137 (qq_lf 134 (.inl (qo_inc 7 1))) (qq_lf 137 (.inl (qo_g 18)))) (qq_br 141 (qq_lf 140 (.inl (qo_il 2 1))) (qq_br 142 (qq_lf 141 (.inl (qo_k (iN 2) 1))) (qq_lf 142 (.inl (qo_c (fun x y => y ≤ x) 149))))))) (qq_br 153 (qq_br 149 (qq_br 146 (qq_lf 145 (.inl (qo_k (-1) 1))) (qq_lf 146 (.inl (qo_g 159)))) (qq_br 151 (qq_lf 149 (.inl (qo_il 4 2))) (qq_br 152 (qq_lf 151 (.inl (qo_il 3 1))) (qq_lf 152 (.inl (qo_b (fun x y => x - y))))))) (qq_br 156 (qq_br 155 (qq_lf 153 (.inl (qo_il 6 2))) (qq_lf 155 (.inl (qo_b (fun x y => x + y))))) (qq_br 158 (qq_lf 156 (.inl (qo_il 5 2))) (qq_br 159 (qq_lf 158 (.inl (qo_b (fun x y => x - y)))) (qq_lf 159 (.inr (.inr 1))))))))))
def tm_53 (w : qS) : Nat → Option qE := (qq_br 16 (qq_br 7 (qq_br 2 (qq_br 1 (qq_lf 0 (.inl (qo_al 2 1))) (qq_lf 1 (.inl (qo_k (-1) 1)))) (qq_br 5 (qq_lf 2 (.inr (.inl (122, 2, none)))) (qq_br 6 (qq_lf 5 (.inl (qo_k 0 1))) (qq_lf 6 (.inl (qo_is 3 1)))))) (qq_br 11 (qq_br 8 (qq_lf 7 (.inl (qo_il 3 1))) (qq_lf 8 (.inl (qo_k (iN 240) 3)))) (qq_br 14 (qq_lf 11 (.inl (qo_c (fun x y => y ≤ x) 36))) (qq_br 15 (qq_lf 14 (.inl (qo_al 0 1))) (qq_lf 15 (.inl (qo_il 3 1))))))) (qq_br 25 (qq_br 20 (qq_br 19 (qq_lf 16 (.inr (.inl (32, 2, some 1)))) (qq_lf 19 (.inl (qo_il 1 1)))) (qq_br 23 (qq_lf 20 (.inl (qo_c (fun x y => ¬ x = y) 30))) (qq_br 24 (qq_lf 23 (.inl (qo_al 0 1))) (qq_lf 24 (.inl (qo_il 3 1)))))) (qq_br 30 (qq_br 26 (qq_lf 25 (.inl (qo_il 1 1))) (qq_br 27 (qq_lf 26 (.inl (qo_al 2 1))) (qq_lf 27 (.inr (.inl (54, 4, some 1)))))) (qq_br 33 (qq_lf 30 (.inl (qo_inc 3 1))) (qq_br 36 (qq_lf 33 (.inl (qo_g 7))) (qq_lf 36 (.inr (.inr 0))))))))
def tm_54 (w : qS) : Nat → Option qE := (qq_br 46 (qq_br 23 (qq_br 11 (qq_br 4 (qq_br 1 (qq_lf 0 (.inl (qo_al 0 1))) (qq_lf 1 (.inl (qo_get (gL w) 1 0)))) (qq_br 7 (qq_lf 4 (.inl (qo_get (gL w) 2 8))) (qq_br 9 (qq_lf 7 (.inl (qo_is 4 2))) (qq_lf 9 (.inl (qo_il 4 2)))))) (qq_br 16 (qq_br 12 (qq_lf 11 (.inl (qo_u (fun x => -x)))) (qq_br 14 (qq_lf 12 (.inl (qo_is 5 2))) (qq_lf 14 (.inl (qo_il 5 2))))) (qq_br 18 (qq_lf 16 (.inl (qo_il 4 2))) (qq_br 21 (qq_lf 18 (.inl (qo_c (fun x y => y < x) 92))) (qq_lf 21 (.inl (qo_il 4 2))))))) (qq_br 34 (qq_br 28 (qq_br 24 (qq_lf 23 (.inl (qo_u (fun x => -x)))) (qq_br 26 (qq_lf 24 (.inl (qo_is 6 2))) (qq_lf 26 (.inl (qo_il 6 2))))) (qq_br 30 (qq_lf 28 (.inl (qo_il 4 2))) (qq_br 33 (qq_lf 30 (.inl (qo_c (fun x y => y < x) 86))) (qq_lf 33 (.inl (qo_il 1 1)))))) (qq_br 41 (qq_br 36 (qq_lf 34 (.inl (qo_il 6 2))) (qq_br 38 (qq_lf 36 (.inl (qo_il 5 2))) (qq_lf 38 (.inr (.inl (27, 3, none)))))) (qq_br 43 (qq_lf 41 (.inl (qo_is 7 2))) (qq_br 45 (qq_lf 43 (.inl (qo_il 7 2))) (qq_lf 45 (.inl (qo_k (-1) 1)))))))) (qq_br 70 (qq_br 59 (qq_br 53 (qq_br 49 (qq_lf 46 (.inl (qo_c (fun x y => ¬ x = y) 53))) (qq_br 50 (qq_lf 49 (.inl (qo_k (-1) 1))) (qq_lf 50 (.inl (qo_g 59))))) (qq_br 54 (qq_lf 53 (.inl (qo_al 0 1))) (qq_br 56 (qq_lf 54 (.inl (qo_il 7 2))) (qq_lf 56 (.inr (.inl (32, 2, some 1))))))) (qq_br 64 (qq_br 61 (qq_lf 59 (.inl (qo_is 8 2))) (qq_br 63 (qq_lf 61 (.inl (qo_il 8 2))) (qq_lf 63 (.inl (qo_il 2 1))))) (qq_br 67 (qq_lf 64 (.inl (qo_c (fun x y => x ≤ y) 80))) (qq_br 68 (qq_lf 67 (.inl (qo_al 3 1))) (qq_lf 68 (.inl (qo_il 8 2))))))) (qq_br 79 (qq_br 75 (qq_br 71 (qq_lf 70 (.inl (qo_ia (gL w)))) (qq_br 72 (qq_lf 71 (.inl (qo_k (-1) 1))) (qq_lf 72 (.inl (qo_c (fun x y => ¬ x = y) 80))))) (qq_br 76 (qq_lf 75 (.inl (qo_al 3 1))) (qq_br 78 (qq_lf 76 (.inl (qo_il 8 2))) (qq_lf 78 (.inl (qo_il 1 1)))))) (qq_br 86 (qq_br 80 (qq_lf 79 (.inl (qo_ias (gL w)))) (qq_br 83 (qq_lf 80 (.inl (qo_inc 6 1))) (qq_lf 83 (.inl (qo_g 26))))) (qq_br 89 (qq_lf 86 (.inl (qo_inc 5 1))) (qq_br 92 (qq_lf 89 (.inl (qo_g 14))) (qq_lf 92 (.inr (.inr 0)))))))))
def tm_55 (w : qS) : Nat → Option qE := (qq_br 19 (qq_br 9 (qq_br 5 (qq_br 1 (qq_lf 0 (.inl (qo_al 0 1))) (qq_br 2 (qq_lf 1 (.inl (qo_il 1 1))) (qq_lf 2 (.inr (.inl (32, 2, some 1)))))) (qq_br 6 (qq_lf 5 (.inl (qo_is 2 1))) (qq_br 8 (qq_lf 6 (.inl (qo_k (iN 12) 2))) (qq_lf 8 (.inl (qo_il 1 1)))))) (qq_br 14 (qq_br 12 (qq_lf 9 (.inr (.inl (26, 1, none)))) (qq_br 13 (qq_lf 12 (.inl (qo_b (fun x y => x - y)))) (qq_lf 13 (.inl (qo_is 3 1))))) (qq_br 15 (qq_lf 14 (.inl (qo_k 1 1))) (qq_br 17 (qq_lf 15 (.inl (qo_is 4 2))) (qq_lf 17 (.inl (qo_il 4 2))))))) (qq_br 28 (qq_br 24 (qq_br 20 (qq_lf 19 (.inl (qo_il 3 1))) (qq_br 23 (qq_lf 20 (.inl (qo_c (fun x y => y ≤ x) 41))) (qq_lf 23 (.inl (qo_al 0 1))))) (qq_br 25 (qq_lf 24 (.inl (qo_il 1 1))) (qq_br 27 (qq_lf 25 (.inl (qo_il 4 2))) (qq_lf 27 (.inl (qo_b (fun x y => x + y))))))) (qq_br 35 (qq_br 31 (qq_lf 28 (.inr (.inl (32, 2, some 1)))) (qq_br 32 (qq_lf 31 (.inl (qo_il 2 1))) (qq_lf 32 (.inl (qo_c (fun x y => ¬ x = y) 41))))) (qq_br 41 (qq_br 38 (qq_lf 35 (.inl (qo_inc 4 1))) (qq_lf 38 (.inl (qo_g 17)))) (qq_br 43 (qq_lf 41 (.inl (qo_il 4 2))) (qq_lf 43 (.inr (.inr 1))))))))
def tm_56 (w : qS) : Nat → Option qE := (qq_br 55 (qq_br 27 (qq_br 12 (qq_br 5 (qq_br 1 (qq_lf 0 (.inl (qo_al 1 1))) (qq_br 4 (qq_lf 1 (.inl (qo_get (gL w) 2 0))) (qq_lf 4 (.inl (qo_k 0 1))))) (qq_br 9 (qq_br 6 (qq_lf 5 (.inl (qo_al 0 1))) (qq_lf 6 (.inl (qo_get (gL w) 2 0)))) (qq_br 10 (qq_lf 9 (.inl (qo_k 0 1))) (qq_lf 10 (.inl (qo_k (iN 16) 2)))))) (qq_br 20 (qq_br 16 (qq_br 15 (qq_lf 12 (.inl (qo_cp (gL w)))) (qq_lf 15 (.inl (qo_al 1 1)))) (qq_br 19 (qq_lf 16 (.inl (qo_get (gL w) 2 1))) (qq_lf 19 (.inl (qo_k 0 1))))) (qq_br 24 (qq_br 21 (qq_lf 20 (.inl (qo_al 0 1))) (qq_lf 21 (.inl (qo_get (gL w) 2 1)))) (qq_br 25 (qq_lf 24 (.inl (qo_k 0 1))) (qq_lf 25 (.inl (qo_k (iN 24) 2))))))) (qq_br 40 (qq_br 34 (qq_br 30 (qq_lf 27 (.inl (qo_cp (gL w)))) (qq_br 31 (qq_lf 30 (.inl (qo_al 1 1))) (qq_lf 31 (.inl (qo_get (gL w) 2 2))))) (qq_br 36 (qq_br 35 (qq_lf 34 (.inl (qo_k 0 1))) (qq_lf 35 (.inl (qo_al 0 1)))) (qq_br 39 (qq_lf 36 (.inl (qo_get (gL w) 2 2))) (qq_lf 39 (.inl (qo_k 0 1)))))) (qq_br 49 (qq_br 45 (qq_br 42 (qq_lf 40 (.inl (qo_k (iN 24) 2))) (qq_lf 42 (.inl (qo_cp (gL w))))) (qq_br 46 (qq_lf 45 (.inl (qo_al 1 1))) (qq_lf 46 (.inl (qo_get (gL w) 2 3))))) (qq_br 51 (qq_br 50 (qq_lf 49 (.inl (qo_k 0 1))) (qq_lf 50 (.inl (qo_al 0 1)))) (qq_br 54 (qq_lf 51 (.inl (qo_get (gL w) 2 3))) (qq_lf 54 (.inl (qo_k 0 1)))))))) (qq_br 84 (qq_br 69 (qq_br 61 (qq_br 57 (qq_lf 55 (.inl (qo_k (iN 16) 2))) (qq_br 60 (qq_lf 57 (.inl (qo_cp (gL w)))) (qq_lf 60 (.inl (qo_al 1 1))))) (qq_br 65 (qq_br 64 (qq_lf 61 (.inl (qo_get (gL w) 2 4))) (qq_lf 64 (.inl (qo_k 0 1)))) (qq_br 66 (qq_lf 65 (.inl (qo_al 0 1))) (qq_lf 66 (.inl (qo_get (gL w) 2 4)))))) (qq_br 76 (qq_br 72 (qq_br 70 (qq_lf 69 (.inl (qo_k 0 1))) (qq_lf 70 (.inl (qo_k (iN 16) 2)))) (qq_br 75 (qq_lf 72 (.inl (qo_cp (gL w)))) (qq_lf 75 (.inl (qo_al 1 1))))) (qq_br 80 (qq_br 79 (qq_lf 76 (.inl (qo_get (gL w) 2 5))) (qq_lf 79 (.inl (qo_k 0 1)))) (qq_br 81 (qq_lf 80 (.inl (qo_al 0 1))) (qq_lf 81 (.inl (qo_get (gL w) 2 5))))))) (qq_br 100 (qq_br 92 (qq_br 88 (qq_br 85 (qq_lf 84 (.inl (qo_k 0 1))) (qq_lf 85 (.inl (qo_k (iN 240) 3)))) (qq_br 91 (qq_lf 88 (.inl (qo_cp (gL w)))) (qq_lf 91 (.inl (qo_al 0 1))))) (qq_br 96 (qq_br 93 (qq_lf 92 (.inl (qo_al 1 1))) (qq_lf 93 (.inl (qo_get (gL w) 2 6)))) (qq_br 99 (qq_lf 96 (.inl (qo_put (gL w) 2 6))) (qq_lf 99 (.inl (qo_al 0 1)))))) (qq_br 108 (qq_br 104 (qq_br 101 (qq_lf 100 (.inl (qo_al 1 1))) (qq_lf 101 (.inl (qo_get (gL w) 2 7)))) (qq_br 107 (qq_lf 104 (.inl (qo_put (gL w) 2 7))) (qq_lf 107 (.inl (qo_al 0 1))))) (qq_br 112 (qq_br 109 (qq_lf 108 (.inl (qo_al 1 1))) (qq_lf 109 (.inl (qo_get (gL w) 2 8)))) (qq_br 115 (qq_lf 112 (.inl (qo_put (gL w) 2 8))) (qq_lf 115 (.inr (.inr 0)))))))))
def tm_57 (w : qS) : Nat → Option qE := (qq_br 38 (qq_br 19 (qq_br 8 (qq_br 4 (qq_br 1 (qq_lf 0 (.inl (qo_al 0 1))) (qq_lf 1 (.inl (qo_get (gL w) 2 6)))) (qq_br 5 (qq_lf 4 (.inl (qo_al 1 1))) (qq_lf 5 (.inl (qo_get (gL w) 2 6))))) (qq_br 12 (qq_br 11 (qq_lf 8 (.inl (qo_c (fun x y => ¬ x = y) 79))) (qq_lf 11 (.inl (qo_al 0 1)))) (qq_br 15 (qq_lf 12 (.inl (qo_get (gL w) 2 7))) (qq_br 16 (qq_lf 15 (.inl (qo_al 1 1))) (qq_lf 16 (.inl (qo_get (gL w) 2 7))))))) (qq_br 27 (qq_br 23 (qq_br 22 (qq_lf 19 (.inl (qo_c (fun x y => ¬ x = y) 79))) (qq_lf 22 (.inl (qo_al 0 1)))) (qq_br 26 (qq_lf 23 (.inl (qo_get (gL w) 2 8))) (qq_lf 26 (.inl (qo_al 1 1))))) (qq_br 33 (qq_br 30 (qq_lf 27 (.inl (qo_get (gL w) 2 8))) (qq_lf 30 (.inl (qo_c (fun x y => ¬ x = y) 79)))) (qq_br 34 (qq_lf 33 (.inl (qo_al 0 1))) (qq_br 37 (qq_lf 34 (.inl (qo_get (gL w) 2 3))) (qq_lf 37 (.inl (qo_al 1 1)))))))) (qq_br 61 (qq_br 48 (qq_br 44 (qq_br 41 (qq_lf 38 (.inl (qo_get (gL w) 2 3))) (qq_lf 41 (.inr (.inl (58, 2, none))))) (qq_br 47 (qq_lf 44 (.inl (qo_z (fun x => x = 0) 79))) (qq_lf 47 (.inl (qo_al 0 1))))) (qq_br 52 (qq_br 51 (qq_lf 48 (.inl (qo_get (gL w) 2 4))) (qq_lf 51 (.inl (qo_al 1 1)))) (qq_br 55 (qq_lf 52 (.inl (qo_get (gL w) 2 4))) (qq_br 58 (qq_lf 55 (.inr (.inl (58, 2, none)))) (qq_lf 58 (.inl (qo_z (fun x => x = 0) 79))))))) (qq_br 72 (qq_br 65 (qq_br 62 (qq_lf 61 (.inl (qo_al 0 1))) (qq_lf 62 (.inl (qo_get (gL w) 2 5)))) (qq_br 66 (qq_lf 65 (.inl (qo_al 1 1))) (qq_br 69 (qq_lf 66 (.inl (qo_get (gL w) 2 5))) (qq_lf 69 (.inr (.inl (58, 2, none))))))) (qq_br 76 (qq_br 75 (qq_lf 72 (.inl (qo_z (fun x => x = 0) 79))) (qq_lf 75 (.inl (qo_k 1 1)))) (qq_br 79 (qq_lf 76 (.inl (qo_g 80))) (qq_br 80 (qq_lf 79 (.inl (qo_k 0 1))) (qq_lf 80 (.inr (.inr 2)))))))))
def tm_58 (w : qS) : Nat → Option qE := (qq_br 15 (qq_br 5 (qq_br 2 (qq_br 1 (qq_lf 0 (.inl (qo_k 0 1))) (qq_lf 1 (.inl (qo_is 2 1)))) (qq_br 3 (qq_lf 2 (.inl (qo_il 2 1))) (qq_br 4 (qq_lf 3 (.inl (qo_al 0 1))) (qq_lf 4 (.inl (qo_len (gL w))))))) (qq_br 10 (qq_br 8 (qq_lf 5 (.inl (qo_c (fun x y => y ≤ x) 31))) (qq_br 9 (qq_lf 8 (.inl (qo_il 2 1))) (qq_lf 9 (.inl (qo_al 1 1))))) (qq_br 11 (qq_lf 10 (.inl (qo_len (gL w)))) (qq_br 14 (qq_lf 11 (.inl (qo_c (fun x y => y ≤ x) 31))) (qq_lf 14 (.inl (qo_al 0 1))))))) (qq_br 23 (qq_br 18 (qq_br 16 (qq_lf 15 (.inl (qo_il 2 1))) (qq_br 17 (qq_lf 16 (.inl (qo_ia (gL w)))) (qq_lf 17 (.inl (qo_al 1 1))))) (qq_br 19 (qq_lf 18 (.inl (qo_il 2 1))) (qq_br 20 (qq_lf 19 (.inl (qo_ia (gL w)))) (qq_lf 20 (.inl (qo_c (fun x y => x = y) 25)))))) (qq_br 28 (qq_br 24 (qq_lf 23 (.inl (qo_k 0 1))) (qq_br 25 (qq_lf 24 (.inr (.inr 2))) (qq_lf 25 (.inl (qo_inc 2 1))))) (qq_br 31 (qq_lf 28 (.inl (qo_g 2))) (qq_br 32 (qq_lf 31 (.inl (qo_k 1 1))) (qq_lf 32 (.inr (.inr 2))))))))
def tm_59 (w : qS) : Nat → Option qE := (qq_br 8 (qq_br 4 (qq_br 1 (qq_lf 0 (.inl (qo_al 0 1))) (qq_lf 1 (.inl (qo_get (gL w) 3 0)))) (qq_br 5 (qq_lf 4 (.inl (qo_al 0 1))) (qq_lf 5 (.inl (qo_get (gL w) 3 1))))) (qq_br 10 (qq_br 9 (qq_lf 8 (.inl (qo_aa (gL w)))) (qq_lf 9 (.inl (qo_al 1 1)))) (qq_br 13 (qq_lf 10 (.inr (.inl (56, 2, some 2)))) (qq_lf 13 (.inr (.inr 0))))))
def tm_60 (w : qS) : Nat → Option qE := (qq_br 23 (qq_br 10 (qq_br 5 (qq_br 1 (qq_lf 0 (.inl (qo_al 0 1))) (qq_br 4 (qq_lf 1 (.inl (qo_get (gL w) 3 0))) (qq_lf 4 (.inl (qo_al 0 1))))) (qq_br 8 (qq_lf 5 (.inl (qo_get (gL w) 3 1))) (qq_br 9 (qq_lf 8 (.inl (qo_aa (gL w)))) (qq_lf 9 (.inl (qo_al 1 1)))))) (qq_br 17 (qq_br 13 (qq_lf 10 (.inr (.inl (57, 2, some 2)))) (qq_br 16 (qq_lf 13 (.inl (qo_z (fun x => x = 0) 17))) (qq_lf 16 (.inr (.inr 0))))) (qq_br 19 (qq_br 18 (qq_lf 17 (.inl (qo_al 0 1))) (qq_lf 18 (.inl (qo_al 0 1)))) (qq_br 22 (qq_lf 19 (.inl (qo_get (gL w) 3 1))) (qq_lf 22 (.inl (qo_k 1 1))))))) (qq_br 32 (qq_br 27 (qq_br 24 (qq_lf 23 (.inl (qo_b (fun x y => x + y)))) (qq_br 26 (qq_lf 24 (.inl (qo_k (iN 17) 2))) (qq_lf 26 (.inl (qo_d (fun x y => x - x / y * y)))))) (qq_br 30 (qq_lf 27 (.inl (qo_put (gL w) 3 1))) (qq_br 31 (qq_lf 30 (.inl (qo_al 0 1))) (qq_lf 31 (.inl (qo_al 0 1)))))) (qq_br 37 (qq_br 35 (qq_lf 32 (.inl (qo_get (gL w) 3 2))) (qq_br 36 (qq_lf 35 (.inl (qo_k 1 1))) (qq_lf 36 (.inl (qo_b (fun x y => x + y)))))) (qq_br 42 (qq_br 39 (qq_lf 37 (.inl (qo_k (iN 16) 2))) (qq_lf 39 (.inl qo_mn))) (qq_br 45 (qq_lf 42 (.inl (qo_put (gL w) 3 2))) (qq_lf 45 (.inr (.inr 0))))))))
def tm_61 (w : qS) : Nat → Option qE := (qq_br 18 (qq_br 9 (qq_br 5 (qq_br 1 (qq_lf 0 (.inl (qo_al 0 1))) (qq_br 2 (qq_lf 1 (.inl (qo_al 0 1))) (qq_lf 2 (.inl (qo_get (gL w) 3 1))))) (qq_br 7 (qq_lf 5 (.inl (qo_k (iN 17) 2))) (qq_br 8 (qq_lf 7 (.inl (qo_b (fun x y => x + y)))) (qq_lf 8 (.inl (qo_k 1 1)))))) (qq_br 13 (qq_br 10 (qq_lf 9 (.inl (qo_b (fun x y => x - y)))) (qq_br 12 (qq_lf 10 (.inl (qo_k (iN 17) 2))) (qq_lf 12 (.inl (qo_d (fun x y => x - x / y * y)))))) (qq_br 16 (qq_lf 13 (.inl (qo_put (gL w) 3 1))) (qq_br 17 (qq_lf 16 (.inl (qo_al 0 1))) (qq_lf 17 (.inl qo_dup)))))) (qq_br 28 (qq_br 23 (qq_br 21 (qq_lf 18 (.inl (qo_get (gL w) 3 2))) (qq_br 22 (qq_lf 21 (.inl (qo_k 1 1))) (qq_lf 22 (.inl (qo_b (fun x y => x - y)))))) (qq_br 26 (qq_lf 23 (.inl (qo_put (gL w) 3 2))) (qq_br 27 (qq_lf 26 (.inl (qo_al 1 1))) (qq_lf 27 (.inl (qo_al 0 1)))))) (qq_br 35 (qq_br 31 (qq_lf 28 (.inl (qo_get (gL w) 3 0))) (qq_br 32 (qq_lf 31 (.inl (qo_al 0 1))) (qq_lf 32 (.inl (qo_get (gL w) 3 1))))) (qq_br 36 (qq_lf 35 (.inl (qo_aa (gL w)))) (qq_br 39 (qq_lf 36 (.inr (.inl (56, 2, some 2)))) (qq_lf 39 (.inr (.inr 0))))))))
def tm_62 (w : qS) : Nat → Option qE := (qq_br 19 (qq_br 8 (qq_br 3 (qq_br 2 (qq_lf 0 (.inl (qo_k (iN 1000000) 2))) (qq_lf 2 (.inl (qo_is 3 1)))) (qq_br 4 (qq_lf 3 (.inl (qo_k 0 1))) (qq_br 6 (qq_lf 4 (.inl (qo_is 4 2))) (qq_lf 6 (.inl (qo_il 4 2)))))) (qq_br 14 (qq_br 10 (qq_lf 8 (.inl (qo_k (iN 16) 2))) (qq_br 13 (qq_lf 10 (.inl (qo_c (fun x y => y < x) 30))) (qq_lf 13 (.inl (qo_il 3 1))))) (qq_br 17 (qq_lf 14 (.inl (qo_z (fun x => x ≤ 0) 30))) (qq_br 18 (qq_lf 17 (.inl (qo_al 0 1))) (qq_lf 18 (.inl (qo_al 1 1))))))) (qq_br 30 (qq_br 23 (qq_br 20 (qq_lf 19 (.inl (qo_il 2 1))) (qq_lf 20 (.inr (.inl (63, 3, some 4))))) (qq_br 24 (qq_lf 23 (.inl (qo_is 3 1))) (qq_br 27 (qq_lf 24 (.inl (qo_inc 4 1))) (qq_lf 27 (.inl (qo_g 6)))))) (qq_br 35 (qq_br 31 (qq_lf 30 (.inl (qo_il 3 1))) (qq_br 34 (qq_lf 31 (.inl (qo_z (fun x => ¬ x = 0) 38))) (qq_lf 34 (.inl (qo_k 1 1))))) (qq_br 38 (qq_lf 35 (.inl (qo_g 39))) (qq_br 39 (qq_lf 38 (.inl (qo_k 0 1))) (qq_lf 39 (.inr (.inr 2))))))))
def tm_63 (w : qS) : Nat → Option qE := (qq_br 27 (qq_br 13 (qq_br 6 (qq_br 2 (qq_br 1 (qq_lf 0 (.inl (qo_al 0 1))) (qq_lf 1 (.inl (qo_al 1 1)))) (qq_br 3 (qq_lf 2 (.inl (qo_il 2 1))) (qq_lf 3 (.inr (.inl (64, 3, some 4)))))) (qq_br 8 (qq_br 7 (qq_lf 6 (.inl (qo_is 3 1))) (qq_lf 7 (.inl (qo_il 3 1)))) (qq_br 9 (qq_lf 8 (.inl (qo_k (-1) 1))) (qq_br 12 (qq_lf 9 (.inl (qo_c (fun x y => ¬ x = y) 14))) (qq_lf 12 (.inl (qo_k 0 1))))))) (qq_br 18 (qq_br 15 (qq_br 14 (qq_lf 13 (.inr (.inr 1))) (qq_lf 14 (.inl (qo_al 0 1)))) (qq_br 16 (qq_lf 15 (.inl (qo_al 1 1))) (qq_br 17 (qq_lf 16 (.inl (qo_il 2 1))) (qq_lf 17 (.inl (qo_il 3 1)))))) (qq_br 22 (qq_br 21 (qq_lf 18 (.inr (.inl (67, 4, some 4)))) (qq_lf 21 (.inl (qo_al 0 1)))) (qq_br 23 (qq_lf 22 (.inl (qo_al 1 1))) (qq_br 24 (qq_lf 23 (.inl (qo_il 3 1))) (qq_lf 24 (.inr (.inl (70, 3, some 4))))))))) (qq_br 44 (qq_br 35 (qq_br 30 (qq_br 29 (qq_lf 27 (.inl (qo_is 4 2))) (qq_lf 29 (.inl (qo_al 0 1)))) (qq_br 33 (qq_lf 30 (.inl (qo_get (gL w) 4 4))) (qq_lf 33 (.inl (qo_il 4 2))))) (qq_br 38 (qq_br 36 (qq_lf 35 (.inl (qo_ia (gL w)))) (qq_lf 36 (.inl (qo_k (iN 1000000) 2)))) (qq_br 41 (qq_lf 38 (.inl (qo_c (fun x y => ¬ x = y) 44))) (qq_br 43 (qq_lf 41 (.inl (qo_k (-2) 2))) (qq_lf 43 (.inr (.inr 1))))))) (qq_br 52 (qq_br 46 (qq_br 45 (qq_lf 44 (.inl (qo_al 0 1))) (qq_lf 45 (.inl (qo_al 1 1)))) (qq_br 48 (qq_lf 46 (.inl (qo_il 4 2))) (qq_br 49 (qq_lf 48 (.inl (qo_il 3 1))) (qq_lf 49 (.inr (.inl (71, 4, some 4))))))) (qq_br 56 (qq_br 53 (qq_lf 52 (.inl (qo_al 0 1))) (qq_lf 53 (.inl (qo_get (gL w) 4 4)))) (qq_br 58 (qq_lf 56 (.inl (qo_il 4 2))) (qq_br 59 (qq_lf 58 (.inl (qo_ia (gL w)))) (qq_lf 59 (.inr (.inr 1)))))))))
def tm_64 (w : qS) : Nat → Option qE := (qq_br 44 (qq_br 20 (qq_br 7 (qq_br 2 (qq_br 1 (qq_lf 0 (.inl (qo_k 0 1))) (qq_lf 1 (.inl (qo_is 3 1)))) (qq_br 3 (qq_lf 2 (.inl (qo_k 0 1))) (qq_br 5 (qq_lf 3 (.inl (qo_is 4 2))) (qq_lf 5 (.inl (qo_il 4 2)))))) (qq_br 14 (qq_br 8 (qq_lf 7 (.inl (qo_al 1 1))) (qq_br 11 (qq_lf 8 (.inl (qo_get (gL w) 1 0))) (qq_lf 11 (.inl (qo_get (gL w) 2 6))))) (qq_br 17 (qq_lf 14 (.inl (qo_c (fun x y => y ≤ x) 83))) (qq_br 18 (qq_lf 17 (.inl (qo_al 1 1))) (qq_lf 18 (.inl (qo_il 4 2))))))) (qq_br 30 (qq_br 24 (qq_br 23 (qq_lf 20 (.inr (.inl (31, 2, some 1)))) (qq_lf 23 (.inl (qo_il 2 1)))) (qq_br 27 (qq_lf 24 (.inl (qo_c (fun x y => ¬ x = y) 77))) (qq_br 28 (qq_lf 27 (.inl (qo_al 1 1))) (qq_lf 28 (.inl (qo_il 4 2)))))) (qq_br 39 (qq_br 33 (qq_lf 30 (.inr (.inl (30, 2, some 1)))) (qq_br 36 (qq_lf 33 (.inl (qo_z (fun x => ¬ x = 0) 39))) (qq_lf 36 (.inl (qo_g 77))))) (qq_br 40 (qq_lf 39 (.inl (qo_il 3 1))) (qq_br 43 (qq_lf 40 (.inl (qo_z (fun x => ¬ x = 0) 60))) (qq_lf 43 (.inl (qo_al 0 1)))))))) (qq_br 64 (qq_br 52 (qq_br 46 (qq_br 45 (qq_lf 44 (.inl (qo_al 1 1))) (qq_lf 45 (.inl (qo_il 2 1)))) (qq_br 47 (qq_lf 46 (.inl (qo_al 1 1))) (qq_br 49 (qq_lf 47 (.inl (qo_il 4 2))) (qq_lf 49 (.inr (.inl (35, 2, some 1))))))) (qq_br 57 (qq_br 55 (qq_lf 52 (.inr (.inl (65, 4, some 4)))) (qq_br 56 (qq_lf 55 (.inl (qo_k 1 1))) (qq_lf 56 (.inl (qo_is 3 1))))) (qq_br 60 (qq_lf 57 (.inl (qo_g 77))) (qq_br 61 (qq_lf 60 (.inl (qo_al 0 1))) (qq_lf 61 (.inl (qo_get (gL w) 4 0))))))) (qq_br 74 (qq_br 67 (qq_br 65 (qq_lf 64 (.inl (qo_al 1 1))) (qq_lf 65 (.inl (qo_il 4 2)))) (qq_br 70 (qq_lf 67 (.inr (.inl (35, 2, some 1)))) (qq_br 71 (qq_lf 70 (.inl (qo_za (gL w)))) (qq_lf 71 (.inl (qo_z (fun x => ¬ x = 0) 77)))))) (qq_br 80 (qq_br 76 (qq_lf 74 (.inl (qo_il 4 2))) (qq_br 77 (qq_lf 76 (.inr (.inr 1))) (qq_lf 77 (.inl (qo_inc 4 1))))) (qq_br 83 (qq_lf 80 (.inl (qo_g 5))) (qq_br 84 (qq_lf 83 (.inl (qo_k (-1) 1))) (qq_lf 84 (.inr (.inr 1)))))))))
def tm_65 (w : qS) : Nat → Option qE := (qq_br 55 (qq_br 26 (qq_br 12 (qq_br 5 (qq_br 1 (qq_lf 0 (.inl (qo_k 0 1))) (qq_br 3 (qq_lf 1 (.inl (qo_is 4 2))) (qq_lf 3 (.inl (qo_il 4 2))))) (qq_br 8 (qq_lf 5 (.inl (qo_k (iN 240) 3))) (qq_br 11 (qq_lf 8 (.inl (qo_c (fun x y => y ≤ x) 25))) (qq_lf 11 (.inl (qo_al 0 1)))))) (qq_br 18 (qq_br 15 (qq_lf 12 (.inl (qo_get (gL w) 4 0))) (qq_br 17 (qq_lf 15 (.inl (qo_il 4 2))) (qq_lf 17 (.inl (qo_k 0 1))))) (qq_br 22 (qq_br 19 (qq_lf 18 (.inl (qo_zas (gL w)))) (qq_lf 19 (.inl (qo_inc 4 1)))) (qq_br 25 (qq_lf 22 (.inl (qo_g 3))) (qq_lf 25 (.inl (qo_al 0 1))))))) (qq_br 38 (qq_br 31 (qq_br 27 (qq_lf 26 (.inl (qo_k 0 1))) (qq_br 30 (qq_lf 27 (.inl (qo_put (gL w) 4 2))) (qq_lf 30 (.inl (qo_al 0 1))))) (qq_br 35 (qq_br 32 (qq_lf 31 (.inl (qo_il 3 1))) (qq_lf 32 (.inr (.inl (66, 2, some 4))))) (qq_br 36 (qq_lf 35 (.inl (qo_k 0 1))) (qq_lf 36 (.inl (qo_is 4 2)))))) (qq_br 46 (qq_br 40 (qq_lf 38 (.inl (qo_il 4 2))) (qq_br 43 (qq_lf 40 (.inl (qo_k (iN 240) 3))) (qq_lf 43 (.inl (qo_c (fun x y => y ≤ x) 113))))) (qq_br 49 (qq_br 48 (qq_lf 46 (.inl (qo_il 4 2))) (qq_lf 48 (.inl (qo_al 0 1)))) (qq_br 52 (qq_lf 49 (.inl (qo_get (gL w) 4 2))) (qq_lf 52 (.inl (qo_c (fun x y => y ≤ x) 113)))))))) (qq_br 82 (qq_br 69 (qq_br 60 (qq_br 56 (qq_lf 55 (.inl (qo_k 0 1))) (qq_br 58 (qq_lf 56 (.inl (qo_is 5 2))) (qq_lf 58 (.inl (qo_il 5 2))))) (qq_br 65 (qq_br 62 (qq_lf 60 (.inl (qo_k (iN 9) 2))) (qq_lf 62 (.inl (qo_c (fun x y => y ≤ x) 107)))) (qq_br 66 (qq_lf 65 (.inl (qo_al 0 1))) (qq_lf 66 (.inl (qo_get (gL w) 4 1)))))) (qq_br 74 (qq_br 71 (qq_lf 69 (.inl (qo_il 4 2))) (qq_br 72 (qq_lf 71 (.inl (qo_ia (gL w)))) (qq_lf 72 (.inl (qo_il 5 2))))) (qq_br 79 (qq_br 77 (qq_lf 74 (.inr (.inl (28, 2, none)))) (qq_lf 77 (.inl (qo_is 6 2)))) (qq_br 81 (qq_lf 79 (.inl (qo_il 6 2))) (qq_lf 81 (.inl (qo_k (-1) 1))))))) (qq_br 96 (qq_br 88 (qq_br 85 (qq_lf 82 (.inl (qo_c (fun x y => x = y) 101))) (qq_br 86 (qq_lf 85 (.inl (qo_al 1 1))) (qq_lf 86 (.inl (qo_il 6 2))))) (qq_br 92 (qq_br 91 (qq_lf 88 (.inr (.inl (32, 2, some 1)))) (qq_lf 91 (.inl (qo_il 2 1)))) (qq_br 95 (qq_lf 92 (.inl (qo_c (fun x y => ¬ x = y) 101))) (qq_lf 95 (.inl (qo_al 0 1)))))) (qq_br 104 (qq_br 98 (qq_lf 96 (.inl (qo_il 6 2))) (qq_br 101 (qq_lf 98 (.inr (.inl (66, 2, some 4)))) (qq_lf 101 (.inl (qo_inc 5 1))))) (qq_br 110 (qq_br 107 (qq_lf 104 (.inl (qo_g 58))) (qq_lf 107 (.inl (qo_inc 4 1)))) (qq_br 113 (qq_lf 110 (.inl (qo_g 38))) (qq_lf 113 (.inr (.inr 0)))))))))
def tm_66 (w : qS) : Nat → Option qE := (qq_br 25 (qq_br 10 (qq_br 5 (qq_br 1 (qq_lf 0 (.inl (qo_al 0 1))) (qq_br 4 (qq_lf 1 (.inl (qo_get (gL w) 4 0))) (qq_lf 4 (.inl (qo_il 1 1))))) (qq_br 6 (qq_lf 5 (.inl (qo_za (gL w)))) (qq_br 9 (qq_lf 6 (.inl (qo_z (fun x => ¬ x = 0) 46))) (qq_lf 9 (.inl (qo_al 0 1)))))) (qq_br 19 (qq_br 13 (qq_lf 10 (.inl (qo_get (gL w) 4 2))) (qq_br 16 (qq_lf 13 (.inl (qo_k (iN 240) 3))) (qq_lf 16 (.inl (qo_c (fun x y => y ≤ x) 46))))) (qq_br 23 (qq_br 20 (qq_lf 19 (.inl (qo_al 0 1))) (qq_lf 20 (.inl (qo_get (gL w) 4 0)))) (qq_br 24 (qq_lf 23 (.inl (qo_il 1 1))) (qq_lf 24 (.inl (qo_k 1 1))))))) (qq_br 36 (qq_br 30 (qq_br 26 (qq_lf 25 (.inl (qo_zas (gL w)))) (qq_br 27 (qq_lf 26 (.inl (qo_al 0 1))) (qq_lf 27 (.inl (qo_get (gL w) 4 1))))) (qq_br 34 (qq_br 31 (qq_lf 30 (.inl (qo_al 0 1))) (qq_lf 31 (.inl (qo_get (gL w) 4 2)))) (qq_br 35 (qq_lf 34 (.inl (qo_il 1 1))) (qq_lf 35 (.inl (qo_ias (gL w))))))) (qq_br 41 (qq_br 37 (qq_lf 36 (.inl (qo_al 0 1))) (qq_br 38 (qq_lf 37 (.inl qo_dup)) (qq_lf 38 (.inl (qo_get (gL w) 4 2))))) (qq_br 43 (qq_br 42 (qq_lf 41 (.inl (qo_k 1 1))) (qq_lf 42 (.inl (qo_b (fun x y => x + y))))) (qq_br 46 (qq_lf 43 (.inl (qo_put (gL w) 4 2))) (qq_lf 46 (.inr (.inr 0))))))))
def tm_67 (w : qS) : Nat → Option qE := (qq_br 72 (qq_br 34 (qq_br 18 (qq_br 8 (qq_br 3 (qq_br 1 (qq_lf 0 (.inl (qo_k 0 1))) (qq_lf 1 (.inl (qo_is 4 2)))) (qq_br 5 (qq_lf 3 (.inl (qo_il 4 2))) (qq_lf 5 (.inl (qo_k (iN 240) 3))))) (qq_br 12 (qq_br 11 (qq_lf 8 (.inl (qo_c (fun x y => y ≤ x) 40))) (qq_lf 11 (.inl (qo_al 0 1)))) (qq_br 15 (qq_lf 12 (.inl (qo_get (gL w) 4 3))) (qq_br 17 (qq_lf 15 (.inl (qo_il 4 2))) (qq_lf 17 (.inl (qo_al 1 1))))))) (qq_br 25 (qq_br 21 (qq_br 20 (qq_lf 18 (.inl (qo_il 4 2))) (qq_lf 20 (.inl (qo_il 2 1)))) (qq_br 24 (qq_lf 21 (.inr (.inl (36, 3, some 1)))) (qq_lf 24 (.inl (qo_zas (gL w)))))) (qq_br 29 (qq_br 26 (qq_lf 25 (.inl (qo_al 0 1))) (qq_lf 26 (.inl (qo_get (gL w) 4 4)))) (qq_br 31 (qq_lf 29 (.inl (qo_il 4 2))) (qq_br 33 (qq_lf 31 (.inl (qo_k (iN 1000000) 2))) (qq_lf 33 (.inl (qo_ias (gL w))))))))) (qq_br 53 (qq_br 44 (qq_br 40 (qq_br 37 (qq_lf 34 (.inl (qo_inc 4 1))) (qq_lf 37 (.inl (qo_g 3)))) (qq_br 41 (qq_lf 40 (.inl (qo_al 0 1))) (qq_lf 41 (.inl (qo_get (gL w) 4 5))))) (qq_br 48 (qq_br 47 (qq_lf 44 (.inr (.inl (73, 1, some 5)))) (qq_lf 47 (.inl (qo_k 0 1)))) (qq_br 50 (qq_lf 48 (.inl (qo_is 4 2))) (qq_br 52 (qq_lf 50 (.inl (qo_il 4 2))) (qq_lf 52 (.inl (qo_al 0 1))))))) (qq_br 64 (qq_br 59 (qq_br 56 (qq_lf 53 (.inl (qo_get (gL w) 4 2))) (qq_lf 56 (.inl (qo_c (fun x y => y ≤ x) 93)))) (qq_br 60 (qq_lf 59 (.inl (qo_al 0 1))) (qq_br 63 (qq_lf 60 (.inl (qo_get (gL w) 4 4))) (qq_lf 63 (.inl (qo_al 0 1)))))) (qq_br 69 (qq_br 67 (qq_lf 64 (.inl (qo_get (gL w) 4 1))) (qq_lf 67 (.inl (qo_il 4 2)))) (qq_br 70 (qq_lf 69 (.inl (qo_ia (gL w)))) (qq_br 71 (qq_lf 70 (.inl (qo_k 0 1))) (qq_lf 71 (.inl (qo_ias (gL w)))))))))) (qq_br 109 (qq_br 90 (qq_br 78 (qq_br 76 (qq_br 73 (qq_lf 72 (.inl (qo_al 0 1))) (qq_lf 73 (.inl (qo_get (gL w) 4 5)))) (qq_br 77 (qq_lf 76 (.inl (qo_k 0 1))) (qq_lf 77 (.inl (qo_al 0 1))))) (qq_br 83 (qq_br 81 (qq_lf 78 (.inl (qo_get (gL w) 4 1))) (qq_lf 81 (.inl (qo_il 4 2)))) (qq_br 84 (qq_lf 83 (.inl (qo_ia (gL w)))) (qq_br 87 (qq_lf 84 (.inr (.inl (74, 3, some 5)))) (qq_lf 87 (.inl (qo_inc 4 1))))))) (qq_br 98 (qq_br 94 (qq_br 93 (qq_lf 90 (.inl (qo_g 50))) (qq_lf 93 (.inl (qo_k 0 1)))) (qq_br 96 (qq_lf 94 (.inl (qo_is 4 2))) (qq_lf 96 (.inl (qo_il 4 2))))) (qq_br 104 (qq_br 101 (qq_lf 98 (.inl (qo_k (iN 240) 3))) (qq_lf 101 (.inl (qo_c (fun x y => y ≤ x) 149)))) (qq_br 105 (qq_lf 104 (.inl (qo_al 0 1))) (qq_br 108 (qq_lf 105 (.inl (qo_get (gL w) 4 5))) (qq_lf 108 (.inl (qo_al 0 1)))))))) (qq_br 129 (qq_br 119 (qq_br 115 (qq_br 112 (qq_lf 109 (.inl (qo_get (gL w) 4 4))) (qq_lf 112 (.inr (.inl (75, 2, some 5))))) (qq_br 117 (qq_lf 115 (.inl (qo_is 5 2))) (qq_lf 117 (.inl (qo_il 5 2))))) (qq_br 123 (qq_br 120 (qq_lf 119 (.inl (qo_k (-1) 1))) (qq_lf 120 (.inl (qo_c (fun x y => ¬ x = y) 126)))) (qq_br 126 (qq_lf 123 (.inl (qo_g 149))) (qq_br 127 (qq_lf 126 (.inl (qo_al 0 1))) (qq_lf 127 (.inl (qo_il 5 2))))))) (qq_br 139 (qq_br 135 (qq_br 132 (qq_lf 129 (.inr (.inl (68, 2, some 4)))) (qq_lf 132 (.inl (qo_z (fun x => x = 0) 143)))) (qq_br 136 (qq_lf 135 (.inl (qo_al 0 1))) (qq_br 137 (qq_lf 136 (.inl (qo_al 1 1))) (qq_lf 137 (.inl (qo_il 5 2)))))) (qq_br 143 (qq_br 140 (qq_lf 139 (.inl (qo_il 3 1))) (qq_lf 140 (.inr (.inl (69, 4, some 4))))) (qq_br 146 (qq_lf 143 (.inl (qo_inc 4 1))) (qq_br 149 (qq_lf 146 (.inl (qo_g 96))) (qq_lf 149 (.inr (.inr 0))))))))))
def tm_68 (w : qS) : Nat → Option qE := (qq_br 13 (qq_br 5 (qq_br 1 (qq_lf 0 (.inl (qo_al 0 1))) (qq_br 4 (qq_lf 1 (.inl (qo_get (gL w) 4 0))) (qq_lf 4 (.inl (qo_il 1 1))))) (qq_br 9 (qq_br 6 (qq_lf 5 (.inl (qo_za (gL w)))) (qq_lf 6 (.inl (qo_z (fun x => ¬ x = 0) 18)))) (qq_br 10 (qq_lf 9 (.inl (qo_al 0 1))) (qq_lf 10 (.inl (qo_get (gL w) 4 3)))))) (qq_br 18 (qq_br 14 (qq_lf 13 (.inl (qo_il 1 1))) (qq_br 15 (qq_lf 14 (.inl (qo_za (gL w)))) (qq_lf 15 (.inl (qo_z (fun x => x = 0) 22))))) (qq_br 22 (qq_br 19 (qq_lf 18 (.inl (qo_k 1 1))) (qq_lf 19 (.inl (qo_g 23)))) (qq_br 23 (qq_lf 22 (.inl (qo_k 0 1))) (qq_lf 23 (.inr (.inr 2)))))))
def tm_69 (w : qS) : Nat → Option qE := (qq_br 58 (qq_br 28 (qq_br 13 (qq_br 5 (qq_br 1 (qq_lf 0 (.inl (qo_k 0 1))) (qq_br 3 (qq_lf 1 (.inl (qo_is 4 2))) (qq_lf 3 (.inl (qo_il 4 2))))) (qq_br 10 (qq_br 7 (qq_lf 5 (.inl (qo_k (iN 9) 2))) (qq_lf 7 (.inl (qo_c (fun x y => y ≤ x) 113)))) (qq_br 11 (qq_lf 10 (.inl (qo_il 2 1))) (qq_lf 11 (.inl (qo_il 4 2)))))) (qq_br 20 (qq_br 16 (qq_lf 13 (.inr (.inl (28, 2, none)))) (qq_br 18 (qq_lf 16 (.inl (qo_is 5 2))) (qq_lf 18 (.inl (qo_il 5 2))))) (qq_br 24 (qq_br 21 (qq_lf 20 (.inl (qo_k (-1) 1))) (qq_lf 21 (.inl (qo_c (fun x y => x = y) 107)))) (qq_br 25 (qq_lf 24 (.inl (qo_al 0 1))) (qq_lf 25 (.inl (qo_get (gL w) 4 3))))))) (qq_br 41 (qq_br 34 (qq_br 30 (qq_lf 28 (.inl (qo_il 5 2))) (qq_br 31 (qq_lf 30 (.inl (qo_za (gL w)))) (qq_lf 31 (.inl (qo_z (fun x => ¬ x = 0) 47))))) (qq_br 36 (qq_br 35 (qq_lf 34 (.inl (qo_al 1 1))) (qq_lf 35 (.inl (qo_il 3 1)))) (qq_br 38 (qq_lf 36 (.inl (qo_il 5 2))) (qq_lf 38 (.inr (.inl (33, 3, some 1))))))) (qq_br 51 (qq_br 47 (qq_br 44 (qq_lf 41 (.inl (qo_z (fun x => ¬ x = 0) 47))) (qq_lf 44 (.inl (qo_g 107)))) (qq_br 48 (qq_lf 47 (.inl (qo_al 0 1))) (qq_lf 48 (.inl (qo_get (gL w) 4 4))))) (qq_br 53 (qq_br 52 (qq_lf 51 (.inl (qo_il 2 1))) (qq_lf 52 (.inl (qo_ia (gL w))))) (qq_br 56 (qq_lf 53 (.inl (qo_ss 202))) (qq_lf 56 (.inl (qo_il 4 2)))))))) (qq_br 83 (qq_br 70 (qq_br 62 (qq_br 59 (qq_lf 58 (.inl (qo_ia (gL w)))) (qq_br 60 (qq_lf 59 (.inl (qo_b (fun x y => x + y)))) (qq_lf 60 (.inl (qo_is 6 2))))) (qq_br 65 (qq_br 64 (qq_lf 62 (.inl (qo_il 6 2))) (qq_lf 64 (.inl (qo_al 0 1)))) (qq_br 68 (qq_lf 65 (.inl (qo_get (gL w) 4 4))) (qq_lf 68 (.inl (qo_il 5 2)))))) (qq_br 75 (qq_br 71 (qq_lf 70 (.inl (qo_ia (gL w)))) (qq_br 74 (qq_lf 71 (.inl (qo_c (fun x y => y ≤ x) 107))) (qq_lf 74 (.inl (qo_al 0 1))))) (qq_br 80 (qq_br 78 (qq_lf 75 (.inl (qo_get (gL w) 4 4))) (qq_lf 78 (.inl (qo_il 5 2)))) (qq_br 82 (qq_lf 80 (.inl (qo_il 6 2))) (qq_lf 82 (.inl (qo_ias (gL w)))))))) (qq_br 98 (qq_br 89 (qq_br 84 (qq_lf 83 (.inl (qo_al 0 1))) (qq_br 87 (qq_lf 84 (.inl (qo_get (gL w) 4 5))) (qq_lf 87 (.inl (qo_il 4 2))))) (qq_br 94 (qq_br 91 (qq_lf 89 (.inl (qo_k (iN 8) 2))) (qq_lf 91 (.inl (qo_c (fun x y => ¬ x = y) 98)))) (qq_br 95 (qq_lf 94 (.inl (qo_k (iN 2) 1))) (qq_lf 95 (.inl (qo_g 102)))))) (qq_br 104 (qq_br 101 (qq_br 100 (qq_lf 98 (.inl (qo_il 4 2))) (qq_lf 100 (.inl (qo_k 1 1)))) (qq_br 102 (qq_lf 101 (.inl (qo_b (fun x y => x &&& y)))) (qq_lf 102 (.inl (qo_il 5 2))))) (qq_br 110 (qq_br 107 (qq_lf 104 (.inr (.inl (74, 3, some 5)))) (qq_lf 107 (.inl (qo_inc 4 1)))) (qq_br 113 (qq_lf 110 (.inl (qo_g 3))) (qq_lf 113 (.inr (.inr 0)))))))))
def tm_70 (w : qS) : Nat → Option qE := (qq_br 24 (qq_br 9 (qq_br 5 (qq_br 1 (qq_lf 0 (.inl (qo_al 1 1))) (qq_br 2 (qq_lf 1 (.inl (qo_il 2 1))) (qq_lf 2 (.inr (.inl (35, 2, some 1)))))) (qq_br 6 (qq_lf 5 (.inl (qo_is 3 1))) (qq_br 7 (qq_lf 6 (.inl (qo_il 3 1))) (qq_lf 7 (.inl (qo_k (iN 8) 2)))))) (qq_br 15 (qq_br 12 (qq_lf 9 (.inr (.inl (28, 2, none)))) (qq_br 14 (qq_lf 12 (.inl (qo_is 4 2))) (qq_lf 14 (.inl (qo_al 1 1))))) (qq_br 18 (qq_br 16 (qq_lf 15 (.inl (qo_il 2 1))) (qq_lf 16 (.inl (qo_il 4 2)))) (qq_br 21 (qq_lf 18 (.inr (.inl (33, 3, some 1)))) (qq_lf 21 (.inl (qo_z (fun x => x = 0) 45))))))) (qq_br 35 (qq_br 30 (qq_br 25 (qq_lf 24 (.inl (qo_al 0 1))) (qq_br 28 (qq_lf 25 (.inl (qo_get (gL w) 4 4))) (qq_lf 28 (.inl (qo_il 4 2))))) (qq_br 31 (qq_lf 30 (.inl (qo_ia (gL w)))) (qq_br 32 (qq_lf 31 (.inl (qo_al 0 1))) (qq_lf 32 (.inl (qo_get (gL w) 4 4)))))) (qq_br 40 (qq_br 36 (qq_lf 35 (.inl (qo_il 3 1))) (qq_br 37 (qq_lf 36 (.inl (qo_ia (gL w)))) (qq_lf 37 (.inl (qo_c (fun x y => y ≤ x) 45))))) (qq_br 45 (qq_br 42 (qq_lf 40 (.inl (qo_il 4 2))) (qq_lf 42 (.inl (qo_g 46)))) (qq_br 46 (qq_lf 45 (.inl (qo_il 3 1))) (qq_lf 46 (.inr (.inr 1))))))))
def tm_71 (w : qS) : Nat → Option qE := (qq_br 27 (qq_br 14 (qq_br 4 (qq_br 1 (qq_lf 0 (.inl (qo_il 2 1))) (qq_br 3 (qq_lf 1 (.inl (qo_is 4 2))) (qq_lf 3 (.inl (qo_k 0 1))))) (qq_br 8 (qq_br 6 (qq_lf 4 (.inl (qo_is 5 2))) (qq_lf 6 (.inl (qo_il 5 2)))) (qq_br 11 (qq_lf 8 (.inl (qo_k (iN 240) 3))) (qq_lf 11 (.inl (qo_c (fun x y => y ≤ x) 56)))))) (qq_br 20 (qq_br 15 (qq_lf 14 (.inl (qo_al 0 1))) (qq_br 18 (qq_lf 15 (.inl (qo_get (gL w) 4 0))) (qq_lf 18 (.inl (qo_il 4 2))))) (qq_br 24 (qq_br 21 (qq_lf 20 (.inl (qo_za (gL w)))) (qq_lf 21 (.inl (qo_z (fun x => ¬ x = 0) 56)))) (qq_br 25 (qq_lf 24 (.inl (qo_al 0 1))) (qq_lf 25 (.inl (qo_il 4 2))))))) (qq_br 40 (qq_br 34 (qq_br 30 (qq_lf 27 (.inr (.inl (72, 2, some 4)))) (qq_br 32 (qq_lf 30 (.inl (qo_is 6 2))) (qq_lf 32 (.inl (qo_il 6 2))))) (qq_br 38 (qq_br 35 (qq_lf 34 (.inl (qo_k (-1) 1))) (qq_lf 35 (.inl (qo_c (fun x y => ¬ x = y) 39)))) (qq_br 39 (qq_lf 38 (.inr (.inr 0))) (qq_lf 39 (.inl (qo_al 1 1)))))) (qq_br 48 (qq_br 43 (qq_br 42 (qq_lf 40 (.inl (qo_il 6 2))) (qq_lf 42 (.inl (qo_il 3 1)))) (qq_br 46 (qq_lf 43 (.inr (.inl (50, 3, some 1)))) (qq_lf 46 (.inl (qo_il 6 2))))) (qq_br 53 (qq_br 50 (qq_lf 48 (.inl (qo_is 4 2))) (qq_lf 50 (.inl (qo_inc 5 1)))) (qq_br 56 (qq_lf 53 (.inl (qo_g 6))) (qq_lf 56 (.inr (.inr 0))))))))
def tm_72 (w : qS) : Nat → Option qE := (qq_br 43 (qq_br 19 (qq_br 7 (qq_br 3 (qq_br 1 (qq_lf 0 (.inl (qo_k (-1) 1))) (qq_br 2 (qq_lf 1 (.inl (qo_is 2 1))) (qq_lf 2 (.inl (qo_k 0 1))))) (qq_br 4 (qq_lf 3 (.inl (qo_is 3 1))) (qq_br 5 (qq_lf 4 (.inl (qo_il 3 1))) (qq_lf 5 (.inl (qo_k (iN 9) 2)))))) (qq_br 12 (qq_br 10 (qq_lf 7 (.inl (qo_c (fun x y => y ≤ x) 86))) (qq_br 11 (qq_lf 10 (.inl (qo_il 1 1))) (qq_lf 11 (.inl (qo_il 3 1))))) (qq_br 15 (qq_lf 12 (.inr (.inl (28, 2, none)))) (qq_br 17 (qq_lf 15 (.inl (qo_is 4 2))) (qq_lf 17 (.inl (qo_il 4 2))))))) (qq_br 32 (qq_br 24 (qq_br 20 (qq_lf 19 (.inl (qo_k (-1) 1))) (qq_br 23 (qq_lf 20 (.inl (qo_c (fun x y => x = y) 58))) (qq_lf 23 (.inl (qo_al 0 1))))) (qq_br 26 (qq_lf 24 (.inl (qo_il 4 2))) (qq_br 29 (qq_lf 26 (.inr (.inl (68, 2, some 4)))) (qq_lf 29 (.inl (qo_z (fun x => x = 0) 58)))))) (qq_br 38 (qq_br 33 (qq_lf 32 (.inl (qo_al 0 1))) (qq_br 36 (qq_lf 33 (.inl (qo_get (gL w) 4 4))) (qq_lf 36 (.inl (qo_il 4 2))))) (qq_br 39 (qq_lf 38 (.inl (qo_ia (gL w)))) (qq_br 42 (qq_lf 39 (.inl (qo_ss 202))) (qq_lf 42 (.inl (qo_il 3 1)))))))) (qq_br 63 (qq_br 51 (qq_br 46 (qq_br 44 (qq_lf 43 (.inl (qo_ia (gL w)))) (qq_br 45 (qq_lf 44 (.inl (qo_b (fun x y => x + y)))) (qq_lf 45 (.inl (qo_al 0 1))))) (qq_br 49 (qq_lf 46 (.inl (qo_get (gL w) 4 4))) (qq_br 50 (qq_lf 49 (.inl (qo_il 1 1))) (qq_lf 50 (.inl (qo_ia (gL w))))))) (qq_br 58 (qq_br 54 (qq_lf 51 (.inl (qo_c (fun x y => ¬ x = y) 58))) (qq_br 55 (qq_lf 54 (.inl (qo_k 1 1))) (qq_lf 55 (.inl (qo_g 59))))) (qq_br 59 (qq_lf 58 (.inl (qo_k 0 1))) (qq_br 61 (qq_lf 59 (.inl (qo_is 5 2))) (qq_lf 61 (.inl (qo_il 5 2))))))) (qq_br 74 (qq_br 68 (qq_br 66 (qq_lf 63 (.inl (qo_z (fun x => x = 0) 80))) (qq_br 67 (qq_lf 66 (.inl (qo_il 2 1))) (qq_lf 67 (.inl (qo_k (-1) 1))))) (qq_br 71 (qq_lf 68 (.inl (qo_c (fun x y => x = y) 77))) (qq_br 73 (qq_lf 71 (.inl (qo_il 4 2))) (qq_lf 73 (.inl (qo_il 2 1)))))) (qq_br 80 (qq_br 77 (qq_lf 74 (.inl (qo_c (fun x y => y ≤ x) 80))) (qq_br 79 (qq_lf 77 (.inl (qo_il 4 2))) (qq_lf 79 (.inl (qo_is 2 1))))) (qq_br 86 (qq_br 83 (qq_lf 80 (.inl (qo_inc 3 1))) (qq_lf 83 (.inl (qo_g 4)))) (qq_br 87 (qq_lf 86 (.inl (qo_il 2 1))) (qq_lf 87 (.inr (.inr 1)))))))))
def tm_73 (w : qS) : Nat → Option qE := (qq_br 18 (qq_br 9 (qq_br 4 (qq_br 1 (qq_lf 0 (.inl (qo_al 0 1))) (qq_lf 1 (.inl (qo_get (gL w) 5 1)))) (qq_br 5 (qq_lf 4 (.inl (qo_k 0 1))) (qq_br 8 (qq_lf 5 (.inr (.inl (122, 2, none)))) (qq_lf 8 (.inl (qo_al 0 1)))))) (qq_br 13 (qq_br 12 (qq_lf 9 (.inl (qo_get (gL w) 5 2))) (qq_lf 12 (.inl (qo_k 0 1)))) (qq_br 16 (qq_lf 13 (.inr (.inl (122, 2, none)))) (qq_br 17 (qq_lf 16 (.inl (qo_k 0 1))) (qq_lf 17 (.inl (qo_is 1 1))))))) (qq_br 29 (qq_br 22 (qq_br 19 (qq_lf 18 (.inl (qo_il 1 1))) (qq_lf 19 (.inl (qo_k (iN 240) 3)))) (qq_br 25 (qq_lf 22 (.inl (qo_c (fun x y => y ≤ x) 38))) (qq_br 26 (qq_lf 25 (.inl (qo_al 0 1))) (qq_lf 26 (.inl (qo_get (gL w) 5 3)))))) (qq_br 32 (qq_br 30 (qq_lf 29 (.inl (qo_il 1 1))) (qq_br 31 (qq_lf 30 (.inl (qo_k 0 1))) (qq_lf 31 (.inl (qo_zas (gL w)))))) (qq_br 35 (qq_lf 32 (.inl (qo_inc 1 1))) (qq_br 38 (qq_lf 35 (.inl (qo_g 18))) (qq_lf 38 (.inr (.inr 0))))))))
def tm_74 (w : qS) : Nat → Option qE := (qq_br 22 (qq_br 12 (qq_br 5 (qq_br 1 (qq_lf 0 (.inl (qo_al 0 1))) (qq_br 4 (qq_lf 1 (.inl (qo_get (gL w) 5 2))) (qq_lf 4 (.inl (qo_il 1 1))))) (qq_br 6 (qq_lf 5 (.inl (qo_ia (gL w)))) (qq_br 9 (qq_lf 6 (.inl (qo_k (iN 240) 3))) (qq_lf 9 (.inl (qo_c (fun x y => y ≤ x) 36)))))) (qq_br 17 (qq_br 13 (qq_lf 12 (.inl (qo_al 0 1))) (qq_br 16 (qq_lf 13 (.inl (qo_get (gL w) 5 0))) (qq_lf 16 (.inl (qo_il 1 1))))) (qq_br 18 (qq_lf 17 (.inl (qo_aa (gL w)))) (qq_br 19 (qq_lf 18 (.inl (qo_al 0 1))) (qq_lf 19 (.inl (qo_get (gL w) 5 2))))))) (qq_br 30 (qq_br 25 (qq_br 23 (qq_lf 22 (.inl (qo_il 1 1))) (qq_br 24 (qq_lf 23 (.inl (qo_ia (gL w)))) (qq_lf 24 (.inl (qo_il 2 1))))) (qq_br 26 (qq_lf 25 (.inl (qo_ias (gL w)))) (qq_br 27 (qq_lf 26 (.inl (qo_al 0 1))) (qq_lf 27 (.inl (qo_get (gL w) 5 2)))))) (qq_br 33 (qq_br 31 (qq_lf 30 (.inl (qo_il 1 1))) (qq_br 32 (qq_lf 31 (.inl qo_dup2)) (qq_lf 32 (.inl (qo_ia (gL w)))))) (qq_br 35 (qq_br 34 (qq_lf 33 (.inl (qo_k 1 1))) (qq_lf 34 (.inl (qo_b (fun x y => x + y))))) (qq_br 36 (qq_lf 35 (.inl (qo_ias (gL w)))) (qq_lf 36 (.inr (.inr 0))))))))
def tm_75 (w : qS) : Nat → Option qE := (qq_br 30 (qq_br 11 (qq_br 4 (qq_br 2 (qq_br 1 (qq_lf 0 (.inl (qo_k (-1) 1))) (qq_lf 1 (.inl (qo_is 2 1)))) (qq_br 3 (qq_lf 2 (.inl (qo_k 0 1))) (qq_lf 3 (.inl (qo_is 3 1))))) (qq_br 6 (qq_br 5 (qq_lf 4 (.inl (qo_il 3 1))) (qq_lf 5 (.inl (qo_k (iN 3) 1)))) (qq_br 9 (qq_lf 6 (.inl (qo_c (fun x y => y ≤ x) 46))) (qq_br 10 (qq_lf 9 (.inl (qo_al 0 1))) (qq_lf 10 (.inl (qo_il 3 1))))))) (qq_br 22 (qq_br 16 (qq_br 14 (qq_lf 11 (.inr (.inl (76, 2, some 5)))) (qq_lf 14 (.inl (qo_is 4 2)))) (qq_br 18 (qq_lf 16 (.inl (qo_il 4 2))) (qq_br 19 (qq_lf 18 (.inl (qo_k (-1) 1))) (qq_lf 19 (.inl (qo_c (fun x y => x = y) 40)))))) (qq_br 24 (qq_br 23 (qq_lf 22 (.inl (qo_il 2 1))) (qq_lf 23 (.inl (qo_k (-1) 1)))) (qq_br 27 (qq_lf 24 (.inl (qo_c (fun x y => x = y) 37))) (qq_br 28 (qq_lf 27 (.inl (qo_al 1 1))) (qq_lf 28 (.inl (qo_il 4 2)))))))) (qq_br 46 (qq_br 34 (qq_br 32 (qq_br 31 (qq_lf 30 (.inl (qo_ia (gL w)))) (qq_lf 31 (.inl (qo_al 1 1)))) (qq_br 33 (qq_lf 32 (.inl (qo_il 2 1))) (qq_lf 33 (.inl (qo_ia (gL w)))))) (qq_br 39 (qq_br 37 (qq_lf 34 (.inl (qo_c (fun x y => y ≤ x) 40))) (qq_lf 37 (.inl (qo_il 4 2)))) (qq_br 40 (qq_lf 39 (.inl (qo_is 2 1))) (qq_br 43 (qq_lf 40 (.inl (qo_inc 3 1))) (qq_lf 43 (.inl (qo_g 4))))))) (qq_br 55 (qq_br 48 (qq_br 47 (qq_lf 46 (.inl (qo_il 2 1))) (qq_lf 47 (.inl (qo_k (-1) 1)))) (qq_br 51 (qq_lf 48 (.inl (qo_c (fun x y => x = y) 58))) (qq_br 52 (qq_lf 51 (.inl (qo_al 0 1))) (qq_lf 52 (.inl (qo_get (gL w) 5 3)))))) (qq_br 57 (qq_br 56 (qq_lf 55 (.inl (qo_il 2 1))) (qq_lf 56 (.inl (qo_k 1 1)))) (qq_br 58 (qq_lf 57 (.inl (qo_zas (gL w)))) (qq_br 59 (qq_lf 58 (.inl (qo_il 2 1))) (qq_lf 59 (.inr (.inr 1)))))))))
def tm_76 (w : qS) : Nat → Option qE := (qq_br 42 (qq_br 23 (qq_br 10 (qq_br 5 (qq_br 1 (qq_lf 0 (.inl (qo_al 0 1))) (qq_br 4 (qq_lf 1 (.inl (qo_get (gL w) 5 1))) (qq_lf 4 (.inl (qo_il 1 1))))) (qq_br 6 (qq_lf 5 (.inl (qo_ia (gL w)))) (qq_br 7 (qq_lf 6 (.inl (qo_al 0 1))) (qq_lf 7 (.inl (qo_get (gL w) 5 2)))))) (qq_br 15 (qq_br 11 (qq_lf 10 (.inl (qo_il 1 1))) (qq_br 12 (qq_lf 11 (.inl (qo_ia (gL w)))) (qq_lf 12 (.inl (qo_c (fun x y => y ≤ x) 49))))) (qq_br 19 (qq_br 16 (qq_lf 15 (.inl (qo_al 0 1))) (qq_lf 16 (.inl (qo_get (gL w) 5 3)))) (qq_br 20 (qq_lf 19 (.inl (qo_al 0 1))) (qq_lf 20 (.inl (qo_get (gL w) 5 0))))))) (qq_br 31 (qq_br 26 (qq_br 24 (qq_lf 23 (.inl (qo_il 1 1))) (qq_br 25 (qq_lf 24 (.inl (qo_aa (gL w)))) (qq_lf 25 (.inl (qo_al 0 1))))) (qq_br 29 (qq_lf 26 (.inl (qo_get (gL w) 5 1))) (qq_br 30 (qq_lf 29 (.inl (qo_il 1 1))) (qq_lf 30 (.inl (qo_ia (gL w))))))) (qq_br 36 (qq_br 32 (qq_lf 31 (.inl (qo_ia (gL w)))) (qq_br 33 (qq_lf 32 (.inl (qo_za (gL w)))) (qq_lf 33 (.inl (qo_z (fun x => x = 0) 49))))) (qq_br 40 (qq_br 37 (qq_lf 36 (.inl (qo_al 0 1))) (qq_lf 37 (.inl (qo_get (gL w) 5 1)))) (qq_br 41 (qq_lf 40 (.inl (qo_il 1 1))) (qq_lf 41 (.inl qo_dup2))))))) (qq_br 61 (qq_br 50 (qq_br 45 (qq_br 43 (qq_lf 42 (.inl (qo_ia (gL w)))) (qq_br 44 (qq_lf 43 (.inl (qo_k 1 1))) (qq_lf 44 (.inl (qo_b (fun x y => x + y)))))) (qq_br 46 (qq_lf 45 (.inl (qo_ias (gL w)))) (qq_br 49 (qq_lf 46 (.inl (qo_g 0))) (qq_lf 49 (.inl (qo_al 0 1)))))) (qq_br 55 (qq_br 53 (qq_lf 50 (.inl (qo_get (gL w) 5 1))) (qq_br 54 (qq_lf 53 (.inl (qo_il 1 1))) (qq_lf 54 (.inl (qo_ia (gL w)))))) (qq_br 59 (qq_br 56 (qq_lf 55 (.inl (qo_al 0 1))) (qq_lf 56 (.inl (qo_get (gL w) 5 2)))) (qq_br 60 (qq_lf 59 (.inl (qo_il 1 1))) (qq_lf 60 (.inl (qo_ia (gL w)))))))) (qq_br 71 (qq_br 68 (qq_br 64 (qq_lf 61 (.inl (qo_c (fun x y => y ≤ x) 80))) (qq_br 65 (qq_lf 64 (.inl (qo_al 0 1))) (qq_lf 65 (.inl (qo_get (gL w) 5 0))))) (qq_br 69 (qq_lf 68 (.inl (qo_il 1 1))) (qq_br 70 (qq_lf 69 (.inl (qo_aa (gL w)))) (qq_lf 70 (.inl (qo_al 0 1)))))) (qq_br 76 (qq_br 74 (qq_lf 71 (.inl (qo_get (gL w) 5 1))) (qq_br 75 (qq_lf 74 (.inl (qo_il 1 1))) (qq_lf 75 (.inl (qo_ia (gL w)))))) (qq_br 80 (qq_br 77 (qq_lf 76 (.inl (qo_ia (gL w)))) (qq_lf 77 (.inl (qo_g 81)))) (qq_br 81 (qq_lf 80 (.inl (qo_k (-1) 1))) (qq_lf 81 (.inr (.inr 1)))))))))
def tm_77 (w : qS) : Nat → Option qE := (qq_br 20 (qq_br 11 (qq_br 4 (qq_br 1 (qq_lf 0 (.inl (qo_al 0 1))) (qq_lf 1 (.inl (qo_get (gL w) 6 1)))) (qq_br 7 (qq_lf 4 (.inl (qo_k (iN 400) 3))) (qq_br 10 (qq_lf 7 (.inl (qo_c (fun x y => x < y) 12))) (qq_lf 10 (.inl (qo_k 0 1)))))) (qq_br 13 (qq_br 12 (qq_lf 11 (.inr (.inr 2))) (qq_lf 12 (.inl (qo_al 0 1)))) (qq_br 16 (qq_lf 13 (.inl (qo_get (gL w) 6 0))) (qq_br 17 (qq_lf 16 (.inl (qo_al 0 1))) (qq_lf 17 (.inl (qo_get (gL w) 6 1))))))) (qq_br 27 (qq_br 22 (qq_br 21 (qq_lf 20 (.inl (qo_il 1 1))) (qq_lf 21 (.inl (qo_ias (gL w))))) (qq_br 23 (qq_lf 22 (.inl (qo_al 0 1))) (qq_br 24 (qq_lf 23 (.inl qo_dup)) (qq_lf 24 (.inl (qo_get (gL w) 6 1)))))) (qq_br 29 (qq_br 28 (qq_lf 27 (.inl (qo_k 1 1))) (qq_lf 28 (.inl (qo_b (fun x y => x + y))))) (qq_br 32 (qq_lf 29 (.inl (qo_put (gL w) 6 1))) (qq_br 33 (qq_lf 32 (.inl (qo_k 1 1))) (qq_lf 33 (.inr (.inr 2))))))))
def tm_78 (w : qS) : Nat → Option qE := (qq_br 44 (qq_br 21 (qq_br 12 (qq_br 5 (qq_br 1 (qq_lf 0 (.inl (qo_al 0 1))) (qq_br 4 (qq_lf 1 (.inl (qo_get (gL w) 6 2))) (qq_lf 4 (.inl (qo_k (-1) 1))))) (qq_br 8 (qq_lf 5 (.inr (.inl (122, 2, none)))) (qq_br 9 (qq_lf 8 (.inl (qo_al 0 1))) (qq_lf 9 (.inl (qo_get (gL w) 6 1)))))) (qq_br 17 (qq_br 13 (qq_lf 12 (.inl (qo_al 0 1))) (qq_br 16 (qq_lf 13 (.inl (qo_get (gL w) 6 1))) (qq_lf 16 (.inl (qo_k (iN 4) 1))))) (qq_br 19 (qq_br 18 (qq_lf 17 (.inl (qo_d (fun x y => x - x / y * y)))) (qq_lf 18 (.inl (qo_b (fun x y => x - y))))) (qq_br 20 (qq_lf 19 (.inl (qo_is 1 1))) (qq_lf 20 (.inl (qo_k 0 1))))))) (qq_br 31 (qq_br 24 (qq_br 22 (qq_lf 21 (.inl (qo_is 2 1))) (qq_br 23 (qq_lf 22 (.inl (qo_il 2 1))) (qq_lf 23 (.inl (qo_il 1 1))))) (qq_br 27 (qq_lf 24 (.inl (qo_c (fun x y => y ≤ x) 81))) (qq_br 28 (qq_lf 27 (.inl (qo_al 0 1))) (qq_lf 28 (.inl (qo_get (gL w) 6 0)))))) (qq_br 36 (qq_br 32 (qq_lf 31 (.inl (qo_il 2 1))) (qq_br 33 (qq_lf 32 (.inl (qo_ia (gL w)))) (qq_lf 33 (.inl (qo_k (iN 255) 3))))) (qq_br 40 (qq_br 39 (qq_lf 36 (.inl (qo_c (fun x y => x = y) 81))) (qq_lf 39 (.inl (qo_al 0 1)))) (qq_br 41 (qq_lf 40 (.inl (qo_al 0 1))) (qq_lf 41 (.inl (qo_get (gL w) 6 0)))))))) (qq_br 61 (qq_br 52 (qq_br 47 (qq_br 45 (qq_lf 44 (.inl (qo_il 2 1))) (qq_br 46 (qq_lf 45 (.inl (qo_ia (gL w)))) (qq_lf 46 (.inl (qo_al 0 1))))) (qq_br 50 (qq_lf 47 (.inl (qo_get (gL w) 6 0))) (qq_br 51 (qq_lf 50 (.inl (qo_il 2 1))) (qq_lf 51 (.inl (qo_k 1 1)))))) (qq_br 55 (qq_br 53 (qq_lf 52 (.inl (qo_b (fun x y => x + y)))) (qq_br 54 (qq_lf 53 (.inl (qo_ia (gL w)))) (qq_lf 54 (.inl (qo_al 0 1))))) (qq_br 59 (qq_br 58 (qq_lf 55 (.inl (qo_get (gL w) 6 0))) (qq_lf 58 (.inl (qo_il 2 1)))) (qq_br 60 (qq_lf 59 (.inl (qo_k (iN 2) 1))) (qq_lf 60 (.inl (qo_b (fun x y => x + y)))))))) (qq_br 69 (qq_br 66 (qq_br 62 (qq_lf 61 (.inl (qo_ia (gL w)))) (qq_br 63 (qq_lf 62 (.inl (qo_al 0 1))) (qq_lf 63 (.inl (qo_get (gL w) 6 0))))) (qq_br 67 (qq_lf 66 (.inl (qo_il 2 1))) (qq_br 68 (qq_lf 67 (.inl (qo_k (iN 3) 1))) (qq_lf 68 (.inl (qo_b (fun x y => x + y))))))) (qq_br 72 (qq_br 70 (qq_lf 69 (.inl (qo_ia (gL w)))) (qq_br 71 (qq_lf 70 (.inl (qo_k 1 1))) (qq_lf 71 (.inl (qo_b (fun x y => x - y)))))) (qq_br 78 (qq_br 75 (qq_lf 72 (.inr (.inl (79, 5, some 6)))) (qq_lf 75 (.inl (qo_inc 2 (iN 4))))) (qq_br 81 (qq_lf 78 (.inl (qo_g 22))) (qq_lf 81 (.inr (.inr 0)))))))))
def tm_79 (w : qS) : Nat → Option qE := (qq_br 23 (qq_br 10 (qq_br 3 (qq_br 1 (qq_lf 0 (.inl (qo_il 2 1))) (qq_br 2 (qq_lf 1 (.inl (qo_il 3 1))) (qq_lf 2 (.inl (qo_b (fun x y => x + y)))))) (qq_br 5 (qq_lf 3 (.inl (qo_k (iN 12) 2))) (qq_br 8 (qq_lf 5 (.inl qo_mn)) (qq_lf 8 (.inl (qo_is 5 2)))))) (qq_br 14 (qq_br 11 (qq_lf 10 (.inl (qo_il 2 1))) (qq_br 13 (qq_lf 11 (.inl (qo_is 6 2))) (qq_lf 13 (.inl (qo_il 1 1))))) (qq_br 19 (qq_br 16 (qq_lf 14 (.inl (qo_k (iN 10) 2))) (qq_lf 16 (.inl (qo_c (fun x y => y ≤ x) 46)))) (qq_br 21 (qq_lf 19 (.inl (qo_il 6 2))) (qq_lf 21 (.inl (qo_il 5 2))))))) (qq_br 34 (qq_br 30 (qq_br 26 (qq_lf 23 (.inl (qo_c (fun x y => y ≤ x) 46))) (qq_br 27 (qq_lf 26 (.inl (qo_al 0 1))) (qq_lf 27 (.inl (qo_get (gL w) 6 2))))) (qq_br 31 (qq_lf 30 (.inl (qo_il 1 1))) (qq_br 33 (qq_lf 31 (.inl (qo_k (iN 12) 2))) (qq_lf 33 (.inl (qo_b (fun x y => x * y))))))) (qq_br 39 (qq_br 36 (qq_lf 34 (.inl (qo_il 6 2))) (qq_br 37 (qq_lf 36 (.inl (qo_b (fun x y => x + y)))) (qq_lf 37 (.inl (qo_il 4 2))))) (qq_br 43 (qq_br 40 (qq_lf 39 (.inl (qo_ias (gL w)))) (qq_lf 40 (.inl (qo_inc 6 1)))) (qq_br 46 (qq_lf 43 (.inl (qo_g 13))) (qq_lf 46 (.inr (.inr 0))))))))
def tm_80 (w : qS) : Nat → Option qE := (qq_br 145 (qq_br 65 (qq_br 33 (qq_br 15 (qq_br 8 (qq_br 2 (qq_br 1 (qq_lf 0 (.inl (qo_k 0 1))) (qq_lf 1 (.inl (qo_is 1 1)))) (qq_br 3 (qq_lf 2 (.inl (qo_il 1 1))) (qq_br 5 (qq_lf 3 (.inl (qo_k (iN 16) 2))) (qq_lf 5 (.inl (qo_c (fun x y => y ≤ x) 21)))))) (qq_br 12 (qq_br 9 (qq_lf 8 (.inl (qo_al 0 1))) (qq_lf 9 (.inl (qo_get (gL w) 7 4)))) (qq_br 13 (qq_lf 12 (.inl (qo_il 1 1))) (qq_br 14 (qq_lf 13 (.inl (qo_il 1 1))) (qq_lf 14 (.inl (qo_ias (gL w)))))))) (qq_br 24 (qq_br 21 (qq_br 18 (qq_lf 15 (.inl (qo_inc 1 1))) (qq_lf 18 (.inl (qo_g 2)))) (qq_br 22 (qq_lf 21 (.inl (qo_k 0 1))) (qq_br 23 (qq_lf 22 (.inl (qo_is 1 1))) (qq_lf 23 (.inl (qo_il 1 1)))))) (qq_br 30 (qq_br 26 (qq_lf 24 (.inl (qo_k (iN 16) 2))) (qq_br 29 (qq_lf 26 (.inl (qo_c (fun x y => y ≤ x) 131))) (qq_lf 29 (.inl (qo_k 0 1))))) (qq_br 31 (qq_lf 30 (.inl (qo_is 2 1))) (qq_br 32 (qq_lf 31 (.inl (qo_il 2 1))) (qq_lf 32 (.inl (qo_al 0 1)))))))) (qq_br 51 (qq_br 42 (qq_br 37 (qq_br 36 (qq_lf 33 (.inl (qo_get (gL w) 7 0))) (qq_lf 36 (.inl (qo_k 1 1)))) (qq_br 38 (qq_lf 37 (.inl (qo_ia (gL w)))) (qq_br 41 (qq_lf 38 (.inl (qo_c (fun x y => y ≤ x) 125))) (qq_lf 41 (.inl (qo_al 0 1)))))) (qq_br 48 (qq_br 45 (qq_lf 42 (.inl (qo_get (gL w) 7 0))) (qq_br 47 (qq_lf 45 (.inl (qo_k (iN 64) 2))) (qq_lf 47 (.inl (qo_k (iN 2) 1))))) (qq_br 49 (qq_lf 48 (.inl (qo_il 2 1))) (qq_br 50 (qq_lf 49 (.inl (qo_b (fun x y => x * y)))) (qq_lf 50 (.inl (qo_b (fun x y => x + y)))))))) (qq_br 59 (qq_br 53 (qq_br 52 (qq_lf 51 (.inl (qo_ia (gL w)))) (qq_lf 52 (.inl (qo_is 3 1)))) (qq_br 54 (qq_lf 53 (.inl (qo_al 0 1))) (qq_br 57 (qq_lf 54 (.inl (qo_get (gL w) 7 0))) (qq_lf 57 (.inl (qo_k (iN 64) 2)))))) (qq_br 62 (qq_br 60 (qq_lf 59 (.inl (qo_k (iN 2) 1))) (qq_br 61 (qq_lf 60 (.inl (qo_il 2 1))) (qq_lf 61 (.inl (qo_b (fun x y => x * y)))))) (qq_br 63 (qq_lf 62 (.inl (qo_b (fun x y => x + y)))) (qq_br 64 (qq_lf 63 (.inl (qo_k 1 1))) (qq_lf 64 (.inl (qo_b (fun x y => x + y)))))))))) (qq_br 102 (qq_br 81 (qq_br 73 (qq_br 68 (qq_br 66 (qq_lf 65 (.inl (qo_ia (gL w)))) (qq_lf 66 (.inl (qo_is 4 2)))) (qq_br 69 (qq_lf 68 (.inl (qo_al 0 1))) (qq_br 72 (qq_lf 69 (.inl (qo_get (gL w) 7 4))) (qq_lf 72 (.inl (qo_il 3 1)))))) (qq_br 75 (qq_br 74 (qq_lf 73 (.inl (qo_ia (gL w)))) (qq_lf 74 (.inl (qo_al 0 1)))) (qq_br 78 (qq_lf 75 (.inl (qo_get (gL w) 7 4))) (qq_br 80 (qq_lf 78 (.inl (qo_il 4 2))) (qq_lf 80 (.inl (qo_ia (gL w)))))))) (qq_br 90 (qq_br 85 (qq_br 84 (qq_lf 81 (.inl (qo_c (fun x y => y ≤ x) 93))) (qq_lf 84 (.inl (qo_al 0 1)))) (qq_br 88 (qq_lf 85 (.inl (qo_get (gL w) 7 4))) (qq_br 89 (qq_lf 88 (.inl (qo_il 3 1))) (qq_lf 89 (.inl (qo_ia (gL w))))))) (qq_br 97 (qq_br 93 (qq_lf 90 (.inl (qo_g 100))) (qq_br 94 (qq_lf 93 (.inl (qo_al 0 1))) (qq_lf 94 (.inl (qo_get (gL w) 7 4))))) (qq_br 99 (qq_lf 97 (.inl (qo_il 4 2))) (qq_br 100 (qq_lf 99 (.inl (qo_ia (gL w)))) (qq_lf 100 (.inl (qo_is 5 2)))))))) (qq_br 122 (qq_br 110 (qq_br 106 (qq_br 103 (qq_lf 102 (.inl (qo_al 0 1))) (qq_lf 103 (.inl (qo_get (gL w) 7 4)))) (qq_br 107 (qq_lf 106 (.inl (qo_il 3 1))) (qq_br 109 (qq_lf 107 (.inl (qo_il 5 2))) (qq_lf 109 (.inl (qo_ias (gL w))))))) (qq_br 116 (qq_br 111 (qq_lf 110 (.inl (qo_al 0 1))) (qq_br 114 (qq_lf 111 (.inl (qo_get (gL w) 7 4))) (qq_lf 114 (.inl (qo_il 4 2))))) (qq_br 118 (qq_lf 116 (.inl (qo_il 5 2))) (qq_br 119 (qq_lf 118 (.inl (qo_ias (gL w)))) (qq_lf 119 (.inl (qo_inc 2 1))))))) (qq_br 133 (qq_br 128 (qq_br 125 (qq_lf 122 (.inl (qo_g 31))) (qq_lf 125 (.inl (qo_inc 1 1)))) (qq_br 131 (qq_lf 128 (.inl (qo_g 23))) (qq_br 132 (qq_lf 131 (.inl (qo_k 0 1))) (qq_lf 132 (.inl (qo_is 1 1)))))) (qq_br 140 (qq_br 134 (qq_lf 133 (.inl (qo_il 1 1))) (qq_br 137 (qq_lf 134 (.inl (qo_k (iN 240) 3))) (qq_lf 137 (.inl (qo_c (fun x y => y ≤ x) 153))))) (qq_br 141 (qq_lf 140 (.inl (qo_al 0 1))) (qq_br 144 (qq_lf 141 (.inl (qo_get (gL w) 7 5))) (qq_lf 144 (.inl (qo_il 1 1)))))))))) (qq_br 208 (qq_br 177 (qq_br 161 (qq_br 154 (qq_br 147 (qq_br 146 (qq_lf 145 (.inl (qo_k (-1) 1))) (qq_lf 146 (.inl (qo_ias (gL w))))) (qq_br 150 (qq_lf 147 (.inl (qo_inc 1 1))) (qq_br 153 (qq_lf 150 (.inl (qo_g 133))) (qq_lf 153 (.inl (qo_k 0 1)))))) (qq_br 156 (qq_br 155 (qq_lf 154 (.inl (qo_is 1 1))) (qq_lf 155 (.inl (qo_il 1 1)))) (qq_br 157 (qq_lf 156 (.inl (qo_al 0 1))) (qq_br 160 (qq_lf 157 (.inl (qo_get (gL w) 7 0))) (qq_lf 160 (.inl (qo_k 0 1))))))) (qq_br 171 (qq_br 165 (qq_br 162 (qq_lf 161 (.inl (qo_ia (gL w)))) (qq_lf 162 (.inl (qo_c (fun x y => y ≤ x) 221)))) (qq_br 166 (qq_lf 165 (.inl (qo_al 0 1))) (qq_br 169 (qq_lf 166 (.inl (qo_get (gL w) 7 0))) (qq_lf 169 (.inl (qo_k (iN 32) 2)))))) (qq_br 174 (qq_br 172 (qq_lf 171 (.inl (qo_il 1 1))) (qq_br 173 (qq_lf 172 (.inl (qo_b (fun x y => x + y)))) (qq_lf 173 (.inl (qo_ia (gL w)))))) (qq_br 175 (qq_lf 174 (.inl (qo_is 2 1))) (qq_br 176 (qq_lf 175 (.inl (qo_k 0 1))) (qq_lf 176 (.inl (qo_is 3 1)))))))) (qq_br 191 (qq_br 185 (qq_br 179 (qq_br 178 (qq_lf 177 (.inl (qo_il 3 1))) (qq_lf 178 (.inl (qo_k (iN 2) 1)))) (qq_br 182 (qq_lf 179 (.inl (qo_c (fun x y => y ≤ x) 215))) (qq_br 183 (qq_lf 182 (.inl (qo_il 2 1))) (qq_lf 183 (.inl (qo_k (iN 120) 2)))))) (qq_br 188 (qq_br 186 (qq_lf 185 (.inl (qo_d (fun x y => x / y)))) (qq_br 187 (qq_lf 186 (.inl (qo_il 3 1))) (qq_lf 187 (.inl (qo_b (fun x y => x >>> (y &&& 31))))))) (qq_br 189 (qq_lf 188 (.inl (qo_k 1 1))) (qq_br 190 (qq_lf 189 (.inl (qo_b (fun x y => x &&& y)))) (qq_lf 190 (.inl (qo_k 1 1))))))) (qq_br 201 (qq_br 195 (qq_br 194 (qq_lf 191 (.inl (qo_c (fun x y => ¬ x = y) 209))) (qq_lf 194 (.inl (qo_al 0 1)))) (qq_br 198 (qq_lf 195 (.inl (qo_get (gL w) 7 5))) (qq_br 200 (qq_lf 198 (.inl (qo_k (iN 120) 2))) (qq_lf 200 (.inl (qo_il 3 1)))))) (qq_br 205 (qq_br 202 (qq_lf 201 (.inl (qo_b (fun x y => x * y)))) (qq_br 203 (qq_lf 202 (.inl (qo_il 2 1))) (qq_lf 203 (.inl (qo_k (iN 120) 2))))) (qq_br 206 (qq_lf 205 (.inl (qo_d (fun x y => x - x / y * y)))) (qq_br 207 (qq_lf 206 (.inl (qo_b (fun x y => x + y)))) (qq_lf 207 (.inl (qo_il 1 1))))))))) (qq_br 252 (qq_br 231 (qq_br 221 (qq_br 212 (qq_br 209 (qq_lf 208 (.inl (qo_ias (gL w)))) (qq_lf 209 (.inl (qo_inc 3 1)))) (qq_br 215 (qq_lf 212 (.inl (qo_g 177))) (qq_br 218 (qq_lf 215 (.inl (qo_inc 1 1))) (qq_lf 218 (.inl (qo_g 155)))))) (qq_br 224 (qq_br 222 (qq_lf 221 (.inl (qo_k 0 1))) (qq_br 223 (qq_lf 222 (.inl (qo_is 1 1))) (qq_lf 223 (.inl (qo_il 1 1))))) (qq_br 227 (qq_lf 224 (.inl (qo_k (iN 240) 3))) (qq_br 230 (qq_lf 227 (.inl (qo_c (fun x y => y ≤ x) 287))) (qq_lf 230 (.inl (qo_al 0 1))))))) (qq_br 240 (qq_br 235 (qq_br 234 (qq_lf 231 (.inl (qo_get (gL w) 7 5))) (qq_lf 234 (.inl (qo_il 1 1)))) (qq_br 236 (qq_lf 235 (.inl (qo_ia (gL w)))) (qq_br 239 (qq_lf 236 (.inl (qo_z (fun x => x < 0) 248))) (qq_lf 239 (.inl (qo_al 0 1)))))) (qq_br 245 (qq_br 243 (qq_lf 240 (.inl (qo_get (gL w) 7 5))) (qq_br 244 (qq_lf 243 (.inl (qo_il 1 1))) (qq_lf 244 (.inl (qo_ia (gL w)))))) (qq_br 248 (qq_lf 245 (.inl (qo_g 260))) (qq_br 249 (qq_lf 248 (.inl (qo_al 0 1))) (qq_lf 249 (.inl (qo_get (gL w) 7 0)))))))) (qq_br 267 (qq_br 259 (qq_br 256 (qq_br 255 (qq_lf 252 (.inl (qo_k (iN 352) 3))) (qq_lf 255 (.inl (qo_il 1 1)))) (qq_br 257 (qq_lf 256 (.inl (qo_b (fun x y => x + y)))) (qq_br 258 (qq_lf 257 (.inl (qo_ia (gL w)))) (qq_lf 258 (.inl (qo_k 1 1)))))) (qq_br 262 (qq_br 260 (qq_lf 259 (.inl (qo_b (fun x y => x - y)))) (qq_br 261 (qq_lf 260 (.inl (qo_is 2 1))) (qq_lf 261 (.inl (qo_al 0 1))))) (qq_br 265 (qq_lf 262 (.inl (qo_get (gL w) 7 6))) (qq_br 266 (qq_lf 265 (.inl (qo_il 1 1))) (qq_lf 266 (.inl (qo_il 2 1))))))) (qq_br 278 (qq_br 271 (qq_br 270 (qq_lf 267 (.inl (qo_z (fun x => 0 ≤ x) 274))) (qq_lf 270 (.inl (qo_k (-1) 1)))) (qq_br 274 (qq_lf 271 (.inl (qo_g 280))) (qq_br 275 (qq_lf 274 (.inl (qo_al 0 1))) (qq_lf 275 (.inl (qo_get (gL w) 7 4)))))) (qq_br 281 (qq_br 279 (qq_lf 278 (.inl (qo_il 2 1))) (qq_br 280 (qq_lf 279 (.inl (qo_ia (gL w)))) (qq_lf 280 (.inl (qo_ias (gL w)))))) (qq_br 284 (qq_lf 281 (.inl (qo_inc 1 1))) (qq_br 287 (qq_lf 284 (.inl (qo_g 223))) (qq_lf 287 (.inr (.inr 0)))))))))))
def tm_81 (w : qS) : Nat → Option qE := (qq_br 14 (qq_br 6 (qq_br 2 (qq_br 1 (qq_lf 0 (.inl (qo_k 0 1))) (qq_lf 1 (.inl (qo_is 1 1)))) (qq_br 3 (qq_lf 2 (.inl (qo_il 1 1))) (qq_lf 3 (.inl (qo_k (iN 592) 3))))) (qq_br 10 (qq_br 9 (qq_lf 6 (.inl (qo_c (fun x y => y ≤ x) 27))) (qq_lf 9 (.inl (qo_al 0 1)))) (qq_br 13 (qq_lf 10 (.inl (qo_get (gL w) 7 1))) (qq_lf 13 (.inl (qo_il 1 1)))))) (qq_br 20 (qq_br 18 (qq_br 15 (qq_lf 14 (.inl (qo_al 0 1))) (qq_lf 15 (.inl (qo_get (gL w) 7 0)))) (qq_br 19 (qq_lf 18 (.inl (qo_il 1 1))) (qq_lf 19 (.inl (qo_ia (gL w)))))) (qq_br 24 (qq_br 21 (qq_lf 20 (.inl (qo_ias (gL w)))) (qq_lf 21 (.inl (qo_inc 1 1)))) (qq_br 27 (qq_lf 24 (.inl (qo_g 2))) (qq_lf 27 (.inr (.inr 0)))))))
def tm_82 (w : qS) : Nat → Option qE := (qq_br 74 (qq_br 34 (qq_br 16 (qq_br 5 (qq_br 2 (qq_br 1 (qq_lf 0 (.inl (qo_k 1 1))) (qq_lf 1 (.inl (qo_is 1 1)))) (qq_br 3 (qq_lf 2 (.inl (qo_k 0 1))) (qq_br 4 (qq_lf 3 (.inl (qo_is 2 1))) (qq_lf 4 (.inl (qo_il 2 1)))))) (qq_br 11 (qq_br 8 (qq_lf 5 (.inl (qo_k (iN 592) 3))) (qq_lf 8 (.inl (qo_c (fun x y => y ≤ x) 42)))) (qq_br 12 (qq_lf 11 (.inl (qo_il 1 1))) (qq_br 15 (qq_lf 12 (.inl (qo_z (fun x => x = 0) 34))) (qq_lf 15 (.inl (qo_al 0 1))))))) (qq_br 25 (qq_br 20 (qq_br 19 (qq_lf 16 (.inl (qo_get (gL w) 7 1))) (qq_lf 19 (.inl (qo_il 2 1)))) (qq_br 21 (qq_lf 20 (.inl (qo_ia (gL w)))) (qq_br 22 (qq_lf 21 (.inl (qo_al 0 1))) (qq_lf 22 (.inl (qo_get (gL w) 7 0)))))) (qq_br 27 (qq_br 26 (qq_lf 25 (.inl (qo_il 2 1))) (qq_lf 26 (.inl (qo_ia (gL w))))) (qq_br 30 (qq_lf 27 (.inl (qo_c (fun x y => ¬ x = y) 34))) (qq_br 31 (qq_lf 30 (.inl (qo_k 1 1))) (qq_lf 31 (.inl (qo_g 35)))))))) (qq_br 53 (qq_br 43 (qq_br 36 (qq_br 35 (qq_lf 34 (.inl (qo_k 0 1))) (qq_lf 35 (.inl (qo_is 1 1)))) (qq_br 39 (qq_lf 36 (.inl (qo_inc 2 1))) (qq_br 42 (qq_lf 39 (.inl (qo_g 4))) (qq_lf 42 (.inl (qo_il 1 1)))))) (qq_br 47 (qq_br 46 (qq_lf 43 (.inl (qo_z (fun x => x = 0) 47))) (qq_lf 46 (.inr (.inr 0)))) (qq_br 48 (qq_lf 47 (.inl (qo_al 0 1))) (qq_br 51 (qq_lf 48 (.inl (qo_get (gL w) 7 3))) (qq_lf 51 (.inl (qo_k (iN 16) 2))))))) (qq_br 62 (qq_br 57 (qq_br 56 (qq_lf 53 (.inl (qo_c (fun x y => ¬ x = y) 97))) (qq_lf 56 (.inl (qo_k 0 1)))) (qq_br 58 (qq_lf 57 (.inl (qo_is 2 1))) (qq_br 59 (qq_lf 58 (.inl (qo_il 2 1))) (qq_lf 59 (.inl (qo_k (iN 8880) 3)))))) (qq_br 69 (qq_br 65 (qq_lf 62 (.inl (qo_c (fun x y => y ≤ x) 87))) (qq_br 66 (qq_lf 65 (.inl (qo_al 0 1))) (qq_lf 66 (.inl (qo_get (gL w) 7 2))))) (qq_br 70 (qq_lf 69 (.inl (qo_il 2 1))) (qq_br 71 (qq_lf 70 (.inl (qo_al 0 1))) (qq_lf 71 (.inl (qo_get (gL w) 7 2))))))))) (qq_br 113 (qq_br 92 (qq_br 81 (qq_br 78 (qq_br 75 (qq_lf 74 (.inl (qo_il 2 1))) (qq_lf 75 (.inl (qo_k (iN 592) 3)))) (qq_br 79 (qq_lf 78 (.inl (qo_b (fun x y => x + y)))) (qq_br 80 (qq_lf 79 (.inl (qo_ia (gL w)))) (qq_lf 80 (.inl (qo_ias (gL w))))))) (qq_br 87 (qq_br 84 (qq_lf 81 (.inl (qo_inc 2 1))) (qq_lf 84 (.inl (qo_g 58)))) (qq_br 88 (qq_lf 87 (.inl (qo_al 0 1))) (qq_br 89 (qq_lf 88 (.inl qo_dup)) (qq_lf 89 (.inl (qo_get (gL w) 7 3))))))) (qq_br 99 (qq_br 94 (qq_br 93 (qq_lf 92 (.inl (qo_k 1 1))) (qq_lf 93 (.inl (qo_b (fun x y => x - y))))) (qq_br 97 (qq_lf 94 (.inl (qo_put (gL w) 7 3))) (qq_br 98 (qq_lf 97 (.inl (qo_k 0 1))) (qq_lf 98 (.inl (qo_is 2 1)))))) (qq_br 106 (qq_br 100 (qq_lf 99 (.inl (qo_il 2 1))) (qq_br 103 (qq_lf 100 (.inl (qo_k (iN 592) 3))) (qq_lf 103 (.inl (qo_c (fun x y => y ≤ x) 133))))) (qq_br 107 (qq_lf 106 (.inl (qo_al 0 1))) (qq_br 110 (qq_lf 107 (.inl (qo_get (gL w) 7 2))) (qq_lf 110 (.inl (qo_k (iN 592) 3)))))))) (qq_br 127 (qq_br 120 (qq_br 117 (qq_br 114 (qq_lf 113 (.inl (qo_al 0 1))) (qq_lf 114 (.inl (qo_get (gL w) 7 3)))) (qq_br 118 (qq_lf 117 (.inl (qo_b (fun x y => x * y)))) (qq_br 119 (qq_lf 118 (.inl (qo_il 2 1))) (qq_lf 119 (.inl (qo_b (fun x y => x + y))))))) (qq_br 124 (qq_br 121 (qq_lf 120 (.inl (qo_al 0 1))) (qq_lf 121 (.inl (qo_get (gL w) 7 1)))) (qq_br 125 (qq_lf 124 (.inl (qo_il 2 1))) (qq_br 126 (qq_lf 125 (.inl (qo_ia (gL w)))) (qq_lf 126 (.inl (qo_ias (gL w)))))))) (qq_br 138 (qq_br 133 (qq_br 130 (qq_lf 127 (.inl (qo_inc 2 1))) (qq_lf 130 (.inl (qo_g 99)))) (qq_br 134 (qq_lf 133 (.inl (qo_al 0 1))) (qq_br 135 (qq_lf 134 (.inl qo_dup)) (qq_lf 135 (.inl (qo_get (gL w) 7 3)))))) (qq_br 143 (qq_br 139 (qq_lf 138 (.inl (qo_k 1 1))) (qq_br 140 (qq_lf 139 (.inl (qo_b (fun x y => x + y)))) (qq_lf 140 (.inl (qo_put (gL w) 7 3))))) (qq_br 144 (qq_lf 143 (.inl (qo_al 0 1))) (qq_br 147 (qq_lf 144 (.inr (.inl (80, 1, some 7)))) (qq_lf 147 (.inr (.inr 0))))))))))
def tm_83 (w : qS) : Nat → Option qE := (qq_br 32 (qq_br 15 (qq_br 8 (qq_br 4 (qq_br 1 (qq_lf 0 (.inl (qo_al 0 1))) (qq_lf 1 (.inl (qo_get (gL w) 7 3)))) (qq_br 7 (qq_lf 4 (.inl (qo_z (fun x => ¬ x = 0) 9))) (qq_lf 7 (.inl (qo_k (-1) 1))))) (qq_br 10 (qq_br 9 (qq_lf 8 (.inr (.inr 1))) (qq_lf 9 (.inl (qo_al 0 1)))) (qq_br 11 (qq_lf 10 (.inl qo_dup)) (qq_br 14 (qq_lf 11 (.inl (qo_get (gL w) 7 3))) (qq_lf 14 (.inl (qo_k 1 1))))))) (qq_br 21 (qq_br 19 (qq_br 16 (qq_lf 15 (.inl (qo_b (fun x y => x - y)))) (qq_lf 16 (.inl (qo_put (gL w) 7 3)))) (qq_br 20 (qq_lf 19 (.inl (qo_k 0 1))) (qq_lf 20 (.inl (qo_is 1 1))))) (qq_br 25 (qq_br 22 (qq_lf 21 (.inl (qo_il 1 1))) (qq_lf 22 (.inl (qo_k (iN 592) 3)))) (qq_br 28 (qq_lf 25 (.inl (qo_c (fun x y => y ≤ x) 55))) (qq_br 29 (qq_lf 28 (.inl (qo_al 0 1))) (qq_lf 29 (.inl (qo_get (gL w) 7 0)))))))) (qq_br 47 (qq_br 40 (qq_br 34 (qq_br 33 (qq_lf 32 (.inl (qo_il 1 1))) (qq_lf 33 (.inl (qo_al 0 1)))) (qq_br 37 (qq_lf 34 (.inl (qo_get (gL w) 7 2))) (qq_lf 37 (.inl (qo_k (iN 592) 3))))) (qq_br 44 (qq_br 41 (qq_lf 40 (.inl (qo_al 0 1))) (qq_lf 41 (.inl (qo_get (gL w) 7 3)))) (qq_br 45 (qq_lf 44 (.inl (qo_b (fun x y => x * y)))) (qq_br 46 (qq_lf 45 (.inl (qo_il 1 1))) (qq_lf 46 (.inl (qo_b (fun x y => x + y)))))))) (qq_br 55 (qq_br 49 (qq_br 48 (qq_lf 47 (.inl (qo_ia (gL w)))) (qq_lf 48 (.inl (qo_ias (gL w))))) (qq_br 52 (qq_lf 49 (.inl (qo_inc 1 1))) (qq_lf 52 (.inl (qo_g 21))))) (qq_br 59 (qq_br 56 (qq_lf 55 (.inl (qo_al 0 1))) (qq_lf 56 (.inr (.inl (80, 1, some 7))))) (qq_br 60 (qq_lf 59 (.inl (qo_al 0 1))) (qq_br 63 (qq_lf 60 (.inl (qo_get (gL w) 7 3))) (qq_lf 63 (.inr (.inr 1)))))))))
def tm_84 (w : qS) : Nat → Option qE := (qq_br 10 (qq_br 5 (qq_br 1 (qq_lf 0 (.inl (qo_il 1 1))) (qq_br 4 (qq_lf 1 (.inl (qo_z (fun x => x < 0) 18))) (qq_lf 4 (.inl (qo_il 1 1))))) (qq_br 6 (qq_lf 5 (.inl (qo_al 0 1))) (qq_br 9 (qq_lf 6 (.inl (qo_get (gL w) 7 0))) (qq_lf 9 (.inl (qo_k 0 1)))))) (qq_br 15 (qq_br 11 (qq_lf 10 (.inl (qo_ia (gL w)))) (qq_br 14 (qq_lf 11 (.inl (qo_c (fun x y => y ≤ x) 18))) (qq_lf 14 (.inl (qo_k 1 1))))) (qq_br 18 (qq_lf 15 (.inl (qo_g 19))) (qq_br 19 (qq_lf 18 (.inl (qo_k 0 1))) (qq_lf 19 (.inr (.inr 2)))))))
def tm_85 (w : qS) : Nat → Option qE := (qq_br 8 (qq_br 4 (qq_br 1 (qq_lf 0 (.inl (qo_il 0 1))) (qq_lf 1 (.inl (qo_z (fun x => x < 0) 15)))) (qq_br 5 (qq_lf 4 (.inl (qo_il 0 1))) (qq_lf 5 (.inl (qo_k (iN 240) 3))))) (qq_br 12 (qq_br 11 (qq_lf 8 (.inl (qo_c (fun x y => y ≤ x) 15))) (qq_lf 11 (.inl (qo_k 1 1)))) (qq_br 15 (qq_lf 12 (.inl (qo_g 16))) (qq_br 16 (qq_lf 15 (.inl (qo_k 0 1))) (qq_lf 16 (.inr (.inr 2)))))))
def tm_86 (w : qS) : Nat → Option qE := (qq_br 39 (qq_br 17 (qq_br 9 (qq_br 4 (qq_br 1 (qq_lf 0 (.inl (qo_il 1 1))) (qq_lf 1 (.inl (qo_z (fun x => x < 0) 9)))) (qq_br 5 (qq_lf 4 (.inl (qo_il 1 1))) (qq_br 6 (qq_lf 5 (.inl (qo_k (iN 3) 1))) (qq_lf 6 (.inl (qo_c (fun x y => x ≤ y) 11)))))) (qq_br 12 (qq_br 10 (qq_lf 9 (.inl (qo_k (-1) 1))) (qq_br 11 (qq_lf 10 (.inr (.inr 1))) (qq_lf 11 (.inl (qo_al 0 1))))) (qq_br 15 (qq_lf 12 (.inl (qo_get (gL w) 7 0))) (qq_br 16 (qq_lf 15 (.inl (qo_k 0 1))) (qq_lf 16 (.inl (qo_ia (gL w)))))))) (qq_br 26 (qq_br 22 (qq_br 19 (qq_lf 17 (.inl (qo_k (iN 16) 2))) (qq_lf 19 (.inl (qo_c (fun x y => ¬ x = y) 25)))) (qq_br 24 (qq_lf 22 (.inl (qo_k (-2) 2))) (qq_br 25 (qq_lf 24 (.inr (.inr 1))) (qq_lf 25 (.inl (qo_al 0 1)))))) (qq_br 33 (qq_br 29 (qq_lf 26 (.inr (.inl (81, 1, some 7)))) (qq_br 30 (qq_lf 29 (.inl (qo_al 0 1))) (qq_lf 30 (.inl (qo_get (gL w) 7 0))))) (qq_br 35 (qq_lf 33 (.inl (qo_k (iN 16) 2))) (qq_br 36 (qq_lf 35 (.inl (qo_al 0 1))) (qq_lf 36 (.inl (qo_get (gL w) 7 0)))))))) (qq_br 52 (qq_br 44 (qq_br 41 (qq_br 40 (qq_lf 39 (.inl (qo_k 0 1))) (qq_lf 40 (.inl (qo_ia (gL w))))) (qq_br 42 (qq_lf 41 (.inl (qo_b (fun x y => x + y)))) (qq_br 43 (qq_lf 42 (.inl (qo_il 1 1))) (qq_lf 43 (.inl (qo_ias (gL w))))))) (qq_br 49 (qq_br 45 (qq_lf 44 (.inl (qo_al 0 1))) (qq_br 48 (qq_lf 45 (.inl (qo_get (gL w) 7 0))) (qq_lf 48 (.inl (qo_k 0 1))))) (qq_br 50 (qq_lf 49 (.inl qo_dup2)) (qq_br 51 (qq_lf 50 (.inl (qo_ia (gL w)))) (qq_lf 51 (.inl (qo_k 1 1))))))) (qq_br 59 (qq_br 54 (qq_br 53 (qq_lf 52 (.inl (qo_b (fun x y => x + y)))) (qq_lf 53 (.inl (qo_ias (gL w))))) (qq_br 55 (qq_lf 54 (.inl (qo_al 0 1))) (qq_br 58 (qq_lf 55 (.inr (.inl (82, 1, some 7)))) (qq_lf 58 (.inl (qo_al 0 1)))))) (qq_br 64 (qq_br 62 (qq_lf 59 (.inl (qo_get (gL w) 7 0))) (qq_br 63 (qq_lf 62 (.inl (qo_k 0 1))) (qq_lf 63 (.inl (qo_ia (gL w)))))) (qq_br 65 (qq_lf 64 (.inl (qo_k 1 1))) (qq_br 66 (qq_lf 65 (.inl (qo_b (fun x y => x - y)))) (qq_lf 66 (.inr (.inr 1)))))))))
def tm_87 (w : qS) : Nat → Option qE := (qq_br 56 (qq_br 28 (qq_br 16 (qq_br 8 (qq_br 2 (qq_br 1 (qq_lf 0 (.inl (qo_al 0 1))) (qq_lf 1 (.inl (qo_il 1 1)))) (qq_br 5 (qq_lf 2 (.inr (.inl (84, 2, some 7)))) (qq_lf 5 (.inl (qo_z (fun x => x = 0) 21))))) (qq_br 10 (qq_br 9 (qq_lf 8 (.inl (qo_al 0 1))) (qq_lf 9 (.inl (qo_il 2 1)))) (qq_br 13 (qq_lf 10 (.inr (.inl (84, 2, some 7)))) (qq_lf 13 (.inl (qo_z (fun x => x = 0) 21)))))) (qq_br 22 (qq_br 18 (qq_br 17 (qq_lf 16 (.inl (qo_il 1 1))) (qq_lf 17 (.inl (qo_il 2 1)))) (qq_br 21 (qq_lf 18 (.inl (qo_c (fun x y => ¬ x = y) 23))) (qq_lf 21 (.inl (qo_k (-1) 1))))) (qq_br 24 (qq_br 23 (qq_lf 22 (.inr (.inr 1))) (qq_lf 23 (.inl (qo_al 0 1)))) (qq_br 27 (qq_lf 24 (.inl (qo_get (gL w) 7 0))) (qq_lf 27 (.inl (qo_k 1 1))))))) (qq_br 42 (qq_br 36 (qq_br 31 (qq_br 29 (qq_lf 28 (.inl (qo_ia (gL w)))) (qq_lf 29 (.inl (qo_k (iN 24) 2)))) (qq_br 34 (qq_lf 31 (.inl (qo_c (fun x y => ¬ x = y) 37))) (qq_lf 34 (.inl (qo_k (-2) 2))))) (qq_br 38 (qq_br 37 (qq_lf 36 (.inr (.inr 1))) (qq_lf 37 (.inl (qo_al 0 1)))) (qq_br 41 (qq_lf 38 (.inr (.inl (81, 1, some 7)))) (qq_lf 41 (.inl (qo_al 0 1)))))) (qq_br 49 (qq_br 47 (qq_br 45 (qq_lf 42 (.inl (qo_get (gL w) 7 0))) (qq_lf 45 (.inl (qo_k (iN 64) 2)))) (qq_br 48 (qq_lf 47 (.inl (qo_k (iN 2) 1))) (qq_lf 48 (.inl (qo_al 0 1))))) (qq_br 53 (qq_br 52 (qq_lf 49 (.inl (qo_get (gL w) 7 0))) (qq_lf 52 (.inl (qo_k 1 1)))) (qq_br 54 (qq_lf 53 (.inl (qo_ia (gL w)))) (qq_br 55 (qq_lf 54 (.inl (qo_b (fun x y => x * y)))) (qq_lf 55 (.inl (qo_b (fun x y => x + y)))))))))) (qq_br 77 (qq_br 69 (qq_br 62 (qq_br 58 (qq_br 57 (qq_lf 56 (.inl (qo_il 1 1))) (qq_lf 57 (.inl (qo_ias (gL w))))) (qq_br 59 (qq_lf 58 (.inl (qo_al 0 1))) (qq_lf 59 (.inl (qo_get (gL w) 7 0))))) (qq_br 65 (qq_br 64 (qq_lf 62 (.inl (qo_k (iN 64) 2))) (qq_lf 64 (.inl (qo_k (iN 2) 1)))) (qq_br 66 (qq_lf 65 (.inl (qo_al 0 1))) (qq_lf 66 (.inl (qo_get (gL w) 7 0)))))) (qq_br 73 (qq_br 71 (qq_br 70 (qq_lf 69 (.inl (qo_k 1 1))) (qq_lf 70 (.inl (qo_ia (gL w))))) (qq_br 72 (qq_lf 71 (.inl (qo_b (fun x y => x * y)))) (qq_lf 72 (.inl (qo_b (fun x y => x + y)))))) (qq_br 75 (qq_br 74 (qq_lf 73 (.inl (qo_k 1 1))) (qq_lf 74 (.inl (qo_b (fun x y => x + y))))) (qq_br 76 (qq_lf 75 (.inl (qo_il 2 1))) (qq_lf 76 (.inl (qo_ias (gL w)))))))) (qq_br 87 (qq_br 83 (qq_br 81 (qq_br 78 (qq_lf 77 (.inl (qo_al 0 1))) (qq_lf 78 (.inl (qo_get (gL w) 7 0)))) (qq_br 82 (qq_lf 81 (.inl (qo_k 1 1))) (qq_lf 82 (.inl qo_dup2)))) (qq_br 85 (qq_br 84 (qq_lf 83 (.inl (qo_ia (gL w)))) (qq_lf 84 (.inl (qo_k 1 1)))) (qq_br 86 (qq_lf 85 (.inl (qo_b (fun x y => x + y)))) (qq_lf 86 (.inl (qo_ias (gL w))))))) (qq_br 95 (qq_br 91 (qq_br 88 (qq_lf 87 (.inl (qo_al 0 1))) (qq_lf 88 (.inr (.inl (82, 1, some 7))))) (qq_br 92 (qq_lf 91 (.inl (qo_al 0 1))) (qq_lf 92 (.inl (qo_get (gL w) 7 0))))) (qq_br 97 (qq_br 96 (qq_lf 95 (.inl (qo_k 1 1))) (qq_lf 96 (.inl (qo_ia (gL w))))) (qq_br 98 (qq_lf 97 (.inl (qo_k 1 1))) (qq_br 99 (qq_lf 98 (.inl (qo_b (fun x y => x - y)))) (qq_lf 99 (.inr (.inr 1))))))))))
def tm_88 (w : qS) : Nat → Option qE := (qq_br 60 (qq_br 30 (qq_br 16 (qq_br 9 (qq_br 4 (qq_br 1 (qq_lf 0 (.inl (qo_il 1 1))) (qq_lf 1 (.inl (qo_z (fun x => x < 0) 14)))) (qq_br 5 (qq_lf 4 (.inl (qo_il 1 1))) (qq_br 6 (qq_lf 5 (.inl (qo_al 0 1))) (qq_lf 6 (.inl (qo_get (gL w) 7 0)))))) (qq_br 11 (qq_br 10 (qq_lf 9 (.inl (qo_k 1 1))) (qq_lf 10 (.inl (qo_ia (gL w))))) (qq_br 14 (qq_lf 11 (.inl (qo_c (fun x y => x < y) 16))) (qq_br 15 (qq_lf 14 (.inl (qo_k (-1) 1))) (qq_lf 15 (.inr (.inr 1))))))) (qq_br 25 (qq_br 20 (qq_br 17 (qq_lf 16 (.inl (qo_al 0 1))) (qq_lf 17 (.inr (.inl (81, 1, some 7))))) (qq_br 21 (qq_lf 20 (.inl (qo_al 0 1))) (qq_br 24 (qq_lf 21 (.inl (qo_get (gL w) 7 0))) (qq_lf 24 (.inl (qo_k 1 1)))))) (qq_br 27 (qq_br 26 (qq_lf 25 (.inl qo_dup2)) (qq_lf 26 (.inl (qo_ia (gL w))))) (qq_br 28 (qq_lf 27 (.inl (qo_k 1 1))) (qq_br 29 (qq_lf 28 (.inl (qo_b (fun x y => x - y)))) (qq_lf 29 (.inl (qo_ias (gL w))))))))) (qq_br 42 (qq_br 35 (qq_br 32 (qq_br 31 (qq_lf 30 (.inl (qo_k (iN 2) 1))) (qq_lf 31 (.inl (qo_il 1 1)))) (qq_br 33 (qq_lf 32 (.inl (qo_b (fun x y => x * y)))) (qq_br 34 (qq_lf 33 (.inl (qo_is 2 1))) (qq_lf 34 (.inl (qo_il 2 1)))))) (qq_br 37 (qq_br 36 (qq_lf 35 (.inl (qo_k (iN 2) 1))) (qq_lf 36 (.inl (qo_al 0 1)))) (qq_br 40 (qq_lf 37 (.inl (qo_get (gL w) 7 0))) (qq_br 41 (qq_lf 40 (.inl (qo_k 1 1))) (qq_lf 41 (.inl (qo_ia (gL w)))))))) (qq_br 52 (qq_br 46 (qq_br 43 (qq_lf 42 (.inl (qo_b (fun x y => x * y)))) (qq_lf 43 (.inl (qo_c (fun x y => y ≤ x) 72)))) (qq_br 47 (qq_lf 46 (.inl (qo_al 0 1))) (qq_br 50 (qq_lf 47 (.inl (qo_get (gL w) 7 0))) (qq_lf 50 (.inl (qo_k (iN 64) 2)))))) (qq_br 54 (qq_br 53 (qq_lf 52 (.inl (qo_il 2 1))) (qq_lf 53 (.inl (qo_b (fun x y => x + y))))) (qq_br 55 (qq_lf 54 (.inl (qo_al 0 1))) (qq_br 58 (qq_lf 55 (.inl (qo_get (gL w) 7 0))) (qq_lf 58 (.inl (qo_k (iN 64) 2))))))))) (qq_br 89 (qq_br 76 (qq_br 65 (qq_br 62 (qq_br 61 (qq_lf 60 (.inl (qo_il 2 1))) (qq_lf 61 (.inl (qo_b (fun x y => x + y))))) (qq_br 63 (qq_lf 62 (.inl (qo_k (iN 2) 1))) (qq_br 64 (qq_lf 63 (.inl (qo_b (fun x y => x + y)))) (qq_lf 64 (.inl (qo_ia (gL w))))))) (qq_br 69 (qq_br 66 (qq_lf 65 (.inl (qo_ias (gL w)))) (qq_lf 66 (.inl (qo_inc 2 1)))) (qq_br 72 (qq_lf 69 (.inl (qo_g 34))) (qq_br 73 (qq_lf 72 (.inl (qo_al 0 1))) (qq_lf 73 (.inl (qo_get (gL w) 7 0))))))) (qq_br 84 (qq_br 79 (qq_br 78 (qq_lf 76 (.inl (qo_k (iN 64) 2))) (qq_lf 78 (.inl (qo_k (iN 2) 1)))) (qq_br 80 (qq_lf 79 (.inl (qo_al 0 1))) (qq_br 83 (qq_lf 80 (.inl (qo_get (gL w) 7 0))) (qq_lf 83 (.inl (qo_k 1 1)))))) (qq_br 86 (qq_br 85 (qq_lf 84 (.inl (qo_ia (gL w)))) (qq_lf 85 (.inl (qo_b (fun x y => x * y))))) (qq_br 87 (qq_lf 86 (.inl (qo_b (fun x y => x + y)))) (qq_br 88 (qq_lf 87 (.inl (qo_k 0 1))) (qq_lf 88 (.inl (qo_ias (gL w))))))))) (qq_br 104 (qq_br 97 (qq_br 93 (qq_br 90 (qq_lf 89 (.inl (qo_al 0 1))) (qq_lf 90 (.inl (qo_get (gL w) 7 0)))) (qq_br 95 (qq_lf 93 (.inl (qo_k (iN 64) 2))) (qq_br 96 (qq_lf 95 (.inl (qo_k (iN 2) 1))) (qq_lf 96 (.inl (qo_al 0 1)))))) (qq_br 101 (qq_br 100 (qq_lf 97 (.inl (qo_get (gL w) 7 0))) (qq_lf 100 (.inl (qo_k 1 1)))) (qq_br 102 (qq_lf 101 (.inl (qo_ia (gL w)))) (qq_br 103 (qq_lf 102 (.inl (qo_b (fun x y => x * y)))) (qq_lf 103 (.inl (qo_b (fun x y => x + y)))))))) (qq_br 109 (qq_br 106 (qq_br 105 (qq_lf 104 (.inl (qo_k 1 1))) (qq_lf 105 (.inl (qo_b (fun x y => x + y))))) (qq_br 107 (qq_lf 106 (.inl (qo_k 0 1))) (qq_br 108 (qq_lf 107 (.inl (qo_ias (gL w)))) (qq_lf 108 (.inl (qo_al 0 1)))))) (qq_br 116 (qq_br 112 (qq_lf 109 (.inr (.inl (82, 1, some 7)))) (qq_br 113 (qq_lf 112 (.inl (qo_al 0 1))) (qq_lf 113 (.inl (qo_get (gL w) 7 0))))) (qq_br 117 (qq_lf 116 (.inl (qo_k 1 1))) (qq_br 118 (qq_lf 117 (.inl (qo_ia (gL w)))) (qq_lf 118 (.inr (.inr 1))))))))))
def tm_89 (w : qS) : Nat → Option qE := (qq_br 9 (qq_br 2 (qq_br 1 (qq_lf 0 (.inl (qo_al 0 1))) (qq_lf 1 (.inl (qo_il 1 1)))) (qq_br 5 (qq_lf 2 (.inr (.inl (84, 2, some 7)))) (qq_br 8 (qq_lf 5 (.inl (qo_z (fun x => x = 0) 17))) (qq_lf 8 (.inl (qo_al 0 1)))))) (qq_br 14 (qq_br 12 (qq_lf 9 (.inl (qo_get (gL w) 7 4))) (qq_br 13 (qq_lf 12 (.inl (qo_il 1 1))) (qq_lf 13 (.inl (qo_ia (gL w)))))) (qq_br 17 (qq_lf 14 (.inl (qo_g 18))) (qq_br 18 (qq_lf 17 (.inl (qo_k (-1) 1))) (qq_lf 18 (.inr (.inr 1)))))))
def tm_90 (w : qS) : Nat → Option qE := (qq_br 28 (qq_br 12 (qq_br 5 (qq_br 2 (qq_br 1 (qq_lf 0 (.inl (qo_k 0 1))) (qq_lf 1 (.inl (qo_is 3 1)))) (qq_br 3 (qq_lf 2 (.inl (qo_k 0 1))) (qq_lf 3 (.inl (qo_is 4 2))))) (qq_br 8 (qq_br 7 (qq_lf 5 (.inl (qo_il 4 2))) (qq_lf 7 (.inl (qo_al 0 1)))) (qq_br 11 (qq_lf 8 (.inl (qo_get (gL w) 7 0))) (qq_lf 11 (.inl (qo_k 0 1)))))) (qq_br 20 (qq_br 16 (qq_br 13 (qq_lf 12 (.inl (qo_ia (gL w)))) (qq_lf 13 (.inl (qo_c (fun x y => y ≤ x) 55)))) (qq_br 17 (qq_lf 16 (.inl (qo_al 0 1))) (qq_lf 17 (.inl (qo_get (gL w) 7 4))))) (qq_br 23 (qq_br 22 (qq_lf 20 (.inl (qo_il 4 2))) (qq_lf 22 (.inl (qo_ia (gL w))))) (qq_br 24 (qq_lf 23 (.inl (qo_il 1 1))) (qq_br 27 (qq_lf 24 (.inl (qo_c (fun x y => ¬ x = y) 47))) (qq_lf 27 (.inl (qo_al 0 1)))))))) (qq_br 42 (qq_br 36 (qq_br 33 (qq_br 31 (qq_lf 28 (.inl (qo_get (gL w) 7 0))) (qq_lf 31 (.inl (qo_k (iN 16) 2)))) (qq_br 35 (qq_lf 33 (.inl (qo_il 4 2))) (qq_lf 35 (.inl (qo_b (fun x y => x + y)))))) (qq_br 38 (qq_br 37 (qq_lf 36 (.inl (qo_ia (gL w)))) (qq_lf 37 (.inl (qo_il 2 1)))) (qq_br 41 (qq_lf 38 (.inl (qo_c (fun x y => ¬ x = y) 47))) (qq_lf 41 (.inl (qo_il 3 1)))))) (qq_br 48 (qq_br 44 (qq_br 43 (qq_lf 42 (.inl (qo_k 1 1))) (qq_lf 43 (.inl (qo_b (fun x y => x + y))))) (qq_br 47 (qq_lf 44 (.inl (qo_g 48))) (qq_lf 47 (.inl (qo_il 3 1))))) (qq_br 52 (qq_br 49 (qq_lf 48 (.inl (qo_is 3 1))) (qq_lf 49 (.inl (qo_inc 4 1)))) (qq_br 55 (qq_lf 52 (.inl (qo_g 5))) (qq_br 56 (qq_lf 55 (.inl (qo_il 3 1))) (qq_lf 56 (.inr (.inr 1)))))))))
def tm_91 (w : qS) : Nat → Option qE := (qq_br 71 (qq_br 32 (qq_br 14 (qq_br 9 (qq_br 4 (qq_br 1 (qq_lf 0 (.inl (qo_il 2 1))) (qq_lf 1 (.inl (qo_z (fun x => x < 0) 9)))) (qq_br 5 (qq_lf 4 (.inl (qo_il 2 1))) (qq_br 6 (qq_lf 5 (.inl (qo_k 1 1))) (qq_lf 6 (.inl (qo_c (fun x y => x ≤ y) 11)))))) (qq_br 11 (qq_br 10 (qq_lf 9 (.inl (qo_k (-1) 1))) (qq_lf 10 (.inr (.inr 1)))) (qq_br 12 (qq_lf 11 (.inl (qo_k 0 1))) (qq_br 13 (qq_lf 12 (.inl (qo_is 3 1))) (qq_lf 13 (.inl (qo_k 0 1))))))) (qq_br 23 (qq_br 18 (qq_br 16 (qq_lf 14 (.inl (qo_is 4 2))) (qq_lf 16 (.inl (qo_il 4 2)))) (qq_br 19 (qq_lf 18 (.inl (qo_al 0 1))) (qq_br 22 (qq_lf 19 (.inl (qo_get (gL w) 7 0))) (qq_lf 22 (.inl (qo_k 0 1)))))) (qq_br 27 (qq_br 24 (qq_lf 23 (.inl (qo_ia (gL w)))) (qq_lf 24 (.inl (qo_c (fun x y => y ≤ x) 151)))) (qq_br 28 (qq_lf 27 (.inl (qo_k 1 1))) (qq_br 30 (qq_lf 28 (.inl (qo_is 5 2))) (qq_lf 30 (.inl (qo_il 5 2)))))))) (qq_br 51 (qq_br 40 (qq_br 36 (qq_br 33 (qq_lf 32 (.inl (qo_k (iN 2) 1))) (qq_lf 33 (.inl (qo_c (fun x y => y < x) 145)))) (qq_br 37 (qq_lf 36 (.inl (qo_al 0 1))) (qq_br 39 (qq_lf 37 (.inl (qo_il 4 2))) (qq_lf 39 (.inl (qo_k 1 1)))))) (qq_br 44 (qq_br 43 (qq_lf 40 (.inr (.inl (90, 3, some 7)))) (qq_lf 43 (.inl (qo_k 1 1)))) (qq_br 47 (qq_lf 44 (.inl (qo_c (fun x y => x ≤ y) 51))) (qq_br 48 (qq_lf 47 (.inl (qo_k 1 1))) (qq_lf 48 (.inl (qo_g 52))))))) (qq_br 58 (qq_br 54 (qq_br 52 (qq_lf 51 (.inl (qo_k 0 1))) (qq_lf 52 (.inl (qo_is 6 2)))) (qq_br 55 (qq_lf 54 (.inl (qo_al 0 1))) (qq_br 57 (qq_lf 55 (.inl (qo_il 4 2))) (qq_lf 57 (.inl (qo_k 0 1)))))) (qq_br 65 (qq_br 61 (qq_lf 58 (.inr (.inl (90, 3, some 7)))) (qq_br 64 (qq_lf 61 (.inl (qo_z (fun x => x ≤ 0) 86))) (qq_lf 64 (.inl (qo_al 0 1))))) (qq_br 67 (qq_lf 65 (.inl (qo_il 4 2))) (qq_br 68 (qq_lf 67 (.inl (qo_k 1 1))) (qq_lf 68 (.inr (.inl (90, 3, some 7)))))))))) (qq_br 111 (qq_br 89 (qq_br 79 (qq_br 74 (qq_br 72 (qq_lf 71 (.inl (qo_al 0 1))) (qq_lf 72 (.inl (qo_il 4 2)))) (qq_br 75 (qq_lf 74 (.inl (qo_k (iN 3) 1))) (qq_br 78 (qq_lf 75 (.inr (.inl (90, 3, some 7)))) (qq_lf 78 (.inl (qo_b (fun x y => x + y))))))) (qq_br 83 (qq_br 82 (qq_lf 79 (.inl (qo_z (fun x => ¬ x = 0) 86))) (qq_lf 82 (.inl (qo_k 1 1)))) (qq_br 86 (qq_lf 83 (.inl (qo_g 87))) (qq_br 87 (qq_lf 86 (.inl (qo_k 0 1))) (qq_lf 87 (.inl (qo_is 7 2))))))) (qq_br 100 (qq_br 92 (qq_br 91 (qq_lf 89 (.inl (qo_il 5 2))) (qq_lf 91 (.inl (qo_k 1 1)))) (qq_br 95 (qq_lf 92 (.inl (qo_c (fun x y => ¬ x = y) 100))) (qq_br 97 (qq_lf 95 (.inl (qo_il 6 2))) (qq_lf 97 (.inl (qo_g 102)))))) (qq_br 106 (qq_br 102 (qq_lf 100 (.inl (qo_il 7 2))) (qq_br 104 (qq_lf 102 (.inl (qo_is 8 2))) (qq_lf 104 (.inl (qo_il 8 2))))) (qq_br 109 (qq_lf 106 (.inl (qo_z (fun x => x = 0) 126))) (qq_br 110 (qq_lf 109 (.inl (qo_il 3 1))) (qq_lf 110 (.inl (qo_il 1 1)))))))) (qq_br 132 (qq_br 123 (qq_br 115 (qq_br 114 (qq_lf 111 (.inl (qo_c (fun x y => ¬ x = y) 126))) (qq_lf 114 (.inl (qo_il 2 1)))) (qq_br 118 (qq_lf 115 (.inl (qo_z (fun x => ¬ x = 0) 123))) (qq_br 120 (qq_lf 118 (.inl (qo_il 5 2))) (qq_lf 120 (.inl (qo_g 125)))))) (qq_br 126 (qq_br 125 (qq_lf 123 (.inl (qo_il 4 2))) (qq_lf 125 (.inr (.inr 1)))) (qq_br 128 (qq_lf 126 (.inl (qo_il 8 2))) (qq_br 131 (qq_lf 128 (.inl (qo_z (fun x => x = 0) 137))) (qq_lf 131 (.inl (qo_il 3 1))))))) (qq_br 139 (qq_br 134 (qq_br 133 (qq_lf 132 (.inl (qo_k 1 1))) (qq_lf 133 (.inl (qo_b (fun x y => x + y))))) (qq_br 137 (qq_lf 134 (.inl (qo_g 138))) (qq_br 138 (qq_lf 137 (.inl (qo_il 3 1))) (qq_lf 138 (.inl (qo_is 3 1)))))) (qq_br 148 (qq_br 142 (qq_lf 139 (.inl (qo_inc 5 1))) (qq_br 145 (qq_lf 142 (.inl (qo_g 30))) (qq_lf 145 (.inl (qo_inc 4 1))))) (qq_br 151 (qq_lf 148 (.inl (qo_g 16))) (qq_br 152 (qq_lf 151 (.inl (qo_k (-1) 1))) (qq_lf 152 (.inr (.inr 1))))))))))
def tm_92 (w : qS) : Nat → Option qE := (qq_br 80 (qq_br 35 (qq_br 16 (qq_br 7 (qq_br 3 (qq_br 1 (qq_lf 0 (.inl (qo_il 1 1))) (qq_lf 1 (.inl (qo_k (iN 12) 2)))) (qq_br 4 (qq_lf 3 (.inl (qo_d (fun x y => x - x / y * y)))) (qq_br 6 (qq_lf 4 (.inl (qo_is 4 2))) (qq_lf 6 (.inl (qo_il 1 1)))))) (qq_br 12 (qq_br 9 (qq_lf 7 (.inl (qo_k (iN 120) 2))) (qq_br 10 (qq_lf 9 (.inl (qo_d (fun x y => x - x / y * y)))) (qq_lf 10 (.inl (qo_k (iN 12) 2))))) (qq_br 13 (qq_lf 12 (.inl (qo_d (fun x y => x / y)))) (qq_br 15 (qq_lf 13 (.inl (qo_is 5 2))) (qq_lf 15 (.inl (qo_k 0 1))))))) (qq_br 25 (qq_br 22 (qq_br 18 (qq_lf 16 (.inl (qo_is 6 2))) (qq_br 19 (qq_lf 18 (.inl (qo_al 0 1))) (qq_lf 19 (.inl (qo_get (gL w) 7 0))))) (qq_br 23 (qq_lf 22 (.inl (qo_k (iN 2) 1))) (qq_br 24 (qq_lf 23 (.inl (qo_ia (gL w)))) (qq_lf 24 (.inl (qo_u (fun x => -x))))))) (qq_br 30 (qq_br 27 (qq_lf 25 (.inl (qo_is 7 2))) (qq_br 29 (qq_lf 27 (.inl (qo_il 7 2))) (qq_lf 29 (.inl (qo_al 0 1))))) (qq_br 33 (qq_lf 30 (.inl (qo_get (gL w) 7 0))) (qq_br 34 (qq_lf 33 (.inl (qo_k (iN 2) 1))) (qq_lf 34 (.inl (qo_ia (gL w))))))))) (qq_br 55 (qq_br 45 (qq_br 42 (qq_br 38 (qq_lf 35 (.inl (qo_c (fun x y => y < x) 171))) (qq_br 39 (qq_lf 38 (.inl (qo_al 0 1))) (qq_lf 39 (.inl (qo_get (gL w) 7 0))))) (qq_br 43 (qq_lf 42 (.inl (qo_k (iN 2) 1))) (qq_br 44 (qq_lf 43 (.inl (qo_ia (gL w)))) (qq_lf 44 (.inl (qo_u (fun x => -x))))))) (qq_br 50 (qq_br 47 (qq_lf 45 (.inl (qo_is 8 2))) (qq_br 49 (qq_lf 47 (.inl (qo_il 8 2))) (qq_lf 49 (.inl (qo_al 0 1))))) (qq_br 53 (qq_lf 50 (.inl (qo_get (gL w) 7 0))) (qq_br 54 (qq_lf 53 (.inl (qo_k (iN 2) 1))) (qq_lf 54 (.inl (qo_ia (gL w)))))))) (qq_br 68 (qq_br 62 (qq_br 58 (qq_lf 55 (.inl (qo_c (fun x y => y < x) 165))) (qq_br 60 (qq_lf 58 (.inl (qo_il 4 2))) (qq_lf 60 (.inl (qo_il 8 2))))) (qq_br 63 (qq_lf 62 (.inl (qo_b (fun x y => x + y)))) (qq_br 66 (qq_lf 63 (.inl (qo_z (fun x => x < 0) 98))) (qq_lf 66 (.inl (qo_il 4 2)))))) (qq_br 73 (qq_br 70 (qq_lf 68 (.inl (qo_il 8 2))) (qq_br 71 (qq_lf 70 (.inl (qo_b (fun x y => x + y)))) (qq_lf 71 (.inl (qo_k (iN 12) 2))))) (qq_br 76 (qq_lf 73 (.inl (qo_c (fun x y => y ≤ x) 98))) (qq_br 78 (qq_lf 76 (.inl (qo_il 5 2))) (qq_lf 78 (.inl (qo_il 7 2))))))))) (qq_br 124 (qq_br 103 (qq_br 91 (qq_br 86 (qq_br 81 (qq_lf 80 (.inl (qo_b (fun x y => x + y)))) (qq_br 84 (qq_lf 81 (.inl (qo_z (fun x => x < 0) 98))) (qq_lf 84 (.inl (qo_il 5 2))))) (qq_br 88 (qq_lf 86 (.inl (qo_il 7 2))) (qq_br 89 (qq_lf 88 (.inl (qo_b (fun x y => x + y)))) (qq_lf 89 (.inl (qo_k (iN 10) 2)))))) (qq_br 98 (qq_br 94 (qq_lf 91 (.inl (qo_c (fun x y => y ≤ x) 98))) (qq_br 95 (qq_lf 94 (.inl (qo_k 1 1))) (qq_lf 95 (.inl (qo_g 99))))) (qq_br 99 (qq_lf 98 (.inl (qo_k 0 1))) (qq_br 101 (qq_lf 99 (.inl (qo_is 9 2))) (qq_lf 101 (.inl (qo_il 9 2))))))) (qq_br 115 (qq_br 110 (qq_br 106 (qq_lf 103 (.inl (qo_z (fun x => x = 0) 124))) (qq_br 107 (qq_lf 106 (.inl (qo_al 0 1))) (qq_lf 107 (.inl (qo_get (gL w) 7 6))))) (qq_br 111 (qq_lf 110 (.inl (qo_il 1 1))) (qq_br 113 (qq_lf 111 (.inl (qo_k (iN 12) 2))) (qq_lf 113 (.inl (qo_il 7 2)))))) (qq_br 119 (qq_br 116 (qq_lf 115 (.inl (qo_b (fun x y => x * y)))) (qq_br 117 (qq_lf 116 (.inl (qo_b (fun x y => x + y)))) (qq_lf 117 (.inl (qo_il 8 2))))) (qq_br 120 (qq_lf 119 (.inl (qo_b (fun x y => x + y)))) (qq_br 121 (qq_lf 120 (.inl (qo_ia (gL w)))) (qq_lf 121 (.inl (qo_g 125)))))))) (qq_br 148 (qq_br 137 (qq_br 129 (qq_br 125 (qq_lf 124 (.inl (qo_k (-1) 1))) (qq_br 127 (qq_lf 125 (.inl (qo_is 10 2))) (qq_lf 127 (.inl (qo_il 6 2))))) (qq_br 132 (qq_lf 129 (.inl (qo_z (fun x => ¬ x = 0) 152))) (qq_br 134 (qq_lf 132 (.inl (qo_il 10 2))) (qq_lf 134 (.inl (qo_z (fun x => x < 0) 156)))))) (qq_br 143 (qq_br 139 (qq_lf 137 (.inl (qo_il 10 2))) (qq_br 140 (qq_lf 139 (.inl (qo_il 2 1))) (qq_lf 140 (.inl (qo_c (fun x y => ¬ x = y) 147))))) (qq_br 144 (qq_lf 143 (.inl (qo_k 1 1))) (qq_br 147 (qq_lf 144 (.inl (qo_g 148))) (qq_lf 147 (.inl (qo_k 0 1))))))) (qq_br 159 (qq_br 153 (qq_br 149 (qq_lf 148 (.inl (qo_il 3 1))) (qq_br 152 (qq_lf 149 (.inl (qo_c (fun x y => ¬ x = y) 156))) (qq_lf 152 (.inl (qo_k 1 1))))) (qq_br 156 (qq_lf 153 (.inl (qo_g 157))) (qq_br 157 (qq_lf 156 (.inl (qo_k 0 1))) (qq_lf 157 (.inl (qo_is 6 2)))))) (qq_br 168 (qq_br 162 (qq_lf 159 (.inl (qo_inc 8 1))) (qq_br 165 (qq_lf 162 (.inl (qo_g 47))) (qq_lf 165 (.inl (qo_inc 7 1))))) (qq_br 171 (qq_lf 168 (.inl (qo_g 27))) (qq_br 173 (qq_lf 171 (.inl (qo_il 6 2))) (qq_lf 173 (.inr (.inr 2))))))))))
def tm_93 (w : qS) : Nat → Option qE := (qq_br 13 (qq_br 7 (qq_br 4 (qq_br 1 (qq_lf 0 (.inl (qo_al 0 1))) (qq_lf 1 (.inl (qo_get (gL w) 7 0)))) (qq_br 6 (qq_lf 4 (.inl (qo_k (iN 112) 2))) (qq_lf 6 (.inl (qo_il 1 1))))) (qq_br 9 (qq_br 8 (qq_lf 7 (.inl (qo_b (fun x y => x + y)))) (qq_lf 8 (.inl (qo_ia (gL w))))) (qq_br 12 (qq_lf 9 (.inl (qo_z (fun x => ¬ x = 0) 26))) (qq_lf 12 (.inl (qo_al 0 1)))))) (qq_br 19 (qq_br 15 (qq_br 14 (qq_lf 13 (.inl (qo_il 1 1))) (qq_lf 14 (.inl (qo_il 2 1)))) (qq_br 16 (qq_lf 15 (.inl (qo_k 0 1))) (qq_lf 16 (.inr (.inl (92, 4, some 7)))))) (qq_br 23 (qq_br 22 (qq_lf 19 (.inl (qo_z (fun x => ¬ x = 0) 26))) (qq_lf 22 (.inl (qo_k 1 1)))) (qq_br 26 (qq_lf 23 (.inl (qo_g 27))) (qq_br 27 (qq_lf 26 (.inl (qo_k 0 1))) (qq_lf 27 (.inr (.inr 2))))))))
def tm_94 (w : qS) : Nat → Option qE := (qq_br 91 (qq_br 49 (qq_br 25 (qq_br 12 (qq_br 5 (qq_br 1 (qq_lf 0 (.inl (qo_al 0 1))) (qq_br 2 (qq_lf 1 (.inl (qo_il 1 1))) (qq_lf 2 (.inr (.inl (84, 2, some 7)))))) (qq_br 8 (qq_lf 5 (.inl (qo_z (fun x => x = 0) 52))) (qq_br 9 (qq_lf 8 (.inl (qo_il 2 1))) (qq_lf 9 (.inl (qo_z (fun x => x < 0) 52)))))) (qq_br 18 (qq_br 13 (qq_lf 12 (.inl (qo_il 2 1))) (qq_br 15 (qq_lf 13 (.inl (qo_k (iN 11) 2))) (qq_lf 15 (.inl (qo_c (fun x y => y < x) 52))))) (qq_br 22 (qq_br 19 (qq_lf 18 (.inl (qo_il 3 1))) (qq_lf 19 (.inl (qo_z (fun x => x < 0) 52)))) (qq_br 23 (qq_lf 22 (.inl (qo_il 3 1))) (qq_lf 23 (.inl (qo_k (iN 9) 2))))))) (qq_br 37 (qq_br 31 (qq_br 28 (qq_lf 25 (.inl (qo_c (fun x y => y < x) 52))) (qq_br 30 (qq_lf 28 (.inl (qo_il 4 2))) (qq_lf 30 (.inl (qo_k 1 1))))) (qq_br 34 (qq_lf 31 (.inl (qo_c (fun x y => x < y) 52))) (qq_br 36 (qq_lf 34 (.inl (qo_il 4 2))) (qq_lf 36 (.inl (qo_k (iN 3) 1)))))) (qq_br 44 (qq_br 40 (qq_lf 37 (.inl (qo_c (fun x y => y < x) 52))) (qq_br 41 (qq_lf 40 (.inl (qo_al 0 1))) (qq_lf 41 (.inl (qo_get (gL w) 7 0))))) (qq_br 47 (qq_br 46 (qq_lf 44 (.inl (qo_k (iN 32) 2))) (qq_lf 46 (.inl (qo_il 1 1)))) (qq_br 48 (qq_lf 47 (.inl (qo_b (fun x y => x + y)))) (qq_lf 48 (.inl (qo_ia (gL w))))))))) (qq_br 71 (qq_br 58 (qq_br 54 (qq_br 52 (qq_lf 49 (.inl (qo_z (fun x => x ≤ 0) 54))) (qq_br 53 (qq_lf 52 (.inl (qo_k 0 1))) (qq_lf 53 (.inr (.inr 2))))) (qq_br 55 (qq_lf 54 (.inl (qo_k 1 1))) (qq_br 57 (qq_lf 55 (.inl (qo_is 5 2))) (qq_lf 57 (.inl (qo_k 0 1)))))) (qq_br 63 (qq_br 60 (qq_lf 58 (.inl (qo_is 6 2))) (qq_br 62 (qq_lf 60 (.inl (qo_il 6 2))) (qq_lf 62 (.inl (qo_k (iN 2) 1))))) (qq_br 68 (qq_br 66 (qq_lf 63 (.inl (qo_c (fun x y => y ≤ x) 147))) (qq_lf 66 (.inl (qo_k (iN 120) 2)))) (qq_br 70 (qq_lf 68 (.inl (qo_il 6 2))) (qq_lf 70 (.inl (qo_b (fun x y => x * y)))))))) (qq_br 78 (qq_br 75 (qq_br 73 (qq_lf 71 (.inl (qo_k (iN 12) 2))) (qq_br 74 (qq_lf 73 (.inl (qo_il 3 1))) (qq_lf 74 (.inl (qo_b (fun x y => x * y)))))) (qq_br 76 (qq_lf 75 (.inl (qo_b (fun x y => x + y)))) (qq_br 77 (qq_lf 76 (.inl (qo_il 2 1))) (qq_lf 77 (.inl (qo_b (fun x y => x + y))))))) (qq_br 85 (qq_br 80 (qq_lf 78 (.inl (qo_is 7 2))) (qq_br 82 (qq_lf 80 (.inl (qo_il 5 2))) (qq_lf 82 (.inl (qo_z (fun x => x = 0) 138))))) (qq_br 89 (qq_br 87 (qq_lf 85 (.inl (qo_il 4 2))) (qq_lf 87 (.inl (qo_il 6 2)))) (qq_br 90 (qq_lf 89 (.inl (qo_b (fun x y => x >>> (y &&& 31))))) (qq_lf 90 (.inl (qo_k 1 1))))))))) (qq_br 141 (qq_br 116 (qq_br 102 (qq_br 96 (qq_br 92 (qq_lf 91 (.inl (qo_b (fun x y => x &&& y)))) (qq_br 95 (qq_lf 92 (.inl (qo_z (fun x => x = 0) 134))) (qq_lf 95 (.inl (qo_al 0 1))))) (qq_br 99 (qq_lf 96 (.inl (qo_get (gL w) 7 5))) (qq_br 101 (qq_lf 99 (.inl (qo_il 7 2))) (qq_lf 101 (.inl (qo_ia (gL w))))))) (qq_br 109 (qq_br 105 (qq_lf 102 (.inl (qo_z (fun x => 0 ≤ x) 138))) (qq_br 106 (qq_lf 105 (.inl (qo_al 0 1))) (qq_lf 106 (.inl (qo_get (gL w) 7 0))))) (qq_br 114 (qq_br 112 (qq_lf 109 (.inl (qo_k (iN 352) 3))) (qq_lf 112 (.inl (qo_il 7 2)))) (qq_br 115 (qq_lf 114 (.inl (qo_b (fun x y => x + y)))) (qq_lf 115 (.inl (qo_ia (gL w)))))))) (qq_br 127 (qq_br 122 (qq_br 119 (qq_lf 116 (.inl (qo_z (fun x => ¬ x = 0) 138))) (qq_br 120 (qq_lf 119 (.inl (qo_al 0 1))) (qq_lf 120 (.inl (qo_il 7 2))))) (qq_br 123 (qq_lf 122 (.inl (qo_al 0 1))) (qq_br 126 (qq_lf 123 (.inl (qo_get (gL w) 7 4))) (qq_lf 126 (.inl (qo_il 1 1)))))) (qq_br 134 (qq_br 128 (qq_lf 127 (.inl (qo_ia (gL w)))) (qq_br 131 (qq_lf 128 (.inr (.inl (93, 3, some 7)))) (qq_lf 131 (.inl (qo_z (fun x => x = 0) 138))))) (qq_br 138 (qq_br 135 (qq_lf 134 (.inl (qo_k 1 1))) (qq_lf 135 (.inl (qo_g 139)))) (qq_br 139 (qq_lf 138 (.inl (qo_k 0 1))) (qq_lf 139 (.inl (qo_is 5 2)))))))) (qq_br 166 (qq_br 154 (qq_br 149 (qq_br 144 (qq_lf 141 (.inl (qo_inc 6 1))) (qq_br 147 (qq_lf 144 (.inl (qo_g 60))) (qq_lf 147 (.inl (qo_il 5 2))))) (qq_br 152 (qq_lf 149 (.inl (qo_z (fun x => ¬ x = 0) 154))) (qq_br 153 (qq_lf 152 (.inl (qo_k 0 1))) (qq_lf 153 (.inr (.inr 2)))))) (qq_br 159 (qq_br 155 (qq_lf 154 (.inl (qo_al 0 1))) (qq_br 158 (qq_lf 155 (.inr (.inl (81, 1, some 7)))) (qq_lf 158 (.inl (qo_al 0 1))))) (qq_br 164 (qq_br 162 (qq_lf 159 (.inl (qo_get (gL w) 7 0))) (qq_lf 162 (.inl (qo_k (iN 32) 2)))) (qq_br 165 (qq_lf 164 (.inl (qo_il 1 1))) (qq_lf 165 (.inl (qo_b (fun x y => x + y)))))))) (qq_br 176 (qq_br 171 (qq_br 168 (qq_lf 166 (.inl (qo_k (iN 120) 2))) (qq_br 170 (qq_lf 168 (.inl (qo_il 4 2))) (qq_lf 170 (.inl (qo_b (fun x y => x * y)))))) (qq_br 174 (qq_br 173 (qq_lf 171 (.inl (qo_k (iN 12) 2))) (qq_lf 173 (.inl (qo_il 3 1)))) (qq_br 175 (qq_lf 174 (.inl (qo_b (fun x y => x * y)))) (qq_lf 175 (.inl (qo_b (fun x y => x + y))))))) (qq_br 179 (qq_br 177 (qq_lf 176 (.inl (qo_il 2 1))) (qq_br 178 (qq_lf 177 (.inl (qo_b (fun x y => x + y)))) (qq_lf 178 (.inl (qo_ias (gL w)))))) (qq_br 183 (qq_br 180 (qq_lf 179 (.inl (qo_al 0 1))) (qq_lf 180 (.inr (.inl (82, 1, some 7))))) (qq_br 184 (qq_lf 183 (.inl (qo_k 1 1))) (qq_lf 184 (.inr (.inr 2))))))))))
def tm_95 (w : qS) : Nat → Option qE := (qq_br 22 (qq_br 12 (qq_br 5 (qq_br 1 (qq_lf 0 (.inl (qo_al 0 1))) (qq_br 2 (qq_lf 1 (.inl (qo_il 1 1))) (qq_lf 2 (.inr (.inl (84, 2, some 7)))))) (qq_br 8 (qq_lf 5 (.inl (qo_z (fun x => x = 0) 20))) (qq_br 9 (qq_lf 8 (.inl (qo_al 0 1))) (qq_lf 9 (.inl (qo_get (gL w) 7 0)))))) (qq_br 16 (qq_br 14 (qq_lf 12 (.inl (qo_k (iN 32) 2))) (qq_br 15 (qq_lf 14 (.inl (qo_il 1 1))) (qq_lf 15 (.inl (qo_b (fun x y => x + y)))))) (qq_br 20 (qq_br 17 (qq_lf 16 (.inl (qo_ia (gL w)))) (qq_lf 17 (.inl (qo_z (fun x => ¬ x = 0) 22)))) (qq_br 21 (qq_lf 20 (.inl (qo_k 0 1))) (qq_lf 21 (.inr (.inr 2))))))) (qq_br 33 (qq_br 27 (qq_br 23 (qq_lf 22 (.inl (qo_al 0 1))) (qq_br 26 (qq_lf 23 (.inr (.inl (81, 1, some 7)))) (qq_lf 26 (.inl (qo_al 0 1))))) (qq_br 30 (qq_lf 27 (.inl (qo_get (gL w) 7 0))) (qq_br 32 (qq_lf 30 (.inl (qo_k (iN 32) 2))) (qq_lf 32 (.inl (qo_il 1 1)))))) (qq_br 36 (qq_br 34 (qq_lf 33 (.inl (qo_b (fun x y => x + y)))) (qq_br 35 (qq_lf 34 (.inl (qo_k 0 1))) (qq_lf 35 (.inl (qo_ias (gL w)))))) (qq_br 40 (qq_br 37 (qq_lf 36 (.inl (qo_al 0 1))) (qq_lf 37 (.inr (.inl (82, 1, some 7))))) (qq_br 41 (qq_lf 40 (.inl (qo_k 1 1))) (qq_lf 41 (.inr (.inr 2))))))))
def tm_96 (w : qS) : Nat → Option qE := (qq_br 18 (qq_br 10 (qq_br 5 (qq_br 1 (qq_lf 0 (.inl (qo_il 1 1))) (qq_br 2 (qq_lf 1 (.inl (qo_k 1 1))) (qq_lf 2 (.inl (qo_c (fun x y => x < y) 10))))) (qq_br 6 (qq_lf 5 (.inl (qo_il 1 1))) (qq_br 7 (qq_lf 6 (.inl (qo_k (iN 2) 1))) (qq_lf 7 (.inl (qo_c (fun x y => x ≤ y) 12)))))) (qq_br 13 (qq_br 11 (qq_lf 10 (.inl (qo_k (-1) 1))) (qq_br 12 (qq_lf 11 (.inr (.inr 1))) (qq_lf 12 (.inl (qo_al 0 1))))) (qq_br 16 (qq_lf 13 (.inl (qo_get (gL w) 7 0))) (qq_br 17 (qq_lf 16 (.inl (qo_k (iN 2) 1))) (qq_lf 17 (.inl (qo_ia (gL w)))))))) (qq_br 28 (qq_br 23 (qq_br 19 (qq_lf 18 (.inl (qo_is 2 1))) (qq_br 20 (qq_lf 19 (.inl (qo_al 0 1))) (qq_lf 20 (.inr (.inl (81, 1, some 7)))))) (qq_br 24 (qq_lf 23 (.inl (qo_al 0 1))) (qq_br 27 (qq_lf 24 (.inl (qo_get (gL w) 7 0))) (qq_lf 27 (.inl (qo_k (iN 2) 1)))))) (qq_br 31 (qq_br 29 (qq_lf 28 (.inl (qo_il 1 1))) (qq_br 30 (qq_lf 29 (.inl (qo_ias (gL w)))) (qq_lf 30 (.inl (qo_al 0 1))))) (qq_br 34 (qq_lf 31 (.inr (.inl (82, 1, some 7)))) (qq_br 35 (qq_lf 34 (.inl (qo_il 2 1))) (qq_lf 35 (.inr (.inr 1))))))))
def tm_97 (w : qS) : Nat → Option qE := (qq_br 26 (qq_br 15 (qq_br 7 (qq_br 1 (qq_lf 0 (.inl (qo_il 1 1))) (qq_br 4 (qq_lf 1 (.inr (.inl (85, 1, none)))) (qq_lf 4 (.inl (qo_z (fun x => x = 0) 20))))) (qq_br 11 (qq_br 8 (qq_lf 7 (.inl (qo_il 2 1))) (qq_lf 8 (.inl (qo_z (fun x => x = 0) 22)))) (qq_br 12 (qq_lf 11 (.inl (qo_al 0 1))) (qq_lf 12 (.inl (qo_get (gL w) 7 6)))))) (qq_br 20 (qq_br 16 (qq_lf 15 (.inl (qo_il 1 1))) (qq_br 17 (qq_lf 16 (.inl (qo_ia (gL w)))) (qq_lf 17 (.inl (qo_z (fun x => x < 0) 22))))) (qq_br 22 (qq_br 21 (qq_lf 20 (.inl (qo_k 0 1))) (qq_lf 21 (.inr (.inr 2)))) (qq_br 23 (qq_lf 22 (.inl (qo_al 0 1))) (qq_lf 23 (.inr (.inl (81, 1, some 7)))))))) (qq_br 38 (qq_br 32 (qq_br 27 (qq_lf 26 (.inl (qo_al 0 1))) (qq_br 30 (qq_lf 27 (.inl (qo_get (gL w) 7 0))) (qq_lf 30 (.inl (qo_k (iN 112) 2))))) (qq_br 34 (qq_br 33 (qq_lf 32 (.inl (qo_il 1 1))) (qq_lf 33 (.inl (qo_b (fun x y => x + y))))) (qq_br 35 (qq_lf 34 (.inl (qo_il 2 1))) (qq_lf 35 (.inl (qo_z (fun x => x = 0) 42)))))) (qq_br 44 (qq_br 42 (qq_br 39 (qq_lf 38 (.inl (qo_k 1 1))) (qq_lf 39 (.inl (qo_g 43)))) (qq_br 43 (qq_lf 42 (.inl (qo_k 0 1))) (qq_lf 43 (.inl (qo_ias (gL w)))))) (qq_br 48 (qq_br 45 (qq_lf 44 (.inl (qo_al 0 1))) (qq_lf 45 (.inr (.inl (82, 1, some 7))))) (qq_br 49 (qq_lf 48 (.inl (qo_il 2 1))) (qq_lf 49 (.inr (.inr 2))))))))
def tm_98 (w : qS) : Nat → Option qE := (qq_br 19 (qq_br 9 (qq_br 4 (qq_br 1 (qq_lf 0 (.inl (qo_il 0 1))) (qq_lf 1 (.inl (qo_z (fun x => x = 0) 15)))) (qq_br 5 (qq_lf 4 (.inl (qo_il 0 1))) (qq_br 6 (qq_lf 5 (.inl (qo_k 1 1))) (qq_lf 6 (.inl (qo_c (fun x y => x = y) 15)))))) (qq_br 12 (qq_br 10 (qq_lf 9 (.inl (qo_il 0 1))) (qq_lf 10 (.inl (qo_k (iN 7) 2)))) (qq_br 15 (qq_lf 12 (.inl (qo_c (fun x y => ¬ x = y) 19))) (qq_br 16 (qq_lf 15 (.inl (qo_k 1 1))) (qq_lf 16 (.inl (qo_g 35))))))) (qq_br 27 (qq_br 21 (qq_br 20 (qq_lf 19 (.inl (qo_il 0 1))) (qq_lf 20 (.inl (qo_k (iN 2) 1)))) (qq_br 24 (qq_lf 21 (.inl (qo_c (fun x y => x ≤ y) 34))) (qq_br 25 (qq_lf 24 (.inl (qo_il 0 1))) (qq_lf 25 (.inl (qo_k (iN 6) 2)))))) (qq_br 31 (qq_br 30 (qq_lf 27 (.inl (qo_c (fun x y => y ≤ x) 34))) (qq_lf 30 (.inl (qo_k (-1) 1)))) (qq_br 34 (qq_lf 31 (.inl (qo_g 35))) (qq_br 35 (qq_lf 34 (.inl (qo_k 0 1))) (qq_lf 35 (.inr (.inr 1))))))))
def tm_99 (w : qS) : Nat → Option qE := (qq_br 14 (qq_br 6 (qq_br 4 (qq_br 1 (qq_lf 0 (.inl (qo_il 0 1))) (qq_lf 1 (.inl (qo_z (fun x => x ≤ 0) 13)))) (qq_br 5 (qq_lf 4 (.inl (qo_il 0 1))) (qq_lf 5 (.inl (qo_k (iN 4) 1))))) (qq_br 10 (qq_br 9 (qq_lf 6 (.inl (qo_c (fun x y => y ≤ x) 13))) (qq_lf 9 (.inl (qo_k 1 1)))) (qq_br 13 (qq_lf 10 (.inl (qo_g 29))) (qq_lf 13 (.inl (qo_il 0 1)))))) (qq_br 21 (qq_br 18 (qq_br 15 (qq_lf 14 (.inl (qo_k (iN 4) 1))) (qq_lf 15 (.inl (qo_c (fun x y => x ≤ y) 28)))) (qq_br 19 (qq_lf 18 (.inl (qo_il 0 1))) (qq_lf 19 (.inl (qo_k (iN 8) 2))))) (qq_br 25 (qq_br 24 (qq_lf 21 (.inl (qo_c (fun x y => y ≤ x) 28))) (qq_lf 24 (.inl (qo_k (-1) 1)))) (qq_br 28 (qq_lf 25 (.inl (qo_g 29))) (qq_br 29 (qq_lf 28 (.inl (qo_k 0 1))) (qq_lf 29 (.inr (.inr 1))))))))
def tm_100 (w : qS) : Nat → Option qE := (qq_br 41 (qq_br 23 (qq_br 12 (qq_br 6 (qq_br 1 (qq_lf 0 (.inl (qo_il 1 1))) (qq_br 3 (qq_lf 1 (.inl (qo_k (iN 8) 2))) (qq_lf 3 (.inl (qo_c (fun x y => ¬ x = y) 24))))) (qq_br 7 (qq_lf 6 (.inl (qo_il 0 1))) (qq_br 9 (qq_lf 7 (.inl (qo_k (iN 120) 2))) (qq_lf 9 (.inl (qo_c (fun x y => y ≤ x) 19)))))) (qq_br 16 (qq_br 13 (qq_lf 12 (.inl (qo_il 0 1))) (qq_br 15 (qq_lf 13 (.inl (qo_k (iN 120) 2))) (qq_lf 15 (.inl (qo_b (fun x y => x + y)))))) (qq_br 20 (qq_br 19 (qq_lf 16 (.inl (qo_g 23))) (qq_lf 19 (.inl (qo_il 0 1)))) (qq_br 22 (qq_lf 20 (.inl (qo_k (iN 120) 2))) (qq_lf 22 (.inl (qo_b (fun x y => x - y)))))))) (qq_br 32 (qq_br 27 (qq_br 24 (qq_lf 23 (.inr (.inr 1))) (qq_br 25 (qq_lf 24 (.inl (qo_il 0 1))) (qq_lf 25 (.inl (qo_k (iN 12) 2))))) (qq_br 28 (qq_lf 27 (.inl (qo_d (fun x y => x - x / y * y)))) (qq_br 29 (qq_lf 28 (.inl (qo_il 1 1))) (qq_lf 29 (.inr (.inl (98, 1, none))))))) (qq_br 35 (qq_br 33 (qq_lf 32 (.inl (qo_b (fun x y => x + y)))) (qq_br 34 (qq_lf 33 (.inl (qo_is 2 1))) (qq_lf 34 (.inl (qo_il 0 1))))) (qq_br 38 (qq_br 37 (qq_lf 35 (.inl (qo_k (iN 120) 2))) (qq_lf 37 (.inl (qo_d (fun x y => x - x / y * y))))) (qq_br 40 (qq_lf 38 (.inl (qo_k (iN 12) 2))) (qq_lf 40 (.inl (qo_d (fun x y => x / y))))))))) (qq_br 64 (qq_br 51 (qq_br 46 (qq_br 42 (qq_lf 41 (.inl (qo_il 1 1))) (qq_br 45 (qq_lf 42 (.inr (.inl (99, 1, none)))) (qq_lf 45 (.inl (qo_b (fun x y => x + y)))))) (qq_br 47 (qq_lf 46 (.inl (qo_is 3 1))) (qq_br 48 (qq_lf 47 (.inl (qo_il 2 1))) (qq_lf 48 (.inl (qo_z (fun x => x < 0) 67)))))) (qq_br 57 (qq_br 52 (qq_lf 51 (.inl (qo_il 2 1))) (qq_br 54 (qq_lf 52 (.inl (qo_k (iN 11) 2))) (qq_lf 54 (.inl (qo_c (fun x y => y < x) 67))))) (qq_br 61 (qq_br 58 (qq_lf 57 (.inl (qo_il 3 1))) (qq_lf 58 (.inl (qo_z (fun x => x < 0) 67)))) (qq_br 62 (qq_lf 61 (.inl (qo_il 3 1))) (qq_lf 62 (.inl (qo_k (iN 9) 2))))))) (qq_br 75 (qq_br 71 (qq_br 67 (qq_lf 64 (.inl (qo_c (fun x y => x ≤ y) 71))) (qq_br 68 (qq_lf 67 (.inl (qo_k (-1) 1))) (qq_lf 68 (.inl (qo_g 85))))) (qq_br 72 (qq_lf 71 (.inl (qo_il 0 1))) (qq_br 74 (qq_lf 72 (.inl (qo_k (iN 12) 2))) (qq_lf 74 (.inl (qo_il 1 1)))))) (qq_br 80 (qq_br 78 (qq_lf 75 (.inr (.inl (99, 1, none)))) (qq_br 79 (qq_lf 78 (.inl (qo_b (fun x y => x * y)))) (qq_lf 79 (.inl (qo_b (fun x y => x + y)))))) (qq_br 84 (qq_br 81 (qq_lf 80 (.inl (qo_il 1 1))) (qq_lf 81 (.inr (.inl (98, 1, none))))) (qq_br 85 (qq_lf 84 (.inl (qo_b (fun x y => x + y)))) (qq_lf 85 (.inr (.inr 1)))))))))
def tm_101 (w : qS) : Nat → Option qE := (qq_br 103 (qq_br 52 (qq_br 27 (qq_br 12 (qq_br 5 (qq_br 1 (qq_lf 0 (.inl (qo_al 0 1))) (qq_br 2 (qq_lf 1 (.inl (qo_il 1 1))) (qq_lf 2 (.inr (.inl (84, 2, some 7)))))) (qq_br 8 (qq_lf 5 (.inl (qo_z (fun x => x = 0) 47))) (qq_br 9 (qq_lf 8 (.inl (qo_il 2 1))) (qq_lf 9 (.inr (.inl (85, 1, none))))))) (qq_br 19 (qq_br 15 (qq_lf 12 (.inl (qo_z (fun x => x = 0) 47))) (qq_br 16 (qq_lf 15 (.inl (qo_il 3 1))) (qq_lf 16 (.inl (qo_z (fun x => x < 0) 47))))) (qq_br 22 (qq_br 20 (qq_lf 19 (.inl (qo_il 3 1))) (qq_lf 20 (.inl (qo_k (iN 8) 2)))) (qq_br 25 (qq_lf 22 (.inl (qo_c (fun x y => y < x) 47))) (qq_lf 25 (.inl (qo_il 4 2))))))) (qq_br 39 (qq_br 33 (qq_br 30 (qq_lf 27 (.inl (qo_z (fun x => x < 0) 47))) (qq_br 32 (qq_lf 30 (.inl (qo_il 4 2))) (qq_lf 32 (.inl (qo_il 3 1))))) (qq_br 35 (qq_lf 33 (.inl (qo_k (iN 8) 2))) (qq_br 38 (qq_lf 35 (.inl (qo_c (fun x y => ¬ x = y) 42))) (qq_lf 38 (.inl (qo_k 1 1)))))) (qq_br 47 (qq_br 42 (qq_lf 39 (.inl (qo_g 44))) (qq_br 44 (qq_lf 42 (.inl (qo_k (iN 11) 2))) (qq_lf 44 (.inl (qo_c (fun x y => x ≤ y) 49))))) (qq_br 49 (qq_br 48 (qq_lf 47 (.inl (qo_k (-1) 1))) (qq_lf 48 (.inr (.inr 1)))) (qq_br 50 (qq_lf 49 (.inl (qo_il 2 1))) (qq_lf 50 (.inl (qo_is 5 2)))))))) (qq_br 76 (qq_br 64 (qq_br 57 (qq_br 53 (qq_lf 52 (.inl (qo_k 0 1))) (qq_br 55 (qq_lf 53 (.inl (qo_is 6 2))) (qq_lf 55 (.inl (qo_il 6 2))))) (qq_br 59 (qq_lf 57 (.inl (qo_il 4 2))) (qq_br 62 (qq_lf 59 (.inl (qo_c (fun x y => y < x) 98))) (qq_lf 62 (.inl (qo_il 5 2)))))) (qq_br 70 (qq_br 67 (qq_lf 64 (.inl (qo_z (fun x => x < 0) 82))) (qq_br 68 (qq_lf 67 (.inl (qo_al 0 1))) (qq_lf 68 (.inl (qo_il 5 2))))) (qq_br 74 (qq_br 71 (qq_lf 70 (.inl (qo_al 0 1))) (qq_lf 71 (.inl (qo_get (gL w) 7 4)))) (qq_br 75 (qq_lf 74 (.inl (qo_il 1 1))) (qq_lf 75 (.inl (qo_ia (gL w)))))))) (qq_br 87 (qq_br 83 (qq_br 79 (qq_lf 76 (.inr (.inl (93, 3, some 7)))) (qq_br 82 (qq_lf 79 (.inl (qo_z (fun x => ¬ x = 0) 84))) (qq_lf 82 (.inl (qo_k (-1) 1))))) (qq_br 84 (qq_lf 83 (.inr (.inr 1))) (qq_br 86 (qq_lf 84 (.inl (qo_il 5 2))) (qq_lf 86 (.inl (qo_il 3 1)))))) (qq_br 95 (qq_br 90 (qq_lf 87 (.inr (.inl (100, 2, none)))) (qq_br 92 (qq_lf 90 (.inl (qo_is 5 2))) (qq_lf 92 (.inl (qo_inc 6 1))))) (qq_br 99 (qq_br 98 (qq_lf 95 (.inl (qo_g 55))) (qq_lf 98 (.inl (qo_al 0 1)))) (qq_br 102 (qq_lf 99 (.inr (.inl (81, 1, some 7)))) (qq_lf 102 (.inl (qo_k 0 1))))))))) (qq_br 153 (qq_br 128 (qq_br 113 (qq_br 108 (qq_br 105 (qq_lf 103 (.inl (qo_is 6 2))) (qq_br 106 (qq_lf 105 (.inl (qo_il 2 1))) (qq_lf 106 (.inl (qo_is 5 2))))) (qq_br 109 (qq_lf 108 (.inl (qo_k 0 1))) (qq_br 111 (qq_lf 109 (.inl (qo_is 7 2))) (qq_lf 111 (.inl (qo_il 7 2)))))) (qq_br 119 (qq_br 115 (qq_lf 113 (.inl (qo_il 4 2))) (qq_br 118 (qq_lf 115 (.inl (qo_c (fun x y => y < x) 195))) (qq_lf 118 (.inl (qo_al 0 1))))) (qq_br 124 (qq_br 122 (qq_lf 119 (.inl (qo_get (gL w) 7 5))) (qq_lf 122 (.inl (qo_il 5 2)))) (qq_br 125 (qq_lf 124 (.inl (qo_ia (gL w)))) (qq_lf 125 (.inl (qo_z (fun x => 0 ≤ x) 149))))))) (qq_br 139 (qq_br 135 (qq_br 129 (qq_lf 128 (.inl (qo_al 0 1))) (qq_br 132 (qq_lf 129 (.inl (qo_get (gL w) 7 0))) (qq_lf 132 (.inl (qo_k (iN 352) 3))))) (qq_br 137 (qq_lf 135 (.inl (qo_il 5 2))) (qq_br 138 (qq_lf 137 (.inl (qo_b (fun x y => x + y)))) (qq_lf 138 (.inl (qo_ia (gL w))))))) (qq_br 145 (qq_br 142 (qq_lf 139 (.inl (qo_z (fun x => ¬ x = 0) 149))) (qq_br 144 (qq_lf 142 (.inl (qo_il 6 2))) (qq_lf 144 (.inl (qo_k 1 1))))) (qq_br 149 (qq_br 146 (qq_lf 145 (.inl (qo_b (fun x y => x + y)))) (qq_lf 146 (.inl (qo_g 151)))) (qq_br 151 (qq_lf 149 (.inl (qo_il 6 2))) (qq_lf 151 (.inl (qo_is 6 2)))))))) (qq_br 176 (qq_br 164 (qq_br 160 (qq_br 154 (qq_lf 153 (.inl (qo_al 0 1))) (qq_br 157 (qq_lf 154 (.inl (qo_get (gL w) 7 0))) (qq_lf 157 (.inl (qo_k (iN 352) 3))))) (qq_br 162 (qq_lf 160 (.inl (qo_il 5 2))) (qq_br 163 (qq_lf 162 (.inl (qo_b (fun x y => x + y)))) (qq_lf 163 (.inl (qo_al 0 1)))))) (qq_br 170 (qq_br 167 (qq_lf 164 (.inl (qo_get (gL w) 7 5))) (qq_br 169 (qq_lf 167 (.inl (qo_il 5 2))) (qq_lf 169 (.inl (qo_ia (gL w)))))) (qq_br 174 (qq_br 173 (qq_lf 170 (.inl (qo_z (fun x => 0 ≤ x) 179))) (qq_lf 173 (.inl (qo_il 1 1)))) (qq_br 175 (qq_lf 174 (.inl (qo_k 1 1))) (qq_lf 175 (.inl (qo_b (fun x y => x + y)))))))) (qq_br 187 (qq_br 181 (qq_br 179 (qq_lf 176 (.inl (qo_g 180))) (qq_br 180 (qq_lf 179 (.inl (qo_k 0 1))) (qq_lf 180 (.inl (qo_ias (gL w)))))) (qq_br 183 (qq_lf 181 (.inl (qo_il 5 2))) (qq_br 184 (qq_lf 183 (.inl (qo_il 3 1))) (qq_lf 184 (.inr (.inl (100, 2, none))))))) (qq_br 195 (qq_br 189 (qq_lf 187 (.inl (qo_is 5 2))) (qq_br 192 (qq_lf 189 (.inl (qo_inc 7 1))) (qq_lf 192 (.inl (qo_g 111))))) (qq_br 199 (qq_br 196 (qq_lf 195 (.inl (qo_al 0 1))) (qq_lf 196 (.inr (.inl (82, 1, some 7))))) (qq_br 201 (qq_lf 199 (.inl (qo_il 6 2))) (qq_lf 201 (.inr (.inr 1))))))))))
def tm_102 (w : qS) : Nat → Option qE := (qq_br 22 (qq_br 14 (qq_br 7 (qq_br 1 (qq_lf 0 (.inl (qo_il 1 1))) (qq_br 4 (qq_lf 1 (.inr (.inl (85, 1, none)))) (qq_lf 4 (.inl (qo_z (fun x => x = 0) 20))))) (qq_br 8 (qq_lf 7 (.inl (qo_al 0 1))) (qq_br 11 (qq_lf 8 (.inl (qo_get (gL w) 7 0))) (qq_lf 11 (.inl (qo_k (iN 352) 3)))))) (qq_br 17 (qq_br 15 (qq_lf 14 (.inl (qo_il 1 1))) (qq_br 16 (qq_lf 15 (.inl (qo_b (fun x y => x + y)))) (qq_lf 16 (.inl (qo_ia (gL w)))))) (qq_br 20 (qq_lf 17 (.inl (qo_z (fun x => ¬ x = 0) 22))) (qq_br 21 (qq_lf 20 (.inl (qo_k 0 1))) (qq_lf 21 (.inr (.inr 2))))))) (qq_br 34 (qq_br 27 (qq_br 23 (qq_lf 22 (.inl (qo_al 0 1))) (qq_br 26 (qq_lf 23 (.inr (.inl (81, 1, some 7)))) (qq_lf 26 (.inl (qo_al 0 1))))) (qq_br 30 (qq_lf 27 (.inl (qo_get (gL w) 7 0))) (qq_br 33 (qq_lf 30 (.inl (qo_k (iN 352) 3))) (qq_lf 33 (.inl (qo_il 1 1)))))) (qq_br 37 (qq_br 35 (qq_lf 34 (.inl (qo_b (fun x y => x + y)))) (qq_br 36 (qq_lf 35 (.inl (qo_k 0 1))) (qq_lf 36 (.inl (qo_ias (gL w)))))) (qq_br 41 (qq_br 38 (qq_lf 37 (.inl (qo_al 0 1))) (qq_lf 38 (.inr (.inl (82, 1, some 7))))) (qq_br 42 (qq_lf 41 (.inl (qo_k 1 1))) (qq_lf 42 (.inr (.inr 2))))))))
def tm_103 (w : qS) : Nat → Option qE := (qq_br 11 (qq_br 4 (qq_br 1 (qq_lf 0 (.inl (qo_il 1 1))) (qq_lf 1 (.inr (.inl (85, 1, none))))) (qq_br 7 (qq_lf 4 (.inl (qo_z (fun x => x = 0) 16))) (qq_br 8 (qq_lf 7 (.inl (qo_al 0 1))) (qq_lf 8 (.inl (qo_get (gL w) 7 6)))))) (qq_br 13 (qq_br 12 (qq_lf 11 (.inl (qo_il 1 1))) (qq_lf 12 (.inl (qo_ia (gL w))))) (qq_br 16 (qq_lf 13 (.inl (qo_g 17))) (qq_br 17 (qq_lf 16 (.inl (qo_k (-1) 1))) (qq_lf 17 (.inr (.inr 1)))))))
def tm_104 (w : qS) : Nat → Option qE := (qq_br 54 (qq_br 26 (qq_br 14 (qq_br 8 (qq_br 2 (qq_br 1 (qq_lf 0 (.inl (qo_al 0 1))) (qq_lf 1 (.inl (qo_il 1 1)))) (qq_br 5 (qq_lf 2 (.inr (.inl (84, 2, some 7)))) (qq_lf 5 (.inl (qo_z (fun x => ¬ x = 0) 10))))) (qq_br 10 (qq_br 9 (qq_lf 8 (.inl (qo_k (-1) 1))) (qq_lf 9 (.inr (.inr 1)))) (qq_br 11 (qq_lf 10 (.inl (qo_al 0 1))) (qq_lf 11 (.inr (.inl (81, 1, some 7))))))) (qq_br 18 (qq_br 16 (qq_br 15 (qq_lf 14 (.inl (qo_k 0 1))) (qq_lf 15 (.inl (qo_is 2 1)))) (qq_br 17 (qq_lf 16 (.inl (qo_k 0 1))) (qq_lf 17 (.inl (qo_is 3 1))))) (qq_br 22 (qq_br 19 (qq_lf 18 (.inl (qo_il 3 1))) (qq_lf 19 (.inl (qo_k (iN 240) 3)))) (qq_br 25 (qq_lf 22 (.inl (qo_c (fun x y => y ≤ x) 108))) (qq_lf 25 (.inl (qo_al 0 1))))))) (qq_br 42 (qq_br 34 (qq_br 32 (qq_br 29 (qq_lf 26 (.inl (qo_get (gL w) 7 0))) (qq_lf 29 (.inl (qo_k (iN 352) 3)))) (qq_br 33 (qq_lf 32 (.inl (qo_il 3 1))) (qq_lf 33 (.inl (qo_b (fun x y => x + y)))))) (qq_br 38 (qq_br 35 (qq_lf 34 (.inl (qo_ia (gL w)))) (qq_lf 35 (.inl (qo_z (fun x => x ≤ 0) 57)))) (qq_br 39 (qq_lf 38 (.inl (qo_al 0 1))) (qq_lf 39 (.inl (qo_get (gL w) 7 6)))))) (qq_br 48 (qq_br 44 (qq_br 43 (qq_lf 42 (.inl (qo_il 3 1))) (qq_lf 43 (.inl (qo_ia (gL w))))) (qq_br 45 (qq_lf 44 (.inl (qo_al 0 1))) (qq_lf 45 (.inl (qo_get (gL w) 7 4))))) (qq_br 50 (qq_br 49 (qq_lf 48 (.inl (qo_il 1 1))) (qq_lf 49 (.inl (qo_ia (gL w))))) (qq_br 53 (qq_lf 50 (.inl (qo_c (fun x y => ¬ x = y) 57))) (qq_lf 53 (.inl (qo_k 1 1)))))))) (qq_br 86 (qq_br 69 (qq_br 61 (qq_br 58 (qq_br 57 (qq_lf 54 (.inl (qo_g 58))) (qq_lf 57 (.inl (qo_k 0 1)))) (qq_br 60 (qq_lf 58 (.inl (qo_is 4 2))) (qq_lf 60 (.inl (qo_al 0 1))))) (qq_br 67 (qq_br 64 (qq_lf 61 (.inl (qo_get (gL w) 7 0))) (qq_lf 64 (.inl (qo_k (iN 352) 3)))) (qq_br 68 (qq_lf 67 (.inl (qo_il 3 1))) (qq_lf 68 (.inl (qo_b (fun x y => x + y))))))) (qq_br 78 (qq_br 74 (qq_br 71 (qq_lf 69 (.inl (qo_il 4 2))) (qq_lf 71 (.inl (qo_z (fun x => x = 0) 78)))) (qq_br 75 (qq_lf 74 (.inl (qo_k 0 1))) (qq_lf 75 (.inl (qo_g 88))))) (qq_br 82 (qq_br 79 (qq_lf 78 (.inl (qo_al 0 1))) (qq_lf 79 (.inl (qo_get (gL w) 7 0)))) (qq_br 85 (qq_lf 82 (.inl (qo_k (iN 352) 3))) (qq_lf 85 (.inl (qo_il 3 1))))))) (qq_br 97 (qq_br 91 (qq_br 88 (qq_br 87 (qq_lf 86 (.inl (qo_b (fun x y => x + y)))) (qq_lf 87 (.inl (qo_ia (gL w))))) (qq_br 89 (qq_lf 88 (.inl (qo_ias (gL w)))) (qq_lf 89 (.inl (qo_il 4 2))))) (qq_br 95 (qq_br 94 (qq_lf 91 (.inl (qo_z (fun x => x = 0) 100))) (qq_lf 94 (.inl (qo_il 2 1)))) (qq_br 96 (qq_lf 95 (.inl (qo_k 1 1))) (qq_lf 96 (.inl (qo_b (fun x y => x + y))))))) (qq_br 105 (qq_br 101 (qq_br 100 (qq_lf 97 (.inl (qo_g 101))) (qq_lf 100 (.inl (qo_il 2 1)))) (qq_br 102 (qq_lf 101 (.inl (qo_is 2 1))) (qq_lf 102 (.inl (qo_inc 3 1))))) (qq_br 109 (qq_br 108 (qq_lf 105 (.inl (qo_g 18))) (qq_lf 108 (.inl (qo_al 0 1)))) (qq_br 112 (qq_lf 109 (.inr (.inl (82, 1, some 7)))) (qq_br 113 (qq_lf 112 (.inl (qo_il 2 1))) (qq_lf 113 (.inr (.inr 1))))))))))
def tm_105 (w : qS) : Nat → Option qE := (qq_br 63 (qq_br 30 (qq_br 15 (qq_br 6 (qq_br 2 (qq_br 1 (qq_lf 0 (.inl (qo_k 0 1))) (qq_lf 1 (.inl (qo_is 2 1)))) (qq_br 3 (qq_lf 2 (.inl (qo_il 2 1))) (qq_lf 3 (.inl (qo_k (iN 240) 3))))) (qq_br 10 (qq_br 9 (qq_lf 6 (.inl (qo_c (fun x y => y ≤ x) 36))) (qq_lf 9 (.inl (qo_al 0 1)))) (qq_br 13 (qq_lf 10 (.inl (qo_get (gL w) 7 7))) (qq_br 14 (qq_lf 13 (.inl (qo_il 2 1))) (qq_lf 14 (.inl (qo_al 0 1))))))) (qq_br 21 (qq_br 19 (qq_br 18 (qq_lf 15 (.inl (qo_get (gL w) 7 6))) (qq_lf 18 (.inl (qo_il 2 1)))) (qq_br 20 (qq_lf 19 (.inl (qo_ia (gL w)))) (qq_lf 20 (.inl (qo_il 1 1))))) (qq_br 25 (qq_br 24 (qq_lf 21 (.inl (qo_c (fun x y => ¬ x = y) 28))) (qq_lf 24 (.inl (qo_il 2 1)))) (qq_br 28 (qq_lf 25 (.inl (qo_g 29))) (qq_br 29 (qq_lf 28 (.inl (qo_k (-1) 1))) (qq_lf 29 (.inl (qo_ias (gL w))))))))) (qq_br 45 (qq_br 38 (qq_br 36 (qq_br 33 (qq_lf 30 (.inl (qo_inc 2 1))) (qq_lf 33 (.inl (qo_g 2)))) (qq_br 37 (qq_lf 36 (.inl (qo_k 1 1))) (qq_lf 37 (.inl (qo_is 2 1))))) (qq_br 42 (qq_br 39 (qq_lf 38 (.inl (qo_il 2 1))) (qq_lf 39 (.inl (qo_z (fun x => x = 0) 131)))) (qq_br 43 (qq_lf 42 (.inl (qo_k 0 1))) (qq_br 44 (qq_lf 43 (.inl (qo_is 2 1))) (qq_lf 44 (.inl (qo_k 0 1))))))) (qq_br 53 (qq_br 47 (qq_br 46 (qq_lf 45 (.inl (qo_is 3 1))) (qq_lf 46 (.inl (qo_il 3 1)))) (qq_br 50 (qq_lf 47 (.inl (qo_k (iN 240) 3))) (qq_lf 50 (.inl (qo_c (fun x y => y ≤ x) 128))))) (qq_br 56 (qq_br 54 (qq_lf 53 (.inl (qo_k 0 1))) (qq_lf 54 (.inl (qo_is 4 2)))) (qq_br 58 (qq_lf 56 (.inl (qo_il 4 2))) (qq_br 60 (qq_lf 58 (.inl (qo_k (iN 9) 2))) (qq_lf 60 (.inl (qo_c (fun x y => y ≤ x) 122))))))))) (qq_br 97 (qq_br 80 (qq_br 69 (qq_br 67 (qq_br 64 (qq_lf 63 (.inl (qo_al 0 1))) (qq_lf 64 (.inl (qo_get (gL w) 7 7)))) (qq_br 68 (qq_lf 67 (.inl (qo_il 3 1))) (qq_lf 68 (.inl (qo_ia (gL w)))))) (qq_br 73 (qq_br 72 (qq_lf 69 (.inl (qo_z (fun x => x < 0) 122))) (qq_lf 72 (.inl (qo_il 3 1)))) (qq_br 75 (qq_lf 73 (.inl (qo_il 4 2))) (qq_br 78 (qq_lf 75 (.inr (.inl (100, 2, none)))) (qq_lf 78 (.inl (qo_is 5 2))))))) (qq_br 89 (qq_br 85 (qq_br 82 (qq_lf 80 (.inl (qo_il 5 2))) (qq_lf 82 (.inl (qo_z (fun x => x < 0) 116)))) (qq_br 86 (qq_lf 85 (.inl (qo_al 0 1))) (qq_lf 86 (.inl (qo_get (gL w) 7 7))))) (qq_br 92 (qq_br 91 (qq_lf 89 (.inl (qo_il 5 2))) (qq_lf 91 (.inl (qo_ia (gL w))))) (qq_br 93 (qq_lf 92 (.inl (qo_al 0 1))) (qq_br 96 (qq_lf 93 (.inl (qo_get (gL w) 7 7))) (qq_lf 96 (.inl (qo_il 3 1)))))))) (qq_br 113 (qq_br 105 (qq_br 101 (qq_br 98 (qq_lf 97 (.inl (qo_ia (gL w)))) (qq_lf 98 (.inl (qo_c (fun x y => x ≤ y) 116)))) (qq_br 102 (qq_lf 101 (.inl (qo_al 0 1))) (qq_lf 102 (.inl (qo_get (gL w) 7 7))))) (qq_br 108 (qq_br 107 (qq_lf 105 (.inl (qo_il 5 2))) (qq_lf 107 (.inl (qo_al 0 1)))) (qq_br 111 (qq_lf 108 (.inl (qo_get (gL w) 7 7))) (qq_br 112 (qq_lf 111 (.inl (qo_il 3 1))) (qq_lf 112 (.inl (qo_ia (gL w)))))))) (qq_br 119 (qq_br 115 (qq_br 114 (qq_lf 113 (.inl (qo_ias (gL w)))) (qq_lf 114 (.inl (qo_k 1 1)))) (qq_br 116 (qq_lf 115 (.inl (qo_is 2 1))) (qq_lf 116 (.inl (qo_inc 4 1))))) (qq_br 125 (qq_br 122 (qq_lf 119 (.inl (qo_g 56))) (qq_lf 122 (.inl (qo_inc 3 1)))) (qq_br 128 (qq_lf 125 (.inl (qo_g 46))) (qq_br 131 (qq_lf 128 (.inl (qo_g 38))) (qq_lf 131 (.inr (.inr 0))))))))))
def tm_106 (w : qS) : Nat → Option qE := (qq_br 15 (qq_br 8 (qq_br 4 (qq_br 1 (qq_lf 0 (.inl (qo_al 0 1))) (qq_lf 1 (.inl (qo_get (gL w) 7 0)))) (qq_br 6 (qq_lf 4 (.inl (qo_k (iN 32) 2))) (qq_br 7 (qq_lf 6 (.inl (qo_il 1 1))) (qq_lf 7 (.inl (qo_b (fun x y => x + y))))))) (qq_br 11 (qq_br 9 (qq_lf 8 (.inl (qo_ia (gL w)))) (qq_br 10 (qq_lf 9 (.inl (qo_is 2 1))) (qq_lf 10 (.inl (qo_il 2 1))))) (qq_br 13 (qq_lf 11 (.inl (qo_k (iN 120) 2))) (qq_br 14 (qq_lf 13 (.inl (qo_d (fun x y => x / y)))) (qq_lf 14 (.inl (qo_k (iN 2) 1))))))) (qq_br 24 (qq_br 20 (qq_br 18 (qq_lf 15 (.inl (qo_c (fun x y => ¬ x = y) 28))) (qq_lf 18 (.inl (qo_k (iN 120) 2)))) (qq_br 21 (qq_lf 20 (.inl (qo_il 2 1))) (qq_br 23 (qq_lf 21 (.inl (qo_k (iN 120) 2))) (qq_lf 23 (.inl (qo_d (fun x y => x - x / y * y))))))) (qq_br 29 (qq_br 25 (qq_lf 24 (.inl (qo_b (fun x y => x + y)))) (qq_br 28 (qq_lf 25 (.inl (qo_g 32))) (qq_lf 28 (.inl (qo_il 2 1))))) (qq_br 31 (qq_lf 29 (.inl (qo_k (iN 120) 2))) (qq_br 32 (qq_lf 31 (.inl (qo_d (fun x y => x - x / y * y)))) (qq_lf 32 (.inr (.inr 1))))))))
def tm_107 (w : qS) : Nat → Option qE := (qq_br 22 (qq_br 10 (qq_br 6 (qq_br 2 (qq_br 1 (qq_lf 0 (.inl (qo_k (-1) 1))) (qq_lf 1 (.inl (qo_is 2 1)))) (qq_br 3 (qq_lf 2 (.inl (qo_al 0 1))) (qq_lf 3 (.inl (qo_get (gL w) 7 0))))) (qq_br 8 (qq_br 7 (qq_lf 6 (.inl (qo_k 0 1))) (qq_lf 7 (.inl (qo_ia (gL w))))) (qq_br 9 (qq_lf 8 (.inl (qo_k 1 1))) (qq_lf 9 (.inl (qo_b (fun x y => x - y))))))) (qq_br 16 (qq_br 12 (qq_br 11 (qq_lf 10 (.inl (qo_is 3 1))) (qq_lf 11 (.inl (qo_il 3 1)))) (qq_br 15 (qq_lf 12 (.inl (qo_z (fun x => x < 0) 49))) (qq_lf 15 (.inl (qo_al 0 1))))) (qq_br 20 (qq_br 19 (qq_lf 16 (.inl (qo_get (gL w) 7 4))) (qq_lf 19 (.inl (qo_il 3 1)))) (qq_br 21 (qq_lf 20 (.inl (qo_ia (gL w)))) (qq_lf 21 (.inl (qo_il 1 1))))))) (qq_br 37 (qq_br 31 (qq_br 26 (qq_br 25 (qq_lf 22 (.inl (qo_c (fun x y => ¬ x = y) 41))) (qq_lf 25 (.inl (qo_al 0 1)))) (qq_br 29 (qq_lf 26 (.inl (qo_get (gL w) 7 0))) (qq_lf 29 (.inl (qo_k (iN 32) 2))))) (qq_br 33 (qq_br 32 (qq_lf 31 (.inl (qo_il 3 1))) (qq_lf 32 (.inl (qo_b (fun x y => x + y))))) (qq_br 34 (qq_lf 33 (.inl (qo_ia (gL w)))) (qq_lf 34 (.inl (qo_z (fun x => x ≤ 0) 41)))))) (qq_br 43 (qq_br 41 (qq_br 38 (qq_lf 37 (.inl (qo_il 3 1))) (qq_lf 38 (.inl (qo_g 42)))) (qq_br 42 (qq_lf 41 (.inl (qo_il 2 1))) (qq_lf 42 (.inl (qo_is 2 1))))) (qq_br 49 (qq_br 46 (qq_lf 43 (.inl (qo_inc 3 (-1)))) (qq_lf 46 (.inl (qo_g 11)))) (qq_br 50 (qq_lf 49 (.inl (qo_il 2 1))) (qq_lf 50 (.inr (.inr 1))))))))
def tm_108 (w : qS) : Nat → Option qE := (qq_br 50 (qq_br 23 (qq_br 11 (qq_br 5 (qq_br 1 (qq_lf 0 (.inl (qo_al 0 1))) (qq_br 2 (qq_lf 1 (.inl (qo_il 1 1))) (qq_lf 2 (.inr (.inl (107, 2, some 7)))))) (qq_br 7 (qq_br 6 (qq_lf 5 (.inl (qo_is 2 1))) (qq_lf 6 (.inl (qo_il 2 1)))) (qq_br 10 (qq_lf 7 (.inl (qo_z (fun x => 0 ≤ x) 12))) (qq_lf 10 (.inl (qo_k (-1) 1)))))) (qq_br 17 (qq_br 13 (qq_br 12 (qq_lf 11 (.inr (.inr 1))) (qq_lf 12 (.inl (qo_al 0 1)))) (qq_br 14 (qq_lf 13 (.inl (qo_il 1 1))) (qq_lf 14 (.inr (.inl (105, 2, some 7)))))) (qq_br 19 (qq_br 18 (qq_lf 17 (.inl (qo_k (-1) 1))) (qq_lf 18 (.inl (qo_is 3 1)))) (qq_br 20 (qq_lf 19 (.inl (qo_al 0 1))) (qq_lf 20 (.inl (qo_get (gL w) 7 0))))))) (qq_br 35 (qq_br 27 (qq_br 25 (qq_br 24 (qq_lf 23 (.inl (qo_k 0 1))) (qq_lf 24 (.inl (qo_ia (gL w))))) (qq_br 26 (qq_lf 25 (.inl (qo_k 1 1))) (qq_lf 26 (.inl (qo_b (fun x y => x - y)))))) (qq_br 31 (qq_br 29 (qq_lf 27 (.inl (qo_is 4 2))) (qq_lf 29 (.inl (qo_il 4 2)))) (qq_br 32 (qq_lf 31 (.inl (qo_il 2 1))) (qq_lf 32 (.inl (qo_c (fun x y => x ≤ y) 108)))))) (qq_br 42 (qq_br 39 (qq_br 36 (qq_lf 35 (.inl (qo_al 0 1))) (qq_lf 36 (.inl (qo_get (gL w) 7 4)))) (qq_br 41 (qq_lf 39 (.inl (qo_il 4 2))) (qq_lf 41 (.inl (qo_ia (gL w)))))) (qq_br 46 (qq_br 43 (qq_lf 42 (.inl (qo_il 1 1))) (qq_lf 43 (.inl (qo_c (fun x y => ¬ x = y) 87)))) (qq_br 47 (qq_lf 46 (.inl (qo_al 0 1))) (qq_lf 47 (.inl (qo_get (gL w) 7 0)))))))) (qq_br 79 (qq_br 64 (qq_br 56 (qq_br 54 (qq_br 52 (qq_lf 50 (.inl (qo_k (iN 32) 2))) (qq_lf 52 (.inl (qo_il 4 2)))) (qq_br 55 (qq_lf 54 (.inl (qo_b (fun x y => x + y)))) (qq_lf 55 (.inl (qo_ia (gL w)))))) (qq_br 60 (qq_br 59 (qq_lf 56 (.inl (qo_z (fun x => x ≤ 0) 87))) (qq_lf 59 (.inl (qo_al 0 1)))) (qq_br 63 (qq_lf 60 (.inl (qo_get (gL w) 7 7))) (qq_lf 63 (.inl (qo_al 0 1)))))) (qq_br 71 (qq_br 69 (qq_br 66 (qq_lf 64 (.inl (qo_il 4 2))) (qq_lf 66 (.inr (.inl (106, 2, some 7))))) (qq_br 70 (qq_lf 69 (.inl (qo_ia (gL w)))) (qq_lf 70 (.inl (qo_al 0 1))))) (qq_br 75 (qq_br 74 (qq_lf 71 (.inl (qo_get (gL w) 7 7))) (qq_lf 74 (.inl (qo_al 0 1)))) (qq_br 76 (qq_lf 75 (.inl (qo_il 2 1))) (qq_lf 76 (.inr (.inl (106, 2, some 7)))))))) (qq_br 95 (qq_br 87 (qq_br 83 (qq_br 80 (qq_lf 79 (.inl (qo_ia (gL w)))) (qq_lf 80 (.inl (qo_c (fun x y => x = y) 87)))) (qq_br 84 (qq_lf 83 (.inl (qo_k 1 1))) (qq_lf 84 (.inl (qo_g 88))))) (qq_br 90 (qq_br 88 (qq_lf 87 (.inl (qo_k 0 1))) (qq_lf 88 (.inl (qo_is 5 2)))) (qq_br 92 (qq_lf 90 (.inl (qo_il 5 2))) (qq_lf 92 (.inl (qo_z (fun x => x = 0) 100)))))) (qq_br 102 (qq_br 100 (qq_br 97 (qq_lf 95 (.inl (qo_il 4 2))) (qq_lf 97 (.inl (qo_g 101)))) (qq_br 101 (qq_lf 100 (.inl (qo_il 3 1))) (qq_lf 101 (.inl (qo_is 3 1))))) (qq_br 108 (qq_br 105 (qq_lf 102 (.inl (qo_inc 4 (-1)))) (qq_lf 105 (.inl (qo_g 29)))) (qq_br 109 (qq_lf 108 (.inl (qo_il 3 1))) (qq_lf 109 (.inr (.inr 1)))))))))
def tm_109 (w : qS) : Nat → Option qE := (qq_br 12 (qq_br 6 (qq_br 1 (qq_lf 0 (.inl (qo_il 0 1))) (qq_br 3 (qq_lf 1 (.inl (qo_k (iN 8) 2))) (qq_lf 3 (.inl (qo_c (fun x y => ¬ x = y) 11))))) (qq_br 8 (qq_lf 6 (.inl (qo_k (iN 30) 2))) (qq_br 11 (qq_lf 8 (.inl (qo_g 24))) (qq_lf 11 (.inl (qo_il 0 1)))))) (qq_br 17 (qq_br 13 (qq_lf 12 (.inl (qo_k (iN 2) 1))) (qq_br 14 (qq_lf 13 (.inl (qo_d (fun x y => x - x / y * y)))) (qq_lf 14 (.inl (qo_z (fun x => ¬ x = 0) 22))))) (qq_br 22 (qq_br 19 (qq_lf 17 (.inl (qo_k (iN 10) 2))) (qq_lf 19 (.inl (qo_g 24)))) (qq_br 24 (qq_lf 22 (.inl (qo_k (iN 14) 2))) (qq_lf 24 (.inr (.inr 1)))))))
def tm_110 (w : qS) : Nat → Option qE := (qq_br 32 (qq_br 12 (qq_br 5 (qq_br 3 (qq_br 2 (qq_lf 0 (.inl (qo_k (iN 1000000) 2))) (qq_lf 2 (.inl (qo_is 2 1)))) (qq_br 4 (qq_lf 3 (.inl (qo_k 0 1))) (qq_lf 4 (.inl (qo_is 3 1))))) (qq_br 8 (qq_br 6 (qq_lf 5 (.inl (qo_il 3 1))) (qq_lf 6 (.inl (qo_k (iN 9) 2)))) (qq_br 11 (qq_lf 8 (.inl (qo_c (fun x y => y ≤ x) 61))) (qq_lf 11 (.inl (qo_il 1 1)))))) (qq_br 20 (qq_br 16 (qq_br 13 (qq_lf 12 (.inl (qo_il 3 1))) (qq_lf 13 (.inr (.inl (100, 2, none))))) (qq_br 18 (qq_lf 16 (.inl (qo_is 4 2))) (qq_lf 18 (.inl (qo_il 4 2))))) (qq_br 25 (qq_br 23 (qq_lf 20 (.inl (qo_z (fun x => 0 ≤ x) 28))) (qq_lf 23 (.inl (qo_k (iN 1000000) 2)))) (qq_br 28 (qq_lf 25 (.inl (qo_g 40))) (qq_br 29 (qq_lf 28 (.inl (qo_al 0 1))) (qq_lf 29 (.inl (qo_get (gL w) 7 9)))))))) (qq_br 45 (qq_br 39 (qq_br 35 (qq_br 34 (qq_lf 32 (.inl (qo_il 4 2))) (qq_lf 34 (.inl (qo_ia (gL w))))) (qq_br 36 (qq_lf 35 (.inl (qo_il 3 1))) (qq_lf 36 (.inr (.inl (109, 1, none)))))) (qq_br 42 (qq_br 40 (qq_lf 39 (.inl (qo_b (fun x y => x + y)))) (qq_lf 40 (.inl (qo_is 5 2)))) (qq_br 44 (qq_lf 42 (.inl (qo_il 5 2))) (qq_lf 44 (.inl (qo_il 2 1)))))) (qq_br 54 (qq_br 50 (qq_br 48 (qq_lf 45 (.inl (qo_c (fun x y => y ≤ x) 53))) (qq_lf 48 (.inl (qo_il 5 2)))) (qq_br 53 (qq_lf 50 (.inl (qo_g 54))) (qq_lf 53 (.inl (qo_il 2 1))))) (qq_br 58 (qq_br 55 (qq_lf 54 (.inl (qo_is 2 1))) (qq_lf 55 (.inl (qo_inc 3 1)))) (qq_br 61 (qq_lf 58 (.inl (qo_g 5))) (qq_br 62 (qq_lf 61 (.inl (qo_il 2 1))) (qq_lf 62 (.inr (.inr 1)))))))))
def tm_111 (w : qS) : Nat → Option qE := (qq_br 60 (qq_br 30 (qq_br 15 (qq_br 6 (qq_br 2 (qq_br 1 (qq_lf 0 (.inl (qo_k 0 1))) (qq_lf 1 (.inl (qo_is 3 1)))) (qq_br 3 (qq_lf 2 (.inl (qo_il 3 1))) (qq_lf 3 (.inl (qo_k (iN 240) 3))))) (qq_br 10 (qq_br 9 (qq_lf 6 (.inl (qo_c (fun x y => y ≤ x) 49))) (qq_lf 9 (.inl (qo_al 0 1)))) (qq_br 13 (qq_lf 10 (.inl (qo_get (gL w) 7 8))) (qq_br 14 (qq_lf 13 (.inl (qo_il 3 1))) (qq_lf 14 (.inl (qo_al 0 1))))))) (qq_br 21 (qq_br 17 (qq_br 16 (qq_lf 15 (.inl (qo_il 3 1))) (qq_lf 16 (.inl (qo_il 1 1)))) (qq_br 20 (qq_lf 17 (.inr (.inl (93, 3, some 7)))) (qq_lf 20 (.inl (qo_zas (gL w)))))) (qq_br 25 (qq_br 22 (qq_lf 21 (.inl (qo_al 0 1))) (qq_lf 22 (.inl (qo_get (gL w) 7 9)))) (qq_br 26 (qq_lf 25 (.inl (qo_il 3 1))) (qq_br 27 (qq_lf 26 (.inl (qo_al 0 1))) (qq_lf 27 (.inl (qo_get (gL w) 7 7)))))))) (qq_br 46 (qq_br 36 (qq_br 32 (qq_br 31 (qq_lf 30 (.inl (qo_il 3 1))) (qq_lf 31 (.inl (qo_ia (gL w))))) (qq_br 33 (qq_lf 32 (.inl (qo_il 2 1))) (qq_lf 33 (.inl (qo_c (fun x y => ¬ x = y) 40))))) (qq_br 40 (qq_br 37 (qq_lf 36 (.inl (qo_k 0 1))) (qq_lf 37 (.inl (qo_g 42)))) (qq_br 42 (qq_lf 40 (.inl (qo_k (iN 1000000) 2))) (qq_br 43 (qq_lf 42 (.inl (qo_ias (gL w)))) (qq_lf 43 (.inl (qo_inc 3 1))))))) (qq_br 52 (qq_br 50 (qq_br 49 (qq_lf 46 (.inl (qo_g 2))) (qq_lf 49 (.inl (qo_k 1 1)))) (qq_br 51 (qq_lf 50 (.inl (qo_is 3 1))) (qq_lf 51 (.inl (qo_il 3 1))))) (qq_br 56 (qq_br 55 (qq_lf 52 (.inl (qo_z (fun x => x = 0) 133))) (qq_lf 55 (.inl (qo_k 0 1)))) (qq_br 57 (qq_lf 56 (.inl (qo_is 3 1))) (qq_br 58 (qq_lf 57 (.inl (qo_k 0 1))) (qq_lf 58 (.inl (qo_is 4 2))))))))) (qq_br 99 (qq_br 79 (qq_br 69 (qq_br 65 (qq_br 62 (qq_lf 60 (.inl (qo_il 4 2))) (qq_lf 62 (.inl (qo_k (iN 240) 3)))) (qq_br 68 (qq_lf 65 (.inl (qo_c (fun x y => y ≤ x) 130))) (qq_lf 68 (.inl (qo_al 0 1))))) (qq_br 74 (qq_br 72 (qq_lf 69 (.inl (qo_get (gL w) 7 8))) (qq_lf 72 (.inl (qo_il 4 2)))) (qq_br 75 (qq_lf 74 (.inl (qo_za (gL w)))) (qq_br 78 (qq_lf 75 (.inl (qo_z (fun x => x = 0) 97))) (qq_lf 78 (.inl (qo_al 0 1))))))) (qq_br 88 (qq_br 84 (qq_br 82 (qq_lf 79 (.inl (qo_get (gL w) 7 9))) (qq_lf 82 (.inl (qo_il 4 2)))) (qq_br 85 (qq_lf 84 (.inl (qo_ia (gL w)))) (qq_lf 85 (.inl (qo_z (fun x => x ≤ 0) 97))))) (qq_br 91 (qq_br 89 (qq_lf 88 (.inl (qo_al 0 1))) (qq_lf 89 (.inl (qo_il 4 2)))) (qq_br 94 (qq_lf 91 (.inr (.inl (110, 2, some 7)))) (qq_br 97 (qq_lf 94 (.inl (qo_g 99))) (qq_lf 97 (.inl (qo_k (iN 1000000) 2)))))))) (qq_br 117 (qq_br 107 (qq_br 103 (qq_br 101 (qq_lf 99 (.inl (qo_is 5 2))) (qq_lf 101 (.inl (qo_il 5 2)))) (qq_br 104 (qq_lf 103 (.inl (qo_al 0 1))) (qq_lf 104 (.inl (qo_get (gL w) 7 9))))) (qq_br 110 (qq_br 109 (qq_lf 107 (.inl (qo_il 4 2))) (qq_lf 109 (.inl (qo_ia (gL w))))) (qq_br 113 (qq_lf 110 (.inl (qo_c (fun x y => y ≤ x) 124))) (qq_br 114 (qq_lf 113 (.inl (qo_al 0 1))) (qq_lf 114 (.inl (qo_get (gL w) 7 9))))))) (qq_br 123 (qq_br 121 (qq_br 119 (qq_lf 117 (.inl (qo_il 4 2))) (qq_lf 119 (.inl (qo_il 5 2)))) (qq_br 122 (qq_lf 121 (.inl (qo_ias (gL w)))) (qq_lf 122 (.inl (qo_k 1 1))))) (qq_br 127 (qq_br 124 (qq_lf 123 (.inl (qo_is 3 1))) (qq_lf 124 (.inl (qo_inc 4 1)))) (qq_br 130 (qq_lf 127 (.inl (qo_g 60))) (qq_br 133 (qq_lf 130 (.inl (qo_g 51))) (qq_lf 133 (.inr (.inr 0))))))))))
def tm_112 (w : qS) : Nat → Option qE := (qq_br 89 (qq_br 42 (qq_br 21 (qq_br 8 (qq_br 3 (qq_br 1 (qq_lf 0 (.inl (qo_il 1 1))) (qq_lf 1 (.inl (qo_is 4 2)))) (qq_br 4 (qq_lf 3 (.inl (qo_il 2 1))) (qq_br 6 (qq_lf 4 (.inl (qo_is 5 2))) (qq_lf 6 (.inl (qo_il 5 2)))))) (qq_br 15 (qq_br 11 (qq_lf 8 (.inl (qo_z (fun x => x ≤ 0) 154))) (qq_br 12 (qq_lf 11 (.inl (qo_al 0 1))) (qq_lf 12 (.inl (qo_get (gL w) 7 0))))) (qq_br 18 (qq_lf 15 (.inl (qo_k (iN 352) 3))) (qq_br 20 (qq_lf 18 (.inl (qo_il 4 2))) (qq_lf 20 (.inl (qo_b (fun x y => x + y)))))))) (qq_br 32 (qq_br 27 (qq_br 22 (qq_lf 21 (.inl (qo_al 0 1))) (qq_br 25 (qq_lf 22 (.inl (qo_get (gL w) 7 5))) (qq_lf 25 (.inl (qo_il 4 2))))) (qq_br 28 (qq_lf 27 (.inl (qo_ia (gL w)))) (qq_br 31 (qq_lf 28 (.inl (qo_z (fun x => 0 ≤ x) 37))) (qq_lf 31 (.inl (qo_il 3 1)))))) (qq_br 37 (qq_br 33 (qq_lf 32 (.inl (qo_k 1 1))) (qq_br 34 (qq_lf 33 (.inl (qo_b (fun x y => x + y)))) (qq_lf 34 (.inl (qo_g 38))))) (qq_br 38 (qq_lf 37 (.inl (qo_k 0 1))) (qq_br 39 (qq_lf 38 (.inl (qo_ias (gL w)))) (qq_lf 39 (.inl (qo_k (iN 240) 3)))))))) (qq_br 64 (qq_br 50 (qq_br 45 (qq_br 44 (qq_lf 42 (.inl (qo_is 6 2))) (qq_lf 44 (.inl (qo_k 0 1)))) (qq_br 47 (qq_lf 45 (.inl (qo_is 7 2))) (qq_br 48 (qq_lf 47 (.inl (qo_k 0 1))) (qq_lf 48 (.inl (qo_is 8 2)))))) (qq_br 57 (qq_br 52 (qq_lf 50 (.inl (qo_il 8 2))) (qq_br 54 (qq_lf 52 (.inl (qo_k (iN 9) 2))) (qq_lf 54 (.inl (qo_c (fun x y => y ≤ x) 140))))) (qq_br 59 (qq_lf 57 (.inl (qo_il 4 2))) (qq_br 61 (qq_lf 59 (.inl (qo_il 8 2))) (qq_lf 61 (.inr (.inl (100, 2, none)))))))) (qq_br 77 (qq_br 71 (qq_br 66 (qq_lf 64 (.inl (qo_is 9 2))) (qq_br 68 (qq_lf 66 (.inl (qo_il 9 2))) (qq_lf 68 (.inl (qo_z (fun x => x < 0) 100))))) (qq_br 72 (qq_lf 71 (.inl (qo_al 0 1))) (qq_br 75 (qq_lf 72 (.inl (qo_get (gL w) 7 9))) (qq_lf 75 (.inl (qo_il 9 2)))))) (qq_br 83 (qq_br 78 (qq_lf 77 (.inl (qo_ia (gL w)))) (qq_br 80 (qq_lf 78 (.inl (qo_il 8 2))) (qq_lf 80 (.inr (.inl (109, 1, none)))))) (qq_br 84 (qq_lf 83 (.inl (qo_b (fun x y => x + y)))) (qq_br 86 (qq_lf 84 (.inl (qo_il 5 2))) (qq_lf 86 (.inl (qo_c (fun x y => ¬ x = y) 100))))))))) (qq_br 142 (qq_br 113 (qq_br 100 (qq_br 93 (qq_br 91 (qq_lf 89 (.inl (qo_il 9 2))) (qq_lf 91 (.inl (qo_il 6 2)))) (qq_br 96 (qq_lf 93 (.inl (qo_c (fun x y => y ≤ x) 100))) (qq_br 97 (qq_lf 96 (.inl (qo_k 1 1))) (qq_lf 97 (.inl (qo_g 101)))))) (qq_br 105 (qq_br 101 (qq_lf 100 (.inl (qo_k 0 1))) (qq_br 103 (qq_lf 101 (.inl (qo_is 10 2))) (qq_lf 103 (.inl (qo_il 10 2))))) (qq_br 108 (qq_lf 105 (.inl (qo_z (fun x => x = 0) 116))) (qq_br 110 (qq_lf 108 (.inl (qo_il 8 2))) (qq_lf 110 (.inr (.inl (109, 1, none)))))))) (qq_br 127 (qq_br 120 (qq_br 116 (qq_lf 113 (.inl (qo_g 118))) (qq_br 118 (qq_lf 116 (.inl (qo_il 7 2))) (qq_lf 118 (.inl (qo_is 7 2))))) (qq_br 122 (qq_lf 120 (.inl (qo_il 10 2))) (qq_br 125 (qq_lf 122 (.inl (qo_z (fun x => x = 0) 130))) (qq_lf 125 (.inl (qo_il 9 2)))))) (qq_br 134 (qq_br 130 (qq_lf 127 (.inl (qo_g 132))) (qq_br 132 (qq_lf 130 (.inl (qo_il 6 2))) (qq_lf 132 (.inl (qo_is 6 2))))) (qq_br 137 (qq_lf 134 (.inl (qo_inc 8 1))) (qq_br 140 (qq_lf 137 (.inl (qo_g 50))) (qq_lf 140 (.inl (qo_il 5 2)))))))) (qq_br 164 (qq_br 151 (qq_br 145 (qq_br 144 (qq_lf 142 (.inl (qo_il 7 2))) (qq_lf 144 (.inl (qo_b (fun x y => x - y))))) (qq_br 147 (qq_lf 145 (.inl (qo_is 5 2))) (qq_br 149 (qq_lf 147 (.inl (qo_il 6 2))) (qq_lf 149 (.inl (qo_is 4 2)))))) (qq_br 158 (qq_br 154 (qq_lf 151 (.inl (qo_g 6))) (qq_br 155 (qq_lf 154 (.inl (qo_al 0 1))) (qq_lf 155 (.inl (qo_get (gL w) 7 0))))) (qq_br 161 (qq_lf 158 (.inl (qo_k (iN 352) 3))) (qq_br 163 (qq_lf 161 (.inl (qo_il 4 2))) (qq_lf 163 (.inl (qo_b (fun x y => x + y)))))))) (qq_br 175 (qq_br 170 (qq_br 165 (qq_lf 164 (.inl (qo_al 0 1))) (qq_br 168 (qq_lf 165 (.inl (qo_get (gL w) 7 5))) (qq_lf 168 (.inl (qo_il 4 2))))) (qq_br 171 (qq_lf 170 (.inl (qo_ia (gL w)))) (qq_br 174 (qq_lf 171 (.inl (qo_z (fun x => 0 ≤ x) 180))) (qq_lf 174 (.inl (qo_il 3 1)))))) (qq_br 180 (qq_br 176 (qq_lf 175 (.inl (qo_k 1 1))) (qq_br 177 (qq_lf 176 (.inl (qo_b (fun x y => x + y)))) (qq_lf 177 (.inl (qo_g 181))))) (qq_br 181 (qq_lf 180 (.inl (qo_k 0 1))) (qq_br 182 (qq_lf 181 (.inl (qo_ias (gL w)))) (qq_lf 182 (.inr (.inr 0))))))))))
def tm_113 (w : qS) : Nat → Option qE := (qq_br 59 (qq_br 27 (qq_br 12 (qq_br 6 (qq_br 2 (qq_br 1 (qq_lf 0 (.inl (qo_al 0 1))) (qq_lf 1 (.inl (qo_il 1 1)))) (qq_br 5 (qq_lf 2 (.inr (.inl (108, 2, some 7)))) (qq_lf 5 (.inl (qo_is 2 1))))) (qq_br 10 (qq_br 7 (qq_lf 6 (.inl (qo_il 2 1))) (qq_lf 7 (.inl (qo_z (fun x => 0 ≤ x) 12)))) (qq_br 11 (qq_lf 10 (.inl (qo_k 0 1))) (qq_lf 11 (.inr (.inr 1)))))) (qq_br 18 (qq_br 14 (qq_br 13 (qq_lf 12 (.inl (qo_al 0 1))) (qq_lf 13 (.inl (qo_il 1 1)))) (qq_br 15 (qq_lf 14 (.inl (qo_al 0 1))) (qq_lf 15 (.inl (qo_get (gL w) 7 7))))) (qq_br 20 (qq_br 19 (qq_lf 18 (.inl (qo_al 0 1))) (qq_lf 19 (.inl (qo_al 0 1)))) (qq_br 21 (qq_lf 20 (.inl (qo_il 1 1))) (qq_br 24 (qq_lf 21 (.inr (.inl (107, 2, some 7)))) (qq_lf 24 (.inr (.inl (106, 2, some 7))))))))) (qq_br 40 (qq_br 33 (qq_br 31 (qq_br 28 (qq_lf 27 (.inl (qo_ia (gL w)))) (qq_lf 28 (.inr (.inl (111, 3, some 7))))) (qq_br 32 (qq_lf 31 (.inl (qo_k (-1) 1))) (qq_lf 32 (.inl (qo_is 3 1))))) (qq_br 37 (qq_br 35 (qq_lf 33 (.inl (qo_k (iN 1000000) 2))) (qq_lf 35 (.inl (qo_is 4 2)))) (qq_br 38 (qq_lf 37 (.inl (qo_k 0 1))) (qq_lf 38 (.inl (qo_is 5 2)))))) (qq_br 49 (qq_br 45 (qq_br 42 (qq_lf 40 (.inl (qo_il 5 2))) (qq_lf 42 (.inl (qo_k (iN 240) 3)))) (qq_br 48 (qq_lf 45 (.inl (qo_c (fun x y => y ≤ x) 108))) (qq_lf 48 (.inl (qo_al 0 1))))) (qq_br 54 (qq_br 52 (qq_lf 49 (.inl (qo_get (gL w) 7 5))) (qq_lf 52 (.inl (qo_il 5 2)))) (qq_br 55 (qq_lf 54 (.inl (qo_ia (gL w)))) (qq_br 56 (qq_lf 55 (.inl (qo_il 2 1))) (qq_lf 56 (.inl (qo_c (fun x y => ¬ x = y) 68))))))))) (qq_br 95 (qq_br 76 (qq_br 68 (qq_br 62 (qq_br 60 (qq_lf 59 (.inl (qo_al 0 1))) (qq_lf 60 (.inl (qo_il 5 2)))) (qq_br 65 (qq_lf 62 (.inr (.inl (110, 2, some 7)))) (qq_lf 65 (.inl (qo_g 70))))) (qq_br 72 (qq_br 70 (qq_lf 68 (.inl (qo_k (iN 1000000) 2))) (qq_lf 70 (.inl (qo_is 6 2)))) (qq_br 74 (qq_lf 72 (.inl (qo_il 6 2))) (qq_lf 74 (.inl (qo_il 4 2)))))) (qq_br 85 (qq_br 81 (qq_br 79 (qq_lf 76 (.inl (qo_c (fun x y => y ≤ x) 84))) (qq_lf 79 (.inl (qo_il 5 2)))) (qq_br 84 (qq_lf 81 (.inl (qo_g 85))) (qq_lf 84 (.inl (qo_il 3 1))))) (qq_br 88 (qq_br 86 (qq_lf 85 (.inl (qo_is 3 1))) (qq_lf 86 (.inl (qo_il 6 2)))) (qq_br 90 (qq_lf 88 (.inl (qo_il 4 2))) (qq_br 93 (qq_lf 90 (.inl (qo_c (fun x y => y ≤ x) 98))) (qq_lf 93 (.inl (qo_il 6 2)))))))) (qq_br 115 (qq_br 105 (qq_br 100 (qq_br 98 (qq_lf 95 (.inl (qo_g 100))) (qq_lf 98 (.inl (qo_il 4 2)))) (qq_br 102 (qq_lf 100 (.inl (qo_is 4 2))) (qq_lf 102 (.inl (qo_inc 5 1))))) (qq_br 109 (qq_br 108 (qq_lf 105 (.inl (qo_g 40))) (qq_lf 108 (.inl (qo_il 3 1)))) (qq_br 112 (qq_lf 109 (.inl (qo_z (fun x => 0 ≤ x) 115))) (qq_br 114 (qq_lf 112 (.inl (qo_k (-2) 2))) (qq_lf 114 (.inr (.inr 1))))))) (qq_br 120 (qq_br 117 (qq_br 116 (qq_lf 115 (.inl (qo_al 0 1))) (qq_lf 116 (.inl (qo_il 3 1)))) (qq_br 119 (qq_lf 117 (.inl (qo_il 4 2))) (qq_lf 119 (.inl (qo_il 2 1))))) (qq_br 124 (qq_br 123 (qq_lf 120 (.inr (.inl (112, 4, some 7)))) (qq_lf 123 (.inl (qo_al 0 1)))) (qq_br 127 (qq_lf 124 (.inr (.inl (80, 1, some 7)))) (qq_br 129 (qq_lf 127 (.inl (qo_il 4 2))) (qq_lf 129 (.inr (.inr 1))))))))))
def tm_114 (w : qS) : Nat → Option qE := (qq_br 15 (qq_br 8 (qq_br 2 (qq_br 1 (qq_lf 0 (.inl (qo_al 0 1))) (qq_lf 1 (.inl (qo_il 1 1)))) (qq_br 5 (qq_lf 2 (.inr (.inl (84, 2, some 7)))) (qq_lf 5 (.inl (qo_z (fun x => ¬ x = 0) 10))))) (qq_br 10 (qq_br 9 (qq_lf 8 (.inl (qo_k (-1) 1))) (qq_lf 9 (.inr (.inr 1)))) (qq_br 11 (qq_lf 10 (.inl (qo_al 0 1))) (qq_br 14 (qq_lf 11 (.inr (.inl (81, 1, some 7)))) (qq_lf 14 (.inl (qo_al 0 1))))))) (qq_br 24 (qq_br 19 (qq_br 16 (qq_lf 15 (.inl (qo_al 0 1))) (qq_lf 16 (.inl (qo_get (gL w) 7 4)))) (qq_br 20 (qq_lf 19 (.inl (qo_il 1 1))) (qq_br 21 (qq_lf 20 (.inl (qo_ia (gL w)))) (qq_lf 21 (.inr (.inl (113, 2, some 7))))))) (qq_br 26 (qq_br 25 (qq_lf 24 (.inl (qo_is 2 1))) (qq_lf 25 (.inl (qo_al 0 1)))) (qq_br 29 (qq_lf 26 (.inr (.inl (82, 1, some 7)))) (qq_br 30 (qq_lf 29 (.inl (qo_il 2 1))) (qq_lf 30 (.inr (.inr 1))))))))
def tm_115 (w : qS) : Nat → Option qE := (qq_br 74 (qq_br 35 (qq_br 15 (qq_br 6 (qq_br 2 (qq_br 1 (qq_lf 0 (.inl (qo_k 0 1))) (qq_lf 1 (.inl (qo_is 2 1)))) (qq_br 4 (qq_lf 2 (.inl (qo_k (iN 20) 2))) (qq_br 5 (qq_lf 4 (.inl (qo_is 3 1))) (qq_lf 5 (.inl (qo_k (-1) 1)))))) (qq_br 10 (qq_br 8 (qq_lf 6 (.inl (qo_is 4 2))) (qq_lf 8 (.inl (qo_k (iN 20) 2)))) (qq_br 12 (qq_lf 10 (.inl (qo_is 5 2))) (qq_br 13 (qq_lf 12 (.inl (qo_k (-1) 1))) (qq_lf 13 (.inl (qo_is 6 2))))))) (qq_br 24 (qq_br 18 (qq_br 16 (qq_lf 15 (.inl (qo_k 0 1))) (qq_lf 16 (.inl (qo_is 7 2)))) (qq_br 20 (qq_lf 18 (.inl (qo_il 7 2))) (qq_br 21 (qq_lf 20 (.inl (qo_al 0 1))) (qq_lf 21 (.inl (qo_get (gL w) 7 0)))))) (qq_br 29 (qq_br 25 (qq_lf 24 (.inl (qo_k 0 1))) (qq_br 26 (qq_lf 25 (.inl (qo_ia (gL w)))) (qq_lf 26 (.inl (qo_c (fun x y => y ≤ x) 144))))) (qq_br 30 (qq_lf 29 (.inl (qo_al 0 1))) (qq_br 33 (qq_lf 30 (.inl (qo_get (gL w) 7 0))) (qq_lf 33 (.inl (qo_k (iN 32) 2)))))))) (qq_br 54 (qq_br 42 (qq_br 38 (qq_br 37 (qq_lf 35 (.inl (qo_il 7 2))) (qq_lf 37 (.inl (qo_b (fun x y => x + y))))) (qq_br 39 (qq_lf 38 (.inl (qo_ia (gL w)))) (qq_br 41 (qq_lf 39 (.inl (qo_is 8 2))) (qq_lf 41 (.inl (qo_al 0 1)))))) (qq_br 48 (qq_br 45 (qq_lf 42 (.inl (qo_get (gL w) 7 4))) (qq_br 47 (qq_lf 45 (.inl (qo_il 7 2))) (qq_lf 47 (.inl (qo_ia (gL w)))))) (qq_br 49 (qq_lf 48 (.inl (qo_il 1 1))) (qq_br 52 (qq_lf 49 (.inl (qo_c (fun x y => ¬ x = y) 138))) (qq_lf 52 (.inl (qo_il 8 2))))))) (qq_br 64 (qq_br 59 (qq_br 57 (qq_lf 54 (.inl (qo_z (fun x => x ≤ 0) 138))) (qq_lf 57 (.inl (qo_il 8 2)))) (qq_br 61 (qq_lf 59 (.inl (qo_k (iN 12) 2))) (qq_br 62 (qq_lf 61 (.inl (qo_d (fun x y => x - x / y * y)))) (qq_lf 62 (.inl (qo_is 9 2)))))) (qq_br 69 (qq_br 66 (qq_lf 64 (.inl (qo_il 8 2))) (qq_br 68 (qq_lf 66 (.inl (qo_k (iN 120) 2))) (qq_lf 68 (.inl (qo_d (fun x y => x - x / y * y)))))) (qq_br 71 (qq_lf 69 (.inl (qo_k (iN 12) 2))) (qq_br 72 (qq_lf 71 (.inl (qo_d (fun x y => x / y)))) (qq_lf 72 (.inl (qo_is 10 2))))))))) (qq_br 122 (qq_br 97 (qq_br 85 (qq_br 79 (qq_br 77 (qq_lf 74 (.inl (qo_inc 2 1))) (qq_lf 77 (.inl (qo_il 9 2)))) (qq_br 80 (qq_lf 79 (.inl (qo_il 3 1))) (qq_br 83 (qq_lf 80 (.inl (qo_c (fun x y => y ≤ x) 88))) (qq_lf 83 (.inl (qo_il 9 2)))))) (qq_br 90 (qq_br 88 (qq_lf 85 (.inl (qo_g 89))) (qq_br 89 (qq_lf 88 (.inl (qo_il 3 1))) (qq_lf 89 (.inl (qo_is 3 1))))) (qq_br 92 (qq_lf 90 (.inl (qo_il 9 2))) (qq_br 94 (qq_lf 92 (.inl (qo_il 4 2))) (qq_lf 94 (.inl (qo_c (fun x y => x ≤ y) 102))))))) (qq_br 108 (qq_br 102 (qq_br 99 (qq_lf 97 (.inl (qo_il 9 2))) (qq_lf 99 (.inl (qo_g 104)))) (qq_br 104 (qq_lf 102 (.inl (qo_il 4 2))) (qq_br 106 (qq_lf 104 (.inl (qo_is 4 2))) (qq_lf 106 (.inl (qo_il 10 2)))))) (qq_br 115 (qq_br 110 (qq_lf 108 (.inl (qo_il 5 2))) (qq_br 113 (qq_lf 110 (.inl (qo_c (fun x y => y ≤ x) 118))) (qq_lf 113 (.inl (qo_il 10 2))))) (qq_br 118 (qq_lf 115 (.inl (qo_g 120))) (qq_br 120 (qq_lf 118 (.inl (qo_il 5 2))) (qq_lf 120 (.inl (qo_is 5 2)))))))) (qq_br 146 (qq_br 134 (qq_br 126 (qq_br 124 (qq_lf 122 (.inl (qo_il 10 2))) (qq_lf 124 (.inl (qo_il 6 2)))) (qq_br 129 (qq_lf 126 (.inl (qo_c (fun x y => x ≤ y) 134))) (qq_br 131 (qq_lf 129 (.inl (qo_il 10 2))) (qq_lf 131 (.inl (qo_g 136)))))) (qq_br 141 (qq_br 136 (qq_lf 134 (.inl (qo_il 6 2))) (qq_br 138 (qq_lf 136 (.inl (qo_is 6 2))) (qq_lf 138 (.inl (qo_inc 7 1))))) (qq_br 144 (qq_lf 141 (.inl (qo_g 18))) (qq_br 145 (qq_lf 144 (.inl (qo_il 2 1))) (qq_lf 145 (.inl (qo_k (iN 2) 1))))))) (qq_br 156 (qq_br 150 (qq_br 149 (qq_lf 146 (.inl (qo_c (fun x y => y ≤ x) 153))) (qq_lf 149 (.inl (qo_k (-1) 1)))) (qq_br 153 (qq_lf 150 (.inl (qo_g 163))) (qq_br 155 (qq_lf 153 (.inl (qo_il 4 2))) (qq_lf 155 (.inl (qo_il 3 1)))))) (qq_br 160 (qq_br 157 (qq_lf 156 (.inl (qo_b (fun x y => x - y)))) (qq_br 159 (qq_lf 157 (.inl (qo_il 6 2))) (qq_lf 159 (.inl (qo_b (fun x y => x + y)))))) (qq_br 162 (qq_lf 160 (.inl (qo_il 5 2))) (qq_br 163 (qq_lf 162 (.inl (qo_b (fun x y => x - y)))) (qq_lf 163 (.inr (.inr 1))))))))))
def tm_116 (w : qS) : Nat → Option qE := (qq_br 74 (qq_br 32 (qq_br 15 (qq_br 7 (qq_br 4 (qq_br 1 (qq_lf 0 (.inl (qo_al 0 1))) (qq_lf 1 (.inr (.inl (81, 1, some 7))))) (qq_br 5 (qq_lf 4 (.inl (qo_k 0 1))) (qq_br 6 (qq_lf 5 (.inl (qo_is 1 1))) (qq_lf 6 (.inl (qo_k 0 1)))))) (qq_br 9 (qq_br 8 (qq_lf 7 (.inl (qo_is 2 1))) (qq_lf 8 (.inl (qo_il 2 1)))) (qq_br 11 (qq_lf 9 (.inl (qo_k (iN 21) 2))) (qq_br 14 (qq_lf 11 (.inl (qo_c (fun x y => y ≤ x) 67))) (qq_lf 14 (.inl (qo_k 0 1))))))) (qq_br 22 (qq_br 17 (qq_br 16 (qq_lf 15 (.inl (qo_is 3 1))) (qq_lf 16 (.inl (qo_il 3 1)))) (qq_br 18 (qq_lf 17 (.inl (qo_al 0 1))) (qq_br 21 (qq_lf 18 (.inl (qo_get (gL w) 7 0))) (qq_lf 21 (.inl (qo_k 0 1)))))) (qq_br 27 (qq_br 23 (qq_lf 22 (.inl (qo_ia (gL w)))) (qq_br 26 (qq_lf 23 (.inl (qo_c (fun x y => y ≤ x) 61))) (qq_lf 26 (.inl (qo_al 0 1))))) (qq_br 30 (qq_lf 27 (.inl (qo_get (gL w) 7 4))) (qq_br 31 (qq_lf 30 (.inl (qo_il 3 1))) (qq_lf 31 (.inl (qo_ia (gL w))))))))) (qq_br 51 (qq_br 41 (qq_br 36 (qq_br 33 (qq_lf 32 (.inl (qo_il 3 1))) (qq_lf 33 (.inl (qo_c (fun x y => ¬ x = y) 55)))) (qq_br 37 (qq_lf 36 (.inl (qo_al 0 1))) (qq_br 38 (qq_lf 37 (.inl (qo_il 3 1))) (qq_lf 38 (.inr (.inl (115, 2, some 7))))))) (qq_br 46 (qq_br 42 (qq_lf 41 (.inl (qo_il 2 1))) (qq_br 45 (qq_lf 42 (.inl (qo_c (fun x y => ¬ x = y) 55))) (qq_lf 45 (.inl (qo_al 0 1))))) (qq_br 49 (qq_lf 46 (.inl (qo_get (gL w) 7 13))) (qq_br 50 (qq_lf 49 (.inl (qo_il 1 1))) (qq_lf 50 (.inl (qo_il 3 1))))))) (qq_br 64 (qq_br 55 (qq_br 52 (qq_lf 51 (.inl (qo_ias (gL w)))) (qq_lf 52 (.inl (qo_inc 1 1)))) (qq_br 58 (qq_lf 55 (.inl (qo_inc 3 1))) (qq_br 61 (qq_lf 58 (.inl (qo_g 16))) (qq_lf 61 (.inl (qo_inc 2 1)))))) (qq_br 69 (qq_br 67 (qq_lf 64 (.inl (qo_g 8))) (qq_br 68 (qq_lf 67 (.inl (qo_k 0 1))) (qq_lf 68 (.inl (qo_is 2 1))))) (qq_br 70 (qq_lf 69 (.inl (qo_il 2 1))) (qq_br 71 (qq_lf 70 (.inl (qo_il 1 1))) (qq_lf 71 (.inl (qo_c (fun x y => y ≤ x) 108))))))))) (qq_br 112 (qq_br 93 (qq_br 81 (qq_br 76 (qq_br 75 (qq_lf 74 (.inl (qo_k 1 1))) (qq_lf 75 (.inl (qo_is 3 1)))) (qq_br 77 (qq_lf 76 (.inl (qo_il 3 1))) (qq_br 80 (qq_lf 77 (.inl (qo_z (fun x => x = 0) 102))) (qq_lf 80 (.inl (qo_al 0 1)))))) (qq_br 86 (qq_br 82 (qq_lf 81 (.inl (qo_al 0 1))) (qq_br 85 (qq_lf 82 (.inl (qo_get (gL w) 7 13))) (qq_lf 85 (.inl (qo_il 2 1))))) (qq_br 87 (qq_lf 86 (.inl (qo_ia (gL w)))) (qq_br 90 (qq_lf 87 (.inr (.inl (113, 2, some 7)))) (qq_lf 90 (.inl (qo_z (fun x => x ≤ 0) 97))))))) (qq_br 102 (qq_br 97 (qq_br 94 (qq_lf 93 (.inl (qo_k 1 1))) (qq_lf 94 (.inl (qo_g 98)))) (qq_br 98 (qq_lf 97 (.inl (qo_k 0 1))) (qq_br 99 (qq_lf 98 (.inl (qo_is 3 1))) (qq_lf 99 (.inl (qo_g 76)))))) (qq_br 109 (qq_br 105 (qq_lf 102 (.inl (qo_inc 2 1))) (qq_br 108 (qq_lf 105 (.inl (qo_g 69))) (qq_lf 108 (.inl (qo_k 0 1))))) (qq_br 110 (qq_lf 109 (.inl (qo_is 2 1))) (qq_br 111 (qq_lf 110 (.inl (qo_k 0 1))) (qq_lf 111 (.inl (qo_is 3 1)))))))) (qq_br 131 (qq_br 119 (qq_br 114 (qq_br 113 (qq_lf 112 (.inl (qo_il 3 1))) (qq_lf 113 (.inl (qo_il 1 1)))) (qq_br 117 (qq_lf 114 (.inl (qo_c (fun x y => y ≤ x) 144))) (qq_br 118 (qq_lf 117 (.inl (qo_al 0 1))) (qq_lf 118 (.inl (qo_al 0 1)))))) (qq_br 124 (qq_br 122 (qq_lf 119 (.inl (qo_get (gL w) 7 13))) (qq_br 123 (qq_lf 122 (.inl (qo_il 3 1))) (qq_lf 123 (.inl (qo_ia (gL w)))))) (qq_br 127 (qq_lf 124 (.inr (.inl (108, 2, some 7)))) (qq_br 130 (qq_lf 127 (.inl (qo_z (fun x => 0 ≤ x) 136))) (qq_lf 130 (.inl (qo_il 2 1))))))) (qq_br 138 (qq_br 133 (qq_br 132 (qq_lf 131 (.inl (qo_k 1 1))) (qq_lf 132 (.inl (qo_b (fun x y => x + y))))) (qq_br 136 (qq_lf 133 (.inl (qo_g 137))) (qq_br 137 (qq_lf 136 (.inl (qo_il 2 1))) (qq_lf 137 (.inl (qo_is 2 1)))))) (qq_br 145 (qq_br 141 (qq_lf 138 (.inl (qo_inc 3 1))) (qq_br 144 (qq_lf 141 (.inl (qo_g 112))) (qq_lf 144 (.inl (qo_al 0 1))))) (qq_br 148 (qq_lf 145 (.inr (.inl (82, 1, some 7)))) (qq_br 149 (qq_lf 148 (.inl (qo_il 2 1))) (qq_lf 149 (.inr (.inr 1))))))))))
def tm_117 (w : qS) : Nat → Option qE := (qq_br 19 (qq_br 9 (qq_br 2 (qq_br 1 (qq_lf 0 (.inl (qo_k 0 1))) (qq_lf 1 (.inl (qo_is 3 1)))) (qq_br 3 (qq_lf 2 (.inl (qo_il 3 1))) (qq_br 6 (qq_lf 3 (.inl (qo_k (iN 240) 3))) (qq_lf 6 (.inl (qo_c (fun x y => y ≤ x) 37)))))) (qq_br 14 (qq_br 10 (qq_lf 9 (.inl (qo_al 0 1))) (qq_br 13 (qq_lf 10 (.inl (qo_get (gL w) 7 6))) (qq_lf 13 (.inl (qo_il 3 1))))) (qq_br 15 (qq_lf 14 (.inl (qo_ia (gL w)))) (qq_br 16 (qq_lf 15 (.inl (qo_il 1 1))) (qq_lf 16 (.inl (qo_c (fun x y => ¬ x = y) 31))))))) (qq_br 29 (qq_br 22 (qq_br 20 (qq_lf 19 (.inl (qo_al 0 1))) (qq_br 21 (qq_lf 20 (.inl (qo_il 3 1))) (qq_lf 21 (.inl (qo_il 2 1))))) (qq_br 23 (qq_lf 22 (.inl (qo_k 1 1))) (qq_br 26 (qq_lf 23 (.inr (.inl (92, 4, some 7)))) (qq_lf 26 (.inl (qo_z (fun x => x = 0) 31)))))) (qq_br 34 (qq_br 30 (qq_lf 29 (.inl (qo_il 3 1))) (qq_br 31 (qq_lf 30 (.inr (.inr 1))) (qq_lf 31 (.inl (qo_inc 3 1))))) (qq_br 37 (qq_lf 34 (.inl (qo_g 2))) (qq_br 38 (qq_lf 37 (.inl (qo_k (-1) 1))) (qq_lf 38 (.inr (.inr 1))))))))
def tm_118 (w : qS) : Nat → Option qE := (qq_br 108 (qq_br 53 (qq_br 23 (qq_br 13 (qq_br 5 (qq_br 1 (qq_lf 0 (.inl (qo_il 2 1))) (qq_br 4 (qq_lf 1 (.inl (qo_z (fun x => x < 0) 13))) (qq_lf 4 (.inl (qo_il 2 1))))) (qq_br 9 (qq_br 6 (qq_lf 5 (.inl (qo_k (iN 3) 1))) (qq_lf 6 (.inl (qo_c (fun x y => y < x) 13)))) (qq_br 10 (qq_lf 9 (.inl (qo_il 1 1))) (qq_lf 10 (.inl (qo_z (fun x => 0 ≤ x) 15)))))) (qq_br 17 (qq_br 15 (qq_br 14 (qq_lf 13 (.inl (qo_k (-1) 1))) (qq_lf 14 (.inr (.inr 1)))) (qq_br 16 (qq_lf 15 (.inl (qo_k 0 1))) (qq_lf 16 (.inl (qo_is 3 1))))) (qq_br 20 (qq_br 18 (qq_lf 17 (.inl (qo_k 0 1))) (qq_lf 18 (.inl (qo_is 4 2)))) (qq_br 22 (qq_lf 20 (.inl (qo_il 4 2))) (qq_lf 22 (.inl (qo_al 0 1))))))) (qq_br 37 (qq_br 28 (qq_br 26 (qq_lf 23 (.inl (qo_get (gL w) 7 0))) (qq_br 27 (qq_lf 26 (.inl (qo_k 0 1))) (qq_lf 27 (.inl (qo_ia (gL w)))))) (qq_br 32 (qq_br 31 (qq_lf 28 (.inl (qo_c (fun x y => y ≤ x) 114))) (qq_lf 31 (.inl (qo_al 0 1)))) (qq_br 35 (qq_lf 32 (.inl (qo_get (gL w) 7 4))) (qq_lf 35 (.inl (qo_il 4 2)))))) (qq_br 44 (qq_br 40 (qq_br 38 (qq_lf 37 (.inl (qo_ia (gL w)))) (qq_lf 38 (.inl (qo_il 4 2)))) (qq_br 43 (qq_lf 40 (.inl (qo_c (fun x y => ¬ x = y) 52))) (qq_lf 43 (.inl (qo_al 0 1))))) (qq_br 49 (qq_br 46 (qq_lf 44 (.inl (qo_il 4 2))) (qq_lf 46 (.inr (.inl (108, 2, some 7))))) (qq_br 52 (qq_lf 49 (.inl (qo_g 53))) (qq_lf 52 (.inl (qo_k (-1) 1)))))))) (qq_br 83 (qq_br 66 (qq_br 60 (qq_br 55 (qq_lf 53 (.inl (qo_is 5 2))) (qq_br 57 (qq_lf 55 (.inl (qo_il 5 2))) (qq_lf 57 (.inl (qo_z (fun x => x < 0) 95))))) (qq_br 62 (qq_br 61 (qq_lf 60 (.inl (qo_il 3 1))) (qq_lf 61 (.inl (qo_il 1 1)))) (qq_br 65 (qq_lf 62 (.inl (qo_c (fun x y => ¬ x = y) 95))) (qq_lf 65 (.inl (qo_il 2 1)))))) (qq_br 74 (qq_br 70 (qq_br 69 (qq_lf 66 (.inl (qo_z (fun x => ¬ x = 0) 73))) (qq_lf 69 (.inl (qo_k 1 1)))) (qq_br 73 (qq_lf 70 (.inl (qo_g 94))) (qq_lf 73 (.inl (qo_il 2 1))))) (qq_br 78 (qq_br 75 (qq_lf 74 (.inl (qo_k 1 1))) (qq_lf 75 (.inl (qo_c (fun x y => ¬ x = y) 83)))) (qq_br 80 (qq_lf 78 (.inl (qo_il 4 2))) (qq_lf 80 (.inl (qo_g 94))))))) (qq_br 95 (qq_br 88 (qq_br 84 (qq_lf 83 (.inl (qo_il 2 1))) (qq_br 85 (qq_lf 84 (.inl (qo_k (iN 2) 1))) (qq_lf 85 (.inl (qo_c (fun x y => ¬ x = y) 93))))) (qq_br 93 (qq_br 90 (qq_lf 88 (.inl (qo_il 5 2))) (qq_lf 90 (.inl (qo_g 94)))) (qq_br 94 (qq_lf 93 (.inl (qo_k (-1) 1))) (qq_lf 94 (.inr (.inr 1)))))) (qq_br 102 (qq_br 100 (qq_br 97 (qq_lf 95 (.inl (qo_il 5 2))) (qq_lf 97 (.inl (qo_z (fun x => x < 0) 106)))) (qq_br 101 (qq_lf 100 (.inl (qo_il 3 1))) (qq_lf 101 (.inl (qo_k 1 1))))) (qq_br 106 (qq_br 103 (qq_lf 102 (.inl (qo_b (fun x y => x + y)))) (qq_lf 103 (.inl (qo_g 107)))) (qq_br 107 (qq_lf 106 (.inl (qo_il 3 1))) (qq_lf 107 (.inl (qo_is 3 1))))))))) (qq_br 165 (qq_br 136 (qq_br 123 (qq_br 115 (qq_br 111 (qq_lf 108 (.inl (qo_inc 4 1))) (qq_br 114 (qq_lf 111 (.inl (qo_g 20))) (qq_lf 114 (.inl (qo_k 0 1))))) (qq_br 119 (qq_br 117 (qq_lf 115 (.inl (qo_is 4 2))) (qq_lf 117 (.inl (qo_il 4 2)))) (qq_br 120 (qq_lf 119 (.inl (qo_al 0 1))) (qq_lf 120 (.inl (qo_get (gL w) 7 0)))))) (qq_br 130 (qq_br 125 (qq_br 124 (qq_lf 123 (.inl (qo_k 0 1))) (qq_lf 124 (.inl (qo_ia (gL w))))) (qq_br 128 (qq_lf 125 (.inl (qo_c (fun x y => y ≤ x) 221))) (qq_lf 128 (.inl (qo_il 4 2))))) (qq_br 132 (qq_br 131 (qq_lf 130 (.inl (qo_k 1 1))) (qq_lf 131 (.inl (qo_b (fun x y => x + y))))) (qq_br 134 (qq_lf 132 (.inl (qo_is 5 2))) (qq_lf 134 (.inl (qo_il 5 2))))))) (qq_br 148 (qq_br 141 (qq_br 137 (qq_lf 136 (.inl (qo_al 0 1))) (qq_br 140 (qq_lf 137 (.inl (qo_get (gL w) 7 0))) (qq_lf 140 (.inl (qo_k 0 1))))) (qq_br 145 (qq_br 142 (qq_lf 141 (.inl (qo_ia (gL w)))) (qq_lf 142 (.inl (qo_c (fun x y => y ≤ x) 215)))) (qq_br 146 (qq_lf 145 (.inl (qo_al 0 1))) (qq_lf 146 (.inl (qo_il 4 2)))))) (qq_br 157 (qq_br 153 (qq_br 150 (qq_lf 148 (.inl (qo_il 5 2))) (qq_lf 150 (.inr (.inl (117, 3, some 7))))) (qq_br 155 (qq_lf 153 (.inl (qo_is 6 2))) (qq_lf 155 (.inl (qo_il 6 2))))) (qq_br 161 (qq_br 160 (qq_lf 157 (.inl (qo_z (fun x => x < 0) 196))) (qq_lf 160 (.inl (qo_il 3 1)))) (qq_br 162 (qq_lf 161 (.inl (qo_il 1 1))) (qq_lf 162 (.inl (qo_c (fun x y => ¬ x = y) 196)))))))) (qq_br 195 (qq_br 178 (qq_br 170 (qq_br 166 (qq_lf 165 (.inl (qo_il 2 1))) (qq_br 169 (qq_lf 166 (.inl (qo_z (fun x => ¬ x = 0) 173))) (qq_lf 169 (.inl (qo_k (iN 2) 1))))) (qq_br 174 (qq_br 173 (qq_lf 170 (.inl (qo_g 195))) (qq_lf 173 (.inl (qo_il 2 1)))) (qq_br 175 (qq_lf 174 (.inl (qo_k 1 1))) (qq_lf 175 (.inl (qo_c (fun x y => ¬ x = y) 183)))))) (qq_br 185 (qq_br 183 (qq_br 180 (qq_lf 178 (.inl (qo_il 4 2))) (qq_lf 180 (.inl (qo_g 195)))) (qq_br 184 (qq_lf 183 (.inl (qo_il 2 1))) (qq_lf 184 (.inl (qo_k (iN 2) 1))))) (qq_br 190 (qq_br 188 (qq_lf 185 (.inl (qo_c (fun x y => ¬ x = y) 193))) (qq_lf 188 (.inl (qo_il 5 2)))) (qq_br 193 (qq_lf 190 (.inl (qo_g 195))) (qq_lf 193 (.inl (qo_il 6 2))))))) (qq_br 207 (qq_br 201 (qq_br 196 (qq_lf 195 (.inr (.inr 1))) (qq_br 198 (qq_lf 196 (.inl (qo_il 6 2))) (qq_lf 198 (.inl (qo_z (fun x => x < 0) 207))))) (qq_br 203 (qq_br 202 (qq_lf 201 (.inl (qo_il 3 1))) (qq_lf 202 (.inl (qo_k 1 1)))) (qq_br 204 (qq_lf 203 (.inl (qo_b (fun x y => x + y)))) (qq_lf 204 (.inl (qo_g 208)))))) (qq_br 215 (qq_br 209 (qq_br 208 (qq_lf 207 (.inl (qo_il 3 1))) (qq_lf 208 (.inl (qo_is 3 1)))) (qq_br 212 (qq_lf 209 (.inl (qo_inc 5 1))) (qq_lf 212 (.inl (qo_g 134))))) (qq_br 221 (qq_br 218 (qq_lf 215 (.inl (qo_inc 4 1))) (qq_lf 218 (.inl (qo_g 117)))) (qq_br 222 (qq_lf 221 (.inl (qo_k (-1) 1))) (qq_lf 222 (.inr (.inr 1))))))))))
def tm_119 (w : qS) : Nat → Option qE := (qq_br 109 (qq_br 53 (qq_br 23 (qq_br 13 (qq_br 5 (qq_br 1 (qq_lf 0 (.inl (qo_il 1 1))) (qq_br 4 (qq_lf 1 (.inl (qo_z (fun x => x < 0) 13))) (qq_lf 4 (.inl (qo_il 1 1))))) (qq_br 9 (qq_br 6 (qq_lf 5 (.inl (qo_k 1 1))) (qq_lf 6 (.inl (qo_c (fun x y => y < x) 13)))) (qq_br 10 (qq_lf 9 (.inl (qo_il 2 1))) (qq_lf 10 (.inl (qo_z (fun x => 0 ≤ x) 15)))))) (qq_br 17 (qq_br 15 (qq_br 14 (qq_lf 13 (.inl (qo_k (-1) 1))) (qq_lf 14 (.inr (.inr 1)))) (qq_br 16 (qq_lf 15 (.inl (qo_k 0 1))) (qq_lf 16 (.inl (qo_is 3 1))))) (qq_br 20 (qq_br 19 (qq_lf 17 (.inl (qo_k (iN 120) 2))) (qq_lf 19 (.inl (qo_il 1 1)))) (qq_br 21 (qq_lf 20 (.inl (qo_b (fun x y => x * y)))) (qq_lf 21 (.inl (qo_is 4 2))))))) (qq_br 36 (qq_br 29 (qq_br 27 (qq_br 25 (qq_lf 23 (.inl (qo_il 4 2))) (qq_lf 25 (.inl (qo_k (iN 120) 2)))) (qq_br 28 (qq_lf 27 (.inl (qo_il 1 1))) (qq_lf 28 (.inl (qo_b (fun x y => x * y)))))) (qq_br 32 (qq_br 31 (qq_lf 29 (.inl (qo_k (iN 120) 2))) (qq_lf 31 (.inl (qo_b (fun x y => x + y))))) (qq_br 35 (qq_lf 32 (.inl (qo_c (fun x y => y ≤ x) 210))) (qq_lf 35 (.inl (qo_al 0 1)))))) (qq_br 45 (qq_br 41 (qq_br 39 (qq_lf 36 (.inl (qo_get (gL w) 7 6))) (qq_lf 39 (.inl (qo_il 4 2)))) (qq_br 42 (qq_lf 41 (.inl (qo_ia (gL w)))) (qq_lf 42 (.inl (qo_z (fun x => x < 0) 76))))) (qq_br 49 (qq_br 47 (qq_lf 45 (.inl (qo_il 4 2))) (qq_lf 47 (.inl (qo_k (iN 12) 2)))) (qq_br 50 (qq_lf 49 (.inl (qo_d (fun x y => x - x / y * y)))) (qq_lf 50 (.inl (qo_z (fun x => x = 0) 72)))))))) (qq_br 79 (qq_br 63 (qq_br 59 (qq_br 54 (qq_lf 53 (.inl (qo_al 0 1))) (qq_br 57 (qq_lf 54 (.inl (qo_get (gL w) 7 6))) (qq_lf 57 (.inl (qo_il 4 2))))) (qq_br 61 (qq_br 60 (qq_lf 59 (.inl (qo_k 1 1))) (qq_lf 60 (.inl (qo_b (fun x y => x - y))))) (qq_br 62 (qq_lf 61 (.inl (qo_ia (gL w)))) (qq_lf 62 (.inl (qo_al 0 1)))))) (qq_br 72 (qq_br 68 (qq_br 66 (qq_lf 63 (.inl (qo_get (gL w) 7 6))) (qq_lf 66 (.inl (qo_il 4 2)))) (qq_br 69 (qq_lf 68 (.inl (qo_ia (gL w)))) (qq_lf 69 (.inl (qo_c (fun x y => x = y) 76))))) (qq_br 76 (qq_br 73 (qq_lf 72 (.inl (qo_k 1 1))) (qq_lf 73 (.inl (qo_g 77)))) (qq_br 77 (qq_lf 76 (.inl (qo_k 0 1))) (qq_lf 77 (.inl (qo_is 5 2))))))) (qq_br 93 (qq_br 86 (qq_br 84 (qq_br 81 (qq_lf 79 (.inl (qo_il 5 2))) (qq_lf 81 (.inl (qo_z (fun x => x = 0) 191)))) (qq_br 85 (qq_lf 84 (.inl (qo_il 2 1))) (qq_lf 85 (.inl (qo_il 3 1))))) (qq_br 88 (qq_br 87 (qq_lf 86 (.inl (qo_k (iN 4) 1))) (qq_lf 87 (.inl (qo_b (fun x y => x + y))))) (qq_br 91 (qq_lf 88 (.inl (qo_c (fun x y => y ≤ x) 191))) (qq_lf 91 (.inl (qo_il 4 2)))))) (qq_br 100 (qq_br 97 (qq_br 95 (qq_lf 93 (.inl (qo_is 6 2))) (qq_lf 95 (.inl (qo_il 6 2)))) (qq_br 99 (qq_lf 97 (.inl (qo_k (iN 12) 2))) (qq_lf 99 (.inl (qo_d (fun x y => x - x / y * y)))))) (qq_br 105 (qq_br 102 (qq_lf 100 (.inl (qo_k (iN 11) 2))) (qq_lf 102 (.inl (qo_c (fun x y => y ≤ x) 130)))) (qq_br 106 (qq_lf 105 (.inl (qo_al 0 1))) (qq_lf 106 (.inl (qo_get (gL w) 7 6))))))))) (qq_br 167 (qq_br 135 (qq_br 120 (qq_br 113 (qq_br 111 (qq_lf 109 (.inl (qo_il 6 2))) (qq_br 112 (qq_lf 111 (.inl (qo_k 1 1))) (qq_lf 112 (.inl (qo_b (fun x y => x + y)))))) (qq_br 115 (qq_br 114 (qq_lf 113 (.inl (qo_ia (gL w)))) (qq_lf 114 (.inl (qo_al 0 1)))) (qq_br 118 (qq_lf 115 (.inl (qo_get (gL w) 7 6))) (qq_lf 118 (.inl (qo_il 4 2)))))) (qq_br 130 (qq_br 124 (qq_br 121 (qq_lf 120 (.inl (qo_ia (gL w)))) (qq_lf 121 (.inl (qo_c (fun x y => ¬ x = y) 130)))) (qq_br 127 (qq_lf 124 (.inl (qo_inc 6 1))) (qq_lf 127 (.inl (qo_g 95))))) (qq_br 132 (qq_br 131 (qq_lf 130 (.inl (qo_il 2 1))) (qq_lf 131 (.inl (qo_il 3 1)))) (qq_br 133 (qq_lf 132 (.inl (qo_b (fun x y => x - y)))) (qq_lf 133 (.inl (qo_is 7 2))))))) (qq_br 151 (qq_br 144 (qq_br 140 (qq_br 137 (qq_lf 135 (.inl (qo_il 7 2))) (qq_lf 137 (.inl (qo_z (fun x => ¬ x = 0) 151)))) (qq_br 142 (qq_lf 140 (.inl (qo_il 4 2))) (qq_lf 142 (.inl (qo_k (iN 120) 2))))) (qq_br 147 (qq_br 145 (qq_lf 144 (.inl (qo_d (fun x y => x - x / y * y)))) (qq_lf 145 (.inl (qo_k (iN 12) 2)))) (qq_br 148 (qq_lf 147 (.inl (qo_d (fun x y => x / y)))) (qq_lf 148 (.inl (qo_g 190)))))) (qq_br 159 (qq_br 154 (qq_br 153 (qq_lf 151 (.inl (qo_il 7 2))) (qq_lf 153 (.inl (qo_k 1 1)))) (qq_br 157 (qq_lf 154 (.inl (qo_c (fun x y => ¬ x = y) 165))) (qq_lf 157 (.inl (qo_il 4 2))))) (qq_br 162 (qq_br 161 (qq_lf 159 (.inl (qo_k (iN 12) 2))) (qq_lf 161 (.inl (qo_d (fun x y => x - x / y * y))))) (qq_br 165 (qq_lf 162 (.inl (qo_g 190))) (qq_lf 165 (.inl (qo_il 7 2)))))))) (qq_br 193 (qq_br 181 (qq_br 175 (qq_br 171 (qq_br 168 (qq_lf 167 (.inl (qo_k (iN 2) 1))) (qq_lf 168 (.inl (qo_c (fun x y => ¬ x = y) 181)))) (qq_br 173 (qq_lf 171 (.inl (qo_il 6 2))) (qq_lf 173 (.inl (qo_il 4 2))))) (qq_br 177 (qq_br 176 (qq_lf 175 (.inl (qo_b (fun x y => x - y)))) (qq_lf 176 (.inl (qo_k 1 1)))) (qq_br 178 (qq_lf 177 (.inl (qo_b (fun x y => x + y)))) (qq_lf 178 (.inl (qo_g 190)))))) (qq_br 188 (qq_br 185 (qq_br 182 (qq_lf 181 (.inl (qo_al 0 1))) (qq_lf 182 (.inl (qo_get (gL w) 7 6)))) (qq_br 187 (qq_lf 185 (.inl (qo_il 4 2))) (qq_lf 187 (.inl (qo_ia (gL w)))))) (qq_br 190 (qq_br 189 (qq_lf 188 (.inl (qo_k 1 1))) (qq_lf 189 (.inl (qo_b (fun x y => x + y))))) (qq_br 191 (qq_lf 190 (.inr (.inr 1))) (qq_lf 191 (.inl (qo_il 5 2))))))) (qq_br 207 (qq_br 199 (qq_br 197 (qq_br 196 (qq_lf 193 (.inl (qo_z (fun x => x = 0) 202))) (qq_lf 196 (.inl (qo_il 3 1)))) (qq_br 198 (qq_lf 197 (.inl (qo_k (iN 4) 1))) (qq_lf 198 (.inl (qo_b (fun x y => x + y)))))) (qq_br 203 (qq_br 202 (qq_lf 199 (.inl (qo_g 203))) (qq_lf 202 (.inl (qo_il 3 1)))) (qq_br 204 (qq_lf 203 (.inl (qo_is 3 1))) (qq_lf 204 (.inl (qo_inc 4 1)))))) (qq_br 215 (qq_br 211 (qq_br 210 (qq_lf 207 (.inl (qo_g 23))) (qq_lf 210 (.inl (qo_il 2 1)))) (qq_br 212 (qq_lf 211 (.inl (qo_il 3 1))) (qq_lf 212 (.inl (qo_c (fun x y => ¬ x = y) 221))))) (qq_br 221 (qq_br 218 (qq_lf 215 (.inl (qo_k (iN 255) 3))) (qq_lf 218 (.inl (qo_g 222)))) (qq_br 222 (qq_lf 221 (.inl (qo_k (-1) 1))) (qq_lf 222 (.inr (.inr 1))))))))))
def tm_120 (w : qS) : Nat → Option qE := (qq_br 27 (qq_br 13 (qq_br 5 (qq_br 1 (qq_lf 0 (.inl (qo_il 1 1))) (qq_br 4 (qq_lf 1 (.inl (qo_z (fun x => x < 0) 11))) (qq_lf 4 (.inl (qo_il 1 1))))) (qq_br 11 (qq_br 8 (qq_lf 5 (.inl (qo_k (iN 255) 3))) (qq_lf 8 (.inl (qo_c (fun x y => x ≤ y) 13)))) (qq_br 12 (qq_lf 11 (.inl (qo_k (-1) 1))) (qq_lf 12 (.inr (.inr 1)))))) (qq_br 20 (qq_br 14 (qq_lf 13 (.inl (qo_al 0 1))) (qq_br 17 (qq_lf 14 (.inl (qo_get (gL w) 7 11))) (qq_lf 17 (.inl (qo_k (iN 400) 3))))) (qq_br 25 (qq_br 23 (qq_lf 20 (.inl (qo_c (fun x y => ¬ x = y) 26))) (qq_lf 23 (.inl (qo_k (-2) 2)))) (qq_br 26 (qq_lf 25 (.inr (.inr 1))) (qq_lf 26 (.inl (qo_al 0 1))))))) (qq_br 38 (qq_br 34 (qq_br 30 (qq_lf 27 (.inl (qo_get (gL w) 7 10))) (qq_br 31 (qq_lf 30 (.inl (qo_al 0 1))) (qq_lf 31 (.inl (qo_get (gL w) 7 11))))) (qq_br 36 (qq_br 35 (qq_lf 34 (.inl (qo_il 1 1))) (qq_lf 35 (.inl (qo_ias (gL w))))) (qq_br 37 (qq_lf 36 (.inl (qo_al 0 1))) (qq_lf 37 (.inl qo_dup))))) (qq_br 43 (qq_br 41 (qq_lf 38 (.inl (qo_get (gL w) 7 11))) (qq_br 42 (qq_lf 41 (.inl (qo_k 1 1))) (qq_lf 42 (.inl (qo_b (fun x y => x + y)))))) (qq_br 47 (qq_br 46 (qq_lf 43 (.inl (qo_put (gL w) 7 11))) (qq_lf 46 (.inl (qo_al 0 1)))) (qq_br 50 (qq_lf 47 (.inl (qo_get (gL w) 7 11))) (qq_lf 50 (.inr (.inr 1))))))))
def tm_121 (w : qS) : Nat → Option qE := (qq_br 96 (qq_br 49 (qq_br 24 (qq_br 11 (qq_br 5 (qq_br 1 (qq_lf 0 (.inl (qo_il 1 1))) (qq_br 4 (qq_lf 1 (.inl (qo_z (fun x => x < 0) 9))) (qq_lf 4 (.inl (qo_il 1 1))))) (qq_br 9 (qq_br 6 (qq_lf 5 (.inl (qo_k 1 1))) (qq_lf 6 (.inl (qo_c (fun x y => x ≤ y) 11)))) (qq_br 10 (qq_lf 9 (.inl (qo_k (-1) 1))) (qq_lf 10 (.inr (.inr 1)))))) (qq_br 16 (qq_br 13 (qq_br 12 (qq_lf 11 (.inl (qo_k 0 1))) (qq_lf 12 (.inl (qo_is 2 1)))) (qq_br 14 (qq_lf 13 (.inl (qo_il 2 1))) (qq_lf 14 (.inl (qo_k (iN 120) 2))))) (qq_br 20 (qq_br 19 (qq_lf 16 (.inl (qo_c (fun x y => y ≤ x) 32))) (qq_lf 19 (.inl (qo_al 0 1)))) (qq_br 23 (qq_lf 20 (.inl (qo_get (gL w) 7 12))) (qq_lf 23 (.inl (qo_il 2 1))))))) (qq_br 35 (qq_br 29 (qq_br 25 (qq_lf 24 (.inl (qo_k (-1) 1))) (qq_br 26 (qq_lf 25 (.inl (qo_ias (gL w)))) (qq_lf 26 (.inl (qo_inc 2 1))))) (qq_br 33 (qq_br 32 (qq_lf 29 (.inl (qo_g 13))) (qq_lf 32 (.inl (qo_k 0 1)))) (qq_br 34 (qq_lf 33 (.inl (qo_is 2 1))) (qq_lf 34 (.inl (qo_il 2 1)))))) (qq_br 41 (qq_br 37 (qq_br 36 (qq_lf 35 (.inl (qo_k (iN 3) 1))) (qq_lf 36 (.inl (qo_b (fun x y => x + y))))) (qq_br 38 (qq_lf 37 (.inl (qo_al 0 1))) (qq_lf 38 (.inl (qo_get (gL w) 7 11))))) (qq_br 45 (qq_br 44 (qq_lf 41 (.inl (qo_c (fun x y => y ≤ x) 141))) (qq_lf 44 (.inl (qo_al 0 1)))) (qq_br 48 (qq_lf 45 (.inl (qo_get (gL w) 7 10))) (qq_lf 48 (.inl (qo_il 2 1)))))))) (qq_br 72 (qq_br 62 (qq_br 56 (qq_br 50 (qq_lf 49 (.inl (qo_ia (gL w)))) (qq_br 53 (qq_lf 50 (.inl (qo_k (iN 255) 3))) (qq_lf 53 (.inl (qo_c (fun x y => x = y) 141))))) (qq_br 60 (qq_br 57 (qq_lf 56 (.inl (qo_al 0 1))) (qq_lf 57 (.inl (qo_get (gL w) 7 10)))) (qq_br 61 (qq_lf 60 (.inl (qo_il 2 1))) (qq_lf 61 (.inl (qo_k 1 1)))))) (qq_br 66 (qq_br 64 (qq_br 63 (qq_lf 62 (.inl (qo_b (fun x y => x + y)))) (qq_lf 63 (.inl (qo_ia (gL w))))) (qq_br 65 (qq_lf 64 (.inl (qo_is 3 1))) (qq_lf 65 (.inl (qo_il 3 1))))) (qq_br 70 (qq_br 67 (qq_lf 66 (.inl (qo_al 0 1))) (qq_lf 67 (.inl (qo_get (gL w) 7 10)))) (qq_br 71 (qq_lf 70 (.inl (qo_il 2 1))) (qq_lf 71 (.inl (qo_k 1 1))))))) (qq_br 81 (qq_br 75 (qq_br 73 (qq_lf 72 (.inl (qo_b (fun x y => x + y)))) (qq_br 74 (qq_lf 73 (.inl (qo_ia (gL w)))) (qq_lf 74 (.inl (qo_al 0 1))))) (qq_br 79 (qq_br 78 (qq_lf 75 (.inl (qo_get (gL w) 7 10))) (qq_lf 78 (.inl (qo_il 2 1)))) (qq_br 80 (qq_lf 79 (.inl (qo_k (iN 2) 1))) (qq_lf 80 (.inl (qo_b (fun x y => x + y))))))) (qq_br 87 (qq_br 83 (qq_br 82 (qq_lf 81 (.inl (qo_ia (gL w)))) (qq_lf 82 (.inl (qo_b (fun x y => x + y))))) (qq_br 86 (qq_lf 83 (.inl (qo_c (fun x y => y ≤ x) 135))) (qq_lf 86 (.inl (qo_il 3 1))))) (qq_br 92 (qq_br 89 (qq_lf 87 (.inl (qo_k (iN 12) 2))) (qq_lf 89 (.inl (qo_c (fun x y => y ≤ x) 135)))) (qq_br 93 (qq_lf 92 (.inl (qo_al 0 1))) (qq_lf 93 (.inl (qo_get (gL w) 7 10))))))))) (qq_br 146 (qq_br 119 (qq_br 109 (qq_br 100 (qq_br 97 (qq_lf 96 (.inl (qo_il 2 1))) (qq_br 98 (qq_lf 97 (.inl (qo_ia (gL w)))) (qq_lf 98 (.inl (qo_k (iN 10) 2))))) (qq_br 104 (qq_br 103 (qq_lf 100 (.inl (qo_c (fun x y => y ≤ x) 129))) (qq_lf 103 (.inl (qo_al 0 1)))) (qq_br 107 (qq_lf 104 (.inl (qo_get (gL w) 7 12))) (qq_lf 107 (.inl (qo_k (iN 12) 2)))))) (qq_br 115 (qq_br 113 (qq_br 110 (qq_lf 109 (.inl (qo_al 0 1))) (qq_lf 110 (.inl (qo_get (gL w) 7 10)))) (qq_br 114 (qq_lf 113 (.inl (qo_il 2 1))) (qq_lf 114 (.inl (qo_ia (gL w)))))) (qq_br 117 (qq_br 116 (qq_lf 115 (.inl (qo_b (fun x y => x * y)))) (qq_lf 116 (.inl (qo_il 3 1)))) (qq_br 118 (qq_lf 117 (.inl (qo_b (fun x y => x + y)))) (qq_lf 118 (.inl (qo_al 0 1))))))) (qq_br 128 (qq_br 124 (qq_br 122 (qq_lf 119 (.inl (qo_get (gL w) 7 10))) (qq_br 123 (qq_lf 122 (.inl (qo_il 2 1))) (qq_lf 123 (.inl (qo_k (iN 3) 1))))) (qq_br 126 (qq_br 125 (qq_lf 124 (.inl (qo_b (fun x y => x + y)))) (qq_lf 125 (.inl (qo_ia (gL w))))) (qq_br 127 (qq_lf 126 (.inl (qo_k 1 1))) (qq_lf 127 (.inl (qo_b (fun x y => x - y))))))) (qq_br 138 (qq_br 132 (qq_br 129 (qq_lf 128 (.inl (qo_ias (gL w)))) (qq_lf 129 (.inl (qo_inc 3 1)))) (qq_br 135 (qq_lf 132 (.inl (qo_g 65))) (qq_lf 135 (.inl (qo_inc 2 (iN 4)))))) (qq_br 142 (qq_br 141 (qq_lf 138 (.inl (qo_g 34))) (qq_lf 141 (.inl (qo_al 0 1)))) (qq_br 143 (qq_lf 142 (.inl (qo_k 0 1))) (qq_lf 143 (.inl (qo_put (gL w) 7 11)))))))) (qq_br 169 (qq_br 156 (qq_br 149 (qq_br 147 (qq_lf 146 (.inl (qo_k 0 1))) (qq_br 148 (qq_lf 147 (.inl (qo_is 2 1))) (qq_lf 148 (.inl (qo_k 0 1))))) (qq_br 151 (qq_br 150 (qq_lf 149 (.inl (qo_is 3 1))) (qq_lf 150 (.inl (qo_il 3 1)))) (qq_br 153 (qq_lf 151 (.inl (qo_k (iN 120) 2))) (qq_lf 153 (.inl (qo_c (fun x y => y ≤ x) 190)))))) (qq_br 162 (qq_br 160 (qq_br 157 (qq_lf 156 (.inl (qo_al 0 1))) (qq_lf 157 (.inl (qo_get (gL w) 7 12)))) (qq_br 161 (qq_lf 160 (.inl (qo_il 3 1))) (qq_lf 161 (.inl (qo_ia (gL w)))))) (qq_br 166 (qq_br 163 (qq_lf 162 (.inl (qo_al 0 1))) (qq_lf 163 (.inl (qo_get (gL w) 7 6)))) (qq_br 168 (qq_lf 166 (.inl (qo_k (iN 120) 2))) (qq_lf 168 (.inl (qo_il 1 1))))))) (qq_br 180 (qq_br 172 (qq_br 170 (qq_lf 169 (.inl (qo_b (fun x y => x * y)))) (qq_br 171 (qq_lf 170 (.inl (qo_il 3 1))) (qq_lf 171 (.inl (qo_b (fun x y => x + y)))))) (qq_br 176 (qq_br 173 (qq_lf 172 (.inl (qo_ia (gL w)))) (qq_lf 173 (.inl (qo_c (fun x y => ¬ x = y) 180)))) (qq_br 177 (qq_lf 176 (.inl (qo_il 2 1))) (qq_lf 177 (.inl (qo_g 183)))))) (qq_br 184 (qq_br 182 (qq_br 181 (qq_lf 180 (.inl (qo_il 2 1))) (qq_lf 181 (.inl (qo_k 1 1)))) (qq_br 183 (qq_lf 182 (.inl (qo_b (fun x y => x + y)))) (qq_lf 183 (.inl (qo_is 2 1))))) (qq_br 190 (qq_br 187 (qq_lf 184 (.inl (qo_inc 3 1))) (qq_lf 187 (.inl (qo_g 150)))) (qq_br 191 (qq_lf 190 (.inl (qo_il 2 1))) (qq_lf 191 (.inr (.inr 1))))))))))
def tm_122 (w : qS) : Nat → Option qE := (qq_br 7 (qq_br 3 (qq_br 1 (qq_lf 0 (.inl (qo_k 0 1))) (qq_br 2 (qq_lf 1 (.inl (qo_is 2 1))) (qq_lf 2 (.inl (qo_al 0 1))))) (qq_br 5 (qq_br 4 (qq_lf 3 (.inl (qo_len (gL w)))) (qq_lf 4 (.inl (qo_is 3 1)))) (qq_br 6 (qq_lf 5 (.inl (qo_il 2 1))) (qq_lf 6 (.inl (qo_il 3 1)))))) (qq_br 13 (qq_br 11 (qq_br 10 (qq_lf 7 (.inl (qo_c (fun x y => y ≤ x) 20))) (qq_lf 10 (.inl (qo_al 0 1)))) (qq_br 12 (qq_lf 11 (.inl (qo_il 2 1))) (qq_lf 12 (.inl (qo_il 1 1))))) (qq_br 17 (qq_br 14 (qq_lf 13 (.inl (qo_ias (gL w)))) (qq_lf 14 (.inl (qo_inc 2 1)))) (qq_br 20 (qq_lf 17 (.inl (qo_g 5))) (qq_lf 20 (.inr (.inr 0)))))))
def tm_123 (w : qS) : Nat → Option qE := (qq_br 398 (qq_br 254 (qq_br 183 (qq_br 146 (qq_br 128 (qq_br 23 (qq_br 19 (qq_br 17 (qq_lf 16 (.inl (qo_k 0 1))) (qq_br 18 (qq_lf 17 (.inl (qo_is 3 1))) (qq_lf 18 (.inl (qo_il 3 1))))) (qq_br 21 (qq_br 20 (qq_lf 19 (.inl (qo_al 0 1))) (qq_lf 20 (.inl (qo_len (gL w))))) (qq_br 22 (qq_lf 21 (.inl (qo_k (iN 5) 1))) (qq_lf 22 (.inl (qo_b (fun x y => x - y))))))) (qq_br 28 (qq_br 26 (qq_lf 23 (.inl (qo_c (fun x y => y < x) 700))) (qq_br 27 (qq_lf 26 (.inl (qo_al 0 1))) (qq_lf 27 (.inl (qo_il 3 1))))) (qq_br 31 (qq_br 29 (qq_lf 28 (.inl (qo_ia (gL w)))) (qq_lf 29 (.inl (qo_k (iN 31) 2)))) (qq_br 32 (qq_lf 31 (.inl (qo_b (fun x y => x &&& y)))) (qq_lf 32 (.inl (qo_sw 0 [128, 151, 184, 207, 230, 263, 316, 339, 362, 411, 464, 487, 510, 533, 546, 569, 602, 635, 658, 681] 694))))))) (qq_br 137 (qq_br 131 (qq_br 129 (qq_lf 128 (.inl (qo_al 1 1))) (qq_br 130 (qq_lf 129 (.inl (qo_al 0 1))) (qq_lf 130 (.inl (qo_il 3 1))))) (qq_br 133 (qq_br 132 (qq_lf 131 (.inl (qo_k 1 1))) (qq_lf 132 (.inl (qo_b (fun x y => x + y))))) (qq_br 134 (qq_lf 133 (.inl (qo_ia (gL w)))) (qq_lf 134 (.inr (.inl (0, 2, some 0))))))) (qq_br 140 (qq_br 138 (qq_lf 137 (.inl (qo_al 2 1))) (qq_br 139 (qq_lf 138 (.inl (qo_al 0 1))) (qq_lf 139 (.inl (qo_il 3 1))))) (qq_br 142 (qq_br 141 (qq_lf 140 (.inl (qo_k 1 1))) (qq_lf 141 (.inl (qo_b (fun x y => x + y))))) (qq_br 143 (qq_lf 142 (.inl (qo_ia (gL w)))) (qq_lf 143 (.inr (.inl (86, 2, some 7))))))))) (qq_br 162 (qq_br 155 (qq_br 151 (qq_br 149 (qq_lf 146 (.inl (qo_c (fun x y => x = y) 694))) (qq_br 150 (qq_lf 149 (.inl (qo_k 0 1))) (qq_lf 150 (.inr (.inr 2))))) (qq_br 153 (qq_br 152 (qq_lf 151 (.inl (qo_al 1 1))) (qq_lf 152 (.inl (qo_al 0 1)))) (qq_br 154 (qq_lf 153 (.inl (qo_il 3 1))) (qq_lf 154 (.inl (qo_k 1 1)))))) (qq_br 158 (qq_br 156 (qq_lf 155 (.inl (qo_b (fun x y => x + y)))) (qq_br 157 (qq_lf 156 (.inl (qo_ia (gL w)))) (qq_lf 157 (.inl (qo_al 0 1))))) (qq_br 160 (qq_br 159 (qq_lf 158 (.inl (qo_il 3 1))) (qq_lf 159 (.inl (qo_k (iN 2) 1)))) (qq_br 161 (qq_lf 160 (.inl (qo_b (fun x y => x + y)))) (qq_lf 161 (.inl (qo_ia (gL w)))))))) (qq_br 171 (qq_br 167 (qq_br 165 (qq_lf 162 (.inr (.inl (1, 3, some 0)))) (qq_br 166 (qq_lf 165 (.inl (qo_al 2 1))) (qq_lf 166 (.inl (qo_al 0 1))))) (qq_br 169 (qq_br 168 (qq_lf 167 (.inl (qo_il 3 1))) (qq_lf 168 (.inl (qo_k 1 1)))) (qq_br 170 (qq_lf 169 (.inl (qo_b (fun x y => x + y)))) (qq_lf 170 (.inl (qo_ia (gL w))))))) (qq_br 175 (qq_br 173 (qq_br 172 (qq_lf 171 (.inl (qo_al 0 1))) (qq_lf 172 (.inl (qo_il 3 1)))) (qq_br 174 (qq_lf 173 (.inl (qo_k (iN 2) 1))) (qq_lf 174 (.inl (qo_b (fun x y => x + y)))))) (qq_br 179 (qq_br 176 (qq_lf 175 (.inl (qo_ia (gL w)))) (qq_lf 176 (.inr (.inl (87, 3, some 7))))) (qq_br 182 (qq_lf 179 (.inl (qo_c (fun x y => x = y) 694))) (qq_lf 182 (.inl (qo_k 0 1))))))))) (qq_br 219 (qq_br 199 (qq_br 190 (qq_br 186 (qq_br 184 (qq_lf 183 (.inr (.inr 2))) (qq_br 185 (qq_lf 184 (.inl (qo_al 1 1))) (qq_lf 185 (.inl (qo_al 0 1))))) (qq_br 188 (qq_br 187 (qq_lf 186 (.inl (qo_il 3 1))) (qq_lf 187 (.inl (qo_k 1 1)))) (qq_br 189 (qq_lf 188 (.inl (qo_b (fun x y => x + y)))) (qq_lf 189 (.inl (qo_ia (gL w))))))) (qq_br 195 (qq_br 193 (qq_lf 190 (.inr (.inl (2, 2, some 0)))) (qq_br 194 (qq_lf 193 (.inl (qo_al 2 1))) (qq_lf 194 (.inl (qo_al 0 1))))) (qq_br 197 (qq_br 196 (qq_lf 195 (.inl (qo_il 3 1))) (qq_lf 196 (.inl (qo_k 1 1)))) (qq_br 198 (qq_lf 197 (.inl (qo_b (fun x y => x + y)))) (qq_lf 198 (.inl (qo_ia (gL w)))))))) (qq_br 210 (qq_br 206 (qq_br 202 (qq_lf 199 (.inr (.inl (88, 2, some 7)))) (qq_br 205 (qq_lf 202 (.inl (qo_c (fun x y => x = y) 694))) (qq_lf 205 (.inl (qo_k 0 1))))) (qq_br 208 (qq_br 207 (qq_lf 206 (.inr (.inr 2))) (qq_lf 207 (.inl (qo_al 1 1)))) (qq_br 209 (qq_lf 208 (.inl (qo_al 0 1))) (qq_lf 209 (.inl (qo_il 3 1)))))) (qq_br 213 (qq_br 211 (qq_lf 210 (.inl (qo_k 1 1))) (qq_br 212 (qq_lf 211 (.inl (qo_b (fun x y => x + y)))) (qq_lf 212 (.inl (qo_ia (gL w)))))) (qq_br 217 (qq_br 216 (qq_lf 213 (.inr (.inl (3, 2, some 0)))) (qq_lf 216 (.inl (qo_al 2 1)))) (qq_br 218 (qq_lf 217 (.inl (qo_al 0 1))) (qq_lf 218 (.inl (qo_il 3 1)))))))) (qq_br 237 (qq_br 230 (qq_br 222 (qq_br 220 (qq_lf 219 (.inl (qo_k 1 1))) (qq_br 221 (qq_lf 220 (.inl (qo_b (fun x y => x + y)))) (qq_lf 221 (.inl (qo_ia (gL w)))))) (qq_br 228 (qq_br 225 (qq_lf 222 (.inr (.inl (89, 2, some 7)))) (qq_lf 225 (.inl (qo_c (fun x y => x = y) 694)))) (qq_br 229 (qq_lf 228 (.inl (qo_k 0 1))) (qq_lf 229 (.inr (.inr 2)))))) (qq_br 233 (qq_br 231 (qq_lf 230 (.inl (qo_al 1 1))) (qq_br 232 (qq_lf 231 (.inl (qo_al 0 1))) (qq_lf 232 (.inl (qo_il 3 1))))) (qq_br 235 (qq_br 234 (qq_lf 233 (.inl (qo_k 1 1))) (qq_lf 234 (.inl (qo_b (fun x y => x + y))))) (qq_br 236 (qq_lf 235 (.inl (qo_ia (gL w)))) (qq_lf 236 (.inl (qo_al 0 1))))))) (qq_br 246 (qq_br 240 (qq_br 238 (qq_lf 237 (.inl (qo_il 3 1))) (qq_br 239 (qq_lf 238 (.inl (qo_k (iN 2) 1))) (qq_lf 239 (.inl (qo_b (fun x y => x + y)))))) (qq_br 244 (qq_br 241 (qq_lf 240 (.inl (qo_ia (gL w)))) (qq_lf 241 (.inr (.inl (4, 3, some 0))))) (qq_br 245 (qq_lf 244 (.inl (qo_al 2 1))) (qq_lf 245 (.inl (qo_al 0 1)))))) (qq_br 250 (qq_br 248 (qq_br 247 (qq_lf 246 (.inl (qo_il 3 1))) (qq_lf 247 (.inl (qo_k 1 1)))) (qq_br 249 (qq_lf 248 (.inl (qo_b (fun x y => x + y)))) (qq_lf 249 (.inl (qo_ia (gL w)))))) (qq_br 252 (qq_br 251 (qq_lf 250 (.inl (qo_al 0 1))) (qq_lf 251 (.inl (qo_il 3 1)))) (qq_br 253 (qq_lf 252 (.inl (qo_k (iN 2) 1))) (qq_lf 253 (.inl (qo_b (fun x y => x + y))))))))))) (qq_br 321 (qq_br 288 (qq_br 272 (qq_br 265 (qq_br 261 (qq_br 255 (qq_lf 254 (.inl (qo_ia (gL w)))) (qq_br 258 (qq_lf 255 (.inr (.inl (91, 3, some 7)))) (qq_lf 258 (.inl (qo_c (fun x y => x = y) 694))))) (qq_br 263 (qq_br 262 (qq_lf 261 (.inl (qo_k 0 1))) (qq_lf 262 (.inr (.inr 2)))) (qq_br 264 (qq_lf 263 (.inl (qo_al 1 1))) (qq_lf 264 (.inl (qo_al 0 1)))))) (qq_br 268 (qq_br 266 (qq_lf 265 (.inl (qo_il 3 1))) (qq_br 267 (qq_lf 266 (.inl (qo_k 1 1))) (qq_lf 267 (.inl (qo_b (fun x y => x + y)))))) (qq_br 270 (qq_br 269 (qq_lf 268 (.inl (qo_ia (gL w)))) (qq_lf 269 (.inl (qo_al 0 1)))) (qq_br 271 (qq_lf 270 (.inl (qo_il 3 1))) (qq_lf 271 (.inl (qo_k (iN 2) 1))))))) (qq_br 279 (qq_br 275 (qq_br 273 (qq_lf 272 (.inl (qo_b (fun x y => x + y)))) (qq_br 274 (qq_lf 273 (.inl (qo_ia (gL w)))) (qq_lf 274 (.inl (qo_al 0 1))))) (qq_br 277 (qq_br 276 (qq_lf 275 (.inl (qo_il 3 1))) (qq_lf 276 (.inl (qo_k (iN 3) 1)))) (qq_br 278 (qq_lf 277 (.inl (qo_b (fun x y => x + y)))) (qq_lf 278 (.inl (qo_ia (gL w))))))) (qq_br 282 (qq_br 280 (qq_lf 279 (.inl (qo_al 0 1))) (qq_br 281 (qq_lf 280 (.inl (qo_il 3 1))) (qq_lf 281 (.inl (qo_k (iN 4) 1))))) (qq_br 284 (qq_br 283 (qq_lf 282 (.inl (qo_b (fun x y => x + y)))) (qq_lf 283 (.inl (qo_ia (gL w))))) (qq_br 287 (qq_lf 284 (.inr (.inl (5, 5, some 0)))) (qq_lf 287 (.inl (qo_al 2 1)))))))) (qq_br 302 (qq_br 295 (qq_br 291 (qq_br 289 (qq_lf 288 (.inl (qo_al 0 1))) (qq_br 290 (qq_lf 289 (.inl (qo_il 3 1))) (qq_lf 290 (.inl (qo_k 1 1))))) (qq_br 293 (qq_br 292 (qq_lf 291 (.inl (qo_b (fun x y => x + y)))) (qq_lf 292 (.inl (qo_ia (gL w))))) (qq_br 294 (qq_lf 293 (.inl (qo_al 0 1))) (qq_lf 294 (.inl (qo_il 3 1)))))) (qq_br 298 (qq_br 296 (qq_lf 295 (.inl (qo_k (iN 2) 1))) (qq_br 297 (qq_lf 296 (.inl (qo_b (fun x y => x + y)))) (qq_lf 297 (.inl (qo_ia (gL w)))))) (qq_br 300 (qq_br 299 (qq_lf 298 (.inl (qo_al 0 1))) (qq_lf 299 (.inl (qo_il 3 1)))) (qq_br 301 (qq_lf 300 (.inl (qo_k (iN 3) 1))) (qq_lf 301 (.inl (qo_b (fun x y => x + y)))))))) (qq_br 311 (qq_br 305 (qq_br 303 (qq_lf 302 (.inl (qo_ia (gL w)))) (qq_br 304 (qq_lf 303 (.inl (qo_al 0 1))) (qq_lf 304 (.inl (qo_il 3 1))))) (qq_br 307 (qq_br 306 (qq_lf 305 (.inl (qo_k (iN 4) 1))) (qq_lf 306 (.inl (qo_b (fun x y => x + y))))) (qq_br 308 (qq_lf 307 (.inl (qo_ia (gL w)))) (qq_lf 308 (.inr (.inl (94, 5, some 7))))))) (qq_br 317 (qq_br 315 (qq_br 314 (qq_lf 311 (.inl (qo_c (fun x y => x = y) 694))) (qq_lf 314 (.inl (qo_k 0 1)))) (qq_br 316 (qq_lf 315 (.inr (.inr 2))) (qq_lf 316 (.inl (qo_al 1 1))))) (qq_br 319 (qq_br 318 (qq_lf 317 (.inl (qo_al 0 1))) (qq_lf 318 (.inl (qo_il 3 1)))) (qq_br 320 (qq_lf 319 (.inl (qo_k 1 1))) (qq_lf 320 (.inl (qo_b (fun x y => x + y)))))))))) (qq_br 361 (qq_br 341 (qq_br 330 (qq_br 326 (qq_br 322 (qq_lf 321 (.inl (qo_ia (gL w)))) (qq_br 325 (qq_lf 322 (.inr (.inl (6, 2, some 0)))) (qq_lf 325 (.inl (qo_al 2 1))))) (qq_br 328 (qq_br 327 (qq_lf 326 (.inl (qo_al 0 1))) (qq_lf 327 (.inl (qo_il 3 1)))) (qq_br 329 (qq_lf 328 (.inl (qo_k 1 1))) (qq_lf 329 (.inl (qo_b (fun x y => x + y))))))) (qq_br 337 (qq_br 331 (qq_lf 330 (.inl (qo_ia (gL w)))) (qq_br 334 (qq_lf 331 (.inr (.inl (95, 2, some 7)))) (qq_lf 334 (.inl (qo_c (fun x y => x = y) 694))))) (qq_br 339 (qq_br 338 (qq_lf 337 (.inl (qo_k 0 1))) (qq_lf 338 (.inr (.inr 2)))) (qq_br 340 (qq_lf 339 (.inl (qo_al 1 1))) (qq_lf 340 (.inl (qo_al 0 1))))))) (qq_br 350 (qq_br 344 (qq_br 342 (qq_lf 341 (.inl (qo_il 3 1))) (qq_br 343 (qq_lf 342 (.inl (qo_k 1 1))) (qq_lf 343 (.inl (qo_b (fun x y => x + y)))))) (qq_br 348 (qq_br 345 (qq_lf 344 (.inl (qo_ia (gL w)))) (qq_lf 345 (.inr (.inl (7, 2, some 0))))) (qq_br 349 (qq_lf 348 (.inl (qo_al 2 1))) (qq_lf 349 (.inl (qo_al 0 1)))))) (qq_br 353 (qq_br 351 (qq_lf 350 (.inl (qo_il 3 1))) (qq_br 352 (qq_lf 351 (.inl (qo_k 1 1))) (qq_lf 352 (.inl (qo_b (fun x y => x + y)))))) (qq_br 357 (qq_br 354 (qq_lf 353 (.inl (qo_ia (gL w)))) (qq_lf 354 (.inr (.inl (96, 2, some 7))))) (qq_br 360 (qq_lf 357 (.inl (qo_c (fun x y => x = y) 694))) (qq_lf 360 (.inl (qo_k 0 1)))))))) (qq_br 377 (qq_br 368 (qq_br 364 (qq_br 362 (qq_lf 361 (.inr (.inr 2))) (qq_br 363 (qq_lf 362 (.inl (qo_al 1 1))) (qq_lf 363 (.inl (qo_al 0 1))))) (qq_br 366 (qq_br 365 (qq_lf 364 (.inl (qo_il 3 1))) (qq_lf 365 (.inl (qo_k 1 1)))) (qq_br 367 (qq_lf 366 (.inl (qo_b (fun x y => x + y)))) (qq_lf 367 (.inl (qo_ia (gL w))))))) (qq_br 371 (qq_br 369 (qq_lf 368 (.inl (qo_al 0 1))) (qq_br 370 (qq_lf 369 (.inl (qo_il 3 1))) (qq_lf 370 (.inl (qo_k (iN 2) 1))))) (qq_br 373 (qq_br 372 (qq_lf 371 (.inl (qo_b (fun x y => x + y)))) (qq_lf 372 (.inl (qo_ia (gL w))))) (qq_br 376 (qq_lf 373 (.inl (qo_z (fun x => x = 0) 380))) (qq_lf 376 (.inl (qo_k 1 1))))))) (qq_br 388 (qq_br 384 (qq_br 380 (qq_lf 377 (.inl (qo_g 381))) (qq_br 381 (qq_lf 380 (.inl (qo_k 0 1))) (qq_lf 381 (.inr (.inl (8, 3, some 0)))))) (qq_br 386 (qq_br 385 (qq_lf 384 (.inl (qo_al 2 1))) (qq_lf 385 (.inl (qo_al 0 1)))) (qq_br 387 (qq_lf 386 (.inl (qo_il 3 1))) (qq_lf 387 (.inl (qo_k 1 1)))))) (qq_br 392 (qq_br 390 (qq_br 389 (qq_lf 388 (.inl (qo_b (fun x y => x + y)))) (qq_lf 389 (.inl (qo_ia (gL w))))) (qq_br 391 (qq_lf 390 (.inl (qo_al 0 1))) (qq_lf 391 (.inl (qo_il 3 1))))) (qq_br 394 (qq_br 393 (qq_lf 392 (.inl (qo_k (iN 2) 1))) (qq_lf 393 (.inl (qo_b (fun x y => x + y))))) (qq_br 395 (qq_lf 394 (.inl (qo_ia (gL w)))) (qq_lf 395 (.inl (qo_z (fun x => x = 0) 402))))))))))) (qq_br 548 (qq_br 467 (qq_br 432 (qq_br 418 (qq_br 411 (qq_br 403 (qq_br 399 (qq_lf 398 (.inl (qo_k 1 1))) (qq_br 402 (qq_lf 399 (.inl (qo_g 403))) (qq_lf 402 (.inl (qo_k 0 1))))) (qq_br 409 (qq_br 406 (qq_lf 403 (.inr (.inl (97, 3, some 7)))) (qq_lf 406 (.inl (qo_c (fun x y => x = y) 694)))) (qq_br 410 (qq_lf 409 (.inl (qo_k 0 1))) (qq_lf 410 (.inr (.inr 2)))))) (qq_br 414 (qq_br 412 (qq_lf 411 (.inl (qo_al 1 1))) (qq_br 413 (qq_lf 412 (.inl (qo_al 0 1))) (qq_lf 413 (.inl (qo_il 3 1))))) (qq_br 416 (qq_br 415 (qq_lf 414 (.inl (qo_k 1 1))) (qq_lf 415 (.inl (qo_b (fun x y => x + y))))) (qq_br 417 (qq_lf 416 (.inl (qo_ia (gL w)))) (qq_lf 417 (.inl (qo_al 0 1))))))) (qq_br 425 (qq_br 421 (qq_br 419 (qq_lf 418 (.inl (qo_il 3 1))) (qq_br 420 (qq_lf 419 (.inl (qo_k (iN 2) 1))) (qq_lf 420 (.inl (qo_b (fun x y => x + y)))))) (qq_br 423 (qq_br 422 (qq_lf 421 (.inl (qo_ia (gL w)))) (qq_lf 422 (.inl (qo_al 0 1)))) (qq_br 424 (qq_lf 423 (.inl (qo_il 3 1))) (qq_lf 424 (.inl (qo_k (iN 3) 1)))))) (qq_br 428 (qq_br 426 (qq_lf 425 (.inl (qo_b (fun x y => x + y)))) (qq_br 427 (qq_lf 426 (.inl (qo_ia (gL w)))) (qq_lf 427 (.inl (qo_al 0 1))))) (qq_br 430 (qq_br 429 (qq_lf 428 (.inl (qo_il 3 1))) (qq_lf 429 (.inl (qo_k (iN 4) 1)))) (qq_br 431 (qq_lf 430 (.inl (qo_b (fun x y => x + y)))) (qq_lf 431 (.inl (qo_ia (gL w))))))))) (qq_br 448 (qq_br 441 (qq_br 437 (qq_br 435 (qq_lf 432 (.inr (.inl (9, 5, some 0)))) (qq_br 436 (qq_lf 435 (.inl (qo_al 2 1))) (qq_lf 436 (.inl (qo_al 0 1))))) (qq_br 439 (qq_br 438 (qq_lf 437 (.inl (qo_il 3 1))) (qq_lf 438 (.inl (qo_k 1 1)))) (qq_br 440 (qq_lf 439 (.inl (qo_b (fun x y => x + y)))) (qq_lf 440 (.inl (qo_ia (gL w))))))) (qq_br 444 (qq_br 442 (qq_lf 441 (.inl (qo_al 0 1))) (qq_br 443 (qq_lf 442 (.inl (qo_il 3 1))) (qq_lf 443 (.inl (qo_k (iN 2) 1))))) (qq_br 446 (qq_br 445 (qq_lf 444 (.inl (qo_b (fun x y => x + y)))) (qq_lf 445 (.inl (qo_ia (gL w))))) (qq_br 447 (qq_lf 446 (.inl (qo_al 0 1))) (qq_lf 447 (.inl (qo_il 3 1))))))) (qq_br 455 (qq_br 451 (qq_br 449 (qq_lf 448 (.inl (qo_k (iN 3) 1))) (qq_br 450 (qq_lf 449 (.inl (qo_b (fun x y => x + y)))) (qq_lf 450 (.inl (qo_ia (gL w)))))) (qq_br 453 (qq_br 452 (qq_lf 451 (.inl (qo_al 0 1))) (qq_lf 452 (.inl (qo_il 3 1)))) (qq_br 454 (qq_lf 453 (.inl (qo_k (iN 4) 1))) (qq_lf 454 (.inl (qo_b (fun x y => x + y))))))) (qq_br 463 (qq_br 459 (qq_br 456 (qq_lf 455 (.inl (qo_ia (gL w)))) (qq_lf 456 (.inr (.inl (101, 5, some 7))))) (qq_br 462 (qq_lf 459 (.inl (qo_c (fun x y => x = y) 694))) (qq_lf 462 (.inl (qo_k 0 1))))) (qq_br 465 (qq_br 464 (qq_lf 463 (.inr (.inr 2))) (qq_lf 464 (.inl (qo_al 1 1)))) (qq_br 466 (qq_lf 465 (.inl (qo_al 0 1))) (qq_lf 466 (.inl (qo_il 3 1))))))))) (qq_br 505 (qq_br 487 (qq_br 476 (qq_br 470 (qq_br 468 (qq_lf 467 (.inl (qo_k 1 1))) (qq_br 469 (qq_lf 468 (.inl (qo_b (fun x y => x + y)))) (qq_lf 469 (.inl (qo_ia (gL w)))))) (qq_br 474 (qq_br 473 (qq_lf 470 (.inr (.inl (10, 2, some 0)))) (qq_lf 473 (.inl (qo_al 2 1)))) (qq_br 475 (qq_lf 474 (.inl (qo_al 0 1))) (qq_lf 475 (.inl (qo_il 3 1)))))) (qq_br 479 (qq_br 477 (qq_lf 476 (.inl (qo_k 1 1))) (qq_br 478 (qq_lf 477 (.inl (qo_b (fun x y => x + y)))) (qq_lf 478 (.inl (qo_ia (gL w)))))) (qq_br 485 (qq_br 482 (qq_lf 479 (.inr (.inl (102, 2, some 7)))) (qq_lf 482 (.inl (qo_c (fun x y => x = y) 694)))) (qq_br 486 (qq_lf 485 (.inl (qo_k 0 1))) (qq_lf 486 (.inr (.inr 2))))))) (qq_br 496 (qq_br 490 (qq_br 488 (qq_lf 487 (.inl (qo_al 1 1))) (qq_br 489 (qq_lf 488 (.inl (qo_al 0 1))) (qq_lf 489 (.inl (qo_il 3 1))))) (qq_br 492 (qq_br 491 (qq_lf 490 (.inl (qo_k 1 1))) (qq_lf 491 (.inl (qo_b (fun x y => x + y))))) (qq_br 493 (qq_lf 492 (.inl (qo_ia (gL w)))) (qq_lf 493 (.inr (.inl (11, 2, some 0))))))) (qq_br 499 (qq_br 497 (qq_lf 496 (.inl (qo_al 2 1))) (qq_br 498 (qq_lf 497 (.inl (qo_al 0 1))) (qq_lf 498 (.inl (qo_il 3 1))))) (qq_br 501 (qq_br 500 (qq_lf 499 (.inl (qo_k 1 1))) (qq_lf 500 (.inl (qo_b (fun x y => x + y))))) (qq_br 502 (qq_lf 501 (.inl (qo_ia (gL w)))) (qq_lf 502 (.inr (.inl (114, 2, some 7))))))))) (qq_br 523 (qq_br 514 (qq_br 510 (qq_br 508 (qq_lf 505 (.inl (qo_c (fun x y => x = y) 694))) (qq_br 509 (qq_lf 508 (.inl (qo_k 0 1))) (qq_lf 509 (.inr (.inr 2))))) (qq_br 512 (qq_br 511 (qq_lf 510 (.inl (qo_al 1 1))) (qq_lf 511 (.inl (qo_al 0 1)))) (qq_br 513 (qq_lf 512 (.inl (qo_il 3 1))) (qq_lf 513 (.inl (qo_k 1 1)))))) (qq_br 519 (qq_br 515 (qq_lf 514 (.inl (qo_b (fun x y => x + y)))) (qq_br 516 (qq_lf 515 (.inl (qo_ia (gL w)))) (qq_lf 516 (.inr (.inl (12, 2, some 0)))))) (qq_br 521 (qq_br 520 (qq_lf 519 (.inl (qo_al 2 1))) (qq_lf 520 (.inl (qo_al 0 1)))) (qq_br 522 (qq_lf 521 (.inl (qo_il 3 1))) (qq_lf 522 (.inl (qo_k 1 1))))))) (qq_br 534 (qq_br 528 (qq_br 524 (qq_lf 523 (.inl (qo_b (fun x y => x + y)))) (qq_br 525 (qq_lf 524 (.inl (qo_ia (gL w)))) (qq_lf 525 (.inr (.inl (104, 2, some 7)))))) (qq_br 532 (qq_br 531 (qq_lf 528 (.inl (qo_c (fun x y => x = y) 694))) (qq_lf 531 (.inl (qo_k 0 1)))) (qq_br 533 (qq_lf 532 (.inr (.inr 2))) (qq_lf 533 (.inl (qo_al 1 1)))))) (qq_br 544 (qq_br 538 (qq_br 537 (qq_lf 534 (.inr (.inl (13, 1, some 0)))) (qq_lf 537 (.inl (qo_al 2 1)))) (qq_br 541 (qq_lf 538 (.inr (.inl (116, 1, some 7)))) (qq_lf 541 (.inl (qo_c (fun x y => x = y) 694))))) (qq_br 546 (qq_br 545 (qq_lf 544 (.inl (qo_k 0 1))) (qq_lf 545 (.inr (.inr 2)))) (qq_br 547 (qq_lf 546 (.inl (qo_al 1 1))) (qq_lf 547 (.inl (qo_al 0 1)))))))))) (qq_br 619 (qq_br 584 (qq_br 568 (qq_br 557 (qq_br 551 (qq_br 549 (qq_lf 548 (.inl (qo_il 3 1))) (qq_br 550 (qq_lf 549 (.inl (qo_k 1 1))) (qq_lf 550 (.inl (qo_b (fun x y => x + y)))))) (qq_br 555 (qq_br 552 (qq_lf 551 (.inl (qo_ia (gL w)))) (qq_lf 552 (.inr (.inl (14, 2, some 0))))) (qq_br 556 (qq_lf 555 (.inl (qo_al 2 1))) (qq_lf 556 (.inl (qo_al 0 1)))))) (qq_br 560 (qq_br 558 (qq_lf 557 (.inl (qo_il 3 1))) (qq_br 559 (qq_lf 558 (.inl (qo_k 1 1))) (qq_lf 559 (.inl (qo_b (fun x y => x + y)))))) (qq_br 564 (qq_br 561 (qq_lf 560 (.inl (qo_ia (gL w)))) (qq_lf 561 (.inr (.inl (103, 2, some 7))))) (qq_br 567 (qq_lf 564 (.inl (qo_c (fun x y => x = y) 694))) (qq_lf 567 (.inl (qo_k 0 1))))))) (qq_br 575 (qq_br 571 (qq_br 569 (qq_lf 568 (.inr (.inr 2))) (qq_br 570 (qq_lf 569 (.inl (qo_al 1 1))) (qq_lf 570 (.inl (qo_al 0 1))))) (qq_br 573 (qq_br 572 (qq_lf 571 (.inl (qo_il 3 1))) (qq_lf 572 (.inl (qo_k 1 1)))) (qq_br 574 (qq_lf 573 (.inl (qo_b (fun x y => x + y)))) (qq_lf 574 (.inl (qo_ia (gL w))))))) (qq_br 578 (qq_br 576 (qq_lf 575 (.inl (qo_al 0 1))) (qq_br 577 (qq_lf 576 (.inl (qo_il 3 1))) (qq_lf 577 (.inl (qo_k (iN 2) 1))))) (qq_br 580 (qq_br 579 (qq_lf 578 (.inl (qo_b (fun x y => x + y)))) (qq_lf 579 (.inl (qo_ia (gL w))))) (qq_br 583 (qq_lf 580 (.inr (.inl (15, 3, some 0)))) (qq_lf 583 (.inl (qo_al 2 1)))))))) (qq_br 602 (qq_br 591 (qq_br 587 (qq_br 585 (qq_lf 584 (.inl (qo_al 0 1))) (qq_br 586 (qq_lf 585 (.inl (qo_il 3 1))) (qq_lf 586 (.inl (qo_k 1 1))))) (qq_br 589 (qq_br 588 (qq_lf 587 (.inl (qo_b (fun x y => x + y)))) (qq_lf 588 (.inl (qo_ia (gL w))))) (qq_br 590 (qq_lf 589 (.inl (qo_al 0 1))) (qq_lf 590 (.inl (qo_il 3 1)))))) (qq_br 594 (qq_br 592 (qq_lf 591 (.inl (qo_k (iN 2) 1))) (qq_br 593 (qq_lf 592 (.inl (qo_b (fun x y => x + y)))) (qq_lf 593 (.inl (qo_ia (gL w)))))) (qq_br 600 (qq_br 597 (qq_lf 594 (.inr (.inl (118, 3, some 7)))) (qq_lf 597 (.inl (qo_c (fun x y => x = y) 694)))) (qq_br 601 (qq_lf 600 (.inl (qo_k 0 1))) (qq_lf 601 (.inr (.inr 2))))))) (qq_br 609 (qq_br 605 (qq_br 603 (qq_lf 602 (.inl (qo_al 1 1))) (qq_br 604 (qq_lf 603 (.inl (qo_al 0 1))) (qq_lf 604 (.inl (qo_il 3 1))))) (qq_br 607 (qq_br 606 (qq_lf 605 (.inl (qo_k 1 1))) (qq_lf 606 (.inl (qo_b (fun x y => x + y))))) (qq_br 608 (qq_lf 607 (.inl (qo_ia (gL w)))) (qq_lf 608 (.inl (qo_al 0 1)))))) (qq_br 613 (qq_br 611 (qq_br 610 (qq_lf 609 (.inl (qo_il 3 1))) (qq_lf 610 (.inl (qo_k (iN 2) 1)))) (qq_br 612 (qq_lf 611 (.inl (qo_b (fun x y => x + y)))) (qq_lf 612 (.inl (qo_ia (gL w)))))) (qq_br 617 (qq_br 616 (qq_lf 613 (.inr (.inl (16, 3, some 0)))) (qq_lf 616 (.inl (qo_al 2 1)))) (qq_br 618 (qq_lf 617 (.inl (qo_al 0 1))) (qq_lf 618 (.inl (qo_il 3 1))))))))) (qq_br 657 (qq_br 637 (qq_br 626 (qq_br 622 (qq_br 620 (qq_lf 619 (.inl (qo_k 1 1))) (qq_br 621 (qq_lf 620 (.inl (qo_b (fun x y => x + y)))) (qq_lf 621 (.inl (qo_ia (gL w)))))) (qq_br 624 (qq_br 623 (qq_lf 622 (.inl (qo_al 0 1))) (qq_lf 623 (.inl (qo_il 3 1)))) (qq_br 625 (qq_lf 624 (.inl (qo_k (iN 2) 1))) (qq_lf 625 (.inl (qo_b (fun x y => x + y))))))) (qq_br 633 (qq_br 627 (qq_lf 626 (.inl (qo_ia (gL w)))) (qq_br 630 (qq_lf 627 (.inr (.inl (119, 3, some 7)))) (qq_lf 630 (.inl (qo_c (fun x y => x = y) 694))))) (qq_br 635 (qq_br 634 (qq_lf 633 (.inl (qo_k 0 1))) (qq_lf 634 (.inr (.inr 2)))) (qq_br 636 (qq_lf 635 (.inl (qo_al 1 1))) (qq_lf 636 (.inl (qo_al 0 1))))))) (qq_br 646 (qq_br 640 (qq_br 638 (qq_lf 637 (.inl (qo_il 3 1))) (qq_br 639 (qq_lf 638 (.inl (qo_k 1 1))) (qq_lf 639 (.inl (qo_b (fun x y => x + y)))))) (qq_br 644 (qq_br 641 (qq_lf 640 (.inl (qo_ia (gL w)))) (qq_lf 641 (.inr (.inl (17, 2, some 0))))) (qq_br 645 (qq_lf 644 (.inl (qo_al 2 1))) (qq_lf 645 (.inl (qo_al 0 1)))))) (qq_br 649 (qq_br 647 (qq_lf 646 (.inl (qo_il 3 1))) (qq_br 648 (qq_lf 647 (.inl (qo_k 1 1))) (qq_lf 648 (.inl (qo_b (fun x y => x + y)))))) (qq_br 653 (qq_br 650 (qq_lf 649 (.inl (qo_ia (gL w)))) (qq_lf 650 (.inr (.inl (120, 2, some 7))))) (qq_br 656 (qq_lf 653 (.inl (qo_c (fun x y => x = y) 694))) (qq_lf 656 (.inl (qo_k 0 1)))))))) (qq_br 673 (qq_br 664 (qq_br 660 (qq_br 658 (qq_lf 657 (.inr (.inr 2))) (qq_br 659 (qq_lf 658 (.inl (qo_al 1 1))) (qq_lf 659 (.inl (qo_al 0 1))))) (qq_br 662 (qq_br 661 (qq_lf 660 (.inl (qo_il 3 1))) (qq_lf 661 (.inl (qo_k 1 1)))) (qq_br 663 (qq_lf 662 (.inl (qo_b (fun x y => x + y)))) (qq_lf 663 (.inl (qo_ia (gL w))))))) (qq_br 669 (qq_br 667 (qq_lf 664 (.inr (.inl (18, 2, some 0)))) (qq_br 668 (qq_lf 667 (.inl (qo_al 2 1))) (qq_lf 668 (.inl (qo_al 0 1))))) (qq_br 671 (qq_br 670 (qq_lf 669 (.inl (qo_il 3 1))) (qq_lf 670 (.inl (qo_k 1 1)))) (qq_br 672 (qq_lf 671 (.inl (qo_b (fun x y => x + y)))) (qq_lf 672 (.inl (qo_ia (gL w)))))))) (qq_br 686 (qq_br 680 (qq_br 676 (qq_lf 673 (.inr (.inl (121, 2, some 7)))) (qq_br 679 (qq_lf 676 (.inl (qo_c (fun x y => x = y) 694))) (qq_lf 679 (.inl (qo_k 0 1))))) (qq_br 682 (qq_br 681 (qq_lf 680 (.inr (.inr 2))) (qq_lf 681 (.inl (qo_al 1 1)))) (qq_br 685 (qq_lf 682 (.inr (.inl (19, 1, some 0)))) (qq_lf 685 (.inl (qo_al 2 1)))))) (qq_br 694 (qq_br 692 (qq_br 689 (qq_lf 686 (.inr (.inl (83, 1, some 7)))) (qq_lf 689 (.inl (qo_c (fun x y => x = y) 694)))) (qq_br 693 (qq_lf 692 (.inl (qo_k 0 1))) (qq_lf 693 (.inr (.inr 2))))) (qq_br 700 (qq_br 697 (qq_lf 694 (.inl (qo_inc 3 (iN 5)))) (qq_lf 697 (.inl (qo_g 18)))) (qq_br 701 (qq_lf 700 (.inl (qo_k 1 1))) (qq_lf 701 (.inr (.inr 2))))))))))))
def gX (mi : Nat) : Nat := [3, 4, 2, 2, 6, 6, 2, 3, 3, 7, 2, 3, 3, 4, 2, 6, 9, 2, 4, 1, 3, 6, 5, 1, 1, 1, 1, 5, 2, 2, 2, 2, 3, 4, 3, 2, 8, 3, 4, 3, 4, 4, 4, 5, 7, 4, 2, 4, 7, 8, 3, 4, 8, 4, 9, 5, 2, 2, 3, 2, 2, 2, 5, 5, 5, 7, 2, 6, 2, 7, 5, 7, 6, 2, 3, 5, 2, 2, 3, 7, 6, 2, 3, 2, 2, 1, 2, 3, 3, 2, 5, 9, 11, 3, 8, 2, 3, 3, 1, 1, 4, 8, 2, 2, 5, 6, 3, 4, 6, 1, 6, 6, 11, 7, 3, 11, 4, 4, 7, 8, 2, 4, 4, 4].getD mi 0
def gP (w : qS) : qP := (qq_bm 62 (qq_bm 31 (qq_bm 15 (qq_bm 7 (qq_bm 3 (qq_bm 1 (qq_lm 0 (tm_0 w)) (qq_bm 2 (qq_lm 1 (tm_1 w)) (qq_lm 2 (tm_2 w)))) (qq_bm 5 (qq_bm 4 (qq_lm 3 (tm_3 w)) (qq_lm 4 (tm_4 w))) (qq_bm 6 (qq_lm 5 (tm_5 w)) (qq_lm 6 (tm_6 w))))) (qq_bm 11 (qq_bm 9 (qq_bm 8 (qq_lm 7 (tm_7 w)) (qq_lm 8 (tm_8 w))) (qq_bm 10 (qq_lm 9 (tm_9 w)) (qq_lm 10 (tm_10 w)))) (qq_bm 13 (qq_bm 12 (qq_lm 11 (tm_11 w)) (qq_lm 12 (tm_12 w))) (qq_bm 14 (qq_lm 13 (tm_13 w)) (qq_lm 14 (tm_14 w)))))) (qq_bm 23 (qq_bm 19 (qq_bm 17 (qq_bm 16 (qq_lm 15 (tm_15 w)) (qq_lm 16 (tm_16 w))) (qq_bm 18 (qq_lm 17 (tm_17 w)) (qq_lm 18 (tm_18 w)))) (qq_bm 21 (qq_bm 20 (qq_lm 19 (tm_19 w)) (qq_lm 20 (tm_20 w))) (qq_bm 22 (qq_lm 21 (tm_21 w)) (qq_lm 22 (tm_22 w))))) (qq_bm 27 (qq_bm 25 (qq_bm 24 (qq_lm 23 (tm_23 w)) (qq_lm 24 (tm_24 w))) (qq_bm 26 (qq_lm 25 (tm_25 w)) (qq_lm 26 (tm_26 w)))) (qq_bm 29 (qq_bm 28 (qq_lm 27 (tm_27 w)) (qq_lm 28 (tm_28 w))) (qq_bm 30 (qq_lm 29 (tm_29 w)) (qq_lm 30 (tm_30 w))))))) (qq_bm 46 (qq_bm 38 (qq_bm 34 (qq_bm 32 (qq_lm 31 (tm_31 w)) (qq_bm 33 (qq_lm 32 (tm_32 w)) (qq_lm 33 (tm_33 w)))) (qq_bm 36 (qq_bm 35 (qq_lm 34 (tm_34 w)) (qq_lm 35 (tm_35 w))) (qq_bm 37 (qq_lm 36 (tm_36 w)) (qq_lm 37 (tm_37 w))))) (qq_bm 42 (qq_bm 40 (qq_bm 39 (qq_lm 38 (tm_38 w)) (qq_lm 39 (tm_39 w))) (qq_bm 41 (qq_lm 40 (tm_40 w)) (qq_lm 41 (tm_41 w)))) (qq_bm 44 (qq_bm 43 (qq_lm 42 (tm_42 w)) (qq_lm 43 (tm_43 w))) (qq_bm 45 (qq_lm 44 (tm_44 w)) (qq_lm 45 (tm_45 w)))))) (qq_bm 54 (qq_bm 50 (qq_bm 48 (qq_bm 47 (qq_lm 46 (tm_46 w)) (qq_lm 47 (tm_47 w))) (qq_bm 49 (qq_lm 48 (tm_48 w)) (qq_lm 49 (tm_49 w)))) (qq_bm 52 (qq_bm 51 (qq_lm 50 (tm_50 w)) (qq_lm 51 (tm_51 w))) (qq_bm 53 (qq_lm 52 (tm_52 w)) (qq_lm 53 (tm_53 w))))) (qq_bm 58 (qq_bm 56 (qq_bm 55 (qq_lm 54 (tm_54 w)) (qq_lm 55 (tm_55 w))) (qq_bm 57 (qq_lm 56 (tm_56 w)) (qq_lm 57 (tm_57 w)))) (qq_bm 60 (qq_bm 59 (qq_lm 58 (tm_58 w)) (qq_lm 59 (tm_59 w))) (qq_bm 61 (qq_lm 60 (tm_60 w)) (qq_lm 61 (tm_61 w)))))))) (qq_bm 93 (qq_bm 77 (qq_bm 69 (qq_bm 65 (qq_bm 63 (qq_lm 62 (tm_62 w)) (qq_bm 64 (qq_lm 63 (tm_63 w)) (qq_lm 64 (tm_64 w)))) (qq_bm 67 (qq_bm 66 (qq_lm 65 (tm_65 w)) (qq_lm 66 (tm_66 w))) (qq_bm 68 (qq_lm 67 (tm_67 w)) (qq_lm 68 (tm_68 w))))) (qq_bm 73 (qq_bm 71 (qq_bm 70 (qq_lm 69 (tm_69 w)) (qq_lm 70 (tm_70 w))) (qq_bm 72 (qq_lm 71 (tm_71 w)) (qq_lm 72 (tm_72 w)))) (qq_bm 75 (qq_bm 74 (qq_lm 73 (tm_73 w)) (qq_lm 74 (tm_74 w))) (qq_bm 76 (qq_lm 75 (tm_75 w)) (qq_lm 76 (tm_76 w)))))) (qq_bm 85 (qq_bm 81 (qq_bm 79 (qq_bm 78 (qq_lm 77 (tm_77 w)) (qq_lm 78 (tm_78 w))) (qq_bm 80 (qq_lm 79 (tm_79 w)) (qq_lm 80 (tm_80 w)))) (qq_bm 83 (qq_bm 82 (qq_lm 81 (tm_81 w)) (qq_lm 82 (tm_82 w))) (qq_bm 84 (qq_lm 83 (tm_83 w)) (qq_lm 84 (tm_84 w))))) (qq_bm 89 (qq_bm 87 (qq_bm 86 (qq_lm 85 (tm_85 w)) (qq_lm 86 (tm_86 w))) (qq_bm 88 (qq_lm 87 (tm_87 w)) (qq_lm 88 (tm_88 w)))) (qq_bm 91 (qq_bm 90 (qq_lm 89 (tm_89 w)) (qq_lm 90 (tm_90 w))) (qq_bm 92 (qq_lm 91 (tm_91 w)) (qq_lm 92 (tm_92 w))))))) (qq_bm 108 (qq_bm 100 (qq_bm 96 (qq_bm 94 (qq_lm 93 (tm_93 w)) (qq_bm 95 (qq_lm 94 (tm_94 w)) (qq_lm 95 (tm_95 w)))) (qq_bm 98 (qq_bm 97 (qq_lm 96 (tm_96 w)) (qq_lm 97 (tm_97 w))) (qq_bm 99 (qq_lm 98 (tm_98 w)) (qq_lm 99 (tm_99 w))))) (qq_bm 104 (qq_bm 102 (qq_bm 101 (qq_lm 100 (tm_100 w)) (qq_lm 101 (tm_101 w))) (qq_bm 103 (qq_lm 102 (tm_102 w)) (qq_lm 103 (tm_103 w)))) (qq_bm 106 (qq_bm 105 (qq_lm 104 (tm_104 w)) (qq_lm 105 (tm_105 w))) (qq_bm 107 (qq_lm 106 (tm_106 w)) (qq_lm 107 (tm_107 w)))))) (qq_bm 116 (qq_bm 112 (qq_bm 110 (qq_bm 109 (qq_lm 108 (tm_108 w)) (qq_lm 109 (tm_109 w))) (qq_bm 111 (qq_lm 110 (tm_110 w)) (qq_lm 111 (tm_111 w)))) (qq_bm 114 (qq_bm 113 (qq_lm 112 (tm_112 w)) (qq_lm 113 (tm_113 w))) (qq_bm 115 (qq_lm 114 (tm_114 w)) (qq_lm 115 (tm_115 w))))) (qq_bm 120 (qq_bm 118 (qq_bm 117 (qq_lm 116 (tm_116 w)) (qq_lm 117 (tm_117 w))) (qq_bm 119 (qq_lm 118 (tm_118 w)) (qq_lm 119 (tm_119 w)))) (qq_bm 122 (qq_bm 121 (qq_lm 120 (tm_120 w)) (qq_lm 121 (tm_121 w))) (qq_bm 123 (qq_lm 122 (tm_122 w)) (qq_lm 123 (tm_123 w)))))))))
abbrev gE (w : qS) : qX := qq_Ev (gL w) gX (gP w)
end
section
/-! Printed: a row a place. -/
theorem pt_0_0 (w : qS) : gP w 0 0 = some (.inl (qo_il 1 1)) := rfl
theorem pt_0_1 (w : qS) : gP w 0 1 = some (.inl (qo_z (fun x => x < 0) 9)) := rfl
theorem pt_0_4 (w : qS) : gP w 0 4 = some (.inl (qo_il 1 1)) := rfl
theorem pt_0_5 (w : qS) : gP w 0 5 = some (.inl (qo_k (iN 4) 1)) := rfl
theorem pt_0_6 (w : qS) : gP w 0 6 = some (.inl (qo_c (fun x y => x < y) 11)) := rfl
theorem pt_0_9 (w : qS) : gP w 0 9 = some (.inl (qo_k (-1) 1)) := rfl
theorem pt_0_10 (w : qS) : gP w 0 10 = some (.inr (.inr 1)) := rfl
theorem pt_0_11 (w : qS) : gP w 0 11 = some (.inl (qo_al 0 1)) := rfl
theorem pt_0_12 (w : qS) : gP w 0 12 = some (.inl (qo_get (gL w) 0 0)) := rfl
theorem pt_0_15 (w : qS) : gP w 0 15 = some (.inl (qo_get (gL w) 1 0)) := rfl
theorem pt_0_18 (w : qS) : gP w 0 18 = some (.inl (qo_get (gL w) 2 6)) := rfl
theorem pt_0_21 (w : qS) : gP w 0 21 = some (.inl (qo_k (iN 16) 2)) := rfl
theorem pt_0_23 (w : qS) : gP w 0 23 = some (.inl (qo_c (fun x y => x < y) 29)) := rfl
theorem pt_0_26 (w : qS) : gP w 0 26 = some (.inl (qo_k (-2) 2)) := rfl
theorem pt_0_28 (w : qS) : gP w 0 28 = some (.inr (.inr 1)) := rfl
theorem pt_0_29 (w : qS) : gP w 0 29 = some (.inl (qo_al 0 1)) := rfl
theorem pt_0_30 (w : qS) : gP w 0 30 = some (.inl (qo_get (gL w) 0 1)) := rfl
theorem pt_0_33 (w : qS) : gP w 0 33 = some (.inl (qo_al 0 1)) := rfl
theorem pt_0_34 (w : qS) : gP w 0 34 = some (.inl (qo_get (gL w) 0 0)) := rfl
theorem pt_0_37 (w : qS) : gP w 0 37 = some (.inl (qo_get (gL w) 1 0)) := rfl
theorem pt_0_40 (w : qS) : gP w 0 40 = some (.inr (.inl (59, 2, some 3))) := rfl
theorem pt_0_43 (w : qS) : gP w 0 43 = some (.inl (qo_al 0 1)) := rfl
theorem pt_0_44 (w : qS) : gP w 0 44 = some (.inl (qo_get (gL w) 0 0)) := rfl
theorem pt_0_47 (w : qS) : gP w 0 47 = some (.inl (qo_il 1 1)) := rfl
theorem pt_0_48 (w : qS) : gP w 0 48 = some (.inr (.inl (37, 2, some 1))) := rfl
theorem pt_0_51 (w : qS) : gP w 0 51 = some (.inl (qo_is 2 1)) := rfl
theorem pt_0_52 (w : qS) : gP w 0 52 = some (.inl (qo_al 0 1)) := rfl
theorem pt_0_53 (w : qS) : gP w 0 53 = some (.inl (qo_get (gL w) 0 1)) := rfl
theorem pt_0_56 (w : qS) : gP w 0 56 = some (.inl (qo_al 0 1)) := rfl
theorem pt_0_57 (w : qS) : gP w 0 57 = some (.inl (qo_get (gL w) 0 0)) := rfl
theorem pt_0_60 (w : qS) : gP w 0 60 = some (.inl (qo_get (gL w) 1 0)) := rfl
theorem pt_0_63 (w : qS) : gP w 0 63 = some (.inr (.inl (60, 2, some 3))) := rfl
theorem pt_0_66 (w : qS) : gP w 0 66 = some (.inl (qo_il 2 1)) := rfl
theorem pt_0_67 (w : qS) : gP w 0 67 = some (.inr (.inr 1)) := rfl
theorem pt_1_0 (w : qS) : gP w 1 0 = some (.inl (qo_al 0 1)) := rfl
theorem pt_1_1 (w : qS) : gP w 1 1 = some (.inl (qo_get (gL w) 0 0)) := rfl
theorem pt_1_4 (w : qS) : gP w 1 4 = some (.inl (qo_il 1 1)) := rfl
theorem pt_1_5 (w : qS) : gP w 1 5 = some (.inr (.inl (29, 2, some 1))) := rfl
theorem pt_1_8 (w : qS) : gP w 1 8 = some (.inl (qo_z (fun x => x = 0) 27)) := rfl
theorem pt_1_11 (w : qS) : gP w 1 11 = some (.inl (qo_al 0 1)) := rfl
theorem pt_1_12 (w : qS) : gP w 1 12 = some (.inl (qo_get (gL w) 0 0)) := rfl
theorem pt_1_15 (w : qS) : gP w 1 15 = some (.inl (qo_il 2 1)) := rfl
theorem pt_1_16 (w : qS) : gP w 1 16 = some (.inr (.inl (29, 2, some 1))) := rfl
theorem pt_1_19 (w : qS) : gP w 1 19 = some (.inl (qo_z (fun x => x = 0) 27)) := rfl
theorem pt_1_22 (w : qS) : gP w 1 22 = some (.inl (qo_il 1 1)) := rfl
theorem pt_1_23 (w : qS) : gP w 1 23 = some (.inl (qo_il 2 1)) := rfl
theorem pt_1_24 (w : qS) : gP w 1 24 = some (.inl (qo_c (fun x y => ¬ x = y) 29)) := rfl
theorem pt_1_27 (w : qS) : gP w 1 27 = some (.inl (qo_k (-1) 1)) := rfl
theorem pt_1_28 (w : qS) : gP w 1 28 = some (.inr (.inr 1)) := rfl
theorem pt_1_29 (w : qS) : gP w 1 29 = some (.inl (qo_al 0 1)) := rfl
theorem pt_1_30 (w : qS) : gP w 1 30 = some (.inl (qo_get (gL w) 0 0)) := rfl
theorem pt_1_33 (w : qS) : gP w 1 33 = some (.inl (qo_get (gL w) 1 0)) := rfl
theorem pt_1_36 (w : qS) : gP w 1 36 = some (.inl (qo_get (gL w) 2 7)) := rfl
theorem pt_1_39 (w : qS) : gP w 1 39 = some (.inl (qo_k (iN 24) 2)) := rfl
theorem pt_1_41 (w : qS) : gP w 1 41 = some (.inl (qo_c (fun x y => x < y) 47)) := rfl
theorem pt_1_44 (w : qS) : gP w 1 44 = some (.inl (qo_k (-2) 2)) := rfl
theorem pt_1_46 (w : qS) : gP w 1 46 = some (.inr (.inr 1)) := rfl
theorem pt_1_47 (w : qS) : gP w 1 47 = some (.inl (qo_al 0 1)) := rfl
theorem pt_1_48 (w : qS) : gP w 1 48 = some (.inl (qo_get (gL w) 0 1)) := rfl
theorem pt_1_51 (w : qS) : gP w 1 51 = some (.inl (qo_al 0 1)) := rfl
theorem pt_1_52 (w : qS) : gP w 1 52 = some (.inl (qo_get (gL w) 0 0)) := rfl
theorem pt_1_55 (w : qS) : gP w 1 55 = some (.inl (qo_get (gL w) 1 0)) := rfl
theorem pt_1_58 (w : qS) : gP w 1 58 = some (.inr (.inl (59, 2, some 3))) := rfl
theorem pt_1_61 (w : qS) : gP w 1 61 = some (.inl (qo_al 0 1)) := rfl
theorem pt_1_62 (w : qS) : gP w 1 62 = some (.inl (qo_get (gL w) 0 0)) := rfl
theorem pt_1_65 (w : qS) : gP w 1 65 = some (.inl (qo_il 1 1)) := rfl
theorem pt_1_66 (w : qS) : gP w 1 66 = some (.inl (qo_il 2 1)) := rfl
theorem pt_1_67 (w : qS) : gP w 1 67 = some (.inr (.inl (38, 3, some 1))) := rfl
theorem pt_1_70 (w : qS) : gP w 1 70 = some (.inl (qo_is 3 1)) := rfl
theorem pt_1_71 (w : qS) : gP w 1 71 = some (.inl (qo_al 0 1)) := rfl
theorem pt_1_72 (w : qS) : gP w 1 72 = some (.inl (qo_get (gL w) 0 1)) := rfl
theorem pt_1_75 (w : qS) : gP w 1 75 = some (.inl (qo_al 0 1)) := rfl
theorem pt_1_76 (w : qS) : gP w 1 76 = some (.inl (qo_get (gL w) 0 0)) := rfl
theorem pt_1_79 (w : qS) : gP w 1 79 = some (.inl (qo_get (gL w) 1 0)) := rfl
theorem pt_1_82 (w : qS) : gP w 1 82 = some (.inr (.inl (60, 2, some 3))) := rfl
theorem pt_1_85 (w : qS) : gP w 1 85 = some (.inl (qo_il 3 1)) := rfl
theorem pt_1_86 (w : qS) : gP w 1 86 = some (.inr (.inr 1)) := rfl
theorem pt_2_0 (w : qS) : gP w 2 0 = some (.inl (qo_il 1 1)) := rfl
theorem pt_2_1 (w : qS) : gP w 2 1 = some (.inl (qo_z (fun x => x < 0) 18)) := rfl
theorem pt_2_4 (w : qS) : gP w 2 4 = some (.inl (qo_il 1 1)) := rfl
theorem pt_2_5 (w : qS) : gP w 2 5 = some (.inl (qo_al 0 1)) := rfl
theorem pt_2_6 (w : qS) : gP w 2 6 = some (.inl (qo_get (gL w) 0 0)) := rfl
theorem pt_2_9 (w : qS) : gP w 2 9 = some (.inl (qo_get (gL w) 1 0)) := rfl
theorem pt_2_12 (w : qS) : gP w 2 12 = some (.inl (qo_get (gL w) 2 7)) := rfl
theorem pt_2_15 (w : qS) : gP w 2 15 = some (.inl (qo_c (fun x y => x < y) 20)) := rfl
theorem pt_2_18 (w : qS) : gP w 2 18 = some (.inl (qo_k (-1) 1)) := rfl
theorem pt_2_19 (w : qS) : gP w 2 19 = some (.inr (.inr 1)) := rfl
theorem pt_2_20 (w : qS) : gP w 2 20 = some (.inl (qo_al 0 1)) := rfl
theorem pt_2_21 (w : qS) : gP w 2 21 = some (.inl (qo_get (gL w) 0 1)) := rfl
theorem pt_2_24 (w : qS) : gP w 2 24 = some (.inl (qo_al 0 1)) := rfl
theorem pt_2_25 (w : qS) : gP w 2 25 = some (.inl (qo_get (gL w) 0 0)) := rfl
theorem pt_2_28 (w : qS) : gP w 2 28 = some (.inl (qo_get (gL w) 1 0)) := rfl
theorem pt_2_31 (w : qS) : gP w 2 31 = some (.inr (.inl (59, 2, some 3))) := rfl
theorem pt_2_34 (w : qS) : gP w 2 34 = some (.inl (qo_al 0 1)) := rfl
theorem pt_2_35 (w : qS) : gP w 2 35 = some (.inl (qo_get (gL w) 0 0)) := rfl
theorem pt_2_38 (w : qS) : gP w 2 38 = some (.inl (qo_il 1 1)) := rfl
theorem pt_2_39 (w : qS) : gP w 2 39 = some (.inr (.inl (39, 2, some 1))) := rfl
theorem pt_2_42 (w : qS) : gP w 2 42 = some (.inl (qo_al 0 1)) := rfl
theorem pt_2_43 (w : qS) : gP w 2 43 = some (.inl (qo_get (gL w) 0 1)) := rfl
theorem pt_2_46 (w : qS) : gP w 2 46 = some (.inl (qo_al 0 1)) := rfl
theorem pt_2_47 (w : qS) : gP w 2 47 = some (.inl (qo_get (gL w) 0 0)) := rfl
theorem pt_2_50 (w : qS) : gP w 2 50 = some (.inl (qo_get (gL w) 1 0)) := rfl
theorem pt_2_53 (w : qS) : gP w 2 53 = some (.inr (.inl (60, 2, some 3))) := rfl
theorem pt_2_56 (w : qS) : gP w 2 56 = some (.inl (qo_al 0 1)) := rfl
theorem pt_2_57 (w : qS) : gP w 2 57 = some (.inl (qo_get (gL w) 0 0)) := rfl
theorem pt_2_60 (w : qS) : gP w 2 60 = some (.inl (qo_get (gL w) 1 0)) := rfl
theorem pt_2_63 (w : qS) : gP w 2 63 = some (.inl (qo_get (gL w) 2 7)) := rfl
theorem pt_2_66 (w : qS) : gP w 2 66 = some (.inr (.inr 1)) := rfl
theorem pt_3_0 (w : qS) : gP w 3 0 = some (.inl (qo_al 0 1)) := rfl
theorem pt_3_1 (w : qS) : gP w 3 1 = some (.inl (qo_get (gL w) 0 0)) := rfl
theorem pt_3_4 (w : qS) : gP w 3 4 = some (.inl (qo_il 1 1)) := rfl
theorem pt_3_5 (w : qS) : gP w 3 5 = some (.inr (.inl (29, 2, some 1))) := rfl
theorem pt_3_8 (w : qS) : gP w 3 8 = some (.inl (qo_z (fun x => x = 0) 22)) := rfl
theorem pt_3_11 (w : qS) : gP w 3 11 = some (.inl (qo_al 0 1)) := rfl
theorem pt_3_12 (w : qS) : gP w 3 12 = some (.inl (qo_get (gL w) 0 0)) := rfl
theorem pt_3_15 (w : qS) : gP w 3 15 = some (.inl (qo_il 1 1)) := rfl
theorem pt_3_16 (w : qS) : gP w 3 16 = some (.inr (.inl (31, 2, some 1))) := rfl
theorem pt_3_19 (w : qS) : gP w 3 19 = some (.inl (qo_g 23)) := rfl
theorem pt_3_22 (w : qS) : gP w 3 22 = some (.inl (qo_k (-1) 1)) := rfl
theorem pt_3_23 (w : qS) : gP w 3 23 = some (.inr (.inr 1)) := rfl
theorem pt_4_0 (w : qS) : gP w 4 0 = some (.inl (qo_il 1 1)) := rfl
theorem pt_4_1 (w : qS) : gP w 4 1 = some (.inl (qo_z (fun x => x < 0) 13)) := rfl
theorem pt_4_4 (w : qS) : gP w 4 4 = some (.inl (qo_il 2 1)) := rfl
theorem pt_4_5 (w : qS) : gP w 4 5 = some (.inl (qo_z (fun x => x < 0) 13)) := rfl
theorem pt_4_8 (w : qS) : gP w 4 8 = some (.inl (qo_il 2 1)) := rfl
theorem pt_4_9 (w : qS) : gP w 4 9 = some (.inl (qo_k 1 1)) := rfl
theorem pt_4_10 (w : qS) : gP w 4 10 = some (.inl (qo_c (fun x y => x ≤ y) 15)) := rfl
theorem pt_4_13 (w : qS) : gP w 4 13 = some (.inl (qo_k (-1) 1)) := rfl
theorem pt_4_14 (w : qS) : gP w 4 14 = some (.inr (.inr 1)) := rfl
theorem pt_4_15 (w : qS) : gP w 4 15 = some (.inl (qo_il 1 1)) := rfl
theorem pt_4_16 (w : qS) : gP w 4 16 = some (.inl (qo_is 3 1)) := rfl
theorem pt_4_17 (w : qS) : gP w 4 17 = some (.inl (qo_k 0 1)) := rfl
theorem pt_4_18 (w : qS) : gP w 4 18 = some (.inl (qo_is 4 2)) := rfl
theorem pt_4_20 (w : qS) : gP w 4 20 = some (.inl (qo_il 4 2)) := rfl
theorem pt_4_22 (w : qS) : gP w 4 22 = some (.inl (qo_al 0 1)) := rfl
theorem pt_4_23 (w : qS) : gP w 4 23 = some (.inl (qo_get (gL w) 0 0)) := rfl
theorem pt_4_26 (w : qS) : gP w 4 26 = some (.inl (qo_get (gL w) 1 0)) := rfl
theorem pt_4_29 (w : qS) : gP w 4 29 = some (.inl (qo_get (gL w) 2 6)) := rfl
theorem pt_4_32 (w : qS) : gP w 4 32 = some (.inl (qo_c (fun x y => y ≤ x) 80)) := rfl
theorem pt_4_35 (w : qS) : gP w 4 35 = some (.inl (qo_al 0 1)) := rfl
theorem pt_4_36 (w : qS) : gP w 4 36 = some (.inl (qo_get (gL w) 0 0)) := rfl
theorem pt_4_39 (w : qS) : gP w 4 39 = some (.inl (qo_il 4 2)) := rfl
theorem pt_4_41 (w : qS) : gP w 4 41 = some (.inr (.inl (42, 2, some 1))) := rfl
theorem pt_4_44 (w : qS) : gP w 4 44 = some (.inl (qo_is 5 2)) := rfl
theorem pt_4_46 (w : qS) : gP w 4 46 = some (.inl (qo_il 5 2)) := rfl
theorem pt_4_48 (w : qS) : gP w 4 48 = some (.inl (qo_k (-1) 1)) := rfl
theorem pt_4_49 (w : qS) : gP w 4 49 = some (.inl (qo_c (fun x y => ¬ x = y) 55)) := rfl
theorem pt_4_52 (w : qS) : gP w 4 52 = some (.inl (qo_g 74)) := rfl
theorem pt_4_55 (w : qS) : gP w 4 55 = some (.inl (qo_il 3 1)) := rfl
theorem pt_4_56 (w : qS) : gP w 4 56 = some (.inl (qo_z (fun x => ¬ x = 0) 71)) := rfl
theorem pt_4_59 (w : qS) : gP w 4 59 = some (.inl (qo_il 2 1)) := rfl
theorem pt_4_60 (w : qS) : gP w 4 60 = some (.inl (qo_z (fun x => ¬ x = 0) 68)) := rfl
theorem pt_4_63 (w : qS) : gP w 4 63 = some (.inl (qo_il 5 2)) := rfl
theorem pt_4_65 (w : qS) : gP w 4 65 = some (.inl (qo_g 70)) := rfl
theorem pt_4_68 (w : qS) : gP w 4 68 = some (.inl (qo_il 4 2)) := rfl
theorem pt_4_70 (w : qS) : gP w 4 70 = some (.inr (.inr 1)) := rfl
theorem pt_4_71 (w : qS) : gP w 4 71 = some (.inl (qo_inc 3 (-1))) := rfl
theorem pt_4_74 (w : qS) : gP w 4 74 = some (.inl (qo_inc 4 1)) := rfl
theorem pt_4_77 (w : qS) : gP w 4 77 = some (.inl (qo_g 20)) := rfl
theorem pt_4_80 (w : qS) : gP w 4 80 = some (.inl (qo_k (-1) 1)) := rfl
theorem pt_4_81 (w : qS) : gP w 4 81 = some (.inr (.inr 1)) := rfl
theorem pt_5_0 (w : qS) : gP w 5 0 = some (.inl (qo_al 0 1)) := rfl
theorem pt_5_1 (w : qS) : gP w 5 1 = some (.inl (qo_get (gL w) 0 0)) := rfl
theorem pt_5_4 (w : qS) : gP w 5 4 = some (.inl (qo_il 1 1)) := rfl
theorem pt_5_5 (w : qS) : gP w 5 5 = some (.inr (.inl (29, 2, some 1))) := rfl
theorem pt_5_8 (w : qS) : gP w 5 8 = some (.inl (qo_z (fun x => x = 0) 34)) := rfl
theorem pt_5_11 (w : qS) : gP w 5 11 = some (.inl (qo_al 0 1)) := rfl
theorem pt_5_12 (w : qS) : gP w 5 12 = some (.inl (qo_get (gL w) 0 0)) := rfl
theorem pt_5_15 (w : qS) : gP w 5 15 = some (.inl (qo_il 1 1)) := rfl
theorem pt_5_16 (w : qS) : gP w 5 16 = some (.inr (.inl (30, 2, some 1))) := rfl
theorem pt_5_19 (w : qS) : gP w 5 19 = some (.inl (qo_z (fun x => ¬ x = 0) 34)) := rfl
theorem pt_5_22 (w : qS) : gP w 5 22 = some (.inl (qo_il 4 2)) := rfl
theorem pt_5_24 (w : qS) : gP w 5 24 = some (.inl (qo_k 1 1)) := rfl
theorem pt_5_25 (w : qS) : gP w 5 25 = some (.inl (qo_c (fun x y => x < y) 34)) := rfl
theorem pt_5_28 (w : qS) : gP w 5 28 = some (.inl (qo_il 4 2)) := rfl
theorem pt_5_30 (w : qS) : gP w 5 30 = some (.inl (qo_k (iN 3) 1)) := rfl
theorem pt_5_31 (w : qS) : gP w 5 31 = some (.inl (qo_c (fun x y => x ≤ y) 36)) := rfl
theorem pt_5_34 (w : qS) : gP w 5 34 = some (.inl (qo_k 0 1)) := rfl
theorem pt_5_35 (w : qS) : gP w 5 35 = some (.inr (.inr 2)) := rfl
theorem pt_5_36 (w : qS) : gP w 5 36 = some (.inl (qo_il 2 1)) := rfl
theorem pt_5_37 (w : qS) : gP w 5 37 = some (.inl (qo_z (fun x => x < 0) 56)) := rfl
theorem pt_5_40 (w : qS) : gP w 5 40 = some (.inl (qo_il 2 1)) := rfl
theorem pt_5_41 (w : qS) : gP w 5 41 = some (.inl (qo_k (iN 12) 2)) := rfl
theorem pt_5_43 (w : qS) : gP w 5 43 = some (.inl (qo_c (fun x y => y ≤ x) 56)) := rfl
theorem pt_5_46 (w : qS) : gP w 5 46 = some (.inl (qo_il 3 1)) := rfl
theorem pt_5_47 (w : qS) : gP w 5 47 = some (.inl (qo_z (fun x => x < 0) 56)) := rfl
theorem pt_5_50 (w : qS) : gP w 5 50 = some (.inl (qo_il 3 1)) := rfl
theorem pt_5_51 (w : qS) : gP w 5 51 = some (.inl (qo_k (iN 10) 2)) := rfl
theorem pt_5_53 (w : qS) : gP w 5 53 = some (.inl (qo_c (fun x y => x < y) 58)) := rfl
theorem pt_5_56 (w : qS) : gP w 5 56 = some (.inl (qo_k 0 1)) := rfl
theorem pt_5_57 (w : qS) : gP w 5 57 = some (.inr (.inr 2)) := rfl
theorem pt_5_58 (w : qS) : gP w 5 58 = some (.inl (qo_il 3 1)) := rfl
theorem pt_5_59 (w : qS) : gP w 5 59 = some (.inl (qo_k (iN 12) 2)) := rfl
theorem pt_5_61 (w : qS) : gP w 5 61 = some (.inl (qo_b (fun x y => x * y))) := rfl
theorem pt_5_62 (w : qS) : gP w 5 62 = some (.inl (qo_il 2 1)) := rfl
theorem pt_5_63 (w : qS) : gP w 5 63 = some (.inl (qo_b (fun x y => x + y))) := rfl
theorem pt_5_64 (w : qS) : gP w 5 64 = some (.inl (qo_is 5 2)) := rfl
theorem pt_5_66 (w : qS) : gP w 5 66 = some (.inl (qo_al 0 1)) := rfl
theorem pt_5_67 (w : qS) : gP w 5 67 = some (.inl (qo_get (gL w) 0 0)) := rfl
theorem pt_5_70 (w : qS) : gP w 5 70 = some (.inl (qo_il 5 2)) := rfl
theorem pt_5_72 (w : qS) : gP w 5 72 = some (.inl (qo_il 4 2)) := rfl
theorem pt_5_74 (w : qS) : gP w 5 74 = some (.inl (qo_al 0 1)) := rfl
theorem pt_5_75 (w : qS) : gP w 5 75 = some (.inl (qo_get (gL w) 0 0)) := rfl
theorem pt_5_78 (w : qS) : gP w 5 78 = some (.inl (qo_il 1 1)) := rfl
theorem pt_5_79 (w : qS) : gP w 5 79 = some (.inr (.inl (31, 2, some 1))) := rfl
theorem pt_5_82 (w : qS) : gP w 5 82 = some (.inr (.inl (44, 4, some 1))) := rfl
theorem pt_5_85 (w : qS) : gP w 5 85 = some (.inl (qo_z (fun x => ¬ x = 0) 90)) := rfl
theorem pt_5_88 (w : qS) : gP w 5 88 = some (.inl (qo_k 0 1)) := rfl
theorem pt_5_89 (w : qS) : gP w 5 89 = some (.inr (.inr 2)) := rfl
theorem pt_5_90 (w : qS) : gP w 5 90 = some (.inl (qo_al 0 1)) := rfl
theorem pt_5_91 (w : qS) : gP w 5 91 = some (.inl (qo_get (gL w) 0 1)) := rfl
theorem pt_5_94 (w : qS) : gP w 5 94 = some (.inl (qo_al 0 1)) := rfl
theorem pt_5_95 (w : qS) : gP w 5 95 = some (.inl (qo_get (gL w) 0 0)) := rfl
theorem pt_5_98 (w : qS) : gP w 5 98 = some (.inl (qo_get (gL w) 1 0)) := rfl
theorem pt_5_101 (w : qS) : gP w 5 101 = some (.inr (.inl (59, 2, some 3))) := rfl
theorem pt_5_104 (w : qS) : gP w 5 104 = some (.inl (qo_al 0 1)) := rfl
theorem pt_5_105 (w : qS) : gP w 5 105 = some (.inl (qo_get (gL w) 0 0)) := rfl
theorem pt_5_108 (w : qS) : gP w 5 108 = some (.inl (qo_il 1 1)) := rfl
theorem pt_5_109 (w : qS) : gP w 5 109 = some (.inl (qo_il 5 2)) := rfl
theorem pt_5_111 (w : qS) : gP w 5 111 = some (.inl (qo_il 4 2)) := rfl
theorem pt_5_113 (w : qS) : gP w 5 113 = some (.inr (.inl (45, 4, some 1))) := rfl
theorem pt_5_116 (w : qS) : gP w 5 116 = some (.inl (qo_al 0 1)) := rfl
theorem pt_5_117 (w : qS) : gP w 5 117 = some (.inl (qo_get (gL w) 0 1)) := rfl
theorem pt_5_120 (w : qS) : gP w 5 120 = some (.inl (qo_al 0 1)) := rfl
theorem pt_5_121 (w : qS) : gP w 5 121 = some (.inl (qo_get (gL w) 0 0)) := rfl
theorem pt_5_124 (w : qS) : gP w 5 124 = some (.inl (qo_get (gL w) 1 0)) := rfl
theorem pt_5_127 (w : qS) : gP w 5 127 = some (.inr (.inl (60, 2, some 3))) := rfl
theorem pt_5_130 (w : qS) : gP w 5 130 = some (.inl (qo_k 1 1)) := rfl
theorem pt_5_131 (w : qS) : gP w 5 131 = some (.inr (.inr 2)) := rfl
theorem pt_6_0 (w : qS) : gP w 6 0 = some (.inl (qo_al 0 1)) := rfl
theorem pt_6_1 (w : qS) : gP w 6 1 = some (.inl (qo_get (gL w) 0 0)) := rfl
theorem pt_6_4 (w : qS) : gP w 6 4 = some (.inl (qo_il 1 1)) := rfl
theorem pt_6_5 (w : qS) : gP w 6 5 = some (.inr (.inl (29, 2, some 1))) := rfl
theorem pt_6_8 (w : qS) : gP w 6 8 = some (.inl (qo_z (fun x => x = 0) 22)) := rfl
theorem pt_6_11 (w : qS) : gP w 6 11 = some (.inl (qo_al 0 1)) := rfl
theorem pt_6_12 (w : qS) : gP w 6 12 = some (.inl (qo_get (gL w) 0 0)) := rfl
theorem pt_6_15 (w : qS) : gP w 6 15 = some (.inl (qo_il 1 1)) := rfl
theorem pt_6_16 (w : qS) : gP w 6 16 = some (.inr (.inl (30, 2, some 1))) := rfl
theorem pt_6_19 (w : qS) : gP w 6 19 = some (.inl (qo_z (fun x => ¬ x = 0) 24)) := rfl
theorem pt_6_22 (w : qS) : gP w 6 22 = some (.inl (qo_k 0 1)) := rfl
theorem pt_6_23 (w : qS) : gP w 6 23 = some (.inr (.inr 2)) := rfl
theorem pt_6_24 (w : qS) : gP w 6 24 = some (.inl (qo_al 0 1)) := rfl
theorem pt_6_25 (w : qS) : gP w 6 25 = some (.inl (qo_get (gL w) 0 1)) := rfl
theorem pt_6_28 (w : qS) : gP w 6 28 = some (.inl (qo_al 0 1)) := rfl
theorem pt_6_29 (w : qS) : gP w 6 29 = some (.inl (qo_get (gL w) 0 0)) := rfl
theorem pt_6_32 (w : qS) : gP w 6 32 = some (.inl (qo_get (gL w) 1 0)) := rfl
theorem pt_6_35 (w : qS) : gP w 6 35 = some (.inr (.inl (59, 2, some 3))) := rfl
theorem pt_6_38 (w : qS) : gP w 6 38 = some (.inl (qo_al 0 1)) := rfl
theorem pt_6_39 (w : qS) : gP w 6 39 = some (.inl (qo_get (gL w) 0 0)) := rfl
theorem pt_6_42 (w : qS) : gP w 6 42 = some (.inl (qo_il 1 1)) := rfl
theorem pt_6_43 (w : qS) : gP w 6 43 = some (.inr (.inl (46, 2, some 1))) := rfl
theorem pt_6_46 (w : qS) : gP w 6 46 = some (.inl (qo_al 0 1)) := rfl
theorem pt_6_47 (w : qS) : gP w 6 47 = some (.inl (qo_get (gL w) 0 1)) := rfl
theorem pt_6_50 (w : qS) : gP w 6 50 = some (.inl (qo_al 0 1)) := rfl
theorem pt_6_51 (w : qS) : gP w 6 51 = some (.inl (qo_get (gL w) 0 0)) := rfl
theorem pt_6_54 (w : qS) : gP w 6 54 = some (.inl (qo_get (gL w) 1 0)) := rfl
theorem pt_6_57 (w : qS) : gP w 6 57 = some (.inr (.inl (60, 2, some 3))) := rfl
theorem pt_6_60 (w : qS) : gP w 6 60 = some (.inl (qo_k 1 1)) := rfl
theorem pt_6_61 (w : qS) : gP w 6 61 = some (.inr (.inr 2)) := rfl
theorem pt_7_0 (w : qS) : gP w 7 0 = some (.inl (qo_il 1 1)) := rfl
theorem pt_7_1 (w : qS) : gP w 7 1 = some (.inl (qo_k 1 1)) := rfl
theorem pt_7_2 (w : qS) : gP w 7 2 = some (.inl (qo_c (fun x y => x < y) 10)) := rfl
theorem pt_7_5 (w : qS) : gP w 7 5 = some (.inl (qo_il 1 1)) := rfl
theorem pt_7_6 (w : qS) : gP w 7 6 = some (.inl (qo_k (iN 2) 1)) := rfl
theorem pt_7_7 (w : qS) : gP w 7 7 = some (.inl (qo_c (fun x y => x ≤ y) 12)) := rfl
theorem pt_7_10 (w : qS) : gP w 7 10 = some (.inl (qo_k (-1) 1)) := rfl
theorem pt_7_11 (w : qS) : gP w 7 11 = some (.inr (.inr 1)) := rfl
theorem pt_7_12 (w : qS) : gP w 7 12 = some (.inl (qo_al 0 1)) := rfl
theorem pt_7_13 (w : qS) : gP w 7 13 = some (.inl (qo_get (gL w) 0 0)) := rfl
theorem pt_7_16 (w : qS) : gP w 7 16 = some (.inl (qo_get (gL w) 1 0)) := rfl
theorem pt_7_19 (w : qS) : gP w 7 19 = some (.inl (qo_get (gL w) 2 8)) := rfl
theorem pt_7_22 (w : qS) : gP w 7 22 = some (.inl (qo_is 2 1)) := rfl
theorem pt_7_23 (w : qS) : gP w 7 23 = some (.inl (qo_al 0 1)) := rfl
theorem pt_7_24 (w : qS) : gP w 7 24 = some (.inl (qo_get (gL w) 0 1)) := rfl
theorem pt_7_27 (w : qS) : gP w 7 27 = some (.inl (qo_al 0 1)) := rfl
theorem pt_7_28 (w : qS) : gP w 7 28 = some (.inl (qo_get (gL w) 0 0)) := rfl
theorem pt_7_31 (w : qS) : gP w 7 31 = some (.inl (qo_get (gL w) 1 0)) := rfl
theorem pt_7_34 (w : qS) : gP w 7 34 = some (.inr (.inl (59, 2, some 3))) := rfl
theorem pt_7_37 (w : qS) : gP w 7 37 = some (.inl (qo_al 0 1)) := rfl
theorem pt_7_38 (w : qS) : gP w 7 38 = some (.inl (qo_get (gL w) 0 0)) := rfl
theorem pt_7_41 (w : qS) : gP w 7 41 = some (.inl (qo_get (gL w) 1 0)) := rfl
theorem pt_7_44 (w : qS) : gP w 7 44 = some (.inl (qo_il 1 1)) := rfl
theorem pt_7_45 (w : qS) : gP w 7 45 = some (.inl (qo_put (gL w) 2 8)) := rfl
theorem pt_7_48 (w : qS) : gP w 7 48 = some (.inl (qo_al 0 1)) := rfl
theorem pt_7_49 (w : qS) : gP w 7 49 = some (.inl (qo_get (gL w) 0 1)) := rfl
theorem pt_7_52 (w : qS) : gP w 7 52 = some (.inl (qo_al 0 1)) := rfl
theorem pt_7_53 (w : qS) : gP w 7 53 = some (.inl (qo_get (gL w) 0 0)) := rfl
theorem pt_7_56 (w : qS) : gP w 7 56 = some (.inl (qo_get (gL w) 1 0)) := rfl
theorem pt_7_59 (w : qS) : gP w 7 59 = some (.inr (.inl (60, 2, some 3))) := rfl
theorem pt_7_62 (w : qS) : gP w 7 62 = some (.inl (qo_il 2 1)) := rfl
theorem pt_7_63 (w : qS) : gP w 7 63 = some (.inr (.inr 1)) := rfl
theorem pt_8_0 (w : qS) : gP w 8 0 = some (.inl (qo_il 1 1)) := rfl
theorem pt_8_1 (w : qS) : gP w 8 1 = some (.inr (.inl (24, 1, none))) := rfl
theorem pt_8_4 (w : qS) : gP w 8 4 = some (.inl (qo_z (fun x => x = 0) 19)) := rfl
theorem pt_8_7 (w : qS) : gP w 8 7 = some (.inl (qo_al 0 1)) := rfl
theorem pt_8_8 (w : qS) : gP w 8 8 = some (.inl (qo_get (gL w) 0 0)) := rfl
theorem pt_8_11 (w : qS) : gP w 8 11 = some (.inl (qo_il 1 1)) := rfl
theorem pt_8_12 (w : qS) : gP w 8 12 = some (.inr (.inl (32, 2, some 1))) := rfl
theorem pt_8_15 (w : qS) : gP w 8 15 = some (.inl (qo_k (-1) 1)) := rfl
theorem pt_8_16 (w : qS) : gP w 8 16 = some (.inl (qo_c (fun x y => x = y) 21)) := rfl
theorem pt_8_19 (w : qS) : gP w 8 19 = some (.inl (qo_k 0 1)) := rfl
theorem pt_8_20 (w : qS) : gP w 8 20 = some (.inr (.inr 2)) := rfl
theorem pt_8_21 (w : qS) : gP w 8 21 = some (.inl (qo_al 0 1)) := rfl
theorem pt_8_22 (w : qS) : gP w 8 22 = some (.inl (qo_get (gL w) 0 1)) := rfl
theorem pt_8_25 (w : qS) : gP w 8 25 = some (.inl (qo_al 0 1)) := rfl
theorem pt_8_26 (w : qS) : gP w 8 26 = some (.inl (qo_get (gL w) 0 0)) := rfl
theorem pt_8_29 (w : qS) : gP w 8 29 = some (.inl (qo_get (gL w) 1 0)) := rfl
theorem pt_8_32 (w : qS) : gP w 8 32 = some (.inr (.inl (59, 2, some 3))) := rfl
theorem pt_8_35 (w : qS) : gP w 8 35 = some (.inl (qo_al 0 1)) := rfl
theorem pt_8_36 (w : qS) : gP w 8 36 = some (.inl (qo_get (gL w) 0 0)) := rfl
theorem pt_8_39 (w : qS) : gP w 8 39 = some (.inl (qo_get (gL w) 1 0)) := rfl
theorem pt_8_42 (w : qS) : gP w 8 42 = some (.inl (qo_get (gL w) 2 5)) := rfl
theorem pt_8_45 (w : qS) : gP w 8 45 = some (.inl (qo_il 1 1)) := rfl
theorem pt_8_46 (w : qS) : gP w 8 46 = some (.inl (qo_il 2 1)) := rfl
theorem pt_8_47 (w : qS) : gP w 8 47 = some (.inl (qo_z (fun x => x = 0) 55)) := rfl
theorem pt_8_50 (w : qS) : gP w 8 50 = some (.inl (qo_k (-2) 2)) := rfl
theorem pt_8_52 (w : qS) : gP w 8 52 = some (.inl (qo_g 56)) := rfl
theorem pt_8_55 (w : qS) : gP w 8 55 = some (.inl (qo_k (-1) 1)) := rfl
theorem pt_8_56 (w : qS) : gP w 8 56 = some (.inl (qo_ias (gL w))) := rfl
theorem pt_8_57 (w : qS) : gP w 8 57 = some (.inl (qo_al 0 1)) := rfl
theorem pt_8_58 (w : qS) : gP w 8 58 = some (.inl (qo_get (gL w) 0 1)) := rfl
theorem pt_8_61 (w : qS) : gP w 8 61 = some (.inl (qo_al 0 1)) := rfl
theorem pt_8_62 (w : qS) : gP w 8 62 = some (.inl (qo_get (gL w) 0 0)) := rfl
theorem pt_8_65 (w : qS) : gP w 8 65 = some (.inl (qo_get (gL w) 1 0)) := rfl
theorem pt_8_68 (w : qS) : gP w 8 68 = some (.inr (.inl (60, 2, some 3))) := rfl
theorem pt_8_71 (w : qS) : gP w 8 71 = some (.inl (qo_il 2 1)) := rfl
theorem pt_8_72 (w : qS) : gP w 8 72 = some (.inr (.inr 2)) := rfl
theorem pt_9_0 (w : qS) : gP w 9 0 = some (.inl (qo_al 0 1)) := rfl
theorem pt_9_1 (w : qS) : gP w 9 1 = some (.inl (qo_get (gL w) 0 0)) := rfl
theorem pt_9_4 (w : qS) : gP w 9 4 = some (.inl (qo_il 1 1)) := rfl
theorem pt_9_5 (w : qS) : gP w 9 5 = some (.inr (.inl (29, 2, some 1))) := rfl
theorem pt_9_8 (w : qS) : gP w 9 8 = some (.inl (qo_z (fun x => x = 0) 28)) := rfl
theorem pt_9_11 (w : qS) : gP w 9 11 = some (.inl (qo_il 2 1)) := rfl
theorem pt_9_12 (w : qS) : gP w 9 12 = some (.inr (.inl (24, 1, none))) := rfl
theorem pt_9_15 (w : qS) : gP w 9 15 = some (.inl (qo_z (fun x => x = 0) 28)) := rfl
theorem pt_9_18 (w : qS) : gP w 9 18 = some (.inl (qo_il 3 1)) := rfl
theorem pt_9_19 (w : qS) : gP w 9 19 = some (.inl (qo_z (fun x => x < 0) 28)) := rfl
theorem pt_9_22 (w : qS) : gP w 9 22 = some (.inl (qo_il 3 1)) := rfl
theorem pt_9_23 (w : qS) : gP w 9 23 = some (.inl (qo_k (iN 9) 2)) := rfl
theorem pt_9_25 (w : qS) : gP w 9 25 = some (.inl (qo_c (fun x y => x < y) 30)) := rfl
theorem pt_9_28 (w : qS) : gP w 9 28 = some (.inl (qo_k (-1) 1)) := rfl
theorem pt_9_29 (w : qS) : gP w 9 29 = some (.inr (.inr 1)) := rfl
theorem pt_9_30 (w : qS) : gP w 9 30 = some (.inl (qo_il 3 1)) := rfl
theorem pt_9_31 (w : qS) : gP w 9 31 = some (.inl (qo_k (iN 8) 2)) := rfl
theorem pt_9_33 (w : qS) : gP w 9 33 = some (.inl (qo_c (fun x y => ¬ x = y) 40)) := rfl
theorem pt_9_36 (w : qS) : gP w 9 36 = some (.inl (qo_k 1 1)) := rfl
theorem pt_9_37 (w : qS) : gP w 9 37 = some (.inl (qo_g 42)) := rfl
theorem pt_9_40 (w : qS) : gP w 9 40 = some (.inl (qo_k (iN 11) 2)) := rfl
theorem pt_9_42 (w : qS) : gP w 9 42 = some (.inl (qo_is 5 2)) := rfl
theorem pt_9_44 (w : qS) : gP w 9 44 = some (.inl (qo_il 4 2)) := rfl
theorem pt_9_46 (w : qS) : gP w 9 46 = some (.inl (qo_z (fun x => x < 0) 56)) := rfl
theorem pt_9_49 (w : qS) : gP w 9 49 = some (.inl (qo_il 4 2)) := rfl
theorem pt_9_51 (w : qS) : gP w 9 51 = some (.inl (qo_il 5 2)) := rfl
theorem pt_9_53 (w : qS) : gP w 9 53 = some (.inl (qo_c (fun x y => x ≤ y) 58)) := rfl
theorem pt_9_56 (w : qS) : gP w 9 56 = some (.inl (qo_k (-1) 1)) := rfl
theorem pt_9_57 (w : qS) : gP w 9 57 = some (.inr (.inr 1)) := rfl
theorem pt_9_58 (w : qS) : gP w 9 58 = some (.inl (qo_al 0 1)) := rfl
theorem pt_9_59 (w : qS) : gP w 9 59 = some (.inl (qo_get (gL w) 0 0)) := rfl
theorem pt_9_62 (w : qS) : gP w 9 62 = some (.inl (qo_al 0 1)) := rfl
theorem pt_9_63 (w : qS) : gP w 9 63 = some (.inl (qo_get (gL w) 0 0)) := rfl
theorem pt_9_66 (w : qS) : gP w 9 66 = some (.inl (qo_il 1 1)) := rfl
theorem pt_9_67 (w : qS) : gP w 9 67 = some (.inr (.inl (31, 2, some 1))) := rfl
theorem pt_9_70 (w : qS) : gP w 9 70 = some (.inl (qo_il 2 1)) := rfl
theorem pt_9_71 (w : qS) : gP w 9 71 = some (.inl (qo_il 3 1)) := rfl
theorem pt_9_72 (w : qS) : gP w 9 72 = some (.inl (qo_il 4 2)) := rfl
theorem pt_9_74 (w : qS) : gP w 9 74 = some (.inr (.inl (48, 5, some 1))) := rfl
theorem pt_9_77 (w : qS) : gP w 9 77 = some (.inl (qo_z (fun x => ¬ x = 0) 82)) := rfl
theorem pt_9_80 (w : qS) : gP w 9 80 = some (.inl (qo_k (-1) 1)) := rfl
theorem pt_9_81 (w : qS) : gP w 9 81 = some (.inr (.inr 1)) := rfl
theorem pt_9_82 (w : qS) : gP w 9 82 = some (.inl (qo_al 0 1)) := rfl
theorem pt_9_83 (w : qS) : gP w 9 83 = some (.inl (qo_get (gL w) 0 1)) := rfl
theorem pt_9_86 (w : qS) : gP w 9 86 = some (.inl (qo_al 0 1)) := rfl
theorem pt_9_87 (w : qS) : gP w 9 87 = some (.inl (qo_get (gL w) 0 0)) := rfl
theorem pt_9_90 (w : qS) : gP w 9 90 = some (.inl (qo_get (gL w) 1 0)) := rfl
theorem pt_9_93 (w : qS) : gP w 9 93 = some (.inr (.inl (59, 2, some 3))) := rfl
theorem pt_9_96 (w : qS) : gP w 9 96 = some (.inl (qo_al 0 1)) := rfl
theorem pt_9_97 (w : qS) : gP w 9 97 = some (.inl (qo_get (gL w) 0 0)) := rfl
theorem pt_9_100 (w : qS) : gP w 9 100 = some (.inl (qo_il 1 1)) := rfl
theorem pt_9_101 (w : qS) : gP w 9 101 = some (.inl (qo_il 2 1)) := rfl
theorem pt_9_102 (w : qS) : gP w 9 102 = some (.inl (qo_il 3 1)) := rfl
theorem pt_9_103 (w : qS) : gP w 9 103 = some (.inl (qo_il 4 2)) := rfl
theorem pt_9_105 (w : qS) : gP w 9 105 = some (.inr (.inl (49, 5, some 1))) := rfl
theorem pt_9_108 (w : qS) : gP w 9 108 = some (.inl (qo_is 6 2)) := rfl
theorem pt_9_110 (w : qS) : gP w 9 110 = some (.inl (qo_al 0 1)) := rfl
theorem pt_9_111 (w : qS) : gP w 9 111 = some (.inl (qo_get (gL w) 0 1)) := rfl
theorem pt_9_114 (w : qS) : gP w 9 114 = some (.inl (qo_al 0 1)) := rfl
theorem pt_9_115 (w : qS) : gP w 9 115 = some (.inl (qo_get (gL w) 0 0)) := rfl
theorem pt_9_118 (w : qS) : gP w 9 118 = some (.inl (qo_get (gL w) 1 0)) := rfl
theorem pt_9_121 (w : qS) : gP w 9 121 = some (.inr (.inl (60, 2, some 3))) := rfl
theorem pt_9_124 (w : qS) : gP w 9 124 = some (.inl (qo_il 6 2)) := rfl
theorem pt_9_126 (w : qS) : gP w 9 126 = some (.inr (.inr 1)) := rfl
theorem pt_10_0 (w : qS) : gP w 10 0 = some (.inl (qo_il 1 1)) := rfl
theorem pt_10_1 (w : qS) : gP w 10 1 = some (.inr (.inl (24, 1, none))) := rfl
theorem pt_10_4 (w : qS) : gP w 10 4 = some (.inl (qo_z (fun x => x = 0) 18)) := rfl
theorem pt_10_7 (w : qS) : gP w 10 7 = some (.inl (qo_al 0 1)) := rfl
theorem pt_10_8 (w : qS) : gP w 10 8 = some (.inl (qo_get (gL w) 0 0)) := rfl
theorem pt_10_11 (w : qS) : gP w 10 11 = some (.inl (qo_il 1 1)) := rfl
theorem pt_10_12 (w : qS) : gP w 10 12 = some (.inr (.inl (34, 2, some 1))) := rfl
theorem pt_10_15 (w : qS) : gP w 10 15 = some (.inl (qo_z (fun x => ¬ x = 0) 20)) := rfl
theorem pt_10_18 (w : qS) : gP w 10 18 = some (.inl (qo_k 0 1)) := rfl
theorem pt_10_19 (w : qS) : gP w 10 19 = some (.inr (.inr 2)) := rfl
theorem pt_10_20 (w : qS) : gP w 10 20 = some (.inl (qo_al 0 1)) := rfl
theorem pt_10_21 (w : qS) : gP w 10 21 = some (.inl (qo_get (gL w) 0 1)) := rfl
theorem pt_10_24 (w : qS) : gP w 10 24 = some (.inl (qo_al 0 1)) := rfl
theorem pt_10_25 (w : qS) : gP w 10 25 = some (.inl (qo_get (gL w) 0 0)) := rfl
theorem pt_10_28 (w : qS) : gP w 10 28 = some (.inl (qo_get (gL w) 1 0)) := rfl
theorem pt_10_31 (w : qS) : gP w 10 31 = some (.inr (.inl (59, 2, some 3))) := rfl
theorem pt_10_34 (w : qS) : gP w 10 34 = some (.inl (qo_al 0 1)) := rfl
theorem pt_10_35 (w : qS) : gP w 10 35 = some (.inl (qo_get (gL w) 0 0)) := rfl
theorem pt_10_38 (w : qS) : gP w 10 38 = some (.inl (qo_get (gL w) 1 0)) := rfl
theorem pt_10_41 (w : qS) : gP w 10 41 = some (.inl (qo_get (gL w) 2 5)) := rfl
theorem pt_10_44 (w : qS) : gP w 10 44 = some (.inl (qo_il 1 1)) := rfl
theorem pt_10_45 (w : qS) : gP w 10 45 = some (.inl (qo_k (-1) 1)) := rfl
theorem pt_10_46 (w : qS) : gP w 10 46 = some (.inl (qo_ias (gL w))) := rfl
theorem pt_10_47 (w : qS) : gP w 10 47 = some (.inl (qo_al 0 1)) := rfl
theorem pt_10_48 (w : qS) : gP w 10 48 = some (.inl (qo_get (gL w) 0 1)) := rfl
theorem pt_10_51 (w : qS) : gP w 10 51 = some (.inl (qo_al 0 1)) := rfl
theorem pt_10_52 (w : qS) : gP w 10 52 = some (.inl (qo_get (gL w) 0 0)) := rfl
theorem pt_10_55 (w : qS) : gP w 10 55 = some (.inl (qo_get (gL w) 1 0)) := rfl
theorem pt_10_58 (w : qS) : gP w 10 58 = some (.inr (.inl (60, 2, some 3))) := rfl
theorem pt_10_61 (w : qS) : gP w 10 61 = some (.inl (qo_k 1 1)) := rfl
theorem pt_10_62 (w : qS) : gP w 10 62 = some (.inr (.inr 2)) := rfl
theorem pt_11_0 (w : qS) : gP w 11 0 = some (.inl (qo_al 0 1)) := rfl
theorem pt_11_1 (w : qS) : gP w 11 1 = some (.inl (qo_get (gL w) 0 0)) := rfl
theorem pt_11_4 (w : qS) : gP w 11 4 = some (.inl (qo_il 1 1)) := rfl
theorem pt_11_5 (w : qS) : gP w 11 5 = some (.inr (.inl (29, 2, some 1))) := rfl
theorem pt_11_8 (w : qS) : gP w 11 8 = some (.inl (qo_z (fun x => ¬ x = 0) 13)) := rfl
theorem pt_11_11 (w : qS) : gP w 11 11 = some (.inl (qo_k (-1) 1)) := rfl
theorem pt_11_12 (w : qS) : gP w 11 12 = some (.inr (.inr 1)) := rfl
theorem pt_11_13 (w : qS) : gP w 11 13 = some (.inl (qo_al 0 1)) := rfl
theorem pt_11_14 (w : qS) : gP w 11 14 = some (.inl (qo_get (gL w) 0 1)) := rfl
theorem pt_11_17 (w : qS) : gP w 11 17 = some (.inl (qo_al 0 1)) := rfl
theorem pt_11_18 (w : qS) : gP w 11 18 = some (.inl (qo_get (gL w) 0 0)) := rfl
theorem pt_11_21 (w : qS) : gP w 11 21 = some (.inl (qo_get (gL w) 1 0)) := rfl
theorem pt_11_24 (w : qS) : gP w 11 24 = some (.inr (.inl (59, 2, some 3))) := rfl
theorem pt_11_27 (w : qS) : gP w 11 27 = some (.inl (qo_al 0 1)) := rfl
theorem pt_11_28 (w : qS) : gP w 11 28 = some (.inl (qo_get (gL w) 0 2)) := rfl
theorem pt_11_31 (w : qS) : gP w 11 31 = some (.inl (qo_al 0 1)) := rfl
theorem pt_11_32 (w : qS) : gP w 11 32 = some (.inl (qo_get (gL w) 0 0)) := rfl
theorem pt_11_35 (w : qS) : gP w 11 35 = some (.inl (qo_al 0 1)) := rfl
theorem pt_11_36 (w : qS) : gP w 11 36 = some (.inl (qo_get (gL w) 0 0)) := rfl
theorem pt_11_39 (w : qS) : gP w 11 39 = some (.inl (qo_il 1 1)) := rfl
theorem pt_11_40 (w : qS) : gP w 11 40 = some (.inr (.inl (31, 2, some 1))) := rfl
theorem pt_11_43 (w : qS) : gP w 11 43 = some (.inr (.inl (63, 3, some 4))) := rfl
theorem pt_11_46 (w : qS) : gP w 11 46 = some (.inl (qo_is 2 1)) := rfl
theorem pt_11_47 (w : qS) : gP w 11 47 = some (.inl (qo_al 0 1)) := rfl
theorem pt_11_48 (w : qS) : gP w 11 48 = some (.inl (qo_get (gL w) 0 1)) := rfl
theorem pt_11_51 (w : qS) : gP w 11 51 = some (.inl (qo_al 0 1)) := rfl
theorem pt_11_52 (w : qS) : gP w 11 52 = some (.inl (qo_get (gL w) 0 0)) := rfl
theorem pt_11_55 (w : qS) : gP w 11 55 = some (.inl (qo_get (gL w) 1 0)) := rfl
theorem pt_11_58 (w : qS) : gP w 11 58 = some (.inr (.inl (60, 2, some 3))) := rfl
theorem pt_11_61 (w : qS) : gP w 11 61 = some (.inl (qo_il 2 1)) := rfl
theorem pt_11_62 (w : qS) : gP w 11 62 = some (.inr (.inr 1)) := rfl
theorem pt_12_0 (w : qS) : gP w 12 0 = some (.inl (qo_al 0 1)) := rfl
theorem pt_12_1 (w : qS) : gP w 12 1 = some (.inl (qo_get (gL w) 0 0)) := rfl
theorem pt_12_4 (w : qS) : gP w 12 4 = some (.inl (qo_il 1 1)) := rfl
theorem pt_12_5 (w : qS) : gP w 12 5 = some (.inr (.inl (29, 2, some 1))) := rfl
theorem pt_12_8 (w : qS) : gP w 12 8 = some (.inl (qo_z (fun x => ¬ x = 0) 13)) := rfl
theorem pt_12_11 (w : qS) : gP w 12 11 = some (.inl (qo_k (-1) 1)) := rfl
theorem pt_12_12 (w : qS) : gP w 12 12 = some (.inr (.inr 1)) := rfl
theorem pt_12_13 (w : qS) : gP w 12 13 = some (.inl (qo_al 0 1)) := rfl
theorem pt_12_14 (w : qS) : gP w 12 14 = some (.inl (qo_get (gL w) 0 1)) := rfl
theorem pt_12_17 (w : qS) : gP w 12 17 = some (.inl (qo_al 0 1)) := rfl
theorem pt_12_18 (w : qS) : gP w 12 18 = some (.inl (qo_get (gL w) 0 0)) := rfl
theorem pt_12_21 (w : qS) : gP w 12 21 = some (.inl (qo_get (gL w) 1 0)) := rfl
theorem pt_12_24 (w : qS) : gP w 12 24 = some (.inr (.inl (59, 2, some 3))) := rfl
theorem pt_12_27 (w : qS) : gP w 12 27 = some (.inl (qo_al 0 1)) := rfl
theorem pt_12_28 (w : qS) : gP w 12 28 = some (.inl (qo_get (gL w) 0 0)) := rfl
theorem pt_12_31 (w : qS) : gP w 12 31 = some (.inl (qo_al 0 1)) := rfl
theorem pt_12_32 (w : qS) : gP w 12 32 = some (.inl (qo_get (gL w) 0 0)) := rfl
theorem pt_12_35 (w : qS) : gP w 12 35 = some (.inl (qo_il 1 1)) := rfl
theorem pt_12_36 (w : qS) : gP w 12 36 = some (.inr (.inl (31, 2, some 1))) := rfl
theorem pt_12_39 (w : qS) : gP w 12 39 = some (.inr (.inl (51, 2, some 1))) := rfl
theorem pt_12_42 (w : qS) : gP w 12 42 = some (.inl (qo_is 2 1)) := rfl
theorem pt_12_43 (w : qS) : gP w 12 43 = some (.inl (qo_al 0 1)) := rfl
theorem pt_12_44 (w : qS) : gP w 12 44 = some (.inl (qo_get (gL w) 0 1)) := rfl
theorem pt_12_47 (w : qS) : gP w 12 47 = some (.inl (qo_al 0 1)) := rfl
theorem pt_12_48 (w : qS) : gP w 12 48 = some (.inl (qo_get (gL w) 0 0)) := rfl
theorem pt_12_51 (w : qS) : gP w 12 51 = some (.inl (qo_get (gL w) 1 0)) := rfl
theorem pt_12_54 (w : qS) : gP w 12 54 = some (.inr (.inl (60, 2, some 3))) := rfl
theorem pt_12_57 (w : qS) : gP w 12 57 = some (.inl (qo_il 2 1)) := rfl
theorem pt_12_58 (w : qS) : gP w 12 58 = some (.inr (.inr 1)) := rfl
theorem pt_13_0 (w : qS) : gP w 13 0 = some (.inl (qo_al 0 1)) := rfl
theorem pt_13_1 (w : qS) : gP w 13 1 = some (.inl (qo_get (gL w) 0 1)) := rfl
theorem pt_13_4 (w : qS) : gP w 13 4 = some (.inl (qo_al 0 1)) := rfl
theorem pt_13_5 (w : qS) : gP w 13 5 = some (.inl (qo_get (gL w) 0 0)) := rfl
theorem pt_13_8 (w : qS) : gP w 13 8 = some (.inl (qo_get (gL w) 1 0)) := rfl
theorem pt_13_11 (w : qS) : gP w 13 11 = some (.inr (.inl (59, 2, some 3))) := rfl
theorem pt_13_14 (w : qS) : gP w 13 14 = some (.inl (qo_k 0 1)) := rfl
theorem pt_13_15 (w : qS) : gP w 13 15 = some (.inl (qo_is 1 1)) := rfl
theorem pt_13_16 (w : qS) : gP w 13 16 = some (.inl (qo_il 1 1)) := rfl
theorem pt_13_17 (w : qS) : gP w 13 17 = some (.inl (qo_k (iN 16) 2)) := rfl
theorem pt_13_19 (w : qS) : gP w 13 19 = some (.inl (qo_c (fun x y => y ≤ x) 42)) := rfl
theorem pt_13_22 (w : qS) : gP w 13 22 = some (.inl (qo_al 0 1)) := rfl
theorem pt_13_23 (w : qS) : gP w 13 23 = some (.inl (qo_get (gL w) 0 4)) := rfl
theorem pt_13_26 (w : qS) : gP w 13 26 = some (.inl (qo_il 1 1)) := rfl
theorem pt_13_27 (w : qS) : gP w 13 27 = some (.inl (qo_al 0 1)) := rfl
theorem pt_13_28 (w : qS) : gP w 13 28 = some (.inl (qo_get (gL w) 0 0)) := rfl
theorem pt_13_31 (w : qS) : gP w 13 31 = some (.inl (qo_il 1 1)) := rfl
theorem pt_13_32 (w : qS) : gP w 13 32 = some (.inr (.inl (52, 2, some 1))) := rfl
theorem pt_13_35 (w : qS) : gP w 13 35 = some (.inl (qo_ias (gL w))) := rfl
theorem pt_13_36 (w : qS) : gP w 13 36 = some (.inl (qo_inc 1 1)) := rfl
theorem pt_13_39 (w : qS) : gP w 13 39 = some (.inl (qo_g 16)) := rfl
theorem pt_13_42 (w : qS) : gP w 13 42 = some (.inl (qo_k 0 1)) := rfl
theorem pt_13_43 (w : qS) : gP w 13 43 = some (.inl (qo_is 1 1)) := rfl
theorem pt_13_44 (w : qS) : gP w 13 44 = some (.inl (qo_k 0 1)) := rfl
theorem pt_13_45 (w : qS) : gP w 13 45 = some (.inl (qo_is 2 1)) := rfl
theorem pt_13_46 (w : qS) : gP w 13 46 = some (.inl (qo_il 2 1)) := rfl
theorem pt_13_47 (w : qS) : gP w 13 47 = some (.inl (qo_k (iN 16) 2)) := rfl
theorem pt_13_49 (w : qS) : gP w 13 49 = some (.inl (qo_c (fun x y => y ≤ x) 96)) := rfl
theorem pt_13_52 (w : qS) : gP w 13 52 = some (.inl (qo_al 0 1)) := rfl
theorem pt_13_53 (w : qS) : gP w 13 53 = some (.inr (.inl (20, 1, some 0))) := rfl
theorem pt_13_56 (w : qS) : gP w 13 56 = some (.inl (qo_is 3 1)) := rfl
theorem pt_13_57 (w : qS) : gP w 13 57 = some (.inl (qo_il 3 1)) := rfl
theorem pt_13_58 (w : qS) : gP w 13 58 = some (.inl (qo_k (-1) 1)) := rfl
theorem pt_13_59 (w : qS) : gP w 13 59 = some (.inl (qo_c (fun x y => ¬ x = y) 65)) := rfl
theorem pt_13_62 (w : qS) : gP w 13 62 = some (.inl (qo_g 96)) := rfl
theorem pt_13_65 (w : qS) : gP w 13 65 = some (.inl (qo_al 0 1)) := rfl
theorem pt_13_66 (w : qS) : gP w 13 66 = some (.inl (qo_get (gL w) 0 4)) := rfl
theorem pt_13_69 (w : qS) : gP w 13 69 = some (.inl (qo_il 3 1)) := rfl
theorem pt_13_70 (w : qS) : gP w 13 70 = some (.inl (qo_k (-1) 1)) := rfl
theorem pt_13_71 (w : qS) : gP w 13 71 = some (.inl (qo_ias (gL w))) := rfl
theorem pt_13_72 (w : qS) : gP w 13 72 = some (.inl (qo_al 0 1)) := rfl
theorem pt_13_73 (w : qS) : gP w 13 73 = some (.inl (qo_get (gL w) 0 2)) := rfl
theorem pt_13_76 (w : qS) : gP w 13 76 = some (.inl (qo_al 0 1)) := rfl
theorem pt_13_77 (w : qS) : gP w 13 77 = some (.inl (qo_get (gL w) 0 0)) := rfl
theorem pt_13_80 (w : qS) : gP w 13 80 = some (.inl (qo_il 3 1)) := rfl
theorem pt_13_81 (w : qS) : gP w 13 81 = some (.inr (.inl (62, 3, some 4))) := rfl
theorem pt_13_84 (w : qS) : gP w 13 84 = some (.inl (qo_z (fun x => x = 0) 90)) := rfl
theorem pt_13_87 (w : qS) : gP w 13 87 = some (.inl (qo_inc 1 1)) := rfl
theorem pt_13_90 (w : qS) : gP w 13 90 = some (.inl (qo_inc 2 1)) := rfl
theorem pt_13_93 (w : qS) : gP w 13 93 = some (.inl (qo_g 46)) := rfl
theorem pt_13_96 (w : qS) : gP w 13 96 = some (.inl (qo_al 0 1)) := rfl
theorem pt_13_97 (w : qS) : gP w 13 97 = some (.inl (qo_get (gL w) 0 1)) := rfl
theorem pt_13_100 (w : qS) : gP w 13 100 = some (.inl (qo_al 0 1)) := rfl
theorem pt_13_101 (w : qS) : gP w 13 101 = some (.inl (qo_get (gL w) 0 0)) := rfl
theorem pt_13_104 (w : qS) : gP w 13 104 = some (.inl (qo_get (gL w) 1 0)) := rfl
theorem pt_13_107 (w : qS) : gP w 13 107 = some (.inr (.inl (60, 2, some 3))) := rfl
theorem pt_13_110 (w : qS) : gP w 13 110 = some (.inl (qo_il 1 1)) := rfl
theorem pt_13_111 (w : qS) : gP w 13 111 = some (.inr (.inr 1)) := rfl
theorem pt_14_0 (w : qS) : gP w 14 0 = some (.inl (qo_il 1 1)) := rfl
theorem pt_14_1 (w : qS) : gP w 14 1 = some (.inr (.inl (24, 1, none))) := rfl
theorem pt_14_4 (w : qS) : gP w 14 4 = some (.inl (qo_z (fun x => x = 0) 18)) := rfl
theorem pt_14_7 (w : qS) : gP w 14 7 = some (.inl (qo_al 0 1)) := rfl
theorem pt_14_8 (w : qS) : gP w 14 8 = some (.inl (qo_get (gL w) 0 0)) := rfl
theorem pt_14_11 (w : qS) : gP w 14 11 = some (.inl (qo_il 1 1)) := rfl
theorem pt_14_12 (w : qS) : gP w 14 12 = some (.inr (.inl (32, 2, some 1))) := rfl
theorem pt_14_15 (w : qS) : gP w 14 15 = some (.inl (qo_g 19)) := rfl
theorem pt_14_18 (w : qS) : gP w 14 18 = some (.inl (qo_k (-1) 1)) := rfl
theorem pt_14_19 (w : qS) : gP w 14 19 = some (.inr (.inr 1)) := rfl
theorem pt_15_0 (w : qS) : gP w 15 0 = some (.inl (qo_il 1 1)) := rfl
theorem pt_15_1 (w : qS) : gP w 15 1 = some (.inl (qo_z (fun x => x < 0) 13)) := rfl
theorem pt_15_4 (w : qS) : gP w 15 4 = some (.inl (qo_il 2 1)) := rfl
theorem pt_15_5 (w : qS) : gP w 15 5 = some (.inl (qo_z (fun x => x < 0) 13)) := rfl
theorem pt_15_8 (w : qS) : gP w 15 8 = some (.inl (qo_il 2 1)) := rfl
theorem pt_15_9 (w : qS) : gP w 15 9 = some (.inl (qo_k (iN 3) 1)) := rfl
theorem pt_15_10 (w : qS) : gP w 15 10 = some (.inl (qo_c (fun x y => x ≤ y) 15)) := rfl
theorem pt_15_13 (w : qS) : gP w 15 13 = some (.inl (qo_k (-1) 1)) := rfl
theorem pt_15_14 (w : qS) : gP w 15 14 = some (.inr (.inr 1)) := rfl
theorem pt_15_15 (w : qS) : gP w 15 15 = some (.inl (qo_il 1 1)) := rfl
theorem pt_15_16 (w : qS) : gP w 15 16 = some (.inl (qo_is 3 1)) := rfl
theorem pt_15_17 (w : qS) : gP w 15 17 = some (.inl (qo_k 0 1)) := rfl
theorem pt_15_18 (w : qS) : gP w 15 18 = some (.inl (qo_is 4 2)) := rfl
theorem pt_15_20 (w : qS) : gP w 15 20 = some (.inl (qo_il 4 2)) := rfl
theorem pt_15_22 (w : qS) : gP w 15 22 = some (.inl (qo_al 0 1)) := rfl
theorem pt_15_23 (w : qS) : gP w 15 23 = some (.inl (qo_get (gL w) 0 0)) := rfl
theorem pt_15_26 (w : qS) : gP w 15 26 = some (.inl (qo_get (gL w) 1 0)) := rfl
theorem pt_15_29 (w : qS) : gP w 15 29 = some (.inl (qo_get (gL w) 2 6)) := rfl
theorem pt_15_32 (w : qS) : gP w 15 32 = some (.inl (qo_c (fun x y => y ≤ x) 83)) := rfl
theorem pt_15_35 (w : qS) : gP w 15 35 = some (.inl (qo_al 0 1)) := rfl
theorem pt_15_36 (w : qS) : gP w 15 36 = some (.inl (qo_get (gL w) 0 2)) := rfl
theorem pt_15_39 (w : qS) : gP w 15 39 = some (.inl (qo_al 0 1)) := rfl
theorem pt_15_40 (w : qS) : gP w 15 40 = some (.inl (qo_get (gL w) 0 0)) := rfl
theorem pt_15_43 (w : qS) : gP w 15 43 = some (.inl (qo_il 4 2)) := rfl
theorem pt_15_45 (w : qS) : gP w 15 45 = some (.inr (.inl (64, 3, some 4))) := rfl
theorem pt_15_48 (w : qS) : gP w 15 48 = some (.inl (qo_is 5 2)) := rfl
theorem pt_15_50 (w : qS) : gP w 15 50 = some (.inl (qo_il 5 2)) := rfl
theorem pt_15_52 (w : qS) : gP w 15 52 = some (.inl (qo_k (-1) 1)) := rfl
theorem pt_15_53 (w : qS) : gP w 15 53 = some (.inl (qo_c (fun x y => ¬ x = y) 59)) := rfl
theorem pt_15_56 (w : qS) : gP w 15 56 = some (.inl (qo_g 77)) := rfl
theorem pt_15_59 (w : qS) : gP w 15 59 = some (.inl (qo_il 3 1)) := rfl
theorem pt_15_60 (w : qS) : gP w 15 60 = some (.inl (qo_z (fun x => ¬ x = 0) 74)) := rfl
theorem pt_15_63 (w : qS) : gP w 15 63 = some (.inl (qo_il 2 1)) := rfl
theorem pt_15_64 (w : qS) : gP w 15 64 = some (.inl (qo_k 1 1)) := rfl
theorem pt_15_65 (w : qS) : gP w 15 65 = some (.inl (qo_il 4 2)) := rfl
theorem pt_15_67 (w : qS) : gP w 15 67 = some (.inl (qo_il 5 2)) := rfl
theorem pt_15_69 (w : qS) : gP w 15 69 = some (.inl (qo_k (-1) 1)) := rfl
theorem pt_15_70 (w : qS) : gP w 15 70 = some (.inr (.inl (22, 5, none))) := rfl
theorem pt_15_73 (w : qS) : gP w 15 73 = some (.inr (.inr 1)) := rfl
theorem pt_15_74 (w : qS) : gP w 15 74 = some (.inl (qo_inc 3 (-1))) := rfl
theorem pt_15_77 (w : qS) : gP w 15 77 = some (.inl (qo_inc 4 1)) := rfl
theorem pt_15_80 (w : qS) : gP w 15 80 = some (.inl (qo_g 20)) := rfl
theorem pt_15_83 (w : qS) : gP w 15 83 = some (.inl (qo_al 0 1)) := rfl
theorem pt_15_84 (w : qS) : gP w 15 84 = some (.inl (qo_il 3 1)) := rfl
theorem pt_15_85 (w : qS) : gP w 15 85 = some (.inl (qo_il 2 1)) := rfl
theorem pt_15_86 (w : qS) : gP w 15 86 = some (.inr (.inl (21, 3, some 0))) := rfl
theorem pt_15_89 (w : qS) : gP w 15 89 = some (.inr (.inr 1)) := rfl
theorem pt_16_0 (w : qS) : gP w 16 0 = some (.inl (qo_il 1 1)) := rfl
theorem pt_16_1 (w : qS) : gP w 16 1 = some (.inr (.inl (23, 1, none))) := rfl
theorem pt_16_4 (w : qS) : gP w 16 4 = some (.inl (qo_z (fun x => x = 0) 11)) := rfl
theorem pt_16_7 (w : qS) : gP w 16 7 = some (.inl (qo_il 2 1)) := rfl
theorem pt_16_8 (w : qS) : gP w 16 8 = some (.inl (qo_z (fun x => 0 ≤ x) 13)) := rfl
theorem pt_16_11 (w : qS) : gP w 16 11 = some (.inl (qo_k (-1) 1)) := rfl
theorem pt_16_12 (w : qS) : gP w 16 12 = some (.inr (.inr 1)) := rfl
theorem pt_16_13 (w : qS) : gP w 16 13 = some (.inl (qo_il 2 1)) := rfl
theorem pt_16_14 (w : qS) : gP w 16 14 = some (.inl (qo_is 3 1)) := rfl
theorem pt_16_15 (w : qS) : gP w 16 15 = some (.inl (qo_il 1 1)) := rfl
theorem pt_16_16 (w : qS) : gP w 16 16 = some (.inl (qo_k (iN 120) 2)) := rfl
theorem pt_16_18 (w : qS) : gP w 16 18 = some (.inl (qo_b (fun x y => x * y))) := rfl
theorem pt_16_19 (w : qS) : gP w 16 19 = some (.inl (qo_is 4 2)) := rfl
theorem pt_16_21 (w : qS) : gP w 16 21 = some (.inl (qo_il 4 2)) := rfl
theorem pt_16_23 (w : qS) : gP w 16 23 = some (.inl (qo_k (iN 120) 2)) := rfl
theorem pt_16_25 (w : qS) : gP w 16 25 = some (.inl (qo_b (fun x y => x + y))) := rfl
theorem pt_16_26 (w : qS) : gP w 16 26 = some (.inl (qo_is 5 2)) := rfl
theorem pt_16_28 (w : qS) : gP w 16 28 = some (.inl (qo_k 0 1)) := rfl
theorem pt_16_29 (w : qS) : gP w 16 29 = some (.inl (qo_is 6 2)) := rfl
theorem pt_16_31 (w : qS) : gP w 16 31 = some (.inl (qo_il 6 2)) := rfl
theorem pt_16_33 (w : qS) : gP w 16 33 = some (.inl (qo_k (iN 120) 2)) := rfl
theorem pt_16_35 (w : qS) : gP w 16 35 = some (.inl (qo_c (fun x y => y ≤ x) 115)) := rfl
theorem pt_16_38 (w : qS) : gP w 16 38 = some (.inl (qo_il 4 2)) := rfl
theorem pt_16_40 (w : qS) : gP w 16 40 = some (.inl (qo_il 5 2)) := rfl
theorem pt_16_42 (w : qS) : gP w 16 42 = some (.inl (qo_c (fun x y => y ≤ x) 115)) := rfl
theorem pt_16_45 (w : qS) : gP w 16 45 = some (.inl (qo_al 0 1)) := rfl
theorem pt_16_46 (w : qS) : gP w 16 46 = some (.inl (qo_get (gL w) 0 0)) := rfl
theorem pt_16_49 (w : qS) : gP w 16 49 = some (.inl (qo_il 4 2)) := rfl
theorem pt_16_51 (w : qS) : gP w 16 51 = some (.inr (.inl (55, 2, some 1))) := rfl
theorem pt_16_54 (w : qS) : gP w 16 54 = some (.inl (qo_is 7 2)) := rfl
theorem pt_16_56 (w : qS) : gP w 16 56 = some (.inl (qo_al 0 1)) := rfl
theorem pt_16_57 (w : qS) : gP w 16 57 = some (.inl (qo_get (gL w) 0 0)) := rfl
theorem pt_16_60 (w : qS) : gP w 16 60 = some (.inl (qo_il 4 2)) := rfl
theorem pt_16_62 (w : qS) : gP w 16 62 = some (.inr (.inl (32, 2, some 1))) := rfl
theorem pt_16_65 (w : qS) : gP w 16 65 = some (.inl (qo_is 8 2)) := rfl
theorem pt_16_67 (w : qS) : gP w 16 67 = some (.inl (qo_il 8 2)) := rfl
theorem pt_16_69 (w : qS) : gP w 16 69 = some (.inl (qo_k (-1) 1)) := rfl
theorem pt_16_70 (w : qS) : gP w 16 70 = some (.inl (qo_c (fun x y => x = y) 102)) := rfl
theorem pt_16_73 (w : qS) : gP w 16 73 = some (.inl (qo_il 3 1)) := rfl
theorem pt_16_74 (w : qS) : gP w 16 74 = some (.inl (qo_k (iN 4) 1)) := rfl
theorem pt_16_75 (w : qS) : gP w 16 75 = some (.inl (qo_c (fun x y => y ≤ x) 99)) := rfl
theorem pt_16_78 (w : qS) : gP w 16 78 = some (.inl (qo_il 3 1)) := rfl
theorem pt_16_79 (w : qS) : gP w 16 79 = some (.inl (qo_il 4 2)) := rfl
theorem pt_16_81 (w : qS) : gP w 16 81 = some (.inr (.inl (25, 1, none))) := rfl
theorem pt_16_84 (w : qS) : gP w 16 84 = some (.inl (qo_il 4 2)) := rfl
theorem pt_16_86 (w : qS) : gP w 16 86 = some (.inr (.inl (26, 1, none))) := rfl
theorem pt_16_89 (w : qS) : gP w 16 89 = some (.inl (qo_il 7 2)) := rfl
theorem pt_16_91 (w : qS) : gP w 16 91 = some (.inl (qo_il 8 2)) := rfl
theorem pt_16_93 (w : qS) : gP w 16 93 = some (.inl (qo_k 1 1)) := rfl
theorem pt_16_94 (w : qS) : gP w 16 94 = some (.inl (qo_b (fun x y => x + y))) := rfl
theorem pt_16_95 (w : qS) : gP w 16 95 = some (.inr (.inl (22, 5, none))) := rfl
theorem pt_16_98 (w : qS) : gP w 16 98 = some (.inr (.inr 1)) := rfl
theorem pt_16_99 (w : qS) : gP w 16 99 = some (.inl (qo_inc 3 (-4))) := rfl
theorem pt_16_102 (w : qS) : gP w 16 102 = some (.inl (qo_il 4 2)) := rfl
theorem pt_16_104 (w : qS) : gP w 16 104 = some (.inl (qo_il 7 2)) := rfl
theorem pt_16_106 (w : qS) : gP w 16 106 = some (.inl (qo_b (fun x y => x + y))) := rfl
theorem pt_16_107 (w : qS) : gP w 16 107 = some (.inl (qo_is 4 2)) := rfl
theorem pt_16_109 (w : qS) : gP w 16 109 = some (.inl (qo_inc 6 1)) := rfl
theorem pt_16_112 (w : qS) : gP w 16 112 = some (.inl (qo_g 31)) := rfl
theorem pt_16_115 (w : qS) : gP w 16 115 = some (.inl (qo_il 3 1)) := rfl
theorem pt_16_116 (w : qS) : gP w 16 116 = some (.inl (qo_z (fun x => ¬ x = 0) 125)) := rfl
theorem pt_16_119 (w : qS) : gP w 16 119 = some (.inl (qo_k (iN 255) 3)) := rfl
theorem pt_16_122 (w : qS) : gP w 16 122 = some (.inl (qo_g 126)) := rfl
theorem pt_16_125 (w : qS) : gP w 16 125 = some (.inl (qo_k (-1) 1)) := rfl
theorem pt_16_126 (w : qS) : gP w 16 126 = some (.inr (.inr 1)) := rfl
theorem pt_17_0 (w : qS) : gP w 17 0 = some (.inl (qo_il 1 1)) := rfl
theorem pt_17_1 (w : qS) : gP w 17 1 = some (.inl (qo_z (fun x => x < 0) 11)) := rfl
theorem pt_17_4 (w : qS) : gP w 17 4 = some (.inl (qo_il 1 1)) := rfl
theorem pt_17_5 (w : qS) : gP w 17 5 = some (.inl (qo_k (iN 255) 3)) := rfl
theorem pt_17_8 (w : qS) : gP w 17 8 = some (.inl (qo_c (fun x y => x ≤ y) 13)) := rfl
theorem pt_17_11 (w : qS) : gP w 17 11 = some (.inl (qo_k (-1) 1)) := rfl
theorem pt_17_12 (w : qS) : gP w 17 12 = some (.inr (.inr 1)) := rfl
theorem pt_17_13 (w : qS) : gP w 17 13 = some (.inl (qo_al 0 1)) := rfl
theorem pt_17_14 (w : qS) : gP w 17 14 = some (.inl (qo_get (gL w) 0 3)) := rfl
theorem pt_17_17 (w : qS) : gP w 17 17 = some (.inl (qo_il 1 1)) := rfl
theorem pt_17_18 (w : qS) : gP w 17 18 = some (.inr (.inl (77, 2, some 6))) := rfl
theorem pt_17_21 (w : qS) : gP w 17 21 = some (.inl (qo_z (fun x => x = 0) 34)) := rfl
theorem pt_17_24 (w : qS) : gP w 17 24 = some (.inl (qo_al 0 1)) := rfl
theorem pt_17_25 (w : qS) : gP w 17 25 = some (.inl (qo_get (gL w) 0 3)) := rfl
theorem pt_17_28 (w : qS) : gP w 17 28 = some (.inl (qo_get (gL w) 6 1)) := rfl
theorem pt_17_31 (w : qS) : gP w 17 31 = some (.inl (qo_g 36)) := rfl
theorem pt_17_34 (w : qS) : gP w 17 34 = some (.inl (qo_k (-2) 2)) := rfl
theorem pt_17_36 (w : qS) : gP w 17 36 = some (.inr (.inr 1)) := rfl
theorem pt_18_0 (w : qS) : gP w 18 0 = some (.inl (qo_il 1 1)) := rfl
theorem pt_18_1 (w : qS) : gP w 18 1 = some (.inr (.inl (23, 1, none))) := rfl
theorem pt_18_4 (w : qS) : gP w 18 4 = some (.inl (qo_z (fun x => ¬ x = 0) 9)) := rfl
theorem pt_18_7 (w : qS) : gP w 18 7 = some (.inl (qo_k (-1) 1)) := rfl
theorem pt_18_8 (w : qS) : gP w 18 8 = some (.inr (.inr 1)) := rfl
theorem pt_18_9 (w : qS) : gP w 18 9 = some (.inl (qo_al 0 1)) := rfl
theorem pt_18_10 (w : qS) : gP w 18 10 = some (.inl (qo_get (gL w) 0 3)) := rfl
theorem pt_18_13 (w : qS) : gP w 18 13 = some (.inr (.inl (78, 1, some 6))) := rfl
theorem pt_18_16 (w : qS) : gP w 18 16 = some (.inl (qo_al 0 1)) := rfl
theorem pt_18_17 (w : qS) : gP w 18 17 = some (.inl (qo_get (gL w) 0 3)) := rfl
theorem pt_18_20 (w : qS) : gP w 18 20 = some (.inl (qo_k 0 1)) := rfl
theorem pt_18_21 (w : qS) : gP w 18 21 = some (.inl (qo_put (gL w) 6 1)) := rfl
theorem pt_18_24 (w : qS) : gP w 18 24 = some (.inl (qo_k 0 1)) := rfl
theorem pt_18_25 (w : qS) : gP w 18 25 = some (.inl (qo_is 2 1)) := rfl
theorem pt_18_26 (w : qS) : gP w 18 26 = some (.inl (qo_k 0 1)) := rfl
theorem pt_18_27 (w : qS) : gP w 18 27 = some (.inl (qo_is 3 1)) := rfl
theorem pt_18_28 (w : qS) : gP w 18 28 = some (.inl (qo_il 3 1)) := rfl
theorem pt_18_29 (w : qS) : gP w 18 29 = some (.inl (qo_k (iN 120) 2)) := rfl
theorem pt_18_31 (w : qS) : gP w 18 31 = some (.inl (qo_c (fun x y => y ≤ x) 68)) := rfl
theorem pt_18_34 (w : qS) : gP w 18 34 = some (.inl (qo_al 0 1)) := rfl
theorem pt_18_35 (w : qS) : gP w 18 35 = some (.inl (qo_get (gL w) 0 3)) := rfl
theorem pt_18_38 (w : qS) : gP w 18 38 = some (.inl (qo_get (gL w) 6 2)) := rfl
theorem pt_18_41 (w : qS) : gP w 18 41 = some (.inl (qo_il 3 1)) := rfl
theorem pt_18_42 (w : qS) : gP w 18 42 = some (.inl (qo_ia (gL w))) := rfl
theorem pt_18_43 (w : qS) : gP w 18 43 = some (.inl (qo_al 0 1)) := rfl
theorem pt_18_44 (w : qS) : gP w 18 44 = some (.inl (qo_get (gL w) 0 0)) := rfl
theorem pt_18_47 (w : qS) : gP w 18 47 = some (.inl (qo_il 1 1)) := rfl
theorem pt_18_48 (w : qS) : gP w 18 48 = some (.inl (qo_k (iN 120) 2)) := rfl
theorem pt_18_50 (w : qS) : gP w 18 50 = some (.inl (qo_b (fun x y => x * y))) := rfl
theorem pt_18_51 (w : qS) : gP w 18 51 = some (.inl (qo_il 3 1)) := rfl
theorem pt_18_52 (w : qS) : gP w 18 52 = some (.inl (qo_b (fun x y => x + y))) := rfl
theorem pt_18_53 (w : qS) : gP w 18 53 = some (.inr (.inl (32, 2, some 1))) := rfl
theorem pt_18_56 (w : qS) : gP w 18 56 = some (.inl (qo_c (fun x y => x = y) 62)) := rfl
theorem pt_18_59 (w : qS) : gP w 18 59 = some (.inl (qo_inc 2 1)) := rfl
theorem pt_18_62 (w : qS) : gP w 18 62 = some (.inl (qo_inc 3 1)) := rfl
theorem pt_18_65 (w : qS) : gP w 18 65 = some (.inl (qo_g 28)) := rfl
theorem pt_18_68 (w : qS) : gP w 18 68 = some (.inl (qo_il 2 1)) := rfl
theorem pt_18_69 (w : qS) : gP w 18 69 = some (.inr (.inr 1)) := rfl
theorem pt_19_0 (w : qS) : gP w 19 0 = some (.inl (qo_al 0 1)) := rfl
theorem pt_19_1 (w : qS) : gP w 19 1 = some (.inl (qo_get (gL w) 0 1)) := rfl
theorem pt_19_4 (w : qS) : gP w 19 4 = some (.inl (qo_get (gL w) 3 2)) := rfl
theorem pt_19_7 (w : qS) : gP w 19 7 = some (.inl (qo_z (fun x => ¬ x = 0) 12)) := rfl
theorem pt_19_10 (w : qS) : gP w 19 10 = some (.inl (qo_k (-1) 1)) := rfl
theorem pt_19_11 (w : qS) : gP w 19 11 = some (.inr (.inr 1)) := rfl
theorem pt_19_12 (w : qS) : gP w 19 12 = some (.inl (qo_al 0 1)) := rfl
theorem pt_19_13 (w : qS) : gP w 19 13 = some (.inl (qo_get (gL w) 0 1)) := rfl
theorem pt_19_16 (w : qS) : gP w 19 16 = some (.inl (qo_al 0 1)) := rfl
theorem pt_19_17 (w : qS) : gP w 19 17 = some (.inl (qo_get (gL w) 0 0)) := rfl
theorem pt_19_20 (w : qS) : gP w 19 20 = some (.inl (qo_get (gL w) 1 0)) := rfl
theorem pt_19_23 (w : qS) : gP w 19 23 = some (.inr (.inl (61, 2, some 3))) := rfl
theorem pt_19_26 (w : qS) : gP w 19 26 = some (.inl (qo_al 0 1)) := rfl
theorem pt_19_27 (w : qS) : gP w 19 27 = some (.inl (qo_get (gL w) 0 0)) := rfl
theorem pt_19_30 (w : qS) : gP w 19 30 = some (.inr (.inl (40, 1, some 1))) := rfl
theorem pt_19_33 (w : qS) : gP w 19 33 = some (.inl (qo_al 0 1)) := rfl
theorem pt_19_34 (w : qS) : gP w 19 34 = some (.inl (qo_get (gL w) 0 1)) := rfl
theorem pt_19_37 (w : qS) : gP w 19 37 = some (.inl (qo_get (gL w) 3 2)) := rfl
theorem pt_19_40 (w : qS) : gP w 19 40 = some (.inr (.inr 1)) := rfl
theorem pt_20_0 (w : qS) : gP w 20 0 = some (.inl (qo_k (-1) 1)) := rfl
theorem pt_20_1 (w : qS) : gP w 20 1 = some (.inl (qo_is 1 1)) := rfl
theorem pt_20_2 (w : qS) : gP w 20 2 = some (.inl (qo_k 0 1)) := rfl
theorem pt_20_3 (w : qS) : gP w 20 3 = some (.inl (qo_is 2 1)) := rfl
theorem pt_20_4 (w : qS) : gP w 20 4 = some (.inl (qo_il 2 1)) := rfl
theorem pt_20_5 (w : qS) : gP w 20 5 = some (.inl (qo_k (iN 16) 2)) := rfl
theorem pt_20_7 (w : qS) : gP w 20 7 = some (.inl (qo_c (fun x y => y ≤ x) 48)) := rfl
theorem pt_20_10 (w : qS) : gP w 20 10 = some (.inl (qo_al 0 1)) := rfl
theorem pt_20_11 (w : qS) : gP w 20 11 = some (.inl (qo_get (gL w) 0 4)) := rfl
theorem pt_20_14 (w : qS) : gP w 20 14 = some (.inl (qo_il 2 1)) := rfl
theorem pt_20_15 (w : qS) : gP w 20 15 = some (.inl (qo_ia (gL w))) := rfl
theorem pt_20_16 (w : qS) : gP w 20 16 = some (.inl (qo_k (-1) 1)) := rfl
theorem pt_20_17 (w : qS) : gP w 20 17 = some (.inl (qo_c (fun x y => x = y) 42)) := rfl
theorem pt_20_20 (w : qS) : gP w 20 20 = some (.inl (qo_il 1 1)) := rfl
theorem pt_20_21 (w : qS) : gP w 20 21 = some (.inl (qo_k (-1) 1)) := rfl
theorem pt_20_22 (w : qS) : gP w 20 22 = some (.inl (qo_c (fun x y => x = y) 40)) := rfl
theorem pt_20_25 (w : qS) : gP w 20 25 = some (.inl (qo_al 0 1)) := rfl
theorem pt_20_26 (w : qS) : gP w 20 26 = some (.inl (qo_get (gL w) 0 4)) := rfl
theorem pt_20_29 (w : qS) : gP w 20 29 = some (.inl (qo_il 2 1)) := rfl
theorem pt_20_30 (w : qS) : gP w 20 30 = some (.inl (qo_ia (gL w))) := rfl
theorem pt_20_31 (w : qS) : gP w 20 31 = some (.inl (qo_al 0 1)) := rfl
theorem pt_20_32 (w : qS) : gP w 20 32 = some (.inl (qo_get (gL w) 0 4)) := rfl
theorem pt_20_35 (w : qS) : gP w 20 35 = some (.inl (qo_il 1 1)) := rfl
theorem pt_20_36 (w : qS) : gP w 20 36 = some (.inl (qo_ia (gL w))) := rfl
theorem pt_20_37 (w : qS) : gP w 20 37 = some (.inl (qo_c (fun x y => y ≤ x) 42)) := rfl
theorem pt_20_40 (w : qS) : gP w 20 40 = some (.inl (qo_il 2 1)) := rfl
theorem pt_20_41 (w : qS) : gP w 20 41 = some (.inl (qo_is 1 1)) := rfl
theorem pt_20_42 (w : qS) : gP w 20 42 = some (.inl (qo_inc 2 1)) := rfl
theorem pt_20_45 (w : qS) : gP w 20 45 = some (.inl (qo_g 4)) := rfl
theorem pt_20_48 (w : qS) : gP w 20 48 = some (.inl (qo_il 1 1)) := rfl
theorem pt_20_49 (w : qS) : gP w 20 49 = some (.inr (.inr 1)) := rfl
theorem pt_21_0 (w : qS) : gP w 21 0 = some (.inl (qo_il 1 1)) := rfl
theorem pt_21_1 (w : qS) : gP w 21 1 = some (.inl (qo_is 3 1)) := rfl
theorem pt_21_2 (w : qS) : gP w 21 2 = some (.inl (qo_k 0 1)) := rfl
theorem pt_21_3 (w : qS) : gP w 21 3 = some (.inl (qo_is 4 2)) := rfl
theorem pt_21_5 (w : qS) : gP w 21 5 = some (.inl (qo_il 4 2)) := rfl
theorem pt_21_7 (w : qS) : gP w 21 7 = some (.inl (qo_al 0 1)) := rfl
theorem pt_21_8 (w : qS) : gP w 21 8 = some (.inl (qo_get (gL w) 0 0)) := rfl
theorem pt_21_11 (w : qS) : gP w 21 11 = some (.inl (qo_get (gL w) 1 0)) := rfl
theorem pt_21_14 (w : qS) : gP w 21 14 = some (.inl (qo_get (gL w) 2 6)) := rfl
theorem pt_21_17 (w : qS) : gP w 21 17 = some (.inl (qo_c (fun x y => y ≤ x) 104)) := rfl
theorem pt_21_20 (w : qS) : gP w 21 20 = some (.inl (qo_al 0 1)) := rfl
theorem pt_21_21 (w : qS) : gP w 21 21 = some (.inl (qo_get (gL w) 0 0)) := rfl
theorem pt_21_24 (w : qS) : gP w 21 24 = some (.inl (qo_il 4 2)) := rfl
theorem pt_21_26 (w : qS) : gP w 21 26 = some (.inl (qo_al 0 1)) := rfl
theorem pt_21_27 (w : qS) : gP w 21 27 = some (.inl (qo_get (gL w) 0 4)) := rfl
theorem pt_21_30 (w : qS) : gP w 21 30 = some (.inr (.inl (53, 3, some 1))) := rfl
theorem pt_21_33 (w : qS) : gP w 21 33 = some (.inl (qo_il 4 2)) := rfl
theorem pt_21_35 (w : qS) : gP w 21 35 = some (.inl (qo_k 1 1)) := rfl
theorem pt_21_36 (w : qS) : gP w 21 36 = some (.inl (qo_b (fun x y => x + y))) := rfl
theorem pt_21_37 (w : qS) : gP w 21 37 = some (.inl (qo_is 5 2)) := rfl
theorem pt_21_39 (w : qS) : gP w 21 39 = some (.inl (qo_il 5 2)) := rfl
theorem pt_21_41 (w : qS) : gP w 21 41 = some (.inl (qo_al 0 1)) := rfl
theorem pt_21_42 (w : qS) : gP w 21 42 = some (.inl (qo_get (gL w) 0 0)) := rfl
theorem pt_21_45 (w : qS) : gP w 21 45 = some (.inl (qo_get (gL w) 1 0)) := rfl
theorem pt_21_48 (w : qS) : gP w 21 48 = some (.inl (qo_get (gL w) 2 6)) := rfl
theorem pt_21_51 (w : qS) : gP w 21 51 = some (.inl (qo_c (fun x y => y ≤ x) 98)) := rfl
theorem pt_21_54 (w : qS) : gP w 21 54 = some (.inl (qo_al 0 1)) := rfl
theorem pt_21_55 (w : qS) : gP w 21 55 = some (.inl (qo_get (gL w) 0 4)) := rfl
theorem pt_21_58 (w : qS) : gP w 21 58 = some (.inl (qo_il 5 2)) := rfl
theorem pt_21_60 (w : qS) : gP w 21 60 = some (.inl (qo_ia (gL w))) := rfl
theorem pt_21_61 (w : qS) : gP w 21 61 = some (.inl (qo_k (-1) 1)) := rfl
theorem pt_21_62 (w : qS) : gP w 21 62 = some (.inl (qo_c (fun x y => ¬ x = y) 68)) := rfl
theorem pt_21_65 (w : qS) : gP w 21 65 = some (.inl (qo_g 92)) := rfl
theorem pt_21_68 (w : qS) : gP w 21 68 = some (.inl (qo_il 3 1)) := rfl
theorem pt_21_69 (w : qS) : gP w 21 69 = some (.inl (qo_z (fun x => ¬ x = 0) 89)) := rfl
theorem pt_21_72 (w : qS) : gP w 21 72 = some (.inl (qo_il 2 1)) := rfl
theorem pt_21_73 (w : qS) : gP w 21 73 = some (.inl (qo_k (iN 2) 1)) := rfl
theorem pt_21_74 (w : qS) : gP w 21 74 = some (.inl (qo_il 4 2)) := rfl
theorem pt_21_76 (w : qS) : gP w 21 76 = some (.inl (qo_il 5 2)) := rfl
theorem pt_21_78 (w : qS) : gP w 21 78 = some (.inl (qo_al 0 1)) := rfl
theorem pt_21_79 (w : qS) : gP w 21 79 = some (.inl (qo_get (gL w) 0 4)) := rfl
theorem pt_21_82 (w : qS) : gP w 21 82 = some (.inl (qo_il 5 2)) := rfl
theorem pt_21_84 (w : qS) : gP w 21 84 = some (.inl (qo_ia (gL w))) := rfl
theorem pt_21_85 (w : qS) : gP w 21 85 = some (.inr (.inl (22, 5, none))) := rfl
theorem pt_21_88 (w : qS) : gP w 21 88 = some (.inr (.inr 1)) := rfl
theorem pt_21_89 (w : qS) : gP w 21 89 = some (.inl (qo_inc 3 (-1))) := rfl
theorem pt_21_92 (w : qS) : gP w 21 92 = some (.inl (qo_inc 5 1)) := rfl
theorem pt_21_95 (w : qS) : gP w 21 95 = some (.inl (qo_g 39)) := rfl
theorem pt_21_98 (w : qS) : gP w 21 98 = some (.inl (qo_inc 4 1)) := rfl
theorem pt_21_101 (w : qS) : gP w 21 101 = some (.inl (qo_g 5)) := rfl
theorem pt_21_104 (w : qS) : gP w 21 104 = some (.inl (qo_k (-1) 1)) := rfl
theorem pt_21_105 (w : qS) : gP w 21 105 = some (.inr (.inr 1)) := rfl
theorem pt_22_0 (w : qS) : gP w 22 0 = some (.inl (qo_il 0 1)) := rfl
theorem pt_22_1 (w : qS) : gP w 22 1 = some (.inl (qo_sw 0 [32, 34, 36, 38] 41)) := rfl
theorem pt_22_32 (w : qS) : gP w 22 32 = some (.inl (qo_il 1 1)) := rfl
theorem pt_22_33 (w : qS) : gP w 22 33 = some (.inr (.inr 1)) := rfl
theorem pt_22_34 (w : qS) : gP w 22 34 = some (.inl (qo_il 2 1)) := rfl
theorem pt_22_35 (w : qS) : gP w 22 35 = some (.inr (.inr 1)) := rfl
theorem pt_22_36 (w : qS) : gP w 22 36 = some (.inl (qo_il 3 1)) := rfl
theorem pt_22_37 (w : qS) : gP w 22 37 = some (.inr (.inr 1)) := rfl
theorem pt_22_38 (w : qS) : gP w 22 38 = some (.inl (qo_il 4 2)) := rfl
theorem pt_22_40 (w : qS) : gP w 22 40 = some (.inr (.inr 1)) := rfl
theorem pt_22_41 (w : qS) : gP w 22 41 = some (.inl (qo_k (-1) 1)) := rfl
theorem pt_22_42 (w : qS) : gP w 22 42 = some (.inr (.inr 1)) := rfl
theorem pt_23_0 (w : qS) : gP w 23 0 = some (.inl (qo_il 0 1)) := rfl
theorem pt_23_1 (w : qS) : gP w 23 1 = some (.inl (qo_z (fun x => x < 0) 13)) := rfl
theorem pt_23_4 (w : qS) : gP w 23 4 = some (.inl (qo_il 0 1)) := rfl
theorem pt_23_5 (w : qS) : gP w 23 5 = some (.inl (qo_k (iN 2) 1)) := rfl
theorem pt_23_6 (w : qS) : gP w 23 6 = some (.inl (qo_c (fun x y => y ≤ x) 13)) := rfl
theorem pt_23_9 (w : qS) : gP w 23 9 = some (.inl (qo_k 1 1)) := rfl
theorem pt_23_10 (w : qS) : gP w 23 10 = some (.inl (qo_g 14)) := rfl
theorem pt_23_13 (w : qS) : gP w 23 13 = some (.inl (qo_k 0 1)) := rfl
theorem pt_23_14 (w : qS) : gP w 23 14 = some (.inr (.inr 2)) := rfl
theorem pt_24_0 (w : qS) : gP w 24 0 = some (.inl (qo_il 0 1)) := rfl
theorem pt_24_1 (w : qS) : gP w 24 1 = some (.inl (qo_z (fun x => x < 0) 15)) := rfl
theorem pt_24_4 (w : qS) : gP w 24 4 = some (.inl (qo_il 0 1)) := rfl
theorem pt_24_5 (w : qS) : gP w 24 5 = some (.inl (qo_k (iN 240) 3)) := rfl
theorem pt_24_8 (w : qS) : gP w 24 8 = some (.inl (qo_c (fun x y => y ≤ x) 15)) := rfl
theorem pt_24_11 (w : qS) : gP w 24 11 = some (.inl (qo_k 1 1)) := rfl
theorem pt_24_12 (w : qS) : gP w 24 12 = some (.inl (qo_g 16)) := rfl
theorem pt_24_15 (w : qS) : gP w 24 15 = some (.inl (qo_k 0 1)) := rfl
theorem pt_24_16 (w : qS) : gP w 24 16 = some (.inr (.inr 2)) := rfl
theorem pt_25_0 (w : qS) : gP w 25 0 = some (.inl (qo_il 0 1)) := rfl
theorem pt_25_1 (w : qS) : gP w 25 1 = some (.inl (qo_k (iN 120) 2)) := rfl
theorem pt_25_3 (w : qS) : gP w 25 3 = some (.inl (qo_d (fun x y => x - x / y * y))) := rfl
theorem pt_25_4 (w : qS) : gP w 25 4 = some (.inl (qo_k (iN 12) 2)) := rfl
theorem pt_25_6 (w : qS) : gP w 25 6 = some (.inl (qo_d (fun x y => x / y))) := rfl
theorem pt_25_7 (w : qS) : gP w 25 7 = some (.inr (.inr 1)) := rfl
theorem pt_26_0 (w : qS) : gP w 26 0 = some (.inl (qo_il 0 1)) := rfl
theorem pt_26_1 (w : qS) : gP w 26 1 = some (.inl (qo_k (iN 12) 2)) := rfl
theorem pt_26_3 (w : qS) : gP w 26 3 = some (.inl (qo_d (fun x y => x - x / y * y))) := rfl
theorem pt_26_4 (w : qS) : gP w 26 4 = some (.inr (.inr 1)) := rfl
theorem pt_27_0 (w : qS) : gP w 27 0 = some (.inl (qo_il 0 1)) := rfl
theorem pt_27_1 (w : qS) : gP w 27 1 = some (.inl (qo_k (iN 12) 2)) := rfl
theorem pt_27_3 (w : qS) : gP w 27 3 = some (.inl (qo_d (fun x y => x - x / y * y))) := rfl
theorem pt_27_4 (w : qS) : gP w 27 4 = some (.inl (qo_il 1 1)) := rfl
theorem pt_27_5 (w : qS) : gP w 27 5 = some (.inl (qo_b (fun x y => x + y))) := rfl
theorem pt_27_6 (w : qS) : gP w 27 6 = some (.inl (qo_is 3 1)) := rfl
theorem pt_27_7 (w : qS) : gP w 27 7 = some (.inl (qo_il 0 1)) := rfl
theorem pt_27_8 (w : qS) : gP w 27 8 = some (.inl (qo_k (iN 120) 2)) := rfl
theorem pt_27_10 (w : qS) : gP w 27 10 = some (.inl (qo_d (fun x y => x - x / y * y))) := rfl
theorem pt_27_11 (w : qS) : gP w 27 11 = some (.inl (qo_k (iN 12) 2)) := rfl
theorem pt_27_13 (w : qS) : gP w 27 13 = some (.inl (qo_d (fun x y => x / y))) := rfl
theorem pt_27_14 (w : qS) : gP w 27 14 = some (.inl (qo_il 2 1)) := rfl
theorem pt_27_15 (w : qS) : gP w 27 15 = some (.inl (qo_b (fun x y => x + y))) := rfl
theorem pt_27_16 (w : qS) : gP w 27 16 = some (.inl (qo_is 4 2)) := rfl
theorem pt_27_18 (w : qS) : gP w 27 18 = some (.inl (qo_il 3 1)) := rfl
theorem pt_27_19 (w : qS) : gP w 27 19 = some (.inl (qo_z (fun x => x < 0) 40)) := rfl
theorem pt_27_22 (w : qS) : gP w 27 22 = some (.inl (qo_il 3 1)) := rfl
theorem pt_27_23 (w : qS) : gP w 27 23 = some (.inl (qo_k (iN 12) 2)) := rfl
theorem pt_27_25 (w : qS) : gP w 27 25 = some (.inl (qo_c (fun x y => y ≤ x) 40)) := rfl
theorem pt_27_28 (w : qS) : gP w 27 28 = some (.inl (qo_il 4 2)) := rfl
theorem pt_27_30 (w : qS) : gP w 27 30 = some (.inl (qo_z (fun x => x < 0) 40)) := rfl
theorem pt_27_33 (w : qS) : gP w 27 33 = some (.inl (qo_il 4 2)) := rfl
theorem pt_27_35 (w : qS) : gP w 27 35 = some (.inl (qo_k (iN 10) 2)) := rfl
theorem pt_27_37 (w : qS) : gP w 27 37 = some (.inl (qo_c (fun x y => x < y) 42)) := rfl
theorem pt_27_40 (w : qS) : gP w 27 40 = some (.inl (qo_k (-1) 1)) := rfl
theorem pt_27_41 (w : qS) : gP w 27 41 = some (.inr (.inr 1)) := rfl
theorem pt_27_42 (w : qS) : gP w 27 42 = some (.inl (qo_il 0 1)) := rfl
theorem pt_27_43 (w : qS) : gP w 27 43 = some (.inl (qo_il 2 1)) := rfl
theorem pt_27_44 (w : qS) : gP w 27 44 = some (.inl (qo_k (iN 12) 2)) := rfl
theorem pt_27_46 (w : qS) : gP w 27 46 = some (.inl (qo_b (fun x y => x * y))) := rfl
theorem pt_27_47 (w : qS) : gP w 27 47 = some (.inl (qo_b (fun x y => x + y))) := rfl
theorem pt_27_48 (w : qS) : gP w 27 48 = some (.inl (qo_il 1 1)) := rfl
theorem pt_27_49 (w : qS) : gP w 27 49 = some (.inl (qo_b (fun x y => x + y))) := rfl
theorem pt_27_50 (w : qS) : gP w 27 50 = some (.inr (.inr 1)) := rfl
theorem pt_28_0 (w : qS) : gP w 28 0 = some (.inl (qo_il 1 1)) := rfl
theorem pt_28_1 (w : qS) : gP w 28 1 = some (.inl (qo_k (iN 8) 2)) := rfl
theorem pt_28_3 (w : qS) : gP w 28 3 = some (.inl (qo_c (fun x y => ¬ x = y) 24)) := rfl
theorem pt_28_6 (w : qS) : gP w 28 6 = some (.inl (qo_il 0 1)) := rfl
theorem pt_28_7 (w : qS) : gP w 28 7 = some (.inl (qo_k (iN 120) 2)) := rfl
theorem pt_28_9 (w : qS) : gP w 28 9 = some (.inl (qo_c (fun x y => y ≤ x) 19)) := rfl
theorem pt_28_12 (w : qS) : gP w 28 12 = some (.inl (qo_il 0 1)) := rfl
theorem pt_28_13 (w : qS) : gP w 28 13 = some (.inl (qo_k (iN 120) 2)) := rfl
theorem pt_28_15 (w : qS) : gP w 28 15 = some (.inl (qo_b (fun x y => x + y))) := rfl
theorem pt_28_16 (w : qS) : gP w 28 16 = some (.inl (qo_g 23)) := rfl
theorem pt_28_19 (w : qS) : gP w 28 19 = some (.inl (qo_il 0 1)) := rfl
theorem pt_28_20 (w : qS) : gP w 28 20 = some (.inl (qo_k (iN 120) 2)) := rfl
theorem pt_28_22 (w : qS) : gP w 28 22 = some (.inl (qo_b (fun x y => x - y))) := rfl
theorem pt_28_23 (w : qS) : gP w 28 23 = some (.inr (.inr 1)) := rfl
theorem pt_28_24 (w : qS) : gP w 28 24 = some (.inl (qo_il 0 1)) := rfl
theorem pt_28_25 (w : qS) : gP w 28 25 = some (.inl (qo_ss 200)) := rfl
theorem pt_28_28 (w : qS) : gP w 28 28 = some (.inl (qo_il 1 1)) := rfl
theorem pt_28_29 (w : qS) : gP w 28 29 = some (.inl (qo_ia (gL w))) := rfl
theorem pt_28_30 (w : qS) : gP w 28 30 = some (.inl (qo_ss 201)) := rfl
theorem pt_28_33 (w : qS) : gP w 28 33 = some (.inl (qo_il 1 1)) := rfl
theorem pt_28_34 (w : qS) : gP w 28 34 = some (.inl (qo_ia (gL w))) := rfl
theorem pt_28_35 (w : qS) : gP w 28 35 = some (.inr (.inl (27, 3, none))) := rfl
theorem pt_28_38 (w : qS) : gP w 28 38 = some (.inr (.inr 1)) := rfl
theorem pt_29_0 (w : qS) : gP w 29 0 = some (.inl (qo_il 1 1)) := rfl
theorem pt_29_1 (w : qS) : gP w 29 1 = some (.inl (qo_z (fun x => x < 0) 19)) := rfl
theorem pt_29_4 (w : qS) : gP w 29 4 = some (.inl (qo_il 1 1)) := rfl
theorem pt_29_5 (w : qS) : gP w 29 5 = some (.inl (qo_al 0 1)) := rfl
theorem pt_29_6 (w : qS) : gP w 29 6 = some (.inl (qo_get (gL w) 1 0)) := rfl
theorem pt_29_9 (w : qS) : gP w 29 9 = some (.inl (qo_get (gL w) 2 6)) := rfl
theorem pt_29_12 (w : qS) : gP w 29 12 = some (.inl (qo_c (fun x y => y ≤ x) 19)) := rfl
theorem pt_29_15 (w : qS) : gP w 29 15 = some (.inl (qo_k 1 1)) := rfl
theorem pt_29_16 (w : qS) : gP w 29 16 = some (.inl (qo_g 20)) := rfl
theorem pt_29_19 (w : qS) : gP w 29 19 = some (.inl (qo_k 0 1)) := rfl
theorem pt_29_20 (w : qS) : gP w 29 20 = some (.inr (.inr 2)) := rfl
theorem pt_30_0 (w : qS) : gP w 30 0 = some (.inl (qo_al 0 1)) := rfl
theorem pt_30_1 (w : qS) : gP w 30 1 = some (.inl (qo_get (gL w) 1 0)) := rfl
theorem pt_30_4 (w : qS) : gP w 30 4 = some (.inl (qo_get (gL w) 2 4)) := rfl
theorem pt_30_7 (w : qS) : gP w 30 7 = some (.inl (qo_il 1 1)) := rfl
theorem pt_30_8 (w : qS) : gP w 30 8 = some (.inl (qo_ia (gL w))) := rfl
theorem pt_30_9 (w : qS) : gP w 30 9 = some (.inl (qo_z (fun x => x = 0) 16)) := rfl
theorem pt_30_12 (w : qS) : gP w 30 12 = some (.inl (qo_k 1 1)) := rfl
theorem pt_30_13 (w : qS) : gP w 30 13 = some (.inl (qo_g 17)) := rfl
theorem pt_30_16 (w : qS) : gP w 30 16 = some (.inl (qo_k 0 1)) := rfl
theorem pt_30_17 (w : qS) : gP w 30 17 = some (.inr (.inr 2)) := rfl
theorem pt_31_0 (w : qS) : gP w 31 0 = some (.inl (qo_al 0 1)) := rfl
theorem pt_31_1 (w : qS) : gP w 31 1 = some (.inl (qo_get (gL w) 1 1)) := rfl
theorem pt_31_4 (w : qS) : gP w 31 4 = some (.inl (qo_il 1 1)) := rfl
theorem pt_31_5 (w : qS) : gP w 31 5 = some (.inl (qo_ia (gL w))) := rfl
theorem pt_31_6 (w : qS) : gP w 31 6 = some (.inr (.inr 1)) := rfl
theorem pt_32_0 (w : qS) : gP w 32 0 = some (.inl (qo_al 0 1)) := rfl
theorem pt_32_1 (w : qS) : gP w 32 1 = some (.inl (qo_get (gL w) 1 0)) := rfl
theorem pt_32_4 (w : qS) : gP w 32 4 = some (.inl (qo_get (gL w) 2 5)) := rfl
theorem pt_32_7 (w : qS) : gP w 32 7 = some (.inl (qo_il 1 1)) := rfl
theorem pt_32_8 (w : qS) : gP w 32 8 = some (.inl (qo_ia (gL w))) := rfl
theorem pt_32_9 (w : qS) : gP w 32 9 = some (.inl (qo_is 2 1)) := rfl
theorem pt_32_10 (w : qS) : gP w 32 10 = some (.inl (qo_il 2 1)) := rfl
theorem pt_32_11 (w : qS) : gP w 32 11 = some (.inl (qo_z (fun x => 0 ≤ x) 18)) := rfl
theorem pt_32_14 (w : qS) : gP w 32 14 = some (.inl (qo_k (-1) 1)) := rfl
theorem pt_32_15 (w : qS) : gP w 32 15 = some (.inl (qo_g 24)) := rfl
theorem pt_32_18 (w : qS) : gP w 32 18 = some (.inl (qo_al 0 1)) := rfl
theorem pt_32_19 (w : qS) : gP w 32 19 = some (.inl (qo_get (gL w) 1 1)) := rfl
theorem pt_32_22 (w : qS) : gP w 32 22 = some (.inl (qo_il 2 1)) := rfl
theorem pt_32_23 (w : qS) : gP w 32 23 = some (.inl (qo_ia (gL w))) := rfl
theorem pt_32_24 (w : qS) : gP w 32 24 = some (.inr (.inr 1)) := rfl
theorem pt_33_0 (w : qS) : gP w 33 0 = some (.inl (qo_al 0 1)) := rfl
theorem pt_33_1 (w : qS) : gP w 33 1 = some (.inl (qo_get (gL w) 1 0)) := rfl
theorem pt_33_4 (w : qS) : gP w 33 4 = some (.inl (qo_get (gL w) 2 4)) := rfl
theorem pt_33_7 (w : qS) : gP w 33 7 = some (.inl (qo_il 1 1)) := rfl
theorem pt_33_8 (w : qS) : gP w 33 8 = some (.inl (qo_ia (gL w))) := rfl
theorem pt_33_9 (w : qS) : gP w 33 9 = some (.inl (qo_il 2 1)) := rfl
theorem pt_33_10 (w : qS) : gP w 33 10 = some (.inl (qo_k (iN 120) 2)) := rfl
theorem pt_33_12 (w : qS) : gP w 33 12 = some (.inl (qo_d (fun x y => x / y))) := rfl
theorem pt_33_13 (w : qS) : gP w 33 13 = some (.inl (qo_b (fun x y => x >>> (y &&& 31)))) := rfl
theorem pt_33_14 (w : qS) : gP w 33 14 = some (.inl (qo_k 1 1)) := rfl
theorem pt_33_15 (w : qS) : gP w 33 15 = some (.inl (qo_b (fun x y => x &&& y))) := rfl
theorem pt_33_16 (w : qS) : gP w 33 16 = some (.inl (qo_z (fun x => x = 0) 23)) := rfl
theorem pt_33_19 (w : qS) : gP w 33 19 = some (.inl (qo_k 1 1)) := rfl
theorem pt_33_20 (w : qS) : gP w 33 20 = some (.inl (qo_g 24)) := rfl
theorem pt_33_23 (w : qS) : gP w 33 23 = some (.inl (qo_k 0 1)) := rfl
theorem pt_33_24 (w : qS) : gP w 33 24 = some (.inl (qo_is 3 1)) := rfl
theorem pt_33_25 (w : qS) : gP w 33 25 = some (.inl (qo_il 3 1)) := rfl
theorem pt_33_26 (w : qS) : gP w 33 26 = some (.inl (qo_z (fun x => x = 0) 49)) := rfl
theorem pt_33_29 (w : qS) : gP w 33 29 = some (.inl (qo_al 0 1)) := rfl
theorem pt_33_30 (w : qS) : gP w 33 30 = some (.inl (qo_get (gL w) 1 0)) := rfl
theorem pt_33_33 (w : qS) : gP w 33 33 = some (.inl (qo_get (gL w) 2 3)) := rfl
theorem pt_33_36 (w : qS) : gP w 33 36 = some (.inl (qo_il 1 1)) := rfl
theorem pt_33_37 (w : qS) : gP w 33 37 = some (.inl (qo_ia (gL w))) := rfl
theorem pt_33_38 (w : qS) : gP w 33 38 = some (.inl (qo_il 2 1)) := rfl
theorem pt_33_39 (w : qS) : gP w 33 39 = some (.inl (qo_k (iN 120) 2)) := rfl
theorem pt_33_41 (w : qS) : gP w 33 41 = some (.inl (qo_d (fun x y => x - x / y * y))) := rfl
theorem pt_33_42 (w : qS) : gP w 33 42 = some (.inl (qo_c (fun x y => ¬ x = y) 49)) := rfl
theorem pt_33_45 (w : qS) : gP w 33 45 = some (.inl (qo_k 1 1)) := rfl
theorem pt_33_46 (w : qS) : gP w 33 46 = some (.inl (qo_g 50)) := rfl
theorem pt_33_49 (w : qS) : gP w 33 49 = some (.inl (qo_k 0 1)) := rfl
theorem pt_33_50 (w : qS) : gP w 33 50 = some (.inr (.inr 2)) := rfl
theorem pt_34_0 (w : qS) : gP w 34 0 = some (.inl (qo_al 0 1)) := rfl
theorem pt_34_1 (w : qS) : gP w 34 1 = some (.inl (qo_get (gL w) 1 0)) := rfl
theorem pt_34_4 (w : qS) : gP w 34 4 = some (.inl (qo_get (gL w) 2 5)) := rfl
theorem pt_34_7 (w : qS) : gP w 34 7 = some (.inl (qo_il 1 1)) := rfl
theorem pt_34_8 (w : qS) : gP w 34 8 = some (.inl (qo_ia (gL w))) := rfl
theorem pt_34_9 (w : qS) : gP w 34 9 = some (.inl (qo_is 2 1)) := rfl
theorem pt_34_10 (w : qS) : gP w 34 10 = some (.inl (qo_il 2 1)) := rfl
theorem pt_34_11 (w : qS) : gP w 34 11 = some (.inl (qo_z (fun x => x < 0) 27)) := rfl
theorem pt_34_14 (w : qS) : gP w 34 14 = some (.inl (qo_al 0 1)) := rfl
theorem pt_34_15 (w : qS) : gP w 34 15 = some (.inl (qo_il 2 1)) := rfl
theorem pt_34_16 (w : qS) : gP w 34 16 = some (.inl (qo_il 1 1)) := rfl
theorem pt_34_17 (w : qS) : gP w 34 17 = some (.inr (.inl (33, 3, some 1))) := rfl
theorem pt_34_20 (w : qS) : gP w 34 20 = some (.inl (qo_z (fun x => ¬ x = 0) 27)) := rfl
theorem pt_34_23 (w : qS) : gP w 34 23 = some (.inl (qo_k 1 1)) := rfl
theorem pt_34_24 (w : qS) : gP w 34 24 = some (.inl (qo_g 28)) := rfl
theorem pt_34_27 (w : qS) : gP w 34 27 = some (.inl (qo_k 0 1)) := rfl
theorem pt_34_28 (w : qS) : gP w 34 28 = some (.inr (.inr 2)) := rfl
theorem pt_35_0 (w : qS) : gP w 35 0 = some (.inl (qo_al 0 1)) := rfl
theorem pt_35_1 (w : qS) : gP w 35 1 = some (.inl (qo_get (gL w) 1 0)) := rfl
theorem pt_35_4 (w : qS) : gP w 35 4 = some (.inl (qo_get (gL w) 2 4)) := rfl
theorem pt_35_7 (w : qS) : gP w 35 7 = some (.inl (qo_il 1 1)) := rfl
theorem pt_35_8 (w : qS) : gP w 35 8 = some (.inl (qo_ia (gL w))) := rfl
theorem pt_35_9 (w : qS) : gP w 35 9 = some (.inl (qo_k 1 1)) := rfl
theorem pt_35_10 (w : qS) : gP w 35 10 = some (.inl (qo_b (fun x y => x &&& y))) := rfl
theorem pt_35_11 (w : qS) : gP w 35 11 = some (.inl (qo_z (fun x => x = 0) 26)) := rfl
theorem pt_35_14 (w : qS) : gP w 35 14 = some (.inl (qo_al 0 1)) := rfl
theorem pt_35_15 (w : qS) : gP w 35 15 = some (.inl (qo_get (gL w) 1 0)) := rfl
theorem pt_35_18 (w : qS) : gP w 35 18 = some (.inl (qo_get (gL w) 2 3)) := rfl
theorem pt_35_21 (w : qS) : gP w 35 21 = some (.inl (qo_il 1 1)) := rfl
theorem pt_35_22 (w : qS) : gP w 35 22 = some (.inl (qo_ia (gL w))) := rfl
theorem pt_35_23 (w : qS) : gP w 35 23 = some (.inl (qo_g 38)) := rfl
theorem pt_35_26 (w : qS) : gP w 35 26 = some (.inl (qo_al 0 1)) := rfl
theorem pt_35_27 (w : qS) : gP w 35 27 = some (.inl (qo_get (gL w) 1 0)) := rfl
theorem pt_35_30 (w : qS) : gP w 35 30 = some (.inl (qo_get (gL w) 2 3)) := rfl
theorem pt_35_33 (w : qS) : gP w 35 33 = some (.inl (qo_il 1 1)) := rfl
theorem pt_35_34 (w : qS) : gP w 35 34 = some (.inl (qo_ia (gL w))) := rfl
theorem pt_35_35 (w : qS) : gP w 35 35 = some (.inl (qo_k (iN 120) 2)) := rfl
theorem pt_35_37 (w : qS) : gP w 35 37 = some (.inl (qo_b (fun x y => x + y))) := rfl
theorem pt_35_38 (w : qS) : gP w 35 38 = some (.inr (.inr 1)) := rfl
theorem pt_36_0 (w : qS) : gP w 36 0 = some (.inl (qo_al 0 1)) := rfl
theorem pt_36_1 (w : qS) : gP w 36 1 = some (.inl (qo_get (gL w) 1 0)) := rfl
theorem pt_36_4 (w : qS) : gP w 36 4 = some (.inl (qo_get (gL w) 2 5)) := rfl
theorem pt_36_7 (w : qS) : gP w 36 7 = some (.inl (qo_il 1 1)) := rfl
theorem pt_36_8 (w : qS) : gP w 36 8 = some (.inl (qo_ia (gL w))) := rfl
theorem pt_36_9 (w : qS) : gP w 36 9 = some (.inl (qo_k (-2) 2)) := rfl
theorem pt_36_11 (w : qS) : gP w 36 11 = some (.inl (qo_c (fun x y => ¬ x = y) 16)) := rfl
theorem pt_36_14 (w : qS) : gP w 36 14 = some (.inl (qo_k 0 1)) := rfl
theorem pt_36_15 (w : qS) : gP w 36 15 = some (.inr (.inr 2)) := rfl
theorem pt_36_16 (w : qS) : gP w 36 16 = some (.inl (qo_al 0 1)) := rfl
theorem pt_36_17 (w : qS) : gP w 36 17 = some (.inl (qo_get (gL w) 1 0)) := rfl
theorem pt_36_20 (w : qS) : gP w 36 20 = some (.inl (qo_get (gL w) 2 8)) := rfl
theorem pt_36_23 (w : qS) : gP w 36 23 = some (.inl (qo_is 3 1)) := rfl
theorem pt_36_24 (w : qS) : gP w 36 24 = some (.inl (qo_il 3 1)) := rfl
theorem pt_36_25 (w : qS) : gP w 36 25 = some (.inl (qo_u (fun x => -x))) := rfl
theorem pt_36_26 (w : qS) : gP w 36 26 = some (.inl (qo_is 4 2)) := rfl
theorem pt_36_28 (w : qS) : gP w 36 28 = some (.inl (qo_il 4 2)) := rfl
theorem pt_36_30 (w : qS) : gP w 36 30 = some (.inl (qo_il 3 1)) := rfl
theorem pt_36_31 (w : qS) : gP w 36 31 = some (.inl (qo_c (fun x y => y < x) 98)) := rfl
theorem pt_36_34 (w : qS) : gP w 36 34 = some (.inl (qo_il 3 1)) := rfl
theorem pt_36_35 (w : qS) : gP w 36 35 = some (.inl (qo_u (fun x => -x))) := rfl
theorem pt_36_36 (w : qS) : gP w 36 36 = some (.inl (qo_is 5 2)) := rfl
theorem pt_36_38 (w : qS) : gP w 36 38 = some (.inl (qo_il 5 2)) := rfl
theorem pt_36_40 (w : qS) : gP w 36 40 = some (.inl (qo_il 3 1)) := rfl
theorem pt_36_41 (w : qS) : gP w 36 41 = some (.inl (qo_c (fun x y => y < x) 92)) := rfl
theorem pt_36_44 (w : qS) : gP w 36 44 = some (.inl (qo_il 1 1)) := rfl
theorem pt_36_45 (w : qS) : gP w 36 45 = some (.inl (qo_il 5 2)) := rfl
theorem pt_36_47 (w : qS) : gP w 36 47 = some (.inl (qo_il 4 2)) := rfl
theorem pt_36_49 (w : qS) : gP w 36 49 = some (.inr (.inl (27, 3, none))) := rfl
theorem pt_36_52 (w : qS) : gP w 36 52 = some (.inl (qo_is 6 2)) := rfl
theorem pt_36_54 (w : qS) : gP w 36 54 = some (.inl (qo_il 6 2)) := rfl
theorem pt_36_56 (w : qS) : gP w 36 56 = some (.inl (qo_k (-1) 1)) := rfl
theorem pt_36_57 (w : qS) : gP w 36 57 = some (.inl (qo_c (fun x y => ¬ x = y) 64)) := rfl
theorem pt_36_60 (w : qS) : gP w 36 60 = some (.inl (qo_k (-1) 1)) := rfl
theorem pt_36_61 (w : qS) : gP w 36 61 = some (.inl (qo_g 70)) := rfl
theorem pt_36_64 (w : qS) : gP w 36 64 = some (.inl (qo_al 0 1)) := rfl
theorem pt_36_65 (w : qS) : gP w 36 65 = some (.inl (qo_il 6 2)) := rfl
theorem pt_36_67 (w : qS) : gP w 36 67 = some (.inr (.inl (32, 2, some 1))) := rfl
theorem pt_36_70 (w : qS) : gP w 36 70 = some (.inl (qo_is 7 2)) := rfl
theorem pt_36_72 (w : qS) : gP w 36 72 = some (.inl (qo_il 7 2)) := rfl
theorem pt_36_74 (w : qS) : gP w 36 74 = some (.inl (qo_k (-1) 1)) := rfl
theorem pt_36_75 (w : qS) : gP w 36 75 = some (.inl (qo_c (fun x y => x = y) 86)) := rfl
theorem pt_36_78 (w : qS) : gP w 36 78 = some (.inl (qo_il 7 2)) := rfl
theorem pt_36_80 (w : qS) : gP w 36 80 = some (.inl (qo_il 2 1)) := rfl
theorem pt_36_81 (w : qS) : gP w 36 81 = some (.inl (qo_c (fun x y => x = y) 86)) := rfl
theorem pt_36_84 (w : qS) : gP w 36 84 = some (.inl (qo_k 0 1)) := rfl
theorem pt_36_85 (w : qS) : gP w 36 85 = some (.inr (.inr 2)) := rfl
theorem pt_36_86 (w : qS) : gP w 36 86 = some (.inl (qo_inc 5 1)) := rfl
theorem pt_36_89 (w : qS) : gP w 36 89 = some (.inl (qo_g 38)) := rfl
theorem pt_36_92 (w : qS) : gP w 36 92 = some (.inl (qo_inc 4 1)) := rfl
theorem pt_36_95 (w : qS) : gP w 36 95 = some (.inl (qo_g 28)) := rfl
theorem pt_36_98 (w : qS) : gP w 36 98 = some (.inl (qo_k 1 1)) := rfl
theorem pt_36_99 (w : qS) : gP w 36 99 = some (.inr (.inr 2)) := rfl
theorem pt_37_0 (w : qS) : gP w 37 0 = some (.inl (qo_al 0 1)) := rfl
theorem pt_37_1 (w : qS) : gP w 37 1 = some (.inl (qo_get (gL w) 1 0)) := rfl
theorem pt_37_4 (w : qS) : gP w 37 4 = some (.inl (qo_get (gL w) 2 6)) := rfl
theorem pt_37_7 (w : qS) : gP w 37 7 = some (.inl (qo_is 2 1)) := rfl
theorem pt_37_8 (w : qS) : gP w 37 8 = some (.inl (qo_al 0 1)) := rfl
theorem pt_37_9 (w : qS) : gP w 37 9 = some (.inl (qo_get (gL w) 1 0)) := rfl
theorem pt_37_12 (w : qS) : gP w 37 12 = some (.inl (qo_get (gL w) 2 0)) := rfl
theorem pt_37_15 (w : qS) : gP w 37 15 = some (.inl (qo_il 2 1)) := rfl
theorem pt_37_16 (w : qS) : gP w 37 16 = some (.inl (qo_il 1 1)) := rfl
theorem pt_37_17 (w : qS) : gP w 37 17 = some (.inl (qo_ias (gL w))) := rfl
theorem pt_37_18 (w : qS) : gP w 37 18 = some (.inl (qo_al 0 1)) := rfl
theorem pt_37_19 (w : qS) : gP w 37 19 = some (.inl (qo_get (gL w) 1 0)) := rfl
theorem pt_37_22 (w : qS) : gP w 37 22 = some (.inl qo_dup) := rfl
theorem pt_37_23 (w : qS) : gP w 37 23 = some (.inl (qo_get (gL w) 2 6)) := rfl
theorem pt_37_26 (w : qS) : gP w 37 26 = some (.inl (qo_k 1 1)) := rfl
theorem pt_37_27 (w : qS) : gP w 37 27 = some (.inl (qo_b (fun x y => x + y))) := rfl
theorem pt_37_28 (w : qS) : gP w 37 28 = some (.inl (qo_put (gL w) 2 6)) := rfl
theorem pt_37_31 (w : qS) : gP w 37 31 = some (.inl (qo_al 0 1)) := rfl
theorem pt_37_32 (w : qS) : gP w 37 32 = some (.inr (.inl (40, 1, some 1))) := rfl
theorem pt_37_35 (w : qS) : gP w 37 35 = some (.inl (qo_il 2 1)) := rfl
theorem pt_37_36 (w : qS) : gP w 37 36 = some (.inr (.inr 1)) := rfl
theorem pt_38_0 (w : qS) : gP w 38 0 = some (.inl (qo_al 0 1)) := rfl
theorem pt_38_1 (w : qS) : gP w 38 1 = some (.inl (qo_get (gL w) 1 0)) := rfl
theorem pt_38_4 (w : qS) : gP w 38 4 = some (.inl (qo_get (gL w) 2 7)) := rfl
theorem pt_38_7 (w : qS) : gP w 38 7 = some (.inl (qo_is 3 1)) := rfl
theorem pt_38_8 (w : qS) : gP w 38 8 = some (.inl (qo_al 0 1)) := rfl
theorem pt_38_9 (w : qS) : gP w 38 9 = some (.inl (qo_get (gL w) 1 0)) := rfl
theorem pt_38_12 (w : qS) : gP w 38 12 = some (.inl (qo_get (gL w) 2 1)) := rfl
theorem pt_38_15 (w : qS) : gP w 38 15 = some (.inl (qo_il 3 1)) := rfl
theorem pt_38_16 (w : qS) : gP w 38 16 = some (.inl (qo_il 1 1)) := rfl
theorem pt_38_17 (w : qS) : gP w 38 17 = some (.inl (qo_ias (gL w))) := rfl
theorem pt_38_18 (w : qS) : gP w 38 18 = some (.inl (qo_al 0 1)) := rfl
theorem pt_38_19 (w : qS) : gP w 38 19 = some (.inl (qo_get (gL w) 1 0)) := rfl
theorem pt_38_22 (w : qS) : gP w 38 22 = some (.inl (qo_get (gL w) 2 2)) := rfl
theorem pt_38_25 (w : qS) : gP w 38 25 = some (.inl (qo_il 3 1)) := rfl
theorem pt_38_26 (w : qS) : gP w 38 26 = some (.inl (qo_il 2 1)) := rfl
theorem pt_38_27 (w : qS) : gP w 38 27 = some (.inl (qo_ias (gL w))) := rfl
theorem pt_38_28 (w : qS) : gP w 38 28 = some (.inl (qo_al 0 1)) := rfl
theorem pt_38_29 (w : qS) : gP w 38 29 = some (.inl (qo_get (gL w) 1 0)) := rfl
theorem pt_38_32 (w : qS) : gP w 38 32 = some (.inl qo_dup) := rfl
theorem pt_38_33 (w : qS) : gP w 38 33 = some (.inl (qo_get (gL w) 2 7)) := rfl
theorem pt_38_36 (w : qS) : gP w 38 36 = some (.inl (qo_k 1 1)) := rfl
theorem pt_38_37 (w : qS) : gP w 38 37 = some (.inl (qo_b (fun x y => x + y))) := rfl
theorem pt_38_38 (w : qS) : gP w 38 38 = some (.inl (qo_put (gL w) 2 7)) := rfl
theorem pt_38_41 (w : qS) : gP w 38 41 = some (.inl (qo_al 0 1)) := rfl
theorem pt_38_42 (w : qS) : gP w 38 42 = some (.inr (.inl (40, 1, some 1))) := rfl
theorem pt_38_45 (w : qS) : gP w 38 45 = some (.inl (qo_il 3 1)) := rfl
theorem pt_38_46 (w : qS) : gP w 38 46 = some (.inr (.inr 1)) := rfl
theorem pt_39_0 (w : qS) : gP w 39 0 = some (.inl (qo_al 0 1)) := rfl
theorem pt_39_1 (w : qS) : gP w 39 1 = some (.inl (qo_get (gL w) 1 0)) := rfl
theorem pt_39_4 (w : qS) : gP w 39 4 = some (.inl qo_dup) := rfl
theorem pt_39_5 (w : qS) : gP w 39 5 = some (.inl (qo_get (gL w) 2 7)) := rfl
theorem pt_39_8 (w : qS) : gP w 39 8 = some (.inl (qo_k 1 1)) := rfl
theorem pt_39_9 (w : qS) : gP w 39 9 = some (.inl (qo_b (fun x y => x - y))) := rfl
theorem pt_39_10 (w : qS) : gP w 39 10 = some (.inl (qo_put (gL w) 2 7)) := rfl
theorem pt_39_13 (w : qS) : gP w 39 13 = some (.inl (qo_il 1 1)) := rfl
theorem pt_39_14 (w : qS) : gP w 39 14 = some (.inl (qo_is 2 1)) := rfl
theorem pt_39_15 (w : qS) : gP w 39 15 = some (.inl (qo_il 2 1)) := rfl
theorem pt_39_16 (w : qS) : gP w 39 16 = some (.inl (qo_al 0 1)) := rfl
theorem pt_39_17 (w : qS) : gP w 39 17 = some (.inl (qo_get (gL w) 1 0)) := rfl
theorem pt_39_20 (w : qS) : gP w 39 20 = some (.inl (qo_get (gL w) 2 7)) := rfl
theorem pt_39_23 (w : qS) : gP w 39 23 = some (.inl (qo_c (fun x y => y ≤ x) 72)) := rfl
theorem pt_39_26 (w : qS) : gP w 39 26 = some (.inl (qo_al 0 1)) := rfl
theorem pt_39_27 (w : qS) : gP w 39 27 = some (.inl (qo_get (gL w) 1 0)) := rfl
theorem pt_39_30 (w : qS) : gP w 39 30 = some (.inl (qo_get (gL w) 2 1)) := rfl
theorem pt_39_33 (w : qS) : gP w 39 33 = some (.inl (qo_il 2 1)) := rfl
theorem pt_39_34 (w : qS) : gP w 39 34 = some (.inl (qo_al 0 1)) := rfl
theorem pt_39_35 (w : qS) : gP w 39 35 = some (.inl (qo_get (gL w) 1 0)) := rfl
theorem pt_39_38 (w : qS) : gP w 39 38 = some (.inl (qo_get (gL w) 2 1)) := rfl
theorem pt_39_41 (w : qS) : gP w 39 41 = some (.inl (qo_il 2 1)) := rfl
theorem pt_39_42 (w : qS) : gP w 39 42 = some (.inl (qo_k 1 1)) := rfl
theorem pt_39_43 (w : qS) : gP w 39 43 = some (.inl (qo_b (fun x y => x + y))) := rfl
theorem pt_39_44 (w : qS) : gP w 39 44 = some (.inl (qo_ia (gL w))) := rfl
theorem pt_39_45 (w : qS) : gP w 39 45 = some (.inl (qo_ias (gL w))) := rfl
theorem pt_39_46 (w : qS) : gP w 39 46 = some (.inl (qo_al 0 1)) := rfl
theorem pt_39_47 (w : qS) : gP w 39 47 = some (.inl (qo_get (gL w) 1 0)) := rfl
theorem pt_39_50 (w : qS) : gP w 39 50 = some (.inl (qo_get (gL w) 2 2)) := rfl
theorem pt_39_53 (w : qS) : gP w 39 53 = some (.inl (qo_il 2 1)) := rfl
theorem pt_39_54 (w : qS) : gP w 39 54 = some (.inl (qo_al 0 1)) := rfl
theorem pt_39_55 (w : qS) : gP w 39 55 = some (.inl (qo_get (gL w) 1 0)) := rfl
theorem pt_39_58 (w : qS) : gP w 39 58 = some (.inl (qo_get (gL w) 2 2)) := rfl
theorem pt_39_61 (w : qS) : gP w 39 61 = some (.inl (qo_il 2 1)) := rfl
theorem pt_39_62 (w : qS) : gP w 39 62 = some (.inl (qo_k 1 1)) := rfl
theorem pt_39_63 (w : qS) : gP w 39 63 = some (.inl (qo_b (fun x y => x + y))) := rfl
theorem pt_39_64 (w : qS) : gP w 39 64 = some (.inl (qo_ia (gL w))) := rfl
theorem pt_39_65 (w : qS) : gP w 39 65 = some (.inl (qo_ias (gL w))) := rfl
theorem pt_39_66 (w : qS) : gP w 39 66 = some (.inl (qo_inc 2 1)) := rfl
theorem pt_39_69 (w : qS) : gP w 39 69 = some (.inl (qo_g 15)) := rfl
theorem pt_39_72 (w : qS) : gP w 39 72 = some (.inl (qo_al 0 1)) := rfl
theorem pt_39_73 (w : qS) : gP w 39 73 = some (.inr (.inl (40, 1, some 1))) := rfl
theorem pt_39_76 (w : qS) : gP w 39 76 = some (.inr (.inr 0)) := rfl
theorem pt_40_0 (w : qS) : gP w 40 0 = some (.inl (qo_k 0 1)) := rfl
theorem pt_40_1 (w : qS) : gP w 40 1 = some (.inl (qo_is 1 1)) := rfl
theorem pt_40_2 (w : qS) : gP w 40 2 = some (.inl (qo_il 1 1)) := rfl
theorem pt_40_3 (w : qS) : gP w 40 3 = some (.inl (qo_k (iN 16) 2)) := rfl
theorem pt_40_5 (w : qS) : gP w 40 5 = some (.inl (qo_c (fun x y => y ≤ x) 21)) := rfl
theorem pt_40_8 (w : qS) : gP w 40 8 = some (.inl (qo_al 0 1)) := rfl
theorem pt_40_9 (w : qS) : gP w 40 9 = some (.inl (qo_get (gL w) 1 1)) := rfl
theorem pt_40_12 (w : qS) : gP w 40 12 = some (.inl (qo_il 1 1)) := rfl
theorem pt_40_13 (w : qS) : gP w 40 13 = some (.inl (qo_il 1 1)) := rfl
theorem pt_40_14 (w : qS) : gP w 40 14 = some (.inl (qo_ias (gL w))) := rfl
theorem pt_40_15 (w : qS) : gP w 40 15 = some (.inl (qo_inc 1 1)) := rfl
theorem pt_40_18 (w : qS) : gP w 40 18 = some (.inl (qo_g 2)) := rfl
theorem pt_40_21 (w : qS) : gP w 40 21 = some (.inl (qo_k 0 1)) := rfl
theorem pt_40_22 (w : qS) : gP w 40 22 = some (.inl (qo_is 1 1)) := rfl
theorem pt_40_23 (w : qS) : gP w 40 23 = some (.inl (qo_il 1 1)) := rfl
theorem pt_40_24 (w : qS) : gP w 40 24 = some (.inl (qo_al 0 1)) := rfl
theorem pt_40_25 (w : qS) : gP w 40 25 = some (.inl (qo_get (gL w) 1 0)) := rfl
theorem pt_40_28 (w : qS) : gP w 40 28 = some (.inl (qo_get (gL w) 2 7)) := rfl
theorem pt_40_31 (w : qS) : gP w 40 31 = some (.inl (qo_c (fun x y => y ≤ x) 84)) := rfl
theorem pt_40_34 (w : qS) : gP w 40 34 = some (.inl (qo_al 0 1)) := rfl
theorem pt_40_35 (w : qS) : gP w 40 35 = some (.inl (qo_get (gL w) 1 1)) := rfl
theorem pt_40_38 (w : qS) : gP w 40 38 = some (.inl (qo_al 0 1)) := rfl
theorem pt_40_39 (w : qS) : gP w 40 39 = some (.inl (qo_get (gL w) 1 0)) := rfl
theorem pt_40_42 (w : qS) : gP w 40 42 = some (.inl (qo_get (gL w) 2 1)) := rfl
theorem pt_40_45 (w : qS) : gP w 40 45 = some (.inl (qo_il 1 1)) := rfl
theorem pt_40_46 (w : qS) : gP w 40 46 = some (.inl (qo_ia (gL w))) := rfl
theorem pt_40_47 (w : qS) : gP w 40 47 = some (.inl (qo_ia (gL w))) := rfl
theorem pt_40_48 (w : qS) : gP w 40 48 = some (.inl (qo_is 2 1)) := rfl
theorem pt_40_49 (w : qS) : gP w 40 49 = some (.inl (qo_al 0 1)) := rfl
theorem pt_40_50 (w : qS) : gP w 40 50 = some (.inl (qo_get (gL w) 1 1)) := rfl
theorem pt_40_53 (w : qS) : gP w 40 53 = some (.inl (qo_al 0 1)) := rfl
theorem pt_40_54 (w : qS) : gP w 40 54 = some (.inl (qo_get (gL w) 1 0)) := rfl
theorem pt_40_57 (w : qS) : gP w 40 57 = some (.inl (qo_get (gL w) 2 2)) := rfl
theorem pt_40_60 (w : qS) : gP w 40 60 = some (.inl (qo_il 1 1)) := rfl
theorem pt_40_61 (w : qS) : gP w 40 61 = some (.inl (qo_ia (gL w))) := rfl
theorem pt_40_62 (w : qS) : gP w 40 62 = some (.inl (qo_ia (gL w))) := rfl
theorem pt_40_63 (w : qS) : gP w 40 63 = some (.inl (qo_is 3 1)) := rfl
theorem pt_40_64 (w : qS) : gP w 40 64 = some (.inl (qo_al 0 1)) := rfl
theorem pt_40_65 (w : qS) : gP w 40 65 = some (.inl (qo_il 2 1)) := rfl
theorem pt_40_66 (w : qS) : gP w 40 66 = some (.inl (qo_il 3 1)) := rfl
theorem pt_40_67 (w : qS) : gP w 40 67 = some (.inl qo_mx) := rfl
theorem pt_40_70 (w : qS) : gP w 40 70 = some (.inl (qo_il 2 1)) := rfl
theorem pt_40_71 (w : qS) : gP w 40 71 = some (.inl (qo_il 3 1)) := rfl
theorem pt_40_72 (w : qS) : gP w 40 72 = some (.inl qo_mn) := rfl
theorem pt_40_75 (w : qS) : gP w 40 75 = some (.inr (.inl (41, 3, some 1))) := rfl
theorem pt_40_78 (w : qS) : gP w 40 78 = some (.inl (qo_inc 1 1)) := rfl
theorem pt_40_81 (w : qS) : gP w 40 81 = some (.inl (qo_g 23)) := rfl
theorem pt_40_84 (w : qS) : gP w 40 84 = some (.inr (.inr 0)) := rfl
theorem pt_41_0 (w : qS) : gP w 41 0 = some (.inl (qo_k 0 1)) := rfl
theorem pt_41_1 (w : qS) : gP w 41 1 = some (.inl (qo_is 3 1)) := rfl
theorem pt_41_2 (w : qS) : gP w 41 2 = some (.inl (qo_il 3 1)) := rfl
theorem pt_41_3 (w : qS) : gP w 41 3 = some (.inl (qo_k (iN 16) 2)) := rfl
theorem pt_41_5 (w : qS) : gP w 41 5 = some (.inl (qo_c (fun x y => y ≤ x) 31)) := rfl
theorem pt_41_8 (w : qS) : gP w 41 8 = some (.inl (qo_al 0 1)) := rfl
theorem pt_41_9 (w : qS) : gP w 41 9 = some (.inl (qo_get (gL w) 1 1)) := rfl
theorem pt_41_12 (w : qS) : gP w 41 12 = some (.inl (qo_il 3 1)) := rfl
theorem pt_41_13 (w : qS) : gP w 41 13 = some (.inl (qo_ia (gL w))) := rfl
theorem pt_41_14 (w : qS) : gP w 41 14 = some (.inl (qo_il 1 1)) := rfl
theorem pt_41_15 (w : qS) : gP w 41 15 = some (.inl (qo_c (fun x y => ¬ x = y) 25)) := rfl
theorem pt_41_18 (w : qS) : gP w 41 18 = some (.inl (qo_al 0 1)) := rfl
theorem pt_41_19 (w : qS) : gP w 41 19 = some (.inl (qo_get (gL w) 1 1)) := rfl
theorem pt_41_22 (w : qS) : gP w 41 22 = some (.inl (qo_il 3 1)) := rfl
theorem pt_41_23 (w : qS) : gP w 41 23 = some (.inl (qo_il 2 1)) := rfl
theorem pt_41_24 (w : qS) : gP w 41 24 = some (.inl (qo_ias (gL w))) := rfl
theorem pt_41_25 (w : qS) : gP w 41 25 = some (.inl (qo_inc 3 1)) := rfl
theorem pt_41_28 (w : qS) : gP w 41 28 = some (.inl (qo_g 2)) := rfl
theorem pt_41_31 (w : qS) : gP w 41 31 = some (.inr (.inr 0)) := rfl
theorem pt_42_0 (w : qS) : gP w 42 0 = some (.inl (qo_al 0 1)) := rfl
theorem pt_42_1 (w : qS) : gP w 42 1 = some (.inl (qo_il 1 1)) := rfl
theorem pt_42_2 (w : qS) : gP w 42 2 = some (.inl (qo_k 1 1)) := rfl
theorem pt_42_3 (w : qS) : gP w 42 3 = some (.inr (.inl (43, 3, some 1))) := rfl
theorem pt_42_6 (w : qS) : gP w 42 6 = some (.inl (qo_is 2 1)) := rfl
theorem pt_42_7 (w : qS) : gP w 42 7 = some (.inl (qo_il 2 1)) := rfl
theorem pt_42_8 (w : qS) : gP w 42 8 = some (.inl (qo_k (iN 2) 1)) := rfl
theorem pt_42_9 (w : qS) : gP w 42 9 = some (.inl (qo_c (fun x y => x < y) 14)) := rfl
theorem pt_42_12 (w : qS) : gP w 42 12 = some (.inl (qo_k 1 1)) := rfl
theorem pt_42_13 (w : qS) : gP w 42 13 = some (.inr (.inr 1)) := rfl
theorem pt_42_14 (w : qS) : gP w 42 14 = some (.inl (qo_il 2 1)) := rfl
theorem pt_42_15 (w : qS) : gP w 42 15 = some (.inl (qo_z (fun x => 0 < x) 27)) := rfl
theorem pt_42_18 (w : qS) : gP w 42 18 = some (.inl (qo_al 0 1)) := rfl
theorem pt_42_19 (w : qS) : gP w 42 19 = some (.inl (qo_il 1 1)) := rfl
theorem pt_42_20 (w : qS) : gP w 42 20 = some (.inl (qo_k (iN 3) 1)) := rfl
theorem pt_42_21 (w : qS) : gP w 42 21 = some (.inr (.inl (43, 3, some 1))) := rfl
theorem pt_42_24 (w : qS) : gP w 42 24 = some (.inl (qo_z (fun x => x ≤ 0) 31)) := rfl
theorem pt_42_27 (w : qS) : gP w 42 27 = some (.inl (qo_k 1 1)) := rfl
theorem pt_42_28 (w : qS) : gP w 42 28 = some (.inl (qo_g 32)) := rfl
theorem pt_42_31 (w : qS) : gP w 42 31 = some (.inl (qo_k 0 1)) := rfl
theorem pt_42_32 (w : qS) : gP w 42 32 = some (.inl (qo_is 3 1)) := rfl
theorem pt_42_33 (w : qS) : gP w 42 33 = some (.inl (qo_il 3 1)) := rfl
theorem pt_42_34 (w : qS) : gP w 42 34 = some (.inl (qo_z (fun x => ¬ x = 0) 50)) := rfl
theorem pt_42_37 (w : qS) : gP w 42 37 = some (.inl (qo_al 0 1)) := rfl
theorem pt_42_38 (w : qS) : gP w 42 38 = some (.inl (qo_il 1 1)) := rfl
theorem pt_42_39 (w : qS) : gP w 42 39 = some (.inl (qo_k 0 1)) := rfl
theorem pt_42_40 (w : qS) : gP w 42 40 = some (.inr (.inl (43, 3, some 1))) := rfl
theorem pt_42_43 (w : qS) : gP w 42 43 = some (.inl (qo_z (fun x => x ≤ 0) 50)) := rfl
theorem pt_42_46 (w : qS) : gP w 42 46 = some (.inl (qo_k (iN 2) 1)) := rfl
theorem pt_42_47 (w : qS) : gP w 42 47 = some (.inl (qo_g 51)) := rfl
theorem pt_42_50 (w : qS) : gP w 42 50 = some (.inl (qo_k (-1) 1)) := rfl
theorem pt_42_51 (w : qS) : gP w 42 51 = some (.inr (.inr 1)) := rfl
theorem pt_43_0 (w : qS) : gP w 43 0 = some (.inl (qo_k 0 1)) := rfl
theorem pt_43_1 (w : qS) : gP w 43 1 = some (.inl (qo_is 3 1)) := rfl
theorem pt_43_2 (w : qS) : gP w 43 2 = some (.inl (qo_k 0 1)) := rfl
theorem pt_43_3 (w : qS) : gP w 43 3 = some (.inl (qo_is 4 2)) := rfl
theorem pt_43_5 (w : qS) : gP w 43 5 = some (.inl (qo_il 4 2)) := rfl
theorem pt_43_7 (w : qS) : gP w 43 7 = some (.inl (qo_al 0 1)) := rfl
theorem pt_43_8 (w : qS) : gP w 43 8 = some (.inl (qo_get (gL w) 1 0)) := rfl
theorem pt_43_11 (w : qS) : gP w 43 11 = some (.inl (qo_get (gL w) 2 6)) := rfl
theorem pt_43_14 (w : qS) : gP w 43 14 = some (.inl (qo_c (fun x y => y ≤ x) 51)) := rfl
theorem pt_43_17 (w : qS) : gP w 43 17 = some (.inl (qo_al 0 1)) := rfl
theorem pt_43_18 (w : qS) : gP w 43 18 = some (.inl (qo_get (gL w) 1 1)) := rfl
theorem pt_43_21 (w : qS) : gP w 43 21 = some (.inl (qo_il 4 2)) := rfl
theorem pt_43_23 (w : qS) : gP w 43 23 = some (.inl (qo_ia (gL w))) := rfl
theorem pt_43_24 (w : qS) : gP w 43 24 = some (.inl (qo_il 1 1)) := rfl
theorem pt_43_25 (w : qS) : gP w 43 25 = some (.inl (qo_c (fun x y => ¬ x = y) 45)) := rfl
theorem pt_43_28 (w : qS) : gP w 43 28 = some (.inl (qo_al 0 1)) := rfl
theorem pt_43_29 (w : qS) : gP w 43 29 = some (.inl (qo_get (gL w) 1 0)) := rfl
theorem pt_43_32 (w : qS) : gP w 43 32 = some (.inl (qo_get (gL w) 2 0)) := rfl
theorem pt_43_35 (w : qS) : gP w 43 35 = some (.inl (qo_il 4 2)) := rfl
theorem pt_43_37 (w : qS) : gP w 43 37 = some (.inl (qo_ia (gL w))) := rfl
theorem pt_43_38 (w : qS) : gP w 43 38 = some (.inl (qo_il 2 1)) := rfl
theorem pt_43_39 (w : qS) : gP w 43 39 = some (.inl (qo_c (fun x y => ¬ x = y) 45)) := rfl
theorem pt_43_42 (w : qS) : gP w 43 42 = some (.inl (qo_inc 3 1)) := rfl
theorem pt_43_45 (w : qS) : gP w 43 45 = some (.inl (qo_inc 4 1)) := rfl
theorem pt_43_48 (w : qS) : gP w 43 48 = some (.inl (qo_g 5)) := rfl
theorem pt_43_51 (w : qS) : gP w 43 51 = some (.inl (qo_il 3 1)) := rfl
theorem pt_43_52 (w : qS) : gP w 43 52 = some (.inr (.inr 1)) := rfl
theorem pt_44_0 (w : qS) : gP w 44 0 = some (.inl (qo_k 0 1)) := rfl
theorem pt_44_1 (w : qS) : gP w 44 1 = some (.inl (qo_is 4 2)) := rfl
theorem pt_44_3 (w : qS) : gP w 44 3 = some (.inl (qo_il 4 2)) := rfl
theorem pt_44_5 (w : qS) : gP w 44 5 = some (.inl (qo_k (iN 2) 1)) := rfl
theorem pt_44_6 (w : qS) : gP w 44 6 = some (.inl (qo_c (fun x y => y ≤ x) 71)) := rfl
theorem pt_44_9 (w : qS) : gP w 44 9 = some (.inl (qo_il 4 2)) := rfl
theorem pt_44_11 (w : qS) : gP w 44 11 = some (.inl (qo_k (iN 120) 2)) := rfl
theorem pt_44_13 (w : qS) : gP w 44 13 = some (.inl (qo_b (fun x y => x * y))) := rfl
theorem pt_44_14 (w : qS) : gP w 44 14 = some (.inl (qo_il 1 1)) := rfl
theorem pt_44_15 (w : qS) : gP w 44 15 = some (.inl (qo_b (fun x y => x + y))) := rfl
theorem pt_44_16 (w : qS) : gP w 44 16 = some (.inl (qo_is 5 2)) := rfl
theorem pt_44_18 (w : qS) : gP w 44 18 = some (.inl (qo_il 2 1)) := rfl
theorem pt_44_19 (w : qS) : gP w 44 19 = some (.inl (qo_il 4 2)) := rfl
theorem pt_44_21 (w : qS) : gP w 44 21 = some (.inl (qo_b (fun x y => x >>> (y &&& 31)))) := rfl
theorem pt_44_22 (w : qS) : gP w 44 22 = some (.inl (qo_k 1 1)) := rfl
theorem pt_44_23 (w : qS) : gP w 44 23 = some (.inl (qo_b (fun x y => x &&& y))) := rfl
theorem pt_44_24 (w : qS) : gP w 44 24 = some (.inl (qo_z (fun x => x = 0) 31)) := rfl
theorem pt_44_27 (w : qS) : gP w 44 27 = some (.inl (qo_k 1 1)) := rfl
theorem pt_44_28 (w : qS) : gP w 44 28 = some (.inl (qo_g 32)) := rfl
theorem pt_44_31 (w : qS) : gP w 44 31 = some (.inl (qo_k 0 1)) := rfl
theorem pt_44_32 (w : qS) : gP w 44 32 = some (.inl (qo_is 6 2)) := rfl
theorem pt_44_34 (w : qS) : gP w 44 34 = some (.inl (qo_il 6 2)) := rfl
theorem pt_44_36 (w : qS) : gP w 44 36 = some (.inl (qo_z (fun x => x = 0) 65)) := rfl
theorem pt_44_39 (w : qS) : gP w 44 39 = some (.inl (qo_al 0 1)) := rfl
theorem pt_44_40 (w : qS) : gP w 44 40 = some (.inl (qo_get (gL w) 1 0)) := rfl
theorem pt_44_43 (w : qS) : gP w 44 43 = some (.inl (qo_get (gL w) 2 5)) := rfl
theorem pt_44_46 (w : qS) : gP w 44 46 = some (.inl (qo_il 5 2)) := rfl
theorem pt_44_48 (w : qS) : gP w 44 48 = some (.inl (qo_ia (gL w))) := rfl
theorem pt_44_49 (w : qS) : gP w 44 49 = some (.inl (qo_k (-1) 1)) := rfl
theorem pt_44_50 (w : qS) : gP w 44 50 = some (.inl (qo_c (fun x y => ¬ x = y) 63)) := rfl
theorem pt_44_53 (w : qS) : gP w 44 53 = some (.inl (qo_al 0 1)) := rfl
theorem pt_44_54 (w : qS) : gP w 44 54 = some (.inl (qo_il 5 2)) := rfl
theorem pt_44_56 (w : qS) : gP w 44 56 = some (.inl (qo_il 3 1)) := rfl
theorem pt_44_57 (w : qS) : gP w 44 57 = some (.inr (.inl (36, 3, some 1))) := rfl
theorem pt_44_60 (w : qS) : gP w 44 60 = some (.inl (qo_z (fun x => ¬ x = 0) 65)) := rfl
theorem pt_44_63 (w : qS) : gP w 44 63 = some (.inl (qo_k 0 1)) := rfl
theorem pt_44_64 (w : qS) : gP w 44 64 = some (.inr (.inr 2)) := rfl
theorem pt_44_65 (w : qS) : gP w 44 65 = some (.inl (qo_inc 4 1)) := rfl
theorem pt_44_68 (w : qS) : gP w 44 68 = some (.inl (qo_g 3)) := rfl
theorem pt_44_71 (w : qS) : gP w 44 71 = some (.inl (qo_k 1 1)) := rfl
theorem pt_44_72 (w : qS) : gP w 44 72 = some (.inr (.inr 2)) := rfl
theorem pt_45_0 (w : qS) : gP w 45 0 = some (.inl (qo_al 0 1)) := rfl
theorem pt_45_1 (w : qS) : gP w 45 1 = some (.inl (qo_get (gL w) 1 0)) := rfl
theorem pt_45_4 (w : qS) : gP w 45 4 = some (.inl (qo_get (gL w) 2 3)) := rfl
theorem pt_45_7 (w : qS) : gP w 45 7 = some (.inl (qo_il 1 1)) := rfl
theorem pt_45_8 (w : qS) : gP w 45 8 = some (.inl (qo_il 2 1)) := rfl
theorem pt_45_9 (w : qS) : gP w 45 9 = some (.inl (qo_ias (gL w))) := rfl
theorem pt_45_10 (w : qS) : gP w 45 10 = some (.inl (qo_al 0 1)) := rfl
theorem pt_45_11 (w : qS) : gP w 45 11 = some (.inl (qo_get (gL w) 1 0)) := rfl
theorem pt_45_14 (w : qS) : gP w 45 14 = some (.inl (qo_get (gL w) 2 4)) := rfl
theorem pt_45_17 (w : qS) : gP w 45 17 = some (.inl (qo_il 1 1)) := rfl
theorem pt_45_18 (w : qS) : gP w 45 18 = some (.inl (qo_il 3 1)) := rfl
theorem pt_45_19 (w : qS) : gP w 45 19 = some (.inl (qo_ias (gL w))) := rfl
theorem pt_45_20 (w : qS) : gP w 45 20 = some (.inl (qo_al 0 1)) := rfl
theorem pt_45_21 (w : qS) : gP w 45 21 = some (.inl (qo_il 1 1)) := rfl
theorem pt_45_22 (w : qS) : gP w 45 22 = some (.inl (qo_il 1 1)) := rfl
theorem pt_45_23 (w : qS) : gP w 45 23 = some (.inr (.inl (47, 3, some 1))) := rfl
theorem pt_45_26 (w : qS) : gP w 45 26 = some (.inr (.inr 0)) := rfl
theorem pt_46_0 (w : qS) : gP w 46 0 = some (.inl (qo_al 0 1)) := rfl
theorem pt_46_1 (w : qS) : gP w 46 1 = some (.inl (qo_il 1 1)) := rfl
theorem pt_46_2 (w : qS) : gP w 46 2 = some (.inl (qo_k (-1) 1)) := rfl
theorem pt_46_3 (w : qS) : gP w 46 3 = some (.inr (.inl (47, 3, some 1))) := rfl
theorem pt_46_6 (w : qS) : gP w 46 6 = some (.inl (qo_al 0 1)) := rfl
theorem pt_46_7 (w : qS) : gP w 46 7 = some (.inl (qo_get (gL w) 1 0)) := rfl
theorem pt_46_10 (w : qS) : gP w 46 10 = some (.inl (qo_get (gL w) 2 3)) := rfl
theorem pt_46_13 (w : qS) : gP w 46 13 = some (.inl (qo_il 1 1)) := rfl
theorem pt_46_14 (w : qS) : gP w 46 14 = some (.inl (qo_k 0 1)) := rfl
theorem pt_46_15 (w : qS) : gP w 46 15 = some (.inl (qo_ias (gL w))) := rfl
theorem pt_46_16 (w : qS) : gP w 46 16 = some (.inl (qo_al 0 1)) := rfl
theorem pt_46_17 (w : qS) : gP w 46 17 = some (.inl (qo_get (gL w) 1 0)) := rfl
theorem pt_46_20 (w : qS) : gP w 46 20 = some (.inl (qo_get (gL w) 2 4)) := rfl
theorem pt_46_23 (w : qS) : gP w 46 23 = some (.inl (qo_il 1 1)) := rfl
theorem pt_46_24 (w : qS) : gP w 46 24 = some (.inl (qo_k 0 1)) := rfl
theorem pt_46_25 (w : qS) : gP w 46 25 = some (.inl (qo_ias (gL w))) := rfl
theorem pt_46_26 (w : qS) : gP w 46 26 = some (.inr (.inr 0)) := rfl
theorem pt_47_0 (w : qS) : gP w 47 0 = some (.inl (qo_k 0 1)) := rfl
theorem pt_47_1 (w : qS) : gP w 47 1 = some (.inl (qo_is 3 1)) := rfl
theorem pt_47_2 (w : qS) : gP w 47 2 = some (.inl (qo_il 3 1)) := rfl
theorem pt_47_3 (w : qS) : gP w 47 3 = some (.inl (qo_k (iN 2) 1)) := rfl
theorem pt_47_4 (w : qS) : gP w 47 4 = some (.inl (qo_c (fun x y => y ≤ x) 52)) := rfl
theorem pt_47_7 (w : qS) : gP w 47 7 = some (.inl (qo_al 0 1)) := rfl
theorem pt_47_8 (w : qS) : gP w 47 8 = some (.inl (qo_get (gL w) 1 0)) := rfl
theorem pt_47_11 (w : qS) : gP w 47 11 = some (.inl (qo_get (gL w) 2 4)) := rfl
theorem pt_47_14 (w : qS) : gP w 47 14 = some (.inl (qo_il 1 1)) := rfl
theorem pt_47_15 (w : qS) : gP w 47 15 = some (.inl (qo_ia (gL w))) := rfl
theorem pt_47_16 (w : qS) : gP w 47 16 = some (.inl (qo_il 3 1)) := rfl
theorem pt_47_17 (w : qS) : gP w 47 17 = some (.inl (qo_b (fun x y => x >>> (y &&& 31)))) := rfl
theorem pt_47_18 (w : qS) : gP w 47 18 = some (.inl (qo_k 1 1)) := rfl
theorem pt_47_19 (w : qS) : gP w 47 19 = some (.inl (qo_b (fun x y => x &&& y))) := rfl
theorem pt_47_20 (w : qS) : gP w 47 20 = some (.inl (qo_z (fun x => x = 0) 46)) := rfl
theorem pt_47_23 (w : qS) : gP w 47 23 = some (.inl (qo_al 0 1)) := rfl
theorem pt_47_24 (w : qS) : gP w 47 24 = some (.inl (qo_get (gL w) 1 0)) := rfl
theorem pt_47_27 (w : qS) : gP w 47 27 = some (.inl (qo_get (gL w) 2 5)) := rfl
theorem pt_47_30 (w : qS) : gP w 47 30 = some (.inl (qo_il 3 1)) := rfl
theorem pt_47_31 (w : qS) : gP w 47 31 = some (.inl (qo_k (iN 120) 2)) := rfl
theorem pt_47_33 (w : qS) : gP w 47 33 = some (.inl (qo_b (fun x y => x * y))) := rfl
theorem pt_47_34 (w : qS) : gP w 47 34 = some (.inl (qo_al 0 1)) := rfl
theorem pt_47_35 (w : qS) : gP w 47 35 = some (.inl (qo_get (gL w) 1 0)) := rfl
theorem pt_47_38 (w : qS) : gP w 47 38 = some (.inl (qo_get (gL w) 2 3)) := rfl
theorem pt_47_41 (w : qS) : gP w 47 41 = some (.inl (qo_il 1 1)) := rfl
theorem pt_47_42 (w : qS) : gP w 47 42 = some (.inl (qo_ia (gL w))) := rfl
theorem pt_47_43 (w : qS) : gP w 47 43 = some (.inl (qo_b (fun x y => x + y))) := rfl
theorem pt_47_44 (w : qS) : gP w 47 44 = some (.inl (qo_il 2 1)) := rfl
theorem pt_47_45 (w : qS) : gP w 47 45 = some (.inl (qo_ias (gL w))) := rfl
theorem pt_47_46 (w : qS) : gP w 47 46 = some (.inl (qo_inc 3 1)) := rfl
theorem pt_47_49 (w : qS) : gP w 47 49 = some (.inl (qo_g 2)) := rfl
theorem pt_47_52 (w : qS) : gP w 47 52 = some (.inr (.inr 0)) := rfl
theorem pt_48_0 (w : qS) : gP w 48 0 = some (.inl (qo_il 2 1)) := rfl
theorem pt_48_1 (w : qS) : gP w 48 1 = some (.inl (qo_is 5 2)) := rfl
theorem pt_48_3 (w : qS) : gP w 48 3 = some (.inl (qo_k 0 1)) := rfl
theorem pt_48_4 (w : qS) : gP w 48 4 = some (.inl (qo_is 6 2)) := rfl
theorem pt_48_6 (w : qS) : gP w 48 6 = some (.inl (qo_il 6 2)) := rfl
theorem pt_48_8 (w : qS) : gP w 48 8 = some (.inl (qo_il 4 2)) := rfl
theorem pt_48_10 (w : qS) : gP w 48 10 = some (.inl (qo_c (fun x y => y < x) 45)) := rfl
theorem pt_48_13 (w : qS) : gP w 48 13 = some (.inl (qo_il 5 2)) := rfl
theorem pt_48_15 (w : qS) : gP w 48 15 = some (.inl (qo_k (-1) 1)) := rfl
theorem pt_48_16 (w : qS) : gP w 48 16 = some (.inl (qo_c (fun x y => x = y) 29)) := rfl
theorem pt_48_19 (w : qS) : gP w 48 19 = some (.inl (qo_al 0 1)) := rfl
theorem pt_48_20 (w : qS) : gP w 48 20 = some (.inl (qo_il 5 2)) := rfl
theorem pt_48_22 (w : qS) : gP w 48 22 = some (.inl (qo_il 1 1)) := rfl
theorem pt_48_23 (w : qS) : gP w 48 23 = some (.inr (.inl (36, 3, some 1))) := rfl
theorem pt_48_26 (w : qS) : gP w 48 26 = some (.inl (qo_z (fun x => ¬ x = 0) 31)) := rfl
theorem pt_48_29 (w : qS) : gP w 48 29 = some (.inl (qo_k 0 1)) := rfl
theorem pt_48_30 (w : qS) : gP w 48 30 = some (.inr (.inr 2)) := rfl
theorem pt_48_31 (w : qS) : gP w 48 31 = some (.inl (qo_il 5 2)) := rfl
theorem pt_48_33 (w : qS) : gP w 48 33 = some (.inl (qo_il 3 1)) := rfl
theorem pt_48_34 (w : qS) : gP w 48 34 = some (.inr (.inl (28, 2, none))) := rfl
theorem pt_48_37 (w : qS) : gP w 48 37 = some (.inl (qo_is 5 2)) := rfl
theorem pt_48_39 (w : qS) : gP w 48 39 = some (.inl (qo_inc 6 1)) := rfl
theorem pt_48_42 (w : qS) : gP w 48 42 = some (.inl (qo_g 6)) := rfl
theorem pt_48_45 (w : qS) : gP w 48 45 = some (.inl (qo_k 1 1)) := rfl
theorem pt_48_46 (w : qS) : gP w 48 46 = some (.inr (.inr 2)) := rfl
theorem pt_49_0 (w : qS) : gP w 49 0 = some (.inl (qo_k 0 1)) := rfl
theorem pt_49_1 (w : qS) : gP w 49 1 = some (.inl (qo_is 5 2)) := rfl
theorem pt_49_3 (w : qS) : gP w 49 3 = some (.inl (qo_il 2 1)) := rfl
theorem pt_49_4 (w : qS) : gP w 49 4 = some (.inl (qo_is 6 2)) := rfl
theorem pt_49_6 (w : qS) : gP w 49 6 = some (.inl (qo_k 0 1)) := rfl
theorem pt_49_7 (w : qS) : gP w 49 7 = some (.inl (qo_is 7 2)) := rfl
theorem pt_49_9 (w : qS) : gP w 49 9 = some (.inl (qo_il 7 2)) := rfl
theorem pt_49_11 (w : qS) : gP w 49 11 = some (.inl (qo_il 4 2)) := rfl
theorem pt_49_13 (w : qS) : gP w 49 13 = some (.inl (qo_c (fun x y => y < x) 60)) := rfl
theorem pt_49_16 (w : qS) : gP w 49 16 = some (.inl (qo_il 6 2)) := rfl
theorem pt_49_18 (w : qS) : gP w 49 18 = some (.inl (qo_k (-1) 1)) := rfl
theorem pt_49_19 (w : qS) : gP w 49 19 = some (.inl (qo_c (fun x y => x = y) 60)) := rfl
theorem pt_49_22 (w : qS) : gP w 49 22 = some (.inl (qo_al 0 1)) := rfl
theorem pt_49_23 (w : qS) : gP w 49 23 = some (.inl (qo_get (gL w) 1 0)) := rfl
theorem pt_49_26 (w : qS) : gP w 49 26 = some (.inl (qo_get (gL w) 2 5)) := rfl
theorem pt_49_29 (w : qS) : gP w 49 29 = some (.inl (qo_il 6 2)) := rfl
theorem pt_49_31 (w : qS) : gP w 49 31 = some (.inl (qo_ia (gL w))) := rfl
theorem pt_49_32 (w : qS) : gP w 49 32 = some (.inl (qo_k (-1) 1)) := rfl
theorem pt_49_33 (w : qS) : gP w 49 33 = some (.inl (qo_c (fun x y => ¬ x = y) 39)) := rfl
theorem pt_49_36 (w : qS) : gP w 49 36 = some (.inl (qo_inc 5 1)) := rfl
theorem pt_49_39 (w : qS) : gP w 49 39 = some (.inl (qo_al 0 1)) := rfl
theorem pt_49_40 (w : qS) : gP w 49 40 = some (.inl (qo_il 6 2)) := rfl
theorem pt_49_42 (w : qS) : gP w 49 42 = some (.inl (qo_il 1 1)) := rfl
theorem pt_49_43 (w : qS) : gP w 49 43 = some (.inr (.inl (50, 3, some 1))) := rfl
theorem pt_49_46 (w : qS) : gP w 49 46 = some (.inl (qo_il 6 2)) := rfl
theorem pt_49_48 (w : qS) : gP w 49 48 = some (.inl (qo_il 3 1)) := rfl
theorem pt_49_49 (w : qS) : gP w 49 49 = some (.inr (.inl (28, 2, none))) := rfl
theorem pt_49_52 (w : qS) : gP w 49 52 = some (.inl (qo_is 6 2)) := rfl
theorem pt_49_54 (w : qS) : gP w 49 54 = some (.inl (qo_inc 7 1)) := rfl
theorem pt_49_57 (w : qS) : gP w 49 57 = some (.inl (qo_g 9)) := rfl
theorem pt_49_60 (w : qS) : gP w 49 60 = some (.inl (qo_il 5 2)) := rfl
theorem pt_49_62 (w : qS) : gP w 49 62 = some (.inr (.inr 1)) := rfl
theorem pt_50_0 (w : qS) : gP w 50 0 = some (.inl (qo_al 0 1)) := rfl
theorem pt_50_1 (w : qS) : gP w 50 1 = some (.inl (qo_get (gL w) 1 0)) := rfl
theorem pt_50_4 (w : qS) : gP w 50 4 = some (.inl (qo_get (gL w) 2 5)) := rfl
theorem pt_50_7 (w : qS) : gP w 50 7 = some (.inl (qo_il 1 1)) := rfl
theorem pt_50_8 (w : qS) : gP w 50 8 = some (.inl (qo_ia (gL w))) := rfl
theorem pt_50_9 (w : qS) : gP w 50 9 = some (.inl (qo_k (-1) 1)) := rfl
theorem pt_50_10 (w : qS) : gP w 50 10 = some (.inl (qo_c (fun x y => x = y) 21)) := rfl
theorem pt_50_13 (w : qS) : gP w 50 13 = some (.inl (qo_al 0 1)) := rfl
theorem pt_50_14 (w : qS) : gP w 50 14 = some (.inl (qo_il 1 1)) := rfl
theorem pt_50_15 (w : qS) : gP w 50 15 = some (.inr (.inl (34, 2, some 1))) := rfl
theorem pt_50_18 (w : qS) : gP w 50 18 = some (.inl (qo_z (fun x => x = 0) 31)) := rfl
theorem pt_50_21 (w : qS) : gP w 50 21 = some (.inl (qo_al 0 1)) := rfl
theorem pt_50_22 (w : qS) : gP w 50 22 = some (.inl (qo_get (gL w) 1 0)) := rfl
theorem pt_50_25 (w : qS) : gP w 50 25 = some (.inl (qo_get (gL w) 2 5)) := rfl
theorem pt_50_28 (w : qS) : gP w 50 28 = some (.inl (qo_il 1 1)) := rfl
theorem pt_50_29 (w : qS) : gP w 50 29 = some (.inl (qo_il 2 1)) := rfl
theorem pt_50_30 (w : qS) : gP w 50 30 = some (.inl (qo_ias (gL w))) := rfl
theorem pt_50_31 (w : qS) : gP w 50 31 = some (.inr (.inr 0)) := rfl
theorem pt_51_0 (w : qS) : gP w 51 0 = some (.inl (qo_k 0 1)) := rfl
theorem pt_51_1 (w : qS) : gP w 51 1 = some (.inl (qo_is 2 1)) := rfl
theorem pt_51_2 (w : qS) : gP w 51 2 = some (.inl (qo_k 0 1)) := rfl
theorem pt_51_3 (w : qS) : gP w 51 3 = some (.inl (qo_is 3 1)) := rfl
theorem pt_51_4 (w : qS) : gP w 51 4 = some (.inl (qo_il 3 1)) := rfl
theorem pt_51_5 (w : qS) : gP w 51 5 = some (.inl (qo_k (iN 240) 3)) := rfl
theorem pt_51_8 (w : qS) : gP w 51 8 = some (.inl (qo_c (fun x y => y ≤ x) 47)) := rfl
theorem pt_51_11 (w : qS) : gP w 51 11 = some (.inl (qo_al 0 1)) := rfl
theorem pt_51_12 (w : qS) : gP w 51 12 = some (.inl (qo_il 3 1)) := rfl
theorem pt_51_13 (w : qS) : gP w 51 13 = some (.inr (.inl (34, 2, some 1))) := rfl
theorem pt_51_16 (w : qS) : gP w 51 16 = some (.inl (qo_z (fun x => x = 0) 41)) := rfl
theorem pt_51_19 (w : qS) : gP w 51 19 = some (.inl (qo_al 0 1)) := rfl
theorem pt_51_20 (w : qS) : gP w 51 20 = some (.inl (qo_il 3 1)) := rfl
theorem pt_51_21 (w : qS) : gP w 51 21 = some (.inr (.inl (32, 2, some 1))) := rfl
theorem pt_51_24 (w : qS) : gP w 51 24 = some (.inl (qo_il 1 1)) := rfl
theorem pt_51_25 (w : qS) : gP w 51 25 = some (.inl (qo_c (fun x y => ¬ x = y) 41)) := rfl
theorem pt_51_28 (w : qS) : gP w 51 28 = some (.inl (qo_al 0 1)) := rfl
theorem pt_51_29 (w : qS) : gP w 51 29 = some (.inl (qo_get (gL w) 1 0)) := rfl
theorem pt_51_32 (w : qS) : gP w 51 32 = some (.inl (qo_get (gL w) 2 5)) := rfl
theorem pt_51_35 (w : qS) : gP w 51 35 = some (.inl (qo_il 3 1)) := rfl
theorem pt_51_36 (w : qS) : gP w 51 36 = some (.inl (qo_k (-1) 1)) := rfl
theorem pt_51_37 (w : qS) : gP w 51 37 = some (.inl (qo_ias (gL w))) := rfl
theorem pt_51_38 (w : qS) : gP w 51 38 = some (.inl (qo_inc 2 1)) := rfl
theorem pt_51_41 (w : qS) : gP w 51 41 = some (.inl (qo_inc 3 1)) := rfl
theorem pt_51_44 (w : qS) : gP w 51 44 = some (.inl (qo_g 4)) := rfl
theorem pt_51_47 (w : qS) : gP w 51 47 = some (.inl (qo_il 2 1)) := rfl
theorem pt_51_48 (w : qS) : gP w 51 48 = some (.inr (.inr 1)) := rfl
theorem pt_52_0 (w : qS) : gP w 52 0 = some (.inl (qo_k 0 1)) := rfl
theorem pt_52_1 (w : qS) : gP w 52 1 = some (.inl (qo_is 2 1)) := rfl
theorem pt_52_2 (w : qS) : gP w 52 2 = some (.inl (qo_k (iN 12) 2)) := rfl
theorem pt_52_4 (w : qS) : gP w 52 4 = some (.inl (qo_is 3 1)) := rfl
theorem pt_52_5 (w : qS) : gP w 52 5 = some (.inl (qo_k 0 1)) := rfl
theorem pt_52_6 (w : qS) : gP w 52 6 = some (.inl (qo_is 4 2)) := rfl
theorem pt_52_8 (w : qS) : gP w 52 8 = some (.inl (qo_k (iN 10) 2)) := rfl
theorem pt_52_10 (w : qS) : gP w 52 10 = some (.inl (qo_is 5 2)) := rfl
theorem pt_52_12 (w : qS) : gP w 52 12 = some (.inl (qo_k 0 1)) := rfl
theorem pt_52_13 (w : qS) : gP w 52 13 = some (.inl (qo_is 6 2)) := rfl
theorem pt_52_15 (w : qS) : gP w 52 15 = some (.inl (qo_k 0 1)) := rfl
theorem pt_52_16 (w : qS) : gP w 52 16 = some (.inl (qo_is 7 2)) := rfl
theorem pt_52_18 (w : qS) : gP w 52 18 = some (.inl (qo_il 7 2)) := rfl
theorem pt_52_20 (w : qS) : gP w 52 20 = some (.inl (qo_al 0 1)) := rfl
theorem pt_52_21 (w : qS) : gP w 52 21 = some (.inl (qo_get (gL w) 1 0)) := rfl
theorem pt_52_24 (w : qS) : gP w 52 24 = some (.inl (qo_get (gL w) 2 6)) := rfl
theorem pt_52_27 (w : qS) : gP w 52 27 = some (.inl (qo_c (fun x y => y ≤ x) 140)) := rfl
theorem pt_52_30 (w : qS) : gP w 52 30 = some (.inl (qo_al 0 1)) := rfl
theorem pt_52_31 (w : qS) : gP w 52 31 = some (.inl (qo_get (gL w) 1 1)) := rfl
theorem pt_52_34 (w : qS) : gP w 52 34 = some (.inl (qo_il 7 2)) := rfl
theorem pt_52_36 (w : qS) : gP w 52 36 = some (.inl (qo_ia (gL w))) := rfl
theorem pt_52_37 (w : qS) : gP w 52 37 = some (.inl (qo_il 1 1)) := rfl
theorem pt_52_38 (w : qS) : gP w 52 38 = some (.inl (qo_c (fun x y => ¬ x = y) 134)) := rfl
theorem pt_52_41 (w : qS) : gP w 52 41 = some (.inl (qo_al 0 1)) := rfl
theorem pt_52_42 (w : qS) : gP w 52 42 = some (.inl (qo_il 7 2)) := rfl
theorem pt_52_44 (w : qS) : gP w 52 44 = some (.inr (.inl (30, 2, some 1))) := rfl
theorem pt_52_47 (w : qS) : gP w 52 47 = some (.inl (qo_z (fun x => ¬ x = 0) 53)) := rfl
theorem pt_52_50 (w : qS) : gP w 52 50 = some (.inl (qo_g 134)) := rfl
theorem pt_52_53 (w : qS) : gP w 52 53 = some (.inl (qo_inc 2 1)) := rfl
theorem pt_52_56 (w : qS) : gP w 52 56 = some (.inl (qo_il 3 1)) := rfl
theorem pt_52_57 (w : qS) : gP w 52 57 = some (.inl (qo_al 0 1)) := rfl
theorem pt_52_58 (w : qS) : gP w 52 58 = some (.inl (qo_get (gL w) 1 0)) := rfl
theorem pt_52_61 (w : qS) : gP w 52 61 = some (.inl (qo_get (gL w) 2 3)) := rfl
theorem pt_52_64 (w : qS) : gP w 52 64 = some (.inl (qo_il 7 2)) := rfl
theorem pt_52_66 (w : qS) : gP w 52 66 = some (.inl (qo_ia (gL w))) := rfl
theorem pt_52_67 (w : qS) : gP w 52 67 = some (.inr (.inl (26, 1, none))) := rfl
theorem pt_52_70 (w : qS) : gP w 52 70 = some (.inl qo_mn) := rfl
theorem pt_52_73 (w : qS) : gP w 52 73 = some (.inl (qo_is 3 1)) := rfl
theorem pt_52_74 (w : qS) : gP w 52 74 = some (.inl (qo_il 4 2)) := rfl
theorem pt_52_76 (w : qS) : gP w 52 76 = some (.inl (qo_al 0 1)) := rfl
theorem pt_52_77 (w : qS) : gP w 52 77 = some (.inl (qo_get (gL w) 1 0)) := rfl
theorem pt_52_80 (w : qS) : gP w 52 80 = some (.inl (qo_get (gL w) 2 3)) := rfl
theorem pt_52_83 (w : qS) : gP w 52 83 = some (.inl (qo_il 7 2)) := rfl
theorem pt_52_85 (w : qS) : gP w 52 85 = some (.inl (qo_ia (gL w))) := rfl
theorem pt_52_86 (w : qS) : gP w 52 86 = some (.inr (.inl (26, 1, none))) := rfl
theorem pt_52_89 (w : qS) : gP w 52 89 = some (.inl qo_mx) := rfl
theorem pt_52_92 (w : qS) : gP w 52 92 = some (.inl (qo_is 4 2)) := rfl
theorem pt_52_94 (w : qS) : gP w 52 94 = some (.inl (qo_il 5 2)) := rfl
theorem pt_52_96 (w : qS) : gP w 52 96 = some (.inl (qo_al 0 1)) := rfl
theorem pt_52_97 (w : qS) : gP w 52 97 = some (.inl (qo_get (gL w) 1 0)) := rfl
theorem pt_52_100 (w : qS) : gP w 52 100 = some (.inl (qo_get (gL w) 2 3)) := rfl
theorem pt_52_103 (w : qS) : gP w 52 103 = some (.inl (qo_il 7 2)) := rfl
theorem pt_52_105 (w : qS) : gP w 52 105 = some (.inl (qo_ia (gL w))) := rfl
theorem pt_52_106 (w : qS) : gP w 52 106 = some (.inr (.inl (25, 1, none))) := rfl
theorem pt_52_109 (w : qS) : gP w 52 109 = some (.inl qo_mn) := rfl
theorem pt_52_112 (w : qS) : gP w 52 112 = some (.inl (qo_is 5 2)) := rfl
theorem pt_52_114 (w : qS) : gP w 52 114 = some (.inl (qo_il 6 2)) := rfl
theorem pt_52_116 (w : qS) : gP w 52 116 = some (.inl (qo_al 0 1)) := rfl
theorem pt_52_117 (w : qS) : gP w 52 117 = some (.inl (qo_get (gL w) 1 0)) := rfl
theorem pt_52_120 (w : qS) : gP w 52 120 = some (.inl (qo_get (gL w) 2 3)) := rfl
theorem pt_52_123 (w : qS) : gP w 52 123 = some (.inl (qo_il 7 2)) := rfl
theorem pt_52_125 (w : qS) : gP w 52 125 = some (.inl (qo_ia (gL w))) := rfl
theorem pt_52_126 (w : qS) : gP w 52 126 = some (.inr (.inl (25, 1, none))) := rfl
theorem pt_52_129 (w : qS) : gP w 52 129 = some (.inl qo_mx) := rfl
theorem pt_52_132 (w : qS) : gP w 52 132 = some (.inl (qo_is 6 2)) := rfl
theorem pt_52_134 (w : qS) : gP w 52 134 = some (.inl (qo_inc 7 1)) := rfl
theorem pt_52_137 (w : qS) : gP w 52 137 = some (.inl (qo_g 18)) := rfl
theorem pt_52_140 (w : qS) : gP w 52 140 = some (.inl (qo_il 2 1)) := rfl
theorem pt_52_141 (w : qS) : gP w 52 141 = some (.inl (qo_k (iN 2) 1)) := rfl
theorem pt_52_142 (w : qS) : gP w 52 142 = some (.inl (qo_c (fun x y => y ≤ x) 149)) := rfl
theorem pt_52_145 (w : qS) : gP w 52 145 = some (.inl (qo_k (-1) 1)) := rfl
theorem pt_52_146 (w : qS) : gP w 52 146 = some (.inl (qo_g 159)) := rfl
theorem pt_52_149 (w : qS) : gP w 52 149 = some (.inl (qo_il 4 2)) := rfl
theorem pt_52_151 (w : qS) : gP w 52 151 = some (.inl (qo_il 3 1)) := rfl
theorem pt_52_152 (w : qS) : gP w 52 152 = some (.inl (qo_b (fun x y => x - y))) := rfl
theorem pt_52_153 (w : qS) : gP w 52 153 = some (.inl (qo_il 6 2)) := rfl
theorem pt_52_155 (w : qS) : gP w 52 155 = some (.inl (qo_b (fun x y => x + y))) := rfl
theorem pt_52_156 (w : qS) : gP w 52 156 = some (.inl (qo_il 5 2)) := rfl
theorem pt_52_158 (w : qS) : gP w 52 158 = some (.inl (qo_b (fun x y => x - y))) := rfl
theorem pt_52_159 (w : qS) : gP w 52 159 = some (.inr (.inr 1)) := rfl
theorem pt_53_0 (w : qS) : gP w 53 0 = some (.inl (qo_al 2 1)) := rfl
theorem pt_53_1 (w : qS) : gP w 53 1 = some (.inl (qo_k (-1) 1)) := rfl
theorem pt_53_2 (w : qS) : gP w 53 2 = some (.inr (.inl (122, 2, none))) := rfl
theorem pt_53_5 (w : qS) : gP w 53 5 = some (.inl (qo_k 0 1)) := rfl
theorem pt_53_6 (w : qS) : gP w 53 6 = some (.inl (qo_is 3 1)) := rfl
theorem pt_53_7 (w : qS) : gP w 53 7 = some (.inl (qo_il 3 1)) := rfl
theorem pt_53_8 (w : qS) : gP w 53 8 = some (.inl (qo_k (iN 240) 3)) := rfl
theorem pt_53_11 (w : qS) : gP w 53 11 = some (.inl (qo_c (fun x y => y ≤ x) 36)) := rfl
theorem pt_53_14 (w : qS) : gP w 53 14 = some (.inl (qo_al 0 1)) := rfl
theorem pt_53_15 (w : qS) : gP w 53 15 = some (.inl (qo_il 3 1)) := rfl
theorem pt_53_16 (w : qS) : gP w 53 16 = some (.inr (.inl (32, 2, some 1))) := rfl
theorem pt_53_19 (w : qS) : gP w 53 19 = some (.inl (qo_il 1 1)) := rfl
theorem pt_53_20 (w : qS) : gP w 53 20 = some (.inl (qo_c (fun x y => ¬ x = y) 30)) := rfl
theorem pt_53_23 (w : qS) : gP w 53 23 = some (.inl (qo_al 0 1)) := rfl
theorem pt_53_24 (w : qS) : gP w 53 24 = some (.inl (qo_il 3 1)) := rfl
theorem pt_53_25 (w : qS) : gP w 53 25 = some (.inl (qo_il 1 1)) := rfl
theorem pt_53_26 (w : qS) : gP w 53 26 = some (.inl (qo_al 2 1)) := rfl
theorem pt_53_27 (w : qS) : gP w 53 27 = some (.inr (.inl (54, 4, some 1))) := rfl
theorem pt_53_30 (w : qS) : gP w 53 30 = some (.inl (qo_inc 3 1)) := rfl
theorem pt_53_33 (w : qS) : gP w 53 33 = some (.inl (qo_g 7)) := rfl
theorem pt_53_36 (w : qS) : gP w 53 36 = some (.inr (.inr 0)) := rfl
theorem pt_54_0 (w : qS) : gP w 54 0 = some (.inl (qo_al 0 1)) := rfl
theorem pt_54_1 (w : qS) : gP w 54 1 = some (.inl (qo_get (gL w) 1 0)) := rfl
theorem pt_54_4 (w : qS) : gP w 54 4 = some (.inl (qo_get (gL w) 2 8)) := rfl
theorem pt_54_7 (w : qS) : gP w 54 7 = some (.inl (qo_is 4 2)) := rfl
theorem pt_54_9 (w : qS) : gP w 54 9 = some (.inl (qo_il 4 2)) := rfl
theorem pt_54_11 (w : qS) : gP w 54 11 = some (.inl (qo_u (fun x => -x))) := rfl
theorem pt_54_12 (w : qS) : gP w 54 12 = some (.inl (qo_is 5 2)) := rfl
theorem pt_54_14 (w : qS) : gP w 54 14 = some (.inl (qo_il 5 2)) := rfl
theorem pt_54_16 (w : qS) : gP w 54 16 = some (.inl (qo_il 4 2)) := rfl
theorem pt_54_18 (w : qS) : gP w 54 18 = some (.inl (qo_c (fun x y => y < x) 92)) := rfl
theorem pt_54_21 (w : qS) : gP w 54 21 = some (.inl (qo_il 4 2)) := rfl
theorem pt_54_23 (w : qS) : gP w 54 23 = some (.inl (qo_u (fun x => -x))) := rfl
theorem pt_54_24 (w : qS) : gP w 54 24 = some (.inl (qo_is 6 2)) := rfl
theorem pt_54_26 (w : qS) : gP w 54 26 = some (.inl (qo_il 6 2)) := rfl
theorem pt_54_28 (w : qS) : gP w 54 28 = some (.inl (qo_il 4 2)) := rfl
theorem pt_54_30 (w : qS) : gP w 54 30 = some (.inl (qo_c (fun x y => y < x) 86)) := rfl
theorem pt_54_33 (w : qS) : gP w 54 33 = some (.inl (qo_il 1 1)) := rfl
theorem pt_54_34 (w : qS) : gP w 54 34 = some (.inl (qo_il 6 2)) := rfl
theorem pt_54_36 (w : qS) : gP w 54 36 = some (.inl (qo_il 5 2)) := rfl
theorem pt_54_38 (w : qS) : gP w 54 38 = some (.inr (.inl (27, 3, none))) := rfl
theorem pt_54_41 (w : qS) : gP w 54 41 = some (.inl (qo_is 7 2)) := rfl
theorem pt_54_43 (w : qS) : gP w 54 43 = some (.inl (qo_il 7 2)) := rfl
theorem pt_54_45 (w : qS) : gP w 54 45 = some (.inl (qo_k (-1) 1)) := rfl
theorem pt_54_46 (w : qS) : gP w 54 46 = some (.inl (qo_c (fun x y => ¬ x = y) 53)) := rfl
theorem pt_54_49 (w : qS) : gP w 54 49 = some (.inl (qo_k (-1) 1)) := rfl
theorem pt_54_50 (w : qS) : gP w 54 50 = some (.inl (qo_g 59)) := rfl
theorem pt_54_53 (w : qS) : gP w 54 53 = some (.inl (qo_al 0 1)) := rfl
theorem pt_54_54 (w : qS) : gP w 54 54 = some (.inl (qo_il 7 2)) := rfl
theorem pt_54_56 (w : qS) : gP w 54 56 = some (.inr (.inl (32, 2, some 1))) := rfl
theorem pt_54_59 (w : qS) : gP w 54 59 = some (.inl (qo_is 8 2)) := rfl
theorem pt_54_61 (w : qS) : gP w 54 61 = some (.inl (qo_il 8 2)) := rfl
theorem pt_54_63 (w : qS) : gP w 54 63 = some (.inl (qo_il 2 1)) := rfl
theorem pt_54_64 (w : qS) : gP w 54 64 = some (.inl (qo_c (fun x y => x ≤ y) 80)) := rfl
theorem pt_54_67 (w : qS) : gP w 54 67 = some (.inl (qo_al 3 1)) := rfl
theorem pt_54_68 (w : qS) : gP w 54 68 = some (.inl (qo_il 8 2)) := rfl
theorem pt_54_70 (w : qS) : gP w 54 70 = some (.inl (qo_ia (gL w))) := rfl
theorem pt_54_71 (w : qS) : gP w 54 71 = some (.inl (qo_k (-1) 1)) := rfl
theorem pt_54_72 (w : qS) : gP w 54 72 = some (.inl (qo_c (fun x y => ¬ x = y) 80)) := rfl
theorem pt_54_75 (w : qS) : gP w 54 75 = some (.inl (qo_al 3 1)) := rfl
theorem pt_54_76 (w : qS) : gP w 54 76 = some (.inl (qo_il 8 2)) := rfl
theorem pt_54_78 (w : qS) : gP w 54 78 = some (.inl (qo_il 1 1)) := rfl
theorem pt_54_79 (w : qS) : gP w 54 79 = some (.inl (qo_ias (gL w))) := rfl
theorem pt_54_80 (w : qS) : gP w 54 80 = some (.inl (qo_inc 6 1)) := rfl
theorem pt_54_83 (w : qS) : gP w 54 83 = some (.inl (qo_g 26)) := rfl
theorem pt_54_86 (w : qS) : gP w 54 86 = some (.inl (qo_inc 5 1)) := rfl
theorem pt_54_89 (w : qS) : gP w 54 89 = some (.inl (qo_g 14)) := rfl
theorem pt_54_92 (w : qS) : gP w 54 92 = some (.inr (.inr 0)) := rfl
theorem pt_55_0 (w : qS) : gP w 55 0 = some (.inl (qo_al 0 1)) := rfl
theorem pt_55_1 (w : qS) : gP w 55 1 = some (.inl (qo_il 1 1)) := rfl
theorem pt_55_2 (w : qS) : gP w 55 2 = some (.inr (.inl (32, 2, some 1))) := rfl
theorem pt_55_5 (w : qS) : gP w 55 5 = some (.inl (qo_is 2 1)) := rfl
theorem pt_55_6 (w : qS) : gP w 55 6 = some (.inl (qo_k (iN 12) 2)) := rfl
theorem pt_55_8 (w : qS) : gP w 55 8 = some (.inl (qo_il 1 1)) := rfl
theorem pt_55_9 (w : qS) : gP w 55 9 = some (.inr (.inl (26, 1, none))) := rfl
theorem pt_55_12 (w : qS) : gP w 55 12 = some (.inl (qo_b (fun x y => x - y))) := rfl
theorem pt_55_13 (w : qS) : gP w 55 13 = some (.inl (qo_is 3 1)) := rfl
theorem pt_55_14 (w : qS) : gP w 55 14 = some (.inl (qo_k 1 1)) := rfl
theorem pt_55_15 (w : qS) : gP w 55 15 = some (.inl (qo_is 4 2)) := rfl
theorem pt_55_17 (w : qS) : gP w 55 17 = some (.inl (qo_il 4 2)) := rfl
theorem pt_55_19 (w : qS) : gP w 55 19 = some (.inl (qo_il 3 1)) := rfl
theorem pt_55_20 (w : qS) : gP w 55 20 = some (.inl (qo_c (fun x y => y ≤ x) 41)) := rfl
theorem pt_55_23 (w : qS) : gP w 55 23 = some (.inl (qo_al 0 1)) := rfl
theorem pt_55_24 (w : qS) : gP w 55 24 = some (.inl (qo_il 1 1)) := rfl
theorem pt_55_25 (w : qS) : gP w 55 25 = some (.inl (qo_il 4 2)) := rfl
theorem pt_55_27 (w : qS) : gP w 55 27 = some (.inl (qo_b (fun x y => x + y))) := rfl
theorem pt_55_28 (w : qS) : gP w 55 28 = some (.inr (.inl (32, 2, some 1))) := rfl
theorem pt_55_31 (w : qS) : gP w 55 31 = some (.inl (qo_il 2 1)) := rfl
theorem pt_55_32 (w : qS) : gP w 55 32 = some (.inl (qo_c (fun x y => ¬ x = y) 41)) := rfl
theorem pt_55_35 (w : qS) : gP w 55 35 = some (.inl (qo_inc 4 1)) := rfl
theorem pt_55_38 (w : qS) : gP w 55 38 = some (.inl (qo_g 17)) := rfl
theorem pt_55_41 (w : qS) : gP w 55 41 = some (.inl (qo_il 4 2)) := rfl
theorem pt_55_43 (w : qS) : gP w 55 43 = some (.inr (.inr 1)) := rfl
theorem pt_56_0 (w : qS) : gP w 56 0 = some (.inl (qo_al 1 1)) := rfl
theorem pt_56_1 (w : qS) : gP w 56 1 = some (.inl (qo_get (gL w) 2 0)) := rfl
theorem pt_56_4 (w : qS) : gP w 56 4 = some (.inl (qo_k 0 1)) := rfl
theorem pt_56_5 (w : qS) : gP w 56 5 = some (.inl (qo_al 0 1)) := rfl
theorem pt_56_6 (w : qS) : gP w 56 6 = some (.inl (qo_get (gL w) 2 0)) := rfl
theorem pt_56_9 (w : qS) : gP w 56 9 = some (.inl (qo_k 0 1)) := rfl
theorem pt_56_10 (w : qS) : gP w 56 10 = some (.inl (qo_k (iN 16) 2)) := rfl
theorem pt_56_12 (w : qS) : gP w 56 12 = some (.inl (qo_cp (gL w))) := rfl
theorem pt_56_15 (w : qS) : gP w 56 15 = some (.inl (qo_al 1 1)) := rfl
theorem pt_56_16 (w : qS) : gP w 56 16 = some (.inl (qo_get (gL w) 2 1)) := rfl
theorem pt_56_19 (w : qS) : gP w 56 19 = some (.inl (qo_k 0 1)) := rfl
theorem pt_56_20 (w : qS) : gP w 56 20 = some (.inl (qo_al 0 1)) := rfl
theorem pt_56_21 (w : qS) : gP w 56 21 = some (.inl (qo_get (gL w) 2 1)) := rfl
theorem pt_56_24 (w : qS) : gP w 56 24 = some (.inl (qo_k 0 1)) := rfl
theorem pt_56_25 (w : qS) : gP w 56 25 = some (.inl (qo_k (iN 24) 2)) := rfl
theorem pt_56_27 (w : qS) : gP w 56 27 = some (.inl (qo_cp (gL w))) := rfl
theorem pt_56_30 (w : qS) : gP w 56 30 = some (.inl (qo_al 1 1)) := rfl
theorem pt_56_31 (w : qS) : gP w 56 31 = some (.inl (qo_get (gL w) 2 2)) := rfl
theorem pt_56_34 (w : qS) : gP w 56 34 = some (.inl (qo_k 0 1)) := rfl
theorem pt_56_35 (w : qS) : gP w 56 35 = some (.inl (qo_al 0 1)) := rfl
theorem pt_56_36 (w : qS) : gP w 56 36 = some (.inl (qo_get (gL w) 2 2)) := rfl
theorem pt_56_39 (w : qS) : gP w 56 39 = some (.inl (qo_k 0 1)) := rfl
theorem pt_56_40 (w : qS) : gP w 56 40 = some (.inl (qo_k (iN 24) 2)) := rfl
theorem pt_56_42 (w : qS) : gP w 56 42 = some (.inl (qo_cp (gL w))) := rfl
theorem pt_56_45 (w : qS) : gP w 56 45 = some (.inl (qo_al 1 1)) := rfl
theorem pt_56_46 (w : qS) : gP w 56 46 = some (.inl (qo_get (gL w) 2 3)) := rfl
theorem pt_56_49 (w : qS) : gP w 56 49 = some (.inl (qo_k 0 1)) := rfl
theorem pt_56_50 (w : qS) : gP w 56 50 = some (.inl (qo_al 0 1)) := rfl
theorem pt_56_51 (w : qS) : gP w 56 51 = some (.inl (qo_get (gL w) 2 3)) := rfl
theorem pt_56_54 (w : qS) : gP w 56 54 = some (.inl (qo_k 0 1)) := rfl
theorem pt_56_55 (w : qS) : gP w 56 55 = some (.inl (qo_k (iN 16) 2)) := rfl
theorem pt_56_57 (w : qS) : gP w 56 57 = some (.inl (qo_cp (gL w))) := rfl
theorem pt_56_60 (w : qS) : gP w 56 60 = some (.inl (qo_al 1 1)) := rfl
theorem pt_56_61 (w : qS) : gP w 56 61 = some (.inl (qo_get (gL w) 2 4)) := rfl
theorem pt_56_64 (w : qS) : gP w 56 64 = some (.inl (qo_k 0 1)) := rfl
theorem pt_56_65 (w : qS) : gP w 56 65 = some (.inl (qo_al 0 1)) := rfl
theorem pt_56_66 (w : qS) : gP w 56 66 = some (.inl (qo_get (gL w) 2 4)) := rfl
theorem pt_56_69 (w : qS) : gP w 56 69 = some (.inl (qo_k 0 1)) := rfl
theorem pt_56_70 (w : qS) : gP w 56 70 = some (.inl (qo_k (iN 16) 2)) := rfl
theorem pt_56_72 (w : qS) : gP w 56 72 = some (.inl (qo_cp (gL w))) := rfl
theorem pt_56_75 (w : qS) : gP w 56 75 = some (.inl (qo_al 1 1)) := rfl
theorem pt_56_76 (w : qS) : gP w 56 76 = some (.inl (qo_get (gL w) 2 5)) := rfl
theorem pt_56_79 (w : qS) : gP w 56 79 = some (.inl (qo_k 0 1)) := rfl
theorem pt_56_80 (w : qS) : gP w 56 80 = some (.inl (qo_al 0 1)) := rfl
theorem pt_56_81 (w : qS) : gP w 56 81 = some (.inl (qo_get (gL w) 2 5)) := rfl
theorem pt_56_84 (w : qS) : gP w 56 84 = some (.inl (qo_k 0 1)) := rfl
theorem pt_56_85 (w : qS) : gP w 56 85 = some (.inl (qo_k (iN 240) 3)) := rfl
theorem pt_56_88 (w : qS) : gP w 56 88 = some (.inl (qo_cp (gL w))) := rfl
theorem pt_56_91 (w : qS) : gP w 56 91 = some (.inl (qo_al 0 1)) := rfl
theorem pt_56_92 (w : qS) : gP w 56 92 = some (.inl (qo_al 1 1)) := rfl
theorem pt_56_93 (w : qS) : gP w 56 93 = some (.inl (qo_get (gL w) 2 6)) := rfl
theorem pt_56_96 (w : qS) : gP w 56 96 = some (.inl (qo_put (gL w) 2 6)) := rfl
theorem pt_56_99 (w : qS) : gP w 56 99 = some (.inl (qo_al 0 1)) := rfl
theorem pt_56_100 (w : qS) : gP w 56 100 = some (.inl (qo_al 1 1)) := rfl
theorem pt_56_101 (w : qS) : gP w 56 101 = some (.inl (qo_get (gL w) 2 7)) := rfl
theorem pt_56_104 (w : qS) : gP w 56 104 = some (.inl (qo_put (gL w) 2 7)) := rfl
theorem pt_56_107 (w : qS) : gP w 56 107 = some (.inl (qo_al 0 1)) := rfl
theorem pt_56_108 (w : qS) : gP w 56 108 = some (.inl (qo_al 1 1)) := rfl
theorem pt_56_109 (w : qS) : gP w 56 109 = some (.inl (qo_get (gL w) 2 8)) := rfl
theorem pt_56_112 (w : qS) : gP w 56 112 = some (.inl (qo_put (gL w) 2 8)) := rfl
theorem pt_56_115 (w : qS) : gP w 56 115 = some (.inr (.inr 0)) := rfl
theorem pt_57_0 (w : qS) : gP w 57 0 = some (.inl (qo_al 0 1)) := rfl
theorem pt_57_1 (w : qS) : gP w 57 1 = some (.inl (qo_get (gL w) 2 6)) := rfl
theorem pt_57_4 (w : qS) : gP w 57 4 = some (.inl (qo_al 1 1)) := rfl
theorem pt_57_5 (w : qS) : gP w 57 5 = some (.inl (qo_get (gL w) 2 6)) := rfl
theorem pt_57_8 (w : qS) : gP w 57 8 = some (.inl (qo_c (fun x y => ¬ x = y) 79)) := rfl
theorem pt_57_11 (w : qS) : gP w 57 11 = some (.inl (qo_al 0 1)) := rfl
theorem pt_57_12 (w : qS) : gP w 57 12 = some (.inl (qo_get (gL w) 2 7)) := rfl
theorem pt_57_15 (w : qS) : gP w 57 15 = some (.inl (qo_al 1 1)) := rfl
theorem pt_57_16 (w : qS) : gP w 57 16 = some (.inl (qo_get (gL w) 2 7)) := rfl
theorem pt_57_19 (w : qS) : gP w 57 19 = some (.inl (qo_c (fun x y => ¬ x = y) 79)) := rfl
theorem pt_57_22 (w : qS) : gP w 57 22 = some (.inl (qo_al 0 1)) := rfl
theorem pt_57_23 (w : qS) : gP w 57 23 = some (.inl (qo_get (gL w) 2 8)) := rfl
theorem pt_57_26 (w : qS) : gP w 57 26 = some (.inl (qo_al 1 1)) := rfl
theorem pt_57_27 (w : qS) : gP w 57 27 = some (.inl (qo_get (gL w) 2 8)) := rfl
theorem pt_57_30 (w : qS) : gP w 57 30 = some (.inl (qo_c (fun x y => ¬ x = y) 79)) := rfl
theorem pt_57_33 (w : qS) : gP w 57 33 = some (.inl (qo_al 0 1)) := rfl
theorem pt_57_34 (w : qS) : gP w 57 34 = some (.inl (qo_get (gL w) 2 3)) := rfl
theorem pt_57_37 (w : qS) : gP w 57 37 = some (.inl (qo_al 1 1)) := rfl
theorem pt_57_38 (w : qS) : gP w 57 38 = some (.inl (qo_get (gL w) 2 3)) := rfl
theorem pt_57_41 (w : qS) : gP w 57 41 = some (.inr (.inl (58, 2, none))) := rfl
theorem pt_57_44 (w : qS) : gP w 57 44 = some (.inl (qo_z (fun x => x = 0) 79)) := rfl
theorem pt_57_47 (w : qS) : gP w 57 47 = some (.inl (qo_al 0 1)) := rfl
theorem pt_57_48 (w : qS) : gP w 57 48 = some (.inl (qo_get (gL w) 2 4)) := rfl
theorem pt_57_51 (w : qS) : gP w 57 51 = some (.inl (qo_al 1 1)) := rfl
theorem pt_57_52 (w : qS) : gP w 57 52 = some (.inl (qo_get (gL w) 2 4)) := rfl
theorem pt_57_55 (w : qS) : gP w 57 55 = some (.inr (.inl (58, 2, none))) := rfl
theorem pt_57_58 (w : qS) : gP w 57 58 = some (.inl (qo_z (fun x => x = 0) 79)) := rfl
theorem pt_57_61 (w : qS) : gP w 57 61 = some (.inl (qo_al 0 1)) := rfl
theorem pt_57_62 (w : qS) : gP w 57 62 = some (.inl (qo_get (gL w) 2 5)) := rfl
theorem pt_57_65 (w : qS) : gP w 57 65 = some (.inl (qo_al 1 1)) := rfl
theorem pt_57_66 (w : qS) : gP w 57 66 = some (.inl (qo_get (gL w) 2 5)) := rfl
theorem pt_57_69 (w : qS) : gP w 57 69 = some (.inr (.inl (58, 2, none))) := rfl
theorem pt_57_72 (w : qS) : gP w 57 72 = some (.inl (qo_z (fun x => x = 0) 79)) := rfl
theorem pt_57_75 (w : qS) : gP w 57 75 = some (.inl (qo_k 1 1)) := rfl
theorem pt_57_76 (w : qS) : gP w 57 76 = some (.inl (qo_g 80)) := rfl
theorem pt_57_79 (w : qS) : gP w 57 79 = some (.inl (qo_k 0 1)) := rfl
theorem pt_57_80 (w : qS) : gP w 57 80 = some (.inr (.inr 2)) := rfl
theorem pt_58_0 (w : qS) : gP w 58 0 = some (.inl (qo_k 0 1)) := rfl
theorem pt_58_1 (w : qS) : gP w 58 1 = some (.inl (qo_is 2 1)) := rfl
theorem pt_58_2 (w : qS) : gP w 58 2 = some (.inl (qo_il 2 1)) := rfl
theorem pt_58_3 (w : qS) : gP w 58 3 = some (.inl (qo_al 0 1)) := rfl
theorem pt_58_4 (w : qS) : gP w 58 4 = some (.inl (qo_len (gL w))) := rfl
theorem pt_58_5 (w : qS) : gP w 58 5 = some (.inl (qo_c (fun x y => y ≤ x) 31)) := rfl
theorem pt_58_8 (w : qS) : gP w 58 8 = some (.inl (qo_il 2 1)) := rfl
theorem pt_58_9 (w : qS) : gP w 58 9 = some (.inl (qo_al 1 1)) := rfl
theorem pt_58_10 (w : qS) : gP w 58 10 = some (.inl (qo_len (gL w))) := rfl
theorem pt_58_11 (w : qS) : gP w 58 11 = some (.inl (qo_c (fun x y => y ≤ x) 31)) := rfl
theorem pt_58_14 (w : qS) : gP w 58 14 = some (.inl (qo_al 0 1)) := rfl
theorem pt_58_15 (w : qS) : gP w 58 15 = some (.inl (qo_il 2 1)) := rfl
theorem pt_58_16 (w : qS) : gP w 58 16 = some (.inl (qo_ia (gL w))) := rfl
theorem pt_58_17 (w : qS) : gP w 58 17 = some (.inl (qo_al 1 1)) := rfl
theorem pt_58_18 (w : qS) : gP w 58 18 = some (.inl (qo_il 2 1)) := rfl
theorem pt_58_19 (w : qS) : gP w 58 19 = some (.inl (qo_ia (gL w))) := rfl
theorem pt_58_20 (w : qS) : gP w 58 20 = some (.inl (qo_c (fun x y => x = y) 25)) := rfl
theorem pt_58_23 (w : qS) : gP w 58 23 = some (.inl (qo_k 0 1)) := rfl
theorem pt_58_24 (w : qS) : gP w 58 24 = some (.inr (.inr 2)) := rfl
theorem pt_58_25 (w : qS) : gP w 58 25 = some (.inl (qo_inc 2 1)) := rfl
theorem pt_58_28 (w : qS) : gP w 58 28 = some (.inl (qo_g 2)) := rfl
theorem pt_58_31 (w : qS) : gP w 58 31 = some (.inl (qo_k 1 1)) := rfl
theorem pt_58_32 (w : qS) : gP w 58 32 = some (.inr (.inr 2)) := rfl
theorem pt_59_0 (w : qS) : gP w 59 0 = some (.inl (qo_al 0 1)) := rfl
theorem pt_59_1 (w : qS) : gP w 59 1 = some (.inl (qo_get (gL w) 3 0)) := rfl
theorem pt_59_4 (w : qS) : gP w 59 4 = some (.inl (qo_al 0 1)) := rfl
theorem pt_59_5 (w : qS) : gP w 59 5 = some (.inl (qo_get (gL w) 3 1)) := rfl
theorem pt_59_8 (w : qS) : gP w 59 8 = some (.inl (qo_aa (gL w))) := rfl
theorem pt_59_9 (w : qS) : gP w 59 9 = some (.inl (qo_al 1 1)) := rfl
theorem pt_59_10 (w : qS) : gP w 59 10 = some (.inr (.inl (56, 2, some 2))) := rfl
theorem pt_59_13 (w : qS) : gP w 59 13 = some (.inr (.inr 0)) := rfl
theorem pt_60_0 (w : qS) : gP w 60 0 = some (.inl (qo_al 0 1)) := rfl
theorem pt_60_1 (w : qS) : gP w 60 1 = some (.inl (qo_get (gL w) 3 0)) := rfl
theorem pt_60_4 (w : qS) : gP w 60 4 = some (.inl (qo_al 0 1)) := rfl
theorem pt_60_5 (w : qS) : gP w 60 5 = some (.inl (qo_get (gL w) 3 1)) := rfl
theorem pt_60_8 (w : qS) : gP w 60 8 = some (.inl (qo_aa (gL w))) := rfl
theorem pt_60_9 (w : qS) : gP w 60 9 = some (.inl (qo_al 1 1)) := rfl
theorem pt_60_10 (w : qS) : gP w 60 10 = some (.inr (.inl (57, 2, some 2))) := rfl
theorem pt_60_13 (w : qS) : gP w 60 13 = some (.inl (qo_z (fun x => x = 0) 17)) := rfl
theorem pt_60_16 (w : qS) : gP w 60 16 = some (.inr (.inr 0)) := rfl
theorem pt_60_17 (w : qS) : gP w 60 17 = some (.inl (qo_al 0 1)) := rfl
theorem pt_60_18 (w : qS) : gP w 60 18 = some (.inl (qo_al 0 1)) := rfl
theorem pt_60_19 (w : qS) : gP w 60 19 = some (.inl (qo_get (gL w) 3 1)) := rfl
theorem pt_60_22 (w : qS) : gP w 60 22 = some (.inl (qo_k 1 1)) := rfl
theorem pt_60_23 (w : qS) : gP w 60 23 = some (.inl (qo_b (fun x y => x + y))) := rfl
theorem pt_60_24 (w : qS) : gP w 60 24 = some (.inl (qo_k (iN 17) 2)) := rfl
theorem pt_60_26 (w : qS) : gP w 60 26 = some (.inl (qo_d (fun x y => x - x / y * y))) := rfl
theorem pt_60_27 (w : qS) : gP w 60 27 = some (.inl (qo_put (gL w) 3 1)) := rfl
theorem pt_60_30 (w : qS) : gP w 60 30 = some (.inl (qo_al 0 1)) := rfl
theorem pt_60_31 (w : qS) : gP w 60 31 = some (.inl (qo_al 0 1)) := rfl
theorem pt_60_32 (w : qS) : gP w 60 32 = some (.inl (qo_get (gL w) 3 2)) := rfl
theorem pt_60_35 (w : qS) : gP w 60 35 = some (.inl (qo_k 1 1)) := rfl
theorem pt_60_36 (w : qS) : gP w 60 36 = some (.inl (qo_b (fun x y => x + y))) := rfl
theorem pt_60_37 (w : qS) : gP w 60 37 = some (.inl (qo_k (iN 16) 2)) := rfl
theorem pt_60_39 (w : qS) : gP w 60 39 = some (.inl qo_mn) := rfl
theorem pt_60_42 (w : qS) : gP w 60 42 = some (.inl (qo_put (gL w) 3 2)) := rfl
theorem pt_60_45 (w : qS) : gP w 60 45 = some (.inr (.inr 0)) := rfl
theorem pt_61_0 (w : qS) : gP w 61 0 = some (.inl (qo_al 0 1)) := rfl
theorem pt_61_1 (w : qS) : gP w 61 1 = some (.inl (qo_al 0 1)) := rfl
theorem pt_61_2 (w : qS) : gP w 61 2 = some (.inl (qo_get (gL w) 3 1)) := rfl
theorem pt_61_5 (w : qS) : gP w 61 5 = some (.inl (qo_k (iN 17) 2)) := rfl
theorem pt_61_7 (w : qS) : gP w 61 7 = some (.inl (qo_b (fun x y => x + y))) := rfl
theorem pt_61_8 (w : qS) : gP w 61 8 = some (.inl (qo_k 1 1)) := rfl
theorem pt_61_9 (w : qS) : gP w 61 9 = some (.inl (qo_b (fun x y => x - y))) := rfl
theorem pt_61_10 (w : qS) : gP w 61 10 = some (.inl (qo_k (iN 17) 2)) := rfl
theorem pt_61_12 (w : qS) : gP w 61 12 = some (.inl (qo_d (fun x y => x - x / y * y))) := rfl
theorem pt_61_13 (w : qS) : gP w 61 13 = some (.inl (qo_put (gL w) 3 1)) := rfl
theorem pt_61_16 (w : qS) : gP w 61 16 = some (.inl (qo_al 0 1)) := rfl
theorem pt_61_17 (w : qS) : gP w 61 17 = some (.inl qo_dup) := rfl
theorem pt_61_18 (w : qS) : gP w 61 18 = some (.inl (qo_get (gL w) 3 2)) := rfl
theorem pt_61_21 (w : qS) : gP w 61 21 = some (.inl (qo_k 1 1)) := rfl
theorem pt_61_22 (w : qS) : gP w 61 22 = some (.inl (qo_b (fun x y => x - y))) := rfl
theorem pt_61_23 (w : qS) : gP w 61 23 = some (.inl (qo_put (gL w) 3 2)) := rfl
theorem pt_61_26 (w : qS) : gP w 61 26 = some (.inl (qo_al 1 1)) := rfl
theorem pt_61_27 (w : qS) : gP w 61 27 = some (.inl (qo_al 0 1)) := rfl
theorem pt_61_28 (w : qS) : gP w 61 28 = some (.inl (qo_get (gL w) 3 0)) := rfl
theorem pt_61_31 (w : qS) : gP w 61 31 = some (.inl (qo_al 0 1)) := rfl
theorem pt_61_32 (w : qS) : gP w 61 32 = some (.inl (qo_get (gL w) 3 1)) := rfl
theorem pt_61_35 (w : qS) : gP w 61 35 = some (.inl (qo_aa (gL w))) := rfl
theorem pt_61_36 (w : qS) : gP w 61 36 = some (.inr (.inl (56, 2, some 2))) := rfl
theorem pt_61_39 (w : qS) : gP w 61 39 = some (.inr (.inr 0)) := rfl
theorem pt_62_0 (w : qS) : gP w 62 0 = some (.inl (qo_k (iN 1000000) 2)) := rfl
theorem pt_62_2 (w : qS) : gP w 62 2 = some (.inl (qo_is 3 1)) := rfl
theorem pt_62_3 (w : qS) : gP w 62 3 = some (.inl (qo_k 0 1)) := rfl
theorem pt_62_4 (w : qS) : gP w 62 4 = some (.inl (qo_is 4 2)) := rfl
theorem pt_62_6 (w : qS) : gP w 62 6 = some (.inl (qo_il 4 2)) := rfl
theorem pt_62_8 (w : qS) : gP w 62 8 = some (.inl (qo_k (iN 16) 2)) := rfl
theorem pt_62_10 (w : qS) : gP w 62 10 = some (.inl (qo_c (fun x y => y < x) 30)) := rfl
theorem pt_62_13 (w : qS) : gP w 62 13 = some (.inl (qo_il 3 1)) := rfl
theorem pt_62_14 (w : qS) : gP w 62 14 = some (.inl (qo_z (fun x => x ≤ 0) 30)) := rfl
theorem pt_62_17 (w : qS) : gP w 62 17 = some (.inl (qo_al 0 1)) := rfl
theorem pt_62_18 (w : qS) : gP w 62 18 = some (.inl (qo_al 1 1)) := rfl
theorem pt_62_19 (w : qS) : gP w 62 19 = some (.inl (qo_il 2 1)) := rfl
theorem pt_62_20 (w : qS) : gP w 62 20 = some (.inr (.inl (63, 3, some 4))) := rfl
theorem pt_62_23 (w : qS) : gP w 62 23 = some (.inl (qo_is 3 1)) := rfl
theorem pt_62_24 (w : qS) : gP w 62 24 = some (.inl (qo_inc 4 1)) := rfl
theorem pt_62_27 (w : qS) : gP w 62 27 = some (.inl (qo_g 6)) := rfl
theorem pt_62_30 (w : qS) : gP w 62 30 = some (.inl (qo_il 3 1)) := rfl
theorem pt_62_31 (w : qS) : gP w 62 31 = some (.inl (qo_z (fun x => ¬ x = 0) 38)) := rfl
theorem pt_62_34 (w : qS) : gP w 62 34 = some (.inl (qo_k 1 1)) := rfl
theorem pt_62_35 (w : qS) : gP w 62 35 = some (.inl (qo_g 39)) := rfl
theorem pt_62_38 (w : qS) : gP w 62 38 = some (.inl (qo_k 0 1)) := rfl
theorem pt_62_39 (w : qS) : gP w 62 39 = some (.inr (.inr 2)) := rfl
theorem pt_63_0 (w : qS) : gP w 63 0 = some (.inl (qo_al 0 1)) := rfl
theorem pt_63_1 (w : qS) : gP w 63 1 = some (.inl (qo_al 1 1)) := rfl
theorem pt_63_2 (w : qS) : gP w 63 2 = some (.inl (qo_il 2 1)) := rfl
theorem pt_63_3 (w : qS) : gP w 63 3 = some (.inr (.inl (64, 3, some 4))) := rfl
theorem pt_63_6 (w : qS) : gP w 63 6 = some (.inl (qo_is 3 1)) := rfl
theorem pt_63_7 (w : qS) : gP w 63 7 = some (.inl (qo_il 3 1)) := rfl
theorem pt_63_8 (w : qS) : gP w 63 8 = some (.inl (qo_k (-1) 1)) := rfl
theorem pt_63_9 (w : qS) : gP w 63 9 = some (.inl (qo_c (fun x y => ¬ x = y) 14)) := rfl
theorem pt_63_12 (w : qS) : gP w 63 12 = some (.inl (qo_k 0 1)) := rfl
theorem pt_63_13 (w : qS) : gP w 63 13 = some (.inr (.inr 1)) := rfl
theorem pt_63_14 (w : qS) : gP w 63 14 = some (.inl (qo_al 0 1)) := rfl
theorem pt_63_15 (w : qS) : gP w 63 15 = some (.inl (qo_al 1 1)) := rfl
theorem pt_63_16 (w : qS) : gP w 63 16 = some (.inl (qo_il 2 1)) := rfl
theorem pt_63_17 (w : qS) : gP w 63 17 = some (.inl (qo_il 3 1)) := rfl
theorem pt_63_18 (w : qS) : gP w 63 18 = some (.inr (.inl (67, 4, some 4))) := rfl
theorem pt_63_21 (w : qS) : gP w 63 21 = some (.inl (qo_al 0 1)) := rfl
theorem pt_63_22 (w : qS) : gP w 63 22 = some (.inl (qo_al 1 1)) := rfl
theorem pt_63_23 (w : qS) : gP w 63 23 = some (.inl (qo_il 3 1)) := rfl
theorem pt_63_24 (w : qS) : gP w 63 24 = some (.inr (.inl (70, 3, some 4))) := rfl
theorem pt_63_27 (w : qS) : gP w 63 27 = some (.inl (qo_is 4 2)) := rfl
theorem pt_63_29 (w : qS) : gP w 63 29 = some (.inl (qo_al 0 1)) := rfl
theorem pt_63_30 (w : qS) : gP w 63 30 = some (.inl (qo_get (gL w) 4 4)) := rfl
theorem pt_63_33 (w : qS) : gP w 63 33 = some (.inl (qo_il 4 2)) := rfl
theorem pt_63_35 (w : qS) : gP w 63 35 = some (.inl (qo_ia (gL w))) := rfl
theorem pt_63_36 (w : qS) : gP w 63 36 = some (.inl (qo_k (iN 1000000) 2)) := rfl
theorem pt_63_38 (w : qS) : gP w 63 38 = some (.inl (qo_c (fun x y => ¬ x = y) 44)) := rfl
theorem pt_63_41 (w : qS) : gP w 63 41 = some (.inl (qo_k (-2) 2)) := rfl
theorem pt_63_43 (w : qS) : gP w 63 43 = some (.inr (.inr 1)) := rfl
theorem pt_63_44 (w : qS) : gP w 63 44 = some (.inl (qo_al 0 1)) := rfl
theorem pt_63_45 (w : qS) : gP w 63 45 = some (.inl (qo_al 1 1)) := rfl
theorem pt_63_46 (w : qS) : gP w 63 46 = some (.inl (qo_il 4 2)) := rfl
theorem pt_63_48 (w : qS) : gP w 63 48 = some (.inl (qo_il 3 1)) := rfl
theorem pt_63_49 (w : qS) : gP w 63 49 = some (.inr (.inl (71, 4, some 4))) := rfl
theorem pt_63_52 (w : qS) : gP w 63 52 = some (.inl (qo_al 0 1)) := rfl
theorem pt_63_53 (w : qS) : gP w 63 53 = some (.inl (qo_get (gL w) 4 4)) := rfl
theorem pt_63_56 (w : qS) : gP w 63 56 = some (.inl (qo_il 4 2)) := rfl
theorem pt_63_58 (w : qS) : gP w 63 58 = some (.inl (qo_ia (gL w))) := rfl
theorem pt_63_59 (w : qS) : gP w 63 59 = some (.inr (.inr 1)) := rfl
theorem pt_64_0 (w : qS) : gP w 64 0 = some (.inl (qo_k 0 1)) := rfl
theorem pt_64_1 (w : qS) : gP w 64 1 = some (.inl (qo_is 3 1)) := rfl
theorem pt_64_2 (w : qS) : gP w 64 2 = some (.inl (qo_k 0 1)) := rfl
theorem pt_64_3 (w : qS) : gP w 64 3 = some (.inl (qo_is 4 2)) := rfl
theorem pt_64_5 (w : qS) : gP w 64 5 = some (.inl (qo_il 4 2)) := rfl
theorem pt_64_7 (w : qS) : gP w 64 7 = some (.inl (qo_al 1 1)) := rfl
theorem pt_64_8 (w : qS) : gP w 64 8 = some (.inl (qo_get (gL w) 1 0)) := rfl
theorem pt_64_11 (w : qS) : gP w 64 11 = some (.inl (qo_get (gL w) 2 6)) := rfl
theorem pt_64_14 (w : qS) : gP w 64 14 = some (.inl (qo_c (fun x y => y ≤ x) 83)) := rfl
theorem pt_64_17 (w : qS) : gP w 64 17 = some (.inl (qo_al 1 1)) := rfl
theorem pt_64_18 (w : qS) : gP w 64 18 = some (.inl (qo_il 4 2)) := rfl
theorem pt_64_20 (w : qS) : gP w 64 20 = some (.inr (.inl (31, 2, some 1))) := rfl
theorem pt_64_23 (w : qS) : gP w 64 23 = some (.inl (qo_il 2 1)) := rfl
theorem pt_64_24 (w : qS) : gP w 64 24 = some (.inl (qo_c (fun x y => ¬ x = y) 77)) := rfl
theorem pt_64_27 (w : qS) : gP w 64 27 = some (.inl (qo_al 1 1)) := rfl
theorem pt_64_28 (w : qS) : gP w 64 28 = some (.inl (qo_il 4 2)) := rfl
theorem pt_64_30 (w : qS) : gP w 64 30 = some (.inr (.inl (30, 2, some 1))) := rfl
theorem pt_64_33 (w : qS) : gP w 64 33 = some (.inl (qo_z (fun x => ¬ x = 0) 39)) := rfl
theorem pt_64_36 (w : qS) : gP w 64 36 = some (.inl (qo_g 77)) := rfl
theorem pt_64_39 (w : qS) : gP w 64 39 = some (.inl (qo_il 3 1)) := rfl
theorem pt_64_40 (w : qS) : gP w 64 40 = some (.inl (qo_z (fun x => ¬ x = 0) 60)) := rfl
theorem pt_64_43 (w : qS) : gP w 64 43 = some (.inl (qo_al 0 1)) := rfl
theorem pt_64_44 (w : qS) : gP w 64 44 = some (.inl (qo_al 1 1)) := rfl
theorem pt_64_45 (w : qS) : gP w 64 45 = some (.inl (qo_il 2 1)) := rfl
theorem pt_64_46 (w : qS) : gP w 64 46 = some (.inl (qo_al 1 1)) := rfl
theorem pt_64_47 (w : qS) : gP w 64 47 = some (.inl (qo_il 4 2)) := rfl
theorem pt_64_49 (w : qS) : gP w 64 49 = some (.inr (.inl (35, 2, some 1))) := rfl
theorem pt_64_52 (w : qS) : gP w 64 52 = some (.inr (.inl (65, 4, some 4))) := rfl
theorem pt_64_55 (w : qS) : gP w 64 55 = some (.inl (qo_k 1 1)) := rfl
theorem pt_64_56 (w : qS) : gP w 64 56 = some (.inl (qo_is 3 1)) := rfl
theorem pt_64_57 (w : qS) : gP w 64 57 = some (.inl (qo_g 77)) := rfl
theorem pt_64_60 (w : qS) : gP w 64 60 = some (.inl (qo_al 0 1)) := rfl
theorem pt_64_61 (w : qS) : gP w 64 61 = some (.inl (qo_get (gL w) 4 0)) := rfl
theorem pt_64_64 (w : qS) : gP w 64 64 = some (.inl (qo_al 1 1)) := rfl
theorem pt_64_65 (w : qS) : gP w 64 65 = some (.inl (qo_il 4 2)) := rfl
theorem pt_64_67 (w : qS) : gP w 64 67 = some (.inr (.inl (35, 2, some 1))) := rfl
theorem pt_64_70 (w : qS) : gP w 64 70 = some (.inl (qo_za (gL w))) := rfl
theorem pt_64_71 (w : qS) : gP w 64 71 = some (.inl (qo_z (fun x => ¬ x = 0) 77)) := rfl
theorem pt_64_74 (w : qS) : gP w 64 74 = some (.inl (qo_il 4 2)) := rfl
theorem pt_64_76 (w : qS) : gP w 64 76 = some (.inr (.inr 1)) := rfl
theorem pt_64_77 (w : qS) : gP w 64 77 = some (.inl (qo_inc 4 1)) := rfl
theorem pt_64_80 (w : qS) : gP w 64 80 = some (.inl (qo_g 5)) := rfl
theorem pt_64_83 (w : qS) : gP w 64 83 = some (.inl (qo_k (-1) 1)) := rfl
theorem pt_64_84 (w : qS) : gP w 64 84 = some (.inr (.inr 1)) := rfl
theorem pt_65_0 (w : qS) : gP w 65 0 = some (.inl (qo_k 0 1)) := rfl
theorem pt_65_1 (w : qS) : gP w 65 1 = some (.inl (qo_is 4 2)) := rfl
theorem pt_65_3 (w : qS) : gP w 65 3 = some (.inl (qo_il 4 2)) := rfl
theorem pt_65_5 (w : qS) : gP w 65 5 = some (.inl (qo_k (iN 240) 3)) := rfl
theorem pt_65_8 (w : qS) : gP w 65 8 = some (.inl (qo_c (fun x y => y ≤ x) 25)) := rfl
theorem pt_65_11 (w : qS) : gP w 65 11 = some (.inl (qo_al 0 1)) := rfl
theorem pt_65_12 (w : qS) : gP w 65 12 = some (.inl (qo_get (gL w) 4 0)) := rfl
theorem pt_65_15 (w : qS) : gP w 65 15 = some (.inl (qo_il 4 2)) := rfl
theorem pt_65_17 (w : qS) : gP w 65 17 = some (.inl (qo_k 0 1)) := rfl
theorem pt_65_18 (w : qS) : gP w 65 18 = some (.inl (qo_zas (gL w))) := rfl
theorem pt_65_19 (w : qS) : gP w 65 19 = some (.inl (qo_inc 4 1)) := rfl
theorem pt_65_22 (w : qS) : gP w 65 22 = some (.inl (qo_g 3)) := rfl
theorem pt_65_25 (w : qS) : gP w 65 25 = some (.inl (qo_al 0 1)) := rfl
theorem pt_65_26 (w : qS) : gP w 65 26 = some (.inl (qo_k 0 1)) := rfl
theorem pt_65_27 (w : qS) : gP w 65 27 = some (.inl (qo_put (gL w) 4 2)) := rfl
theorem pt_65_30 (w : qS) : gP w 65 30 = some (.inl (qo_al 0 1)) := rfl
theorem pt_65_31 (w : qS) : gP w 65 31 = some (.inl (qo_il 3 1)) := rfl
theorem pt_65_32 (w : qS) : gP w 65 32 = some (.inr (.inl (66, 2, some 4))) := rfl
theorem pt_65_35 (w : qS) : gP w 65 35 = some (.inl (qo_k 0 1)) := rfl
theorem pt_65_36 (w : qS) : gP w 65 36 = some (.inl (qo_is 4 2)) := rfl
theorem pt_65_38 (w : qS) : gP w 65 38 = some (.inl (qo_il 4 2)) := rfl
theorem pt_65_40 (w : qS) : gP w 65 40 = some (.inl (qo_k (iN 240) 3)) := rfl
theorem pt_65_43 (w : qS) : gP w 65 43 = some (.inl (qo_c (fun x y => y ≤ x) 113)) := rfl
theorem pt_65_46 (w : qS) : gP w 65 46 = some (.inl (qo_il 4 2)) := rfl
theorem pt_65_48 (w : qS) : gP w 65 48 = some (.inl (qo_al 0 1)) := rfl
theorem pt_65_49 (w : qS) : gP w 65 49 = some (.inl (qo_get (gL w) 4 2)) := rfl
theorem pt_65_52 (w : qS) : gP w 65 52 = some (.inl (qo_c (fun x y => y ≤ x) 113)) := rfl
theorem pt_65_55 (w : qS) : gP w 65 55 = some (.inl (qo_k 0 1)) := rfl
theorem pt_65_56 (w : qS) : gP w 65 56 = some (.inl (qo_is 5 2)) := rfl
theorem pt_65_58 (w : qS) : gP w 65 58 = some (.inl (qo_il 5 2)) := rfl
theorem pt_65_60 (w : qS) : gP w 65 60 = some (.inl (qo_k (iN 9) 2)) := rfl
theorem pt_65_62 (w : qS) : gP w 65 62 = some (.inl (qo_c (fun x y => y ≤ x) 107)) := rfl
theorem pt_65_65 (w : qS) : gP w 65 65 = some (.inl (qo_al 0 1)) := rfl
theorem pt_65_66 (w : qS) : gP w 65 66 = some (.inl (qo_get (gL w) 4 1)) := rfl
theorem pt_65_69 (w : qS) : gP w 65 69 = some (.inl (qo_il 4 2)) := rfl
theorem pt_65_71 (w : qS) : gP w 65 71 = some (.inl (qo_ia (gL w))) := rfl
theorem pt_65_72 (w : qS) : gP w 65 72 = some (.inl (qo_il 5 2)) := rfl
theorem pt_65_74 (w : qS) : gP w 65 74 = some (.inr (.inl (28, 2, none))) := rfl
theorem pt_65_77 (w : qS) : gP w 65 77 = some (.inl (qo_is 6 2)) := rfl
theorem pt_65_79 (w : qS) : gP w 65 79 = some (.inl (qo_il 6 2)) := rfl
theorem pt_65_81 (w : qS) : gP w 65 81 = some (.inl (qo_k (-1) 1)) := rfl
theorem pt_65_82 (w : qS) : gP w 65 82 = some (.inl (qo_c (fun x y => x = y) 101)) := rfl
theorem pt_65_85 (w : qS) : gP w 65 85 = some (.inl (qo_al 1 1)) := rfl
theorem pt_65_86 (w : qS) : gP w 65 86 = some (.inl (qo_il 6 2)) := rfl
theorem pt_65_88 (w : qS) : gP w 65 88 = some (.inr (.inl (32, 2, some 1))) := rfl
theorem pt_65_91 (w : qS) : gP w 65 91 = some (.inl (qo_il 2 1)) := rfl
theorem pt_65_92 (w : qS) : gP w 65 92 = some (.inl (qo_c (fun x y => ¬ x = y) 101)) := rfl
theorem pt_65_95 (w : qS) : gP w 65 95 = some (.inl (qo_al 0 1)) := rfl
theorem pt_65_96 (w : qS) : gP w 65 96 = some (.inl (qo_il 6 2)) := rfl
theorem pt_65_98 (w : qS) : gP w 65 98 = some (.inr (.inl (66, 2, some 4))) := rfl
theorem pt_65_101 (w : qS) : gP w 65 101 = some (.inl (qo_inc 5 1)) := rfl
theorem pt_65_104 (w : qS) : gP w 65 104 = some (.inl (qo_g 58)) := rfl
theorem pt_65_107 (w : qS) : gP w 65 107 = some (.inl (qo_inc 4 1)) := rfl
theorem pt_65_110 (w : qS) : gP w 65 110 = some (.inl (qo_g 38)) := rfl
theorem pt_65_113 (w : qS) : gP w 65 113 = some (.inr (.inr 0)) := rfl
theorem pt_66_0 (w : qS) : gP w 66 0 = some (.inl (qo_al 0 1)) := rfl
theorem pt_66_1 (w : qS) : gP w 66 1 = some (.inl (qo_get (gL w) 4 0)) := rfl
theorem pt_66_4 (w : qS) : gP w 66 4 = some (.inl (qo_il 1 1)) := rfl
theorem pt_66_5 (w : qS) : gP w 66 5 = some (.inl (qo_za (gL w))) := rfl
theorem pt_66_6 (w : qS) : gP w 66 6 = some (.inl (qo_z (fun x => ¬ x = 0) 46)) := rfl
theorem pt_66_9 (w : qS) : gP w 66 9 = some (.inl (qo_al 0 1)) := rfl
theorem pt_66_10 (w : qS) : gP w 66 10 = some (.inl (qo_get (gL w) 4 2)) := rfl
theorem pt_66_13 (w : qS) : gP w 66 13 = some (.inl (qo_k (iN 240) 3)) := rfl
theorem pt_66_16 (w : qS) : gP w 66 16 = some (.inl (qo_c (fun x y => y ≤ x) 46)) := rfl
theorem pt_66_19 (w : qS) : gP w 66 19 = some (.inl (qo_al 0 1)) := rfl
theorem pt_66_20 (w : qS) : gP w 66 20 = some (.inl (qo_get (gL w) 4 0)) := rfl
theorem pt_66_23 (w : qS) : gP w 66 23 = some (.inl (qo_il 1 1)) := rfl
theorem pt_66_24 (w : qS) : gP w 66 24 = some (.inl (qo_k 1 1)) := rfl
theorem pt_66_25 (w : qS) : gP w 66 25 = some (.inl (qo_zas (gL w))) := rfl
theorem pt_66_26 (w : qS) : gP w 66 26 = some (.inl (qo_al 0 1)) := rfl
theorem pt_66_27 (w : qS) : gP w 66 27 = some (.inl (qo_get (gL w) 4 1)) := rfl
theorem pt_66_30 (w : qS) : gP w 66 30 = some (.inl (qo_al 0 1)) := rfl
theorem pt_66_31 (w : qS) : gP w 66 31 = some (.inl (qo_get (gL w) 4 2)) := rfl
theorem pt_66_34 (w : qS) : gP w 66 34 = some (.inl (qo_il 1 1)) := rfl
theorem pt_66_35 (w : qS) : gP w 66 35 = some (.inl (qo_ias (gL w))) := rfl
theorem pt_66_36 (w : qS) : gP w 66 36 = some (.inl (qo_al 0 1)) := rfl
theorem pt_66_37 (w : qS) : gP w 66 37 = some (.inl qo_dup) := rfl
theorem pt_66_38 (w : qS) : gP w 66 38 = some (.inl (qo_get (gL w) 4 2)) := rfl
theorem pt_66_41 (w : qS) : gP w 66 41 = some (.inl (qo_k 1 1)) := rfl
theorem pt_66_42 (w : qS) : gP w 66 42 = some (.inl (qo_b (fun x y => x + y))) := rfl
theorem pt_66_43 (w : qS) : gP w 66 43 = some (.inl (qo_put (gL w) 4 2)) := rfl
theorem pt_66_46 (w : qS) : gP w 66 46 = some (.inr (.inr 0)) := rfl
theorem pt_67_0 (w : qS) : gP w 67 0 = some (.inl (qo_k 0 1)) := rfl
theorem pt_67_1 (w : qS) : gP w 67 1 = some (.inl (qo_is 4 2)) := rfl
theorem pt_67_3 (w : qS) : gP w 67 3 = some (.inl (qo_il 4 2)) := rfl
theorem pt_67_5 (w : qS) : gP w 67 5 = some (.inl (qo_k (iN 240) 3)) := rfl
theorem pt_67_8 (w : qS) : gP w 67 8 = some (.inl (qo_c (fun x y => y ≤ x) 40)) := rfl
theorem pt_67_11 (w : qS) : gP w 67 11 = some (.inl (qo_al 0 1)) := rfl
theorem pt_67_12 (w : qS) : gP w 67 12 = some (.inl (qo_get (gL w) 4 3)) := rfl
theorem pt_67_15 (w : qS) : gP w 67 15 = some (.inl (qo_il 4 2)) := rfl
theorem pt_67_17 (w : qS) : gP w 67 17 = some (.inl (qo_al 1 1)) := rfl
theorem pt_67_18 (w : qS) : gP w 67 18 = some (.inl (qo_il 4 2)) := rfl
theorem pt_67_20 (w : qS) : gP w 67 20 = some (.inl (qo_il 2 1)) := rfl
theorem pt_67_21 (w : qS) : gP w 67 21 = some (.inr (.inl (36, 3, some 1))) := rfl
theorem pt_67_24 (w : qS) : gP w 67 24 = some (.inl (qo_zas (gL w))) := rfl
theorem pt_67_25 (w : qS) : gP w 67 25 = some (.inl (qo_al 0 1)) := rfl
theorem pt_67_26 (w : qS) : gP w 67 26 = some (.inl (qo_get (gL w) 4 4)) := rfl
theorem pt_67_29 (w : qS) : gP w 67 29 = some (.inl (qo_il 4 2)) := rfl
theorem pt_67_31 (w : qS) : gP w 67 31 = some (.inl (qo_k (iN 1000000) 2)) := rfl
theorem pt_67_33 (w : qS) : gP w 67 33 = some (.inl (qo_ias (gL w))) := rfl
theorem pt_67_34 (w : qS) : gP w 67 34 = some (.inl (qo_inc 4 1)) := rfl
theorem pt_67_37 (w : qS) : gP w 67 37 = some (.inl (qo_g 3)) := rfl
theorem pt_67_40 (w : qS) : gP w 67 40 = some (.inl (qo_al 0 1)) := rfl
theorem pt_67_41 (w : qS) : gP w 67 41 = some (.inl (qo_get (gL w) 4 5)) := rfl
theorem pt_67_44 (w : qS) : gP w 67 44 = some (.inr (.inl (73, 1, some 5))) := rfl
theorem pt_67_47 (w : qS) : gP w 67 47 = some (.inl (qo_k 0 1)) := rfl
theorem pt_67_48 (w : qS) : gP w 67 48 = some (.inl (qo_is 4 2)) := rfl
theorem pt_67_50 (w : qS) : gP w 67 50 = some (.inl (qo_il 4 2)) := rfl
theorem pt_67_52 (w : qS) : gP w 67 52 = some (.inl (qo_al 0 1)) := rfl
theorem pt_67_53 (w : qS) : gP w 67 53 = some (.inl (qo_get (gL w) 4 2)) := rfl
theorem pt_67_56 (w : qS) : gP w 67 56 = some (.inl (qo_c (fun x y => y ≤ x) 93)) := rfl
theorem pt_67_59 (w : qS) : gP w 67 59 = some (.inl (qo_al 0 1)) := rfl
theorem pt_67_60 (w : qS) : gP w 67 60 = some (.inl (qo_get (gL w) 4 4)) := rfl
theorem pt_67_63 (w : qS) : gP w 67 63 = some (.inl (qo_al 0 1)) := rfl
theorem pt_67_64 (w : qS) : gP w 67 64 = some (.inl (qo_get (gL w) 4 1)) := rfl
theorem pt_67_67 (w : qS) : gP w 67 67 = some (.inl (qo_il 4 2)) := rfl
theorem pt_67_69 (w : qS) : gP w 67 69 = some (.inl (qo_ia (gL w))) := rfl
theorem pt_67_70 (w : qS) : gP w 67 70 = some (.inl (qo_k 0 1)) := rfl
theorem pt_67_71 (w : qS) : gP w 67 71 = some (.inl (qo_ias (gL w))) := rfl
theorem pt_67_72 (w : qS) : gP w 67 72 = some (.inl (qo_al 0 1)) := rfl
theorem pt_67_73 (w : qS) : gP w 67 73 = some (.inl (qo_get (gL w) 4 5)) := rfl
theorem pt_67_76 (w : qS) : gP w 67 76 = some (.inl (qo_k 0 1)) := rfl
theorem pt_67_77 (w : qS) : gP w 67 77 = some (.inl (qo_al 0 1)) := rfl
theorem pt_67_78 (w : qS) : gP w 67 78 = some (.inl (qo_get (gL w) 4 1)) := rfl
theorem pt_67_81 (w : qS) : gP w 67 81 = some (.inl (qo_il 4 2)) := rfl
theorem pt_67_83 (w : qS) : gP w 67 83 = some (.inl (qo_ia (gL w))) := rfl
theorem pt_67_84 (w : qS) : gP w 67 84 = some (.inr (.inl (74, 3, some 5))) := rfl
theorem pt_67_87 (w : qS) : gP w 67 87 = some (.inl (qo_inc 4 1)) := rfl
theorem pt_67_90 (w : qS) : gP w 67 90 = some (.inl (qo_g 50)) := rfl
theorem pt_67_93 (w : qS) : gP w 67 93 = some (.inl (qo_k 0 1)) := rfl
theorem pt_67_94 (w : qS) : gP w 67 94 = some (.inl (qo_is 4 2)) := rfl
theorem pt_67_96 (w : qS) : gP w 67 96 = some (.inl (qo_il 4 2)) := rfl
theorem pt_67_98 (w : qS) : gP w 67 98 = some (.inl (qo_k (iN 240) 3)) := rfl
theorem pt_67_101 (w : qS) : gP w 67 101 = some (.inl (qo_c (fun x y => y ≤ x) 149)) := rfl
theorem pt_67_104 (w : qS) : gP w 67 104 = some (.inl (qo_al 0 1)) := rfl
theorem pt_67_105 (w : qS) : gP w 67 105 = some (.inl (qo_get (gL w) 4 5)) := rfl
theorem pt_67_108 (w : qS) : gP w 67 108 = some (.inl (qo_al 0 1)) := rfl
theorem pt_67_109 (w : qS) : gP w 67 109 = some (.inl (qo_get (gL w) 4 4)) := rfl
theorem pt_67_112 (w : qS) : gP w 67 112 = some (.inr (.inl (75, 2, some 5))) := rfl
theorem pt_67_115 (w : qS) : gP w 67 115 = some (.inl (qo_is 5 2)) := rfl
theorem pt_67_117 (w : qS) : gP w 67 117 = some (.inl (qo_il 5 2)) := rfl
theorem pt_67_119 (w : qS) : gP w 67 119 = some (.inl (qo_k (-1) 1)) := rfl
theorem pt_67_120 (w : qS) : gP w 67 120 = some (.inl (qo_c (fun x y => ¬ x = y) 126)) := rfl
theorem pt_67_123 (w : qS) : gP w 67 123 = some (.inl (qo_g 149)) := rfl
theorem pt_67_126 (w : qS) : gP w 67 126 = some (.inl (qo_al 0 1)) := rfl
theorem pt_67_127 (w : qS) : gP w 67 127 = some (.inl (qo_il 5 2)) := rfl
theorem pt_67_129 (w : qS) : gP w 67 129 = some (.inr (.inl (68, 2, some 4))) := rfl
theorem pt_67_132 (w : qS) : gP w 67 132 = some (.inl (qo_z (fun x => x = 0) 143)) := rfl
theorem pt_67_135 (w : qS) : gP w 67 135 = some (.inl (qo_al 0 1)) := rfl
theorem pt_67_136 (w : qS) : gP w 67 136 = some (.inl (qo_al 1 1)) := rfl
theorem pt_67_137 (w : qS) : gP w 67 137 = some (.inl (qo_il 5 2)) := rfl
theorem pt_67_139 (w : qS) : gP w 67 139 = some (.inl (qo_il 3 1)) := rfl
theorem pt_67_140 (w : qS) : gP w 67 140 = some (.inr (.inl (69, 4, some 4))) := rfl
theorem pt_67_143 (w : qS) : gP w 67 143 = some (.inl (qo_inc 4 1)) := rfl
theorem pt_67_146 (w : qS) : gP w 67 146 = some (.inl (qo_g 96)) := rfl
theorem pt_67_149 (w : qS) : gP w 67 149 = some (.inr (.inr 0)) := rfl
theorem pt_68_0 (w : qS) : gP w 68 0 = some (.inl (qo_al 0 1)) := rfl
theorem pt_68_1 (w : qS) : gP w 68 1 = some (.inl (qo_get (gL w) 4 0)) := rfl
theorem pt_68_4 (w : qS) : gP w 68 4 = some (.inl (qo_il 1 1)) := rfl
theorem pt_68_5 (w : qS) : gP w 68 5 = some (.inl (qo_za (gL w))) := rfl
theorem pt_68_6 (w : qS) : gP w 68 6 = some (.inl (qo_z (fun x => ¬ x = 0) 18)) := rfl
theorem pt_68_9 (w : qS) : gP w 68 9 = some (.inl (qo_al 0 1)) := rfl
theorem pt_68_10 (w : qS) : gP w 68 10 = some (.inl (qo_get (gL w) 4 3)) := rfl
theorem pt_68_13 (w : qS) : gP w 68 13 = some (.inl (qo_il 1 1)) := rfl
theorem pt_68_14 (w : qS) : gP w 68 14 = some (.inl (qo_za (gL w))) := rfl
theorem pt_68_15 (w : qS) : gP w 68 15 = some (.inl (qo_z (fun x => x = 0) 22)) := rfl
theorem pt_68_18 (w : qS) : gP w 68 18 = some (.inl (qo_k 1 1)) := rfl
theorem pt_68_19 (w : qS) : gP w 68 19 = some (.inl (qo_g 23)) := rfl
theorem pt_68_22 (w : qS) : gP w 68 22 = some (.inl (qo_k 0 1)) := rfl
theorem pt_68_23 (w : qS) : gP w 68 23 = some (.inr (.inr 2)) := rfl
theorem pt_69_0 (w : qS) : gP w 69 0 = some (.inl (qo_k 0 1)) := rfl
theorem pt_69_1 (w : qS) : gP w 69 1 = some (.inl (qo_is 4 2)) := rfl
theorem pt_69_3 (w : qS) : gP w 69 3 = some (.inl (qo_il 4 2)) := rfl
theorem pt_69_5 (w : qS) : gP w 69 5 = some (.inl (qo_k (iN 9) 2)) := rfl
theorem pt_69_7 (w : qS) : gP w 69 7 = some (.inl (qo_c (fun x y => y ≤ x) 113)) := rfl
theorem pt_69_10 (w : qS) : gP w 69 10 = some (.inl (qo_il 2 1)) := rfl
theorem pt_69_11 (w : qS) : gP w 69 11 = some (.inl (qo_il 4 2)) := rfl
theorem pt_69_13 (w : qS) : gP w 69 13 = some (.inr (.inl (28, 2, none))) := rfl
theorem pt_69_16 (w : qS) : gP w 69 16 = some (.inl (qo_is 5 2)) := rfl
theorem pt_69_18 (w : qS) : gP w 69 18 = some (.inl (qo_il 5 2)) := rfl
theorem pt_69_20 (w : qS) : gP w 69 20 = some (.inl (qo_k (-1) 1)) := rfl
theorem pt_69_21 (w : qS) : gP w 69 21 = some (.inl (qo_c (fun x y => x = y) 107)) := rfl
theorem pt_69_24 (w : qS) : gP w 69 24 = some (.inl (qo_al 0 1)) := rfl
theorem pt_69_25 (w : qS) : gP w 69 25 = some (.inl (qo_get (gL w) 4 3)) := rfl
theorem pt_69_28 (w : qS) : gP w 69 28 = some (.inl (qo_il 5 2)) := rfl
theorem pt_69_30 (w : qS) : gP w 69 30 = some (.inl (qo_za (gL w))) := rfl
theorem pt_69_31 (w : qS) : gP w 69 31 = some (.inl (qo_z (fun x => ¬ x = 0) 47)) := rfl
theorem pt_69_34 (w : qS) : gP w 69 34 = some (.inl (qo_al 1 1)) := rfl
theorem pt_69_35 (w : qS) : gP w 69 35 = some (.inl (qo_il 3 1)) := rfl
theorem pt_69_36 (w : qS) : gP w 69 36 = some (.inl (qo_il 5 2)) := rfl
theorem pt_69_38 (w : qS) : gP w 69 38 = some (.inr (.inl (33, 3, some 1))) := rfl
theorem pt_69_41 (w : qS) : gP w 69 41 = some (.inl (qo_z (fun x => ¬ x = 0) 47)) := rfl
theorem pt_69_44 (w : qS) : gP w 69 44 = some (.inl (qo_g 107)) := rfl
theorem pt_69_47 (w : qS) : gP w 69 47 = some (.inl (qo_al 0 1)) := rfl
theorem pt_69_48 (w : qS) : gP w 69 48 = some (.inl (qo_get (gL w) 4 4)) := rfl
theorem pt_69_51 (w : qS) : gP w 69 51 = some (.inl (qo_il 2 1)) := rfl
theorem pt_69_52 (w : qS) : gP w 69 52 = some (.inl (qo_ia (gL w))) := rfl
theorem pt_69_53 (w : qS) : gP w 69 53 = some (.inl (qo_ss 202)) := rfl
theorem pt_69_56 (w : qS) : gP w 69 56 = some (.inl (qo_il 4 2)) := rfl
theorem pt_69_58 (w : qS) : gP w 69 58 = some (.inl (qo_ia (gL w))) := rfl
theorem pt_69_59 (w : qS) : gP w 69 59 = some (.inl (qo_b (fun x y => x + y))) := rfl
theorem pt_69_60 (w : qS) : gP w 69 60 = some (.inl (qo_is 6 2)) := rfl
theorem pt_69_62 (w : qS) : gP w 69 62 = some (.inl (qo_il 6 2)) := rfl
theorem pt_69_64 (w : qS) : gP w 69 64 = some (.inl (qo_al 0 1)) := rfl
theorem pt_69_65 (w : qS) : gP w 69 65 = some (.inl (qo_get (gL w) 4 4)) := rfl
theorem pt_69_68 (w : qS) : gP w 69 68 = some (.inl (qo_il 5 2)) := rfl
theorem pt_69_70 (w : qS) : gP w 69 70 = some (.inl (qo_ia (gL w))) := rfl
theorem pt_69_71 (w : qS) : gP w 69 71 = some (.inl (qo_c (fun x y => y ≤ x) 107)) := rfl
theorem pt_69_74 (w : qS) : gP w 69 74 = some (.inl (qo_al 0 1)) := rfl
theorem pt_69_75 (w : qS) : gP w 69 75 = some (.inl (qo_get (gL w) 4 4)) := rfl
theorem pt_69_78 (w : qS) : gP w 69 78 = some (.inl (qo_il 5 2)) := rfl
theorem pt_69_80 (w : qS) : gP w 69 80 = some (.inl (qo_il 6 2)) := rfl
theorem pt_69_82 (w : qS) : gP w 69 82 = some (.inl (qo_ias (gL w))) := rfl
theorem pt_69_83 (w : qS) : gP w 69 83 = some (.inl (qo_al 0 1)) := rfl
theorem pt_69_84 (w : qS) : gP w 69 84 = some (.inl (qo_get (gL w) 4 5)) := rfl
theorem pt_69_87 (w : qS) : gP w 69 87 = some (.inl (qo_il 4 2)) := rfl
theorem pt_69_89 (w : qS) : gP w 69 89 = some (.inl (qo_k (iN 8) 2)) := rfl
theorem pt_69_91 (w : qS) : gP w 69 91 = some (.inl (qo_c (fun x y => ¬ x = y) 98)) := rfl
theorem pt_69_94 (w : qS) : gP w 69 94 = some (.inl (qo_k (iN 2) 1)) := rfl
theorem pt_69_95 (w : qS) : gP w 69 95 = some (.inl (qo_g 102)) := rfl
theorem pt_69_98 (w : qS) : gP w 69 98 = some (.inl (qo_il 4 2)) := rfl
theorem pt_69_100 (w : qS) : gP w 69 100 = some (.inl (qo_k 1 1)) := rfl
theorem pt_69_101 (w : qS) : gP w 69 101 = some (.inl (qo_b (fun x y => x &&& y))) := rfl
theorem pt_69_102 (w : qS) : gP w 69 102 = some (.inl (qo_il 5 2)) := rfl
theorem pt_69_104 (w : qS) : gP w 69 104 = some (.inr (.inl (74, 3, some 5))) := rfl
theorem pt_69_107 (w : qS) : gP w 69 107 = some (.inl (qo_inc 4 1)) := rfl
theorem pt_69_110 (w : qS) : gP w 69 110 = some (.inl (qo_g 3)) := rfl
theorem pt_69_113 (w : qS) : gP w 69 113 = some (.inr (.inr 0)) := rfl
theorem pt_70_0 (w : qS) : gP w 70 0 = some (.inl (qo_al 1 1)) := rfl
theorem pt_70_1 (w : qS) : gP w 70 1 = some (.inl (qo_il 2 1)) := rfl
theorem pt_70_2 (w : qS) : gP w 70 2 = some (.inr (.inl (35, 2, some 1))) := rfl
theorem pt_70_5 (w : qS) : gP w 70 5 = some (.inl (qo_is 3 1)) := rfl
theorem pt_70_6 (w : qS) : gP w 70 6 = some (.inl (qo_il 3 1)) := rfl
theorem pt_70_7 (w : qS) : gP w 70 7 = some (.inl (qo_k (iN 8) 2)) := rfl
theorem pt_70_9 (w : qS) : gP w 70 9 = some (.inr (.inl (28, 2, none))) := rfl
theorem pt_70_12 (w : qS) : gP w 70 12 = some (.inl (qo_is 4 2)) := rfl
theorem pt_70_14 (w : qS) : gP w 70 14 = some (.inl (qo_al 1 1)) := rfl
theorem pt_70_15 (w : qS) : gP w 70 15 = some (.inl (qo_il 2 1)) := rfl
theorem pt_70_16 (w : qS) : gP w 70 16 = some (.inl (qo_il 4 2)) := rfl
theorem pt_70_18 (w : qS) : gP w 70 18 = some (.inr (.inl (33, 3, some 1))) := rfl
theorem pt_70_21 (w : qS) : gP w 70 21 = some (.inl (qo_z (fun x => x = 0) 45)) := rfl
theorem pt_70_24 (w : qS) : gP w 70 24 = some (.inl (qo_al 0 1)) := rfl
theorem pt_70_25 (w : qS) : gP w 70 25 = some (.inl (qo_get (gL w) 4 4)) := rfl
theorem pt_70_28 (w : qS) : gP w 70 28 = some (.inl (qo_il 4 2)) := rfl
theorem pt_70_30 (w : qS) : gP w 70 30 = some (.inl (qo_ia (gL w))) := rfl
theorem pt_70_31 (w : qS) : gP w 70 31 = some (.inl (qo_al 0 1)) := rfl
theorem pt_70_32 (w : qS) : gP w 70 32 = some (.inl (qo_get (gL w) 4 4)) := rfl
theorem pt_70_35 (w : qS) : gP w 70 35 = some (.inl (qo_il 3 1)) := rfl
theorem pt_70_36 (w : qS) : gP w 70 36 = some (.inl (qo_ia (gL w))) := rfl
theorem pt_70_37 (w : qS) : gP w 70 37 = some (.inl (qo_c (fun x y => y ≤ x) 45)) := rfl
theorem pt_70_40 (w : qS) : gP w 70 40 = some (.inl (qo_il 4 2)) := rfl
theorem pt_70_42 (w : qS) : gP w 70 42 = some (.inl (qo_g 46)) := rfl
theorem pt_70_45 (w : qS) : gP w 70 45 = some (.inl (qo_il 3 1)) := rfl
theorem pt_70_46 (w : qS) : gP w 70 46 = some (.inr (.inr 1)) := rfl
theorem pt_71_0 (w : qS) : gP w 71 0 = some (.inl (qo_il 2 1)) := rfl
theorem pt_71_1 (w : qS) : gP w 71 1 = some (.inl (qo_is 4 2)) := rfl
theorem pt_71_3 (w : qS) : gP w 71 3 = some (.inl (qo_k 0 1)) := rfl
theorem pt_71_4 (w : qS) : gP w 71 4 = some (.inl (qo_is 5 2)) := rfl
theorem pt_71_6 (w : qS) : gP w 71 6 = some (.inl (qo_il 5 2)) := rfl
theorem pt_71_8 (w : qS) : gP w 71 8 = some (.inl (qo_k (iN 240) 3)) := rfl
theorem pt_71_11 (w : qS) : gP w 71 11 = some (.inl (qo_c (fun x y => y ≤ x) 56)) := rfl
theorem pt_71_14 (w : qS) : gP w 71 14 = some (.inl (qo_al 0 1)) := rfl
theorem pt_71_15 (w : qS) : gP w 71 15 = some (.inl (qo_get (gL w) 4 0)) := rfl
theorem pt_71_18 (w : qS) : gP w 71 18 = some (.inl (qo_il 4 2)) := rfl
theorem pt_71_20 (w : qS) : gP w 71 20 = some (.inl (qo_za (gL w))) := rfl
theorem pt_71_21 (w : qS) : gP w 71 21 = some (.inl (qo_z (fun x => ¬ x = 0) 56)) := rfl
theorem pt_71_24 (w : qS) : gP w 71 24 = some (.inl (qo_al 0 1)) := rfl
theorem pt_71_25 (w : qS) : gP w 71 25 = some (.inl (qo_il 4 2)) := rfl
theorem pt_71_27 (w : qS) : gP w 71 27 = some (.inr (.inl (72, 2, some 4))) := rfl
theorem pt_71_30 (w : qS) : gP w 71 30 = some (.inl (qo_is 6 2)) := rfl
theorem pt_71_32 (w : qS) : gP w 71 32 = some (.inl (qo_il 6 2)) := rfl
theorem pt_71_34 (w : qS) : gP w 71 34 = some (.inl (qo_k (-1) 1)) := rfl
theorem pt_71_35 (w : qS) : gP w 71 35 = some (.inl (qo_c (fun x y => ¬ x = y) 39)) := rfl
theorem pt_71_38 (w : qS) : gP w 71 38 = some (.inr (.inr 0)) := rfl
theorem pt_71_39 (w : qS) : gP w 71 39 = some (.inl (qo_al 1 1)) := rfl
theorem pt_71_40 (w : qS) : gP w 71 40 = some (.inl (qo_il 6 2)) := rfl
theorem pt_71_42 (w : qS) : gP w 71 42 = some (.inl (qo_il 3 1)) := rfl
theorem pt_71_43 (w : qS) : gP w 71 43 = some (.inr (.inl (50, 3, some 1))) := rfl
theorem pt_71_46 (w : qS) : gP w 71 46 = some (.inl (qo_il 6 2)) := rfl
theorem pt_71_48 (w : qS) : gP w 71 48 = some (.inl (qo_is 4 2)) := rfl
theorem pt_71_50 (w : qS) : gP w 71 50 = some (.inl (qo_inc 5 1)) := rfl
theorem pt_71_53 (w : qS) : gP w 71 53 = some (.inl (qo_g 6)) := rfl
theorem pt_71_56 (w : qS) : gP w 71 56 = some (.inr (.inr 0)) := rfl
theorem pt_72_0 (w : qS) : gP w 72 0 = some (.inl (qo_k (-1) 1)) := rfl
theorem pt_72_1 (w : qS) : gP w 72 1 = some (.inl (qo_is 2 1)) := rfl
theorem pt_72_2 (w : qS) : gP w 72 2 = some (.inl (qo_k 0 1)) := rfl
theorem pt_72_3 (w : qS) : gP w 72 3 = some (.inl (qo_is 3 1)) := rfl
theorem pt_72_4 (w : qS) : gP w 72 4 = some (.inl (qo_il 3 1)) := rfl
theorem pt_72_5 (w : qS) : gP w 72 5 = some (.inl (qo_k (iN 9) 2)) := rfl
theorem pt_72_7 (w : qS) : gP w 72 7 = some (.inl (qo_c (fun x y => y ≤ x) 86)) := rfl
theorem pt_72_10 (w : qS) : gP w 72 10 = some (.inl (qo_il 1 1)) := rfl
theorem pt_72_11 (w : qS) : gP w 72 11 = some (.inl (qo_il 3 1)) := rfl
theorem pt_72_12 (w : qS) : gP w 72 12 = some (.inr (.inl (28, 2, none))) := rfl
theorem pt_72_15 (w : qS) : gP w 72 15 = some (.inl (qo_is 4 2)) := rfl
theorem pt_72_17 (w : qS) : gP w 72 17 = some (.inl (qo_il 4 2)) := rfl
theorem pt_72_19 (w : qS) : gP w 72 19 = some (.inl (qo_k (-1) 1)) := rfl
theorem pt_72_20 (w : qS) : gP w 72 20 = some (.inl (qo_c (fun x y => x = y) 58)) := rfl
theorem pt_72_23 (w : qS) : gP w 72 23 = some (.inl (qo_al 0 1)) := rfl
theorem pt_72_24 (w : qS) : gP w 72 24 = some (.inl (qo_il 4 2)) := rfl
theorem pt_72_26 (w : qS) : gP w 72 26 = some (.inr (.inl (68, 2, some 4))) := rfl
theorem pt_72_29 (w : qS) : gP w 72 29 = some (.inl (qo_z (fun x => x = 0) 58)) := rfl
theorem pt_72_32 (w : qS) : gP w 72 32 = some (.inl (qo_al 0 1)) := rfl
theorem pt_72_33 (w : qS) : gP w 72 33 = some (.inl (qo_get (gL w) 4 4)) := rfl
theorem pt_72_36 (w : qS) : gP w 72 36 = some (.inl (qo_il 4 2)) := rfl
theorem pt_72_38 (w : qS) : gP w 72 38 = some (.inl (qo_ia (gL w))) := rfl
theorem pt_72_39 (w : qS) : gP w 72 39 = some (.inl (qo_ss 202)) := rfl
theorem pt_72_42 (w : qS) : gP w 72 42 = some (.inl (qo_il 3 1)) := rfl
theorem pt_72_43 (w : qS) : gP w 72 43 = some (.inl (qo_ia (gL w))) := rfl
theorem pt_72_44 (w : qS) : gP w 72 44 = some (.inl (qo_b (fun x y => x + y))) := rfl
theorem pt_72_45 (w : qS) : gP w 72 45 = some (.inl (qo_al 0 1)) := rfl
theorem pt_72_46 (w : qS) : gP w 72 46 = some (.inl (qo_get (gL w) 4 4)) := rfl
theorem pt_72_49 (w : qS) : gP w 72 49 = some (.inl (qo_il 1 1)) := rfl
theorem pt_72_50 (w : qS) : gP w 72 50 = some (.inl (qo_ia (gL w))) := rfl
theorem pt_72_51 (w : qS) : gP w 72 51 = some (.inl (qo_c (fun x y => ¬ x = y) 58)) := rfl
theorem pt_72_54 (w : qS) : gP w 72 54 = some (.inl (qo_k 1 1)) := rfl
theorem pt_72_55 (w : qS) : gP w 72 55 = some (.inl (qo_g 59)) := rfl
theorem pt_72_58 (w : qS) : gP w 72 58 = some (.inl (qo_k 0 1)) := rfl
theorem pt_72_59 (w : qS) : gP w 72 59 = some (.inl (qo_is 5 2)) := rfl
theorem pt_72_61 (w : qS) : gP w 72 61 = some (.inl (qo_il 5 2)) := rfl
theorem pt_72_63 (w : qS) : gP w 72 63 = some (.inl (qo_z (fun x => x = 0) 80)) := rfl
theorem pt_72_66 (w : qS) : gP w 72 66 = some (.inl (qo_il 2 1)) := rfl
theorem pt_72_67 (w : qS) : gP w 72 67 = some (.inl (qo_k (-1) 1)) := rfl
theorem pt_72_68 (w : qS) : gP w 72 68 = some (.inl (qo_c (fun x y => x = y) 77)) := rfl
theorem pt_72_71 (w : qS) : gP w 72 71 = some (.inl (qo_il 4 2)) := rfl
theorem pt_72_73 (w : qS) : gP w 72 73 = some (.inl (qo_il 2 1)) := rfl
theorem pt_72_74 (w : qS) : gP w 72 74 = some (.inl (qo_c (fun x y => y ≤ x) 80)) := rfl
theorem pt_72_77 (w : qS) : gP w 72 77 = some (.inl (qo_il 4 2)) := rfl
theorem pt_72_79 (w : qS) : gP w 72 79 = some (.inl (qo_is 2 1)) := rfl
theorem pt_72_80 (w : qS) : gP w 72 80 = some (.inl (qo_inc 3 1)) := rfl
theorem pt_72_83 (w : qS) : gP w 72 83 = some (.inl (qo_g 4)) := rfl
theorem pt_72_86 (w : qS) : gP w 72 86 = some (.inl (qo_il 2 1)) := rfl
theorem pt_72_87 (w : qS) : gP w 72 87 = some (.inr (.inr 1)) := rfl
theorem pt_73_0 (w : qS) : gP w 73 0 = some (.inl (qo_al 0 1)) := rfl
theorem pt_73_1 (w : qS) : gP w 73 1 = some (.inl (qo_get (gL w) 5 1)) := rfl
theorem pt_73_4 (w : qS) : gP w 73 4 = some (.inl (qo_k 0 1)) := rfl
theorem pt_73_5 (w : qS) : gP w 73 5 = some (.inr (.inl (122, 2, none))) := rfl
theorem pt_73_8 (w : qS) : gP w 73 8 = some (.inl (qo_al 0 1)) := rfl
theorem pt_73_9 (w : qS) : gP w 73 9 = some (.inl (qo_get (gL w) 5 2)) := rfl
theorem pt_73_12 (w : qS) : gP w 73 12 = some (.inl (qo_k 0 1)) := rfl
theorem pt_73_13 (w : qS) : gP w 73 13 = some (.inr (.inl (122, 2, none))) := rfl
theorem pt_73_16 (w : qS) : gP w 73 16 = some (.inl (qo_k 0 1)) := rfl
theorem pt_73_17 (w : qS) : gP w 73 17 = some (.inl (qo_is 1 1)) := rfl
theorem pt_73_18 (w : qS) : gP w 73 18 = some (.inl (qo_il 1 1)) := rfl
theorem pt_73_19 (w : qS) : gP w 73 19 = some (.inl (qo_k (iN 240) 3)) := rfl
theorem pt_73_22 (w : qS) : gP w 73 22 = some (.inl (qo_c (fun x y => y ≤ x) 38)) := rfl
theorem pt_73_25 (w : qS) : gP w 73 25 = some (.inl (qo_al 0 1)) := rfl
theorem pt_73_26 (w : qS) : gP w 73 26 = some (.inl (qo_get (gL w) 5 3)) := rfl
theorem pt_73_29 (w : qS) : gP w 73 29 = some (.inl (qo_il 1 1)) := rfl
theorem pt_73_30 (w : qS) : gP w 73 30 = some (.inl (qo_k 0 1)) := rfl
theorem pt_73_31 (w : qS) : gP w 73 31 = some (.inl (qo_zas (gL w))) := rfl
theorem pt_73_32 (w : qS) : gP w 73 32 = some (.inl (qo_inc 1 1)) := rfl
theorem pt_73_35 (w : qS) : gP w 73 35 = some (.inl (qo_g 18)) := rfl
theorem pt_73_38 (w : qS) : gP w 73 38 = some (.inr (.inr 0)) := rfl
theorem pt_74_0 (w : qS) : gP w 74 0 = some (.inl (qo_al 0 1)) := rfl
theorem pt_74_1 (w : qS) : gP w 74 1 = some (.inl (qo_get (gL w) 5 2)) := rfl
theorem pt_74_4 (w : qS) : gP w 74 4 = some (.inl (qo_il 1 1)) := rfl
theorem pt_74_5 (w : qS) : gP w 74 5 = some (.inl (qo_ia (gL w))) := rfl
theorem pt_74_6 (w : qS) : gP w 74 6 = some (.inl (qo_k (iN 240) 3)) := rfl
theorem pt_74_9 (w : qS) : gP w 74 9 = some (.inl (qo_c (fun x y => y ≤ x) 36)) := rfl
theorem pt_74_12 (w : qS) : gP w 74 12 = some (.inl (qo_al 0 1)) := rfl
theorem pt_74_13 (w : qS) : gP w 74 13 = some (.inl (qo_get (gL w) 5 0)) := rfl
theorem pt_74_16 (w : qS) : gP w 74 16 = some (.inl (qo_il 1 1)) := rfl
theorem pt_74_17 (w : qS) : gP w 74 17 = some (.inl (qo_aa (gL w))) := rfl
theorem pt_74_18 (w : qS) : gP w 74 18 = some (.inl (qo_al 0 1)) := rfl
theorem pt_74_19 (w : qS) : gP w 74 19 = some (.inl (qo_get (gL w) 5 2)) := rfl
theorem pt_74_22 (w : qS) : gP w 74 22 = some (.inl (qo_il 1 1)) := rfl
theorem pt_74_23 (w : qS) : gP w 74 23 = some (.inl (qo_ia (gL w))) := rfl
theorem pt_74_24 (w : qS) : gP w 74 24 = some (.inl (qo_il 2 1)) := rfl
theorem pt_74_25 (w : qS) : gP w 74 25 = some (.inl (qo_ias (gL w))) := rfl
theorem pt_74_26 (w : qS) : gP w 74 26 = some (.inl (qo_al 0 1)) := rfl
theorem pt_74_27 (w : qS) : gP w 74 27 = some (.inl (qo_get (gL w) 5 2)) := rfl
theorem pt_74_30 (w : qS) : gP w 74 30 = some (.inl (qo_il 1 1)) := rfl
theorem pt_74_31 (w : qS) : gP w 74 31 = some (.inl qo_dup2) := rfl
theorem pt_74_32 (w : qS) : gP w 74 32 = some (.inl (qo_ia (gL w))) := rfl
theorem pt_74_33 (w : qS) : gP w 74 33 = some (.inl (qo_k 1 1)) := rfl
theorem pt_74_34 (w : qS) : gP w 74 34 = some (.inl (qo_b (fun x y => x + y))) := rfl
theorem pt_74_35 (w : qS) : gP w 74 35 = some (.inl (qo_ias (gL w))) := rfl
theorem pt_74_36 (w : qS) : gP w 74 36 = some (.inr (.inr 0)) := rfl
theorem pt_75_0 (w : qS) : gP w 75 0 = some (.inl (qo_k (-1) 1)) := rfl
theorem pt_75_1 (w : qS) : gP w 75 1 = some (.inl (qo_is 2 1)) := rfl
theorem pt_75_2 (w : qS) : gP w 75 2 = some (.inl (qo_k 0 1)) := rfl
theorem pt_75_3 (w : qS) : gP w 75 3 = some (.inl (qo_is 3 1)) := rfl
theorem pt_75_4 (w : qS) : gP w 75 4 = some (.inl (qo_il 3 1)) := rfl
theorem pt_75_5 (w : qS) : gP w 75 5 = some (.inl (qo_k (iN 3) 1)) := rfl
theorem pt_75_6 (w : qS) : gP w 75 6 = some (.inl (qo_c (fun x y => y ≤ x) 46)) := rfl
theorem pt_75_9 (w : qS) : gP w 75 9 = some (.inl (qo_al 0 1)) := rfl
theorem pt_75_10 (w : qS) : gP w 75 10 = some (.inl (qo_il 3 1)) := rfl
theorem pt_75_11 (w : qS) : gP w 75 11 = some (.inr (.inl (76, 2, some 5))) := rfl
theorem pt_75_14 (w : qS) : gP w 75 14 = some (.inl (qo_is 4 2)) := rfl
theorem pt_75_16 (w : qS) : gP w 75 16 = some (.inl (qo_il 4 2)) := rfl
theorem pt_75_18 (w : qS) : gP w 75 18 = some (.inl (qo_k (-1) 1)) := rfl
theorem pt_75_19 (w : qS) : gP w 75 19 = some (.inl (qo_c (fun x y => x = y) 40)) := rfl
theorem pt_75_22 (w : qS) : gP w 75 22 = some (.inl (qo_il 2 1)) := rfl
theorem pt_75_23 (w : qS) : gP w 75 23 = some (.inl (qo_k (-1) 1)) := rfl
theorem pt_75_24 (w : qS) : gP w 75 24 = some (.inl (qo_c (fun x y => x = y) 37)) := rfl
theorem pt_75_27 (w : qS) : gP w 75 27 = some (.inl (qo_al 1 1)) := rfl
theorem pt_75_28 (w : qS) : gP w 75 28 = some (.inl (qo_il 4 2)) := rfl
theorem pt_75_30 (w : qS) : gP w 75 30 = some (.inl (qo_ia (gL w))) := rfl
theorem pt_75_31 (w : qS) : gP w 75 31 = some (.inl (qo_al 1 1)) := rfl
theorem pt_75_32 (w : qS) : gP w 75 32 = some (.inl (qo_il 2 1)) := rfl
theorem pt_75_33 (w : qS) : gP w 75 33 = some (.inl (qo_ia (gL w))) := rfl
theorem pt_75_34 (w : qS) : gP w 75 34 = some (.inl (qo_c (fun x y => y ≤ x) 40)) := rfl
theorem pt_75_37 (w : qS) : gP w 75 37 = some (.inl (qo_il 4 2)) := rfl
theorem pt_75_39 (w : qS) : gP w 75 39 = some (.inl (qo_is 2 1)) := rfl
theorem pt_75_40 (w : qS) : gP w 75 40 = some (.inl (qo_inc 3 1)) := rfl
theorem pt_75_43 (w : qS) : gP w 75 43 = some (.inl (qo_g 4)) := rfl
theorem pt_75_46 (w : qS) : gP w 75 46 = some (.inl (qo_il 2 1)) := rfl
theorem pt_75_47 (w : qS) : gP w 75 47 = some (.inl (qo_k (-1) 1)) := rfl
theorem pt_75_48 (w : qS) : gP w 75 48 = some (.inl (qo_c (fun x y => x = y) 58)) := rfl
theorem pt_75_51 (w : qS) : gP w 75 51 = some (.inl (qo_al 0 1)) := rfl
theorem pt_75_52 (w : qS) : gP w 75 52 = some (.inl (qo_get (gL w) 5 3)) := rfl
theorem pt_75_55 (w : qS) : gP w 75 55 = some (.inl (qo_il 2 1)) := rfl
theorem pt_75_56 (w : qS) : gP w 75 56 = some (.inl (qo_k 1 1)) := rfl
theorem pt_75_57 (w : qS) : gP w 75 57 = some (.inl (qo_zas (gL w))) := rfl
theorem pt_75_58 (w : qS) : gP w 75 58 = some (.inl (qo_il 2 1)) := rfl
theorem pt_75_59 (w : qS) : gP w 75 59 = some (.inr (.inr 1)) := rfl
theorem pt_76_0 (w : qS) : gP w 76 0 = some (.inl (qo_al 0 1)) := rfl
theorem pt_76_1 (w : qS) : gP w 76 1 = some (.inl (qo_get (gL w) 5 1)) := rfl
theorem pt_76_4 (w : qS) : gP w 76 4 = some (.inl (qo_il 1 1)) := rfl
theorem pt_76_5 (w : qS) : gP w 76 5 = some (.inl (qo_ia (gL w))) := rfl
theorem pt_76_6 (w : qS) : gP w 76 6 = some (.inl (qo_al 0 1)) := rfl
theorem pt_76_7 (w : qS) : gP w 76 7 = some (.inl (qo_get (gL w) 5 2)) := rfl
theorem pt_76_10 (w : qS) : gP w 76 10 = some (.inl (qo_il 1 1)) := rfl
theorem pt_76_11 (w : qS) : gP w 76 11 = some (.inl (qo_ia (gL w))) := rfl
theorem pt_76_12 (w : qS) : gP w 76 12 = some (.inl (qo_c (fun x y => y ≤ x) 49)) := rfl
theorem pt_76_15 (w : qS) : gP w 76 15 = some (.inl (qo_al 0 1)) := rfl
theorem pt_76_16 (w : qS) : gP w 76 16 = some (.inl (qo_get (gL w) 5 3)) := rfl
theorem pt_76_19 (w : qS) : gP w 76 19 = some (.inl (qo_al 0 1)) := rfl
theorem pt_76_20 (w : qS) : gP w 76 20 = some (.inl (qo_get (gL w) 5 0)) := rfl
theorem pt_76_23 (w : qS) : gP w 76 23 = some (.inl (qo_il 1 1)) := rfl
theorem pt_76_24 (w : qS) : gP w 76 24 = some (.inl (qo_aa (gL w))) := rfl
theorem pt_76_25 (w : qS) : gP w 76 25 = some (.inl (qo_al 0 1)) := rfl
theorem pt_76_26 (w : qS) : gP w 76 26 = some (.inl (qo_get (gL w) 5 1)) := rfl
theorem pt_76_29 (w : qS) : gP w 76 29 = some (.inl (qo_il 1 1)) := rfl
theorem pt_76_30 (w : qS) : gP w 76 30 = some (.inl (qo_ia (gL w))) := rfl
theorem pt_76_31 (w : qS) : gP w 76 31 = some (.inl (qo_ia (gL w))) := rfl
theorem pt_76_32 (w : qS) : gP w 76 32 = some (.inl (qo_za (gL w))) := rfl
theorem pt_76_33 (w : qS) : gP w 76 33 = some (.inl (qo_z (fun x => x = 0) 49)) := rfl
theorem pt_76_36 (w : qS) : gP w 76 36 = some (.inl (qo_al 0 1)) := rfl
theorem pt_76_37 (w : qS) : gP w 76 37 = some (.inl (qo_get (gL w) 5 1)) := rfl
theorem pt_76_40 (w : qS) : gP w 76 40 = some (.inl (qo_il 1 1)) := rfl
theorem pt_76_41 (w : qS) : gP w 76 41 = some (.inl qo_dup2) := rfl
theorem pt_76_42 (w : qS) : gP w 76 42 = some (.inl (qo_ia (gL w))) := rfl
theorem pt_76_43 (w : qS) : gP w 76 43 = some (.inl (qo_k 1 1)) := rfl
theorem pt_76_44 (w : qS) : gP w 76 44 = some (.inl (qo_b (fun x y => x + y))) := rfl
theorem pt_76_45 (w : qS) : gP w 76 45 = some (.inl (qo_ias (gL w))) := rfl
theorem pt_76_46 (w : qS) : gP w 76 46 = some (.inl (qo_g 0)) := rfl
theorem pt_76_49 (w : qS) : gP w 76 49 = some (.inl (qo_al 0 1)) := rfl
theorem pt_76_50 (w : qS) : gP w 76 50 = some (.inl (qo_get (gL w) 5 1)) := rfl
theorem pt_76_53 (w : qS) : gP w 76 53 = some (.inl (qo_il 1 1)) := rfl
theorem pt_76_54 (w : qS) : gP w 76 54 = some (.inl (qo_ia (gL w))) := rfl
theorem pt_76_55 (w : qS) : gP w 76 55 = some (.inl (qo_al 0 1)) := rfl
theorem pt_76_56 (w : qS) : gP w 76 56 = some (.inl (qo_get (gL w) 5 2)) := rfl
theorem pt_76_59 (w : qS) : gP w 76 59 = some (.inl (qo_il 1 1)) := rfl
theorem pt_76_60 (w : qS) : gP w 76 60 = some (.inl (qo_ia (gL w))) := rfl
theorem pt_76_61 (w : qS) : gP w 76 61 = some (.inl (qo_c (fun x y => y ≤ x) 80)) := rfl
theorem pt_76_64 (w : qS) : gP w 76 64 = some (.inl (qo_al 0 1)) := rfl
theorem pt_76_65 (w : qS) : gP w 76 65 = some (.inl (qo_get (gL w) 5 0)) := rfl
theorem pt_76_68 (w : qS) : gP w 76 68 = some (.inl (qo_il 1 1)) := rfl
theorem pt_76_69 (w : qS) : gP w 76 69 = some (.inl (qo_aa (gL w))) := rfl
theorem pt_76_70 (w : qS) : gP w 76 70 = some (.inl (qo_al 0 1)) := rfl
theorem pt_76_71 (w : qS) : gP w 76 71 = some (.inl (qo_get (gL w) 5 1)) := rfl
theorem pt_76_74 (w : qS) : gP w 76 74 = some (.inl (qo_il 1 1)) := rfl
theorem pt_76_75 (w : qS) : gP w 76 75 = some (.inl (qo_ia (gL w))) := rfl
theorem pt_76_76 (w : qS) : gP w 76 76 = some (.inl (qo_ia (gL w))) := rfl
theorem pt_76_77 (w : qS) : gP w 76 77 = some (.inl (qo_g 81)) := rfl
theorem pt_76_80 (w : qS) : gP w 76 80 = some (.inl (qo_k (-1) 1)) := rfl
theorem pt_76_81 (w : qS) : gP w 76 81 = some (.inr (.inr 1)) := rfl
theorem pt_77_0 (w : qS) : gP w 77 0 = some (.inl (qo_al 0 1)) := rfl
theorem pt_77_1 (w : qS) : gP w 77 1 = some (.inl (qo_get (gL w) 6 1)) := rfl
theorem pt_77_4 (w : qS) : gP w 77 4 = some (.inl (qo_k (iN 400) 3)) := rfl
theorem pt_77_7 (w : qS) : gP w 77 7 = some (.inl (qo_c (fun x y => x < y) 12)) := rfl
theorem pt_77_10 (w : qS) : gP w 77 10 = some (.inl (qo_k 0 1)) := rfl
theorem pt_77_11 (w : qS) : gP w 77 11 = some (.inr (.inr 2)) := rfl
theorem pt_77_12 (w : qS) : gP w 77 12 = some (.inl (qo_al 0 1)) := rfl
theorem pt_77_13 (w : qS) : gP w 77 13 = some (.inl (qo_get (gL w) 6 0)) := rfl
theorem pt_77_16 (w : qS) : gP w 77 16 = some (.inl (qo_al 0 1)) := rfl
theorem pt_77_17 (w : qS) : gP w 77 17 = some (.inl (qo_get (gL w) 6 1)) := rfl
theorem pt_77_20 (w : qS) : gP w 77 20 = some (.inl (qo_il 1 1)) := rfl
theorem pt_77_21 (w : qS) : gP w 77 21 = some (.inl (qo_ias (gL w))) := rfl
theorem pt_77_22 (w : qS) : gP w 77 22 = some (.inl (qo_al 0 1)) := rfl
theorem pt_77_23 (w : qS) : gP w 77 23 = some (.inl qo_dup) := rfl
theorem pt_77_24 (w : qS) : gP w 77 24 = some (.inl (qo_get (gL w) 6 1)) := rfl
theorem pt_77_27 (w : qS) : gP w 77 27 = some (.inl (qo_k 1 1)) := rfl
theorem pt_77_28 (w : qS) : gP w 77 28 = some (.inl (qo_b (fun x y => x + y))) := rfl
theorem pt_77_29 (w : qS) : gP w 77 29 = some (.inl (qo_put (gL w) 6 1)) := rfl
theorem pt_77_32 (w : qS) : gP w 77 32 = some (.inl (qo_k 1 1)) := rfl
theorem pt_77_33 (w : qS) : gP w 77 33 = some (.inr (.inr 2)) := rfl
theorem pt_78_0 (w : qS) : gP w 78 0 = some (.inl (qo_al 0 1)) := rfl
theorem pt_78_1 (w : qS) : gP w 78 1 = some (.inl (qo_get (gL w) 6 2)) := rfl
theorem pt_78_4 (w : qS) : gP w 78 4 = some (.inl (qo_k (-1) 1)) := rfl
theorem pt_78_5 (w : qS) : gP w 78 5 = some (.inr (.inl (122, 2, none))) := rfl
theorem pt_78_8 (w : qS) : gP w 78 8 = some (.inl (qo_al 0 1)) := rfl
theorem pt_78_9 (w : qS) : gP w 78 9 = some (.inl (qo_get (gL w) 6 1)) := rfl
theorem pt_78_12 (w : qS) : gP w 78 12 = some (.inl (qo_al 0 1)) := rfl
theorem pt_78_13 (w : qS) : gP w 78 13 = some (.inl (qo_get (gL w) 6 1)) := rfl
theorem pt_78_16 (w : qS) : gP w 78 16 = some (.inl (qo_k (iN 4) 1)) := rfl
theorem pt_78_17 (w : qS) : gP w 78 17 = some (.inl (qo_d (fun x y => x - x / y * y))) := rfl
theorem pt_78_18 (w : qS) : gP w 78 18 = some (.inl (qo_b (fun x y => x - y))) := rfl
theorem pt_78_19 (w : qS) : gP w 78 19 = some (.inl (qo_is 1 1)) := rfl
theorem pt_78_20 (w : qS) : gP w 78 20 = some (.inl (qo_k 0 1)) := rfl
theorem pt_78_21 (w : qS) : gP w 78 21 = some (.inl (qo_is 2 1)) := rfl
theorem pt_78_22 (w : qS) : gP w 78 22 = some (.inl (qo_il 2 1)) := rfl
theorem pt_78_23 (w : qS) : gP w 78 23 = some (.inl (qo_il 1 1)) := rfl
theorem pt_78_24 (w : qS) : gP w 78 24 = some (.inl (qo_c (fun x y => y ≤ x) 81)) := rfl
theorem pt_78_27 (w : qS) : gP w 78 27 = some (.inl (qo_al 0 1)) := rfl
theorem pt_78_28 (w : qS) : gP w 78 28 = some (.inl (qo_get (gL w) 6 0)) := rfl
theorem pt_78_31 (w : qS) : gP w 78 31 = some (.inl (qo_il 2 1)) := rfl
theorem pt_78_32 (w : qS) : gP w 78 32 = some (.inl (qo_ia (gL w))) := rfl
theorem pt_78_33 (w : qS) : gP w 78 33 = some (.inl (qo_k (iN 255) 3)) := rfl
theorem pt_78_36 (w : qS) : gP w 78 36 = some (.inl (qo_c (fun x y => x = y) 81)) := rfl
theorem pt_78_39 (w : qS) : gP w 78 39 = some (.inl (qo_al 0 1)) := rfl
theorem pt_78_40 (w : qS) : gP w 78 40 = some (.inl (qo_al 0 1)) := rfl
theorem pt_78_41 (w : qS) : gP w 78 41 = some (.inl (qo_get (gL w) 6 0)) := rfl
theorem pt_78_44 (w : qS) : gP w 78 44 = some (.inl (qo_il 2 1)) := rfl
theorem pt_78_45 (w : qS) : gP w 78 45 = some (.inl (qo_ia (gL w))) := rfl
theorem pt_78_46 (w : qS) : gP w 78 46 = some (.inl (qo_al 0 1)) := rfl
theorem pt_78_47 (w : qS) : gP w 78 47 = some (.inl (qo_get (gL w) 6 0)) := rfl
theorem pt_78_50 (w : qS) : gP w 78 50 = some (.inl (qo_il 2 1)) := rfl
theorem pt_78_51 (w : qS) : gP w 78 51 = some (.inl (qo_k 1 1)) := rfl
theorem pt_78_52 (w : qS) : gP w 78 52 = some (.inl (qo_b (fun x y => x + y))) := rfl
theorem pt_78_53 (w : qS) : gP w 78 53 = some (.inl (qo_ia (gL w))) := rfl
theorem pt_78_54 (w : qS) : gP w 78 54 = some (.inl (qo_al 0 1)) := rfl
theorem pt_78_55 (w : qS) : gP w 78 55 = some (.inl (qo_get (gL w) 6 0)) := rfl
theorem pt_78_58 (w : qS) : gP w 78 58 = some (.inl (qo_il 2 1)) := rfl
theorem pt_78_59 (w : qS) : gP w 78 59 = some (.inl (qo_k (iN 2) 1)) := rfl
theorem pt_78_60 (w : qS) : gP w 78 60 = some (.inl (qo_b (fun x y => x + y))) := rfl
theorem pt_78_61 (w : qS) : gP w 78 61 = some (.inl (qo_ia (gL w))) := rfl
theorem pt_78_62 (w : qS) : gP w 78 62 = some (.inl (qo_al 0 1)) := rfl
theorem pt_78_63 (w : qS) : gP w 78 63 = some (.inl (qo_get (gL w) 6 0)) := rfl
theorem pt_78_66 (w : qS) : gP w 78 66 = some (.inl (qo_il 2 1)) := rfl
theorem pt_78_67 (w : qS) : gP w 78 67 = some (.inl (qo_k (iN 3) 1)) := rfl
theorem pt_78_68 (w : qS) : gP w 78 68 = some (.inl (qo_b (fun x y => x + y))) := rfl
theorem pt_78_69 (w : qS) : gP w 78 69 = some (.inl (qo_ia (gL w))) := rfl
theorem pt_78_70 (w : qS) : gP w 78 70 = some (.inl (qo_k 1 1)) := rfl
theorem pt_78_71 (w : qS) : gP w 78 71 = some (.inl (qo_b (fun x y => x - y))) := rfl
theorem pt_78_72 (w : qS) : gP w 78 72 = some (.inr (.inl (79, 5, some 6))) := rfl
theorem pt_78_75 (w : qS) : gP w 78 75 = some (.inl (qo_inc 2 (iN 4))) := rfl
theorem pt_78_78 (w : qS) : gP w 78 78 = some (.inl (qo_g 22)) := rfl
theorem pt_78_81 (w : qS) : gP w 78 81 = some (.inr (.inr 0)) := rfl
theorem pt_79_0 (w : qS) : gP w 79 0 = some (.inl (qo_il 2 1)) := rfl
theorem pt_79_1 (w : qS) : gP w 79 1 = some (.inl (qo_il 3 1)) := rfl
theorem pt_79_2 (w : qS) : gP w 79 2 = some (.inl (qo_b (fun x y => x + y))) := rfl
theorem pt_79_3 (w : qS) : gP w 79 3 = some (.inl (qo_k (iN 12) 2)) := rfl
theorem pt_79_5 (w : qS) : gP w 79 5 = some (.inl qo_mn) := rfl
theorem pt_79_8 (w : qS) : gP w 79 8 = some (.inl (qo_is 5 2)) := rfl
theorem pt_79_10 (w : qS) : gP w 79 10 = some (.inl (qo_il 2 1)) := rfl
theorem pt_79_11 (w : qS) : gP w 79 11 = some (.inl (qo_is 6 2)) := rfl
theorem pt_79_13 (w : qS) : gP w 79 13 = some (.inl (qo_il 1 1)) := rfl
theorem pt_79_14 (w : qS) : gP w 79 14 = some (.inl (qo_k (iN 10) 2)) := rfl
theorem pt_79_16 (w : qS) : gP w 79 16 = some (.inl (qo_c (fun x y => y ≤ x) 46)) := rfl
theorem pt_79_19 (w : qS) : gP w 79 19 = some (.inl (qo_il 6 2)) := rfl
theorem pt_79_21 (w : qS) : gP w 79 21 = some (.inl (qo_il 5 2)) := rfl
theorem pt_79_23 (w : qS) : gP w 79 23 = some (.inl (qo_c (fun x y => y ≤ x) 46)) := rfl
theorem pt_79_26 (w : qS) : gP w 79 26 = some (.inl (qo_al 0 1)) := rfl
theorem pt_79_27 (w : qS) : gP w 79 27 = some (.inl (qo_get (gL w) 6 2)) := rfl
theorem pt_79_30 (w : qS) : gP w 79 30 = some (.inl (qo_il 1 1)) := rfl
theorem pt_79_31 (w : qS) : gP w 79 31 = some (.inl (qo_k (iN 12) 2)) := rfl
theorem pt_79_33 (w : qS) : gP w 79 33 = some (.inl (qo_b (fun x y => x * y))) := rfl
theorem pt_79_34 (w : qS) : gP w 79 34 = some (.inl (qo_il 6 2)) := rfl
theorem pt_79_36 (w : qS) : gP w 79 36 = some (.inl (qo_b (fun x y => x + y))) := rfl
theorem pt_79_37 (w : qS) : gP w 79 37 = some (.inl (qo_il 4 2)) := rfl
theorem pt_79_39 (w : qS) : gP w 79 39 = some (.inl (qo_ias (gL w))) := rfl
theorem pt_79_40 (w : qS) : gP w 79 40 = some (.inl (qo_inc 6 1)) := rfl
theorem pt_79_43 (w : qS) : gP w 79 43 = some (.inl (qo_g 13)) := rfl
theorem pt_79_46 (w : qS) : gP w 79 46 = some (.inr (.inr 0)) := rfl
end
