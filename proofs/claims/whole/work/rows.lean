section
/-! An abstract machine for methods that make no objects: the layouts of the cells stand, only numbers change.
 Layout of a cell: an array of numbers (place of its type, length); an array of references (place of its type, length, which cells);
 an object (place of its class, slots: none is a number, some r a reference or null); a table that nobody writes (length, contents). -/
abbrev qL : Type := (Nat × Nat) ⊕ (Nat × Nat × (Nat → Option Nat)) ⊕ (Nat × List (Option (Option Nat))) ⊕ (Nat × (Nat → Int32))
abbrev qM : Type := Nat → Nat → Int32
abbrev qK : Type := Nat → List (Option Value) → List Value → qM → Prop
abbrev qO : Type := Nat → List (Option Value) → List Value → qM → qK → Prop
/-- an entry of a method's table: an instruction; a call (method, how many values, the receiver's class); a return (0 void, 1 int, 2 boolean) -/
abbrev qE : Type := qO ⊕ (Nat × Nat × Option Nat) ⊕ Nat
abbrev qR : Type := Option Value → qM → Prop
abbrev qX : Type := Nat → Nat → List (Option Value) → List Value → qM → qR → Prop
abbrev qP : Type := Nat → Nat → Option qE
-- instructions
def qo_k (v : Int32) (n : Nat) : qO := fun pc loc st M k => k (pc + n) loc (.int v :: st) M
def qo_il (i n : Nat) : qO := fun pc loc st M k => match loc[i]? with
  | some (some (.int x)) => k (pc + n) loc (.int x :: st) M
  | _ => False
def qo_al (i n : Nat) : qO := fun pc loc st M k => match loc[i]? with
  | some (some (.ref x)) => k (pc + n) loc (.ref x :: st) M
  | _ => False
def qo_is (i n : Nat) : qO := fun pc loc st M k => match st with
  | .int x :: r => k (pc + n) (loc.set i (some (.int x))) r M
  | _ => False
def qo_as (i n : Nat) : qO := fun pc loc st M k => match st with
  | .ref x :: r => k (pc + n) (loc.set i (some (.ref x))) r M
  | _ => False
def qo_inc (i : Nat) (d : Int32) : qO := fun pc loc st M k => match loc[i]? with
  | some (some (.int x)) => k (pc + 3) (loc.set i (some (.int (x + d)))) st M
  | _ => False
def qo_b (f : Int32 → Int32 → Int32) : qO := fun pc loc st M k => match st with
  | .int y :: .int x :: r => k (pc + 1) loc (.int (f x y) :: r) M
  | _ => False
def qo_d (f : Int32 → Int32 → Int32) : qO := fun pc loc st M k => match st with
  | .int y :: .int x :: r => (¬ y = 0) ∧ k (pc + 1) loc (.int (f x y) :: r) M
  | _ => False
def qo_u (f : Int32 → Int32) : qO := fun pc loc st M k => match st with
  | .int x :: r => k (pc + 1) loc (.int (f x) :: r) M
  | _ => False
def qo_z (c : Int32 → Prop) (t : Nat) : qO := fun pc loc st M k => match st with
  | .int x :: r => (c x → k t loc r M) ∧ (¬ c x → k (pc + 3) loc r M)
  | _ => False
def qo_c (c : Int32 → Int32 → Prop) (t : Nat) : qO := fun pc loc st M k => match st with
  | .int y :: .int x :: r => (c x y → k t loc r M) ∧ (¬ c x y → k (pc + 3) loc r M)
  | _ => False
def qo_g (t : Nat) : qO := fun _ loc st M k => k t loc st M
def qo_sw (lo : Int) (ts : List Nat) (d : Nat) : qO := fun _ loc st M k => match st with
  | .int x :: r => k (if x.toInt < lo then d else ts.getD (x.toInt - lo).toNat d) loc r M
  | _ => False
def qo_dup : qO := fun pc loc st M k => match st with
  | v :: r => v.category = 1 ∧ k (pc + 1) loc (v :: v :: r) M
  | _ => False
def qo_pop : qO := fun pc loc st M k => match st with
  | v :: r => v.category = 1 ∧ k (pc + 1) loc r M
  | _ => False
def qo_dup2 : qO := fun pc loc st M k => match st with
  | v :: w :: r => v.category = 1 ∧ w.category = 1 ∧ k (pc + 1) loc (v :: w :: v :: w :: r) M
  | _ => False
def qo_dx1 : qO := fun pc loc st M k => match st with
  | v :: w :: r => v.category = 1 ∧ w.category = 1 ∧ k (pc + 1) loc (v :: w :: v :: r) M
  | _ => False
def qo_dx2 : qO := fun pc loc st M k => match st with
  | v :: w :: x :: r => v.category = 1 ∧ w.category = 1 ∧ x.category = 1 ∧ k (pc + 1) loc (v :: w :: x :: v :: r) M
  | _ => False
def qo_get (lay : Nat → qL) (ci j : Nat) : qO := fun pc loc st M k => match st with
  | .ref q :: r => match lay q with
    | .inr (.inr (.inl x)) => x.1 = ci ∧ match x.2[j]? with
      | some none => k (pc + 3) loc (.int (M q j) :: r) M
      | some (some (some z)) => k (pc + 3) loc (.ref z :: r) M
      | _ => False
    | _ => False
  | _ => False
def qo_put (lay : Nat → qL) (ci j : Nat) : qO := fun pc loc st M k => match st with
  | .int v :: .ref q :: r => match lay q with
    | .inr (.inr (.inl x)) => x.1 = ci ∧ x.2[j]? = some none ∧ k (pc + 3) loc r (va_up M q (upd (M q) j v))
    | _ => False
  | _ => False
def qo_ia (lay : Nat → qL) : qO := fun pc loc st M k => match st with
  | .int i :: .ref q :: r => match lay q with
    | .inl x => x.1 = 0 ∧ vp_in i x.2 ∧ k (pc + 1) loc (.int (M q i.toNatClampNeg) :: r) M
    | .inr (.inr (.inr x)) => vp_in i x.1 ∧ k (pc + 1) loc (.int (x.2 i.toNatClampNeg) :: r) M
    | _ => False
  | _ => False
def qo_ias (lay : Nat → qL) : qO := fun pc loc st M k => match st with
  | .int v :: .int i :: .ref q :: r => match lay q with
    | .inl x => x.1 = 0 ∧ vp_in i x.2 ∧ k (pc + 1) loc r (va_up M q (upd (M q) i.toNatClampNeg v))
    | _ => False
  | _ => False
def qo_za (lay : Nat → qL) : qO := fun pc loc st M k => match st with
  | .int i :: .ref q :: r => match lay q with
    | .inl x => x.1 = 1 ∧ vp_in i x.2 ∧ k (pc + 1) loc (.int (M q i.toNatClampNeg) :: r) M
    | _ => False
  | _ => False
def qo_zas (lay : Nat → qL) : qO := fun pc loc st M k => match st with
  | .int v :: .int i :: .ref q :: r => match lay q with
    | .inl x => x.1 = 1 ∧ vp_in i x.2 ∧ k (pc + 1) loc r (va_up M q (upd (M q) i.toNatClampNeg (vp_nar .boolean v)))
    | _ => False
  | _ => False
def qo_aa (lay : Nat → qL) : qO := fun pc loc st M k => match st with
  | .int i :: .ref q :: r => match lay q with
    | .inr (.inl x) => vp_in i x.2.1 ∧ match x.2.2 i.toNatClampNeg with
      | some z => k (pc + 1) loc (.ref z :: r) M
      | none => False
    | _ => False
  | _ => False
def qo_len (lay : Nat → qL) : qO := fun pc loc st M k => match st with
  | .ref q :: r => match lay q with
    | .inl x => k (pc + 1) loc (.int (Int32.ofNat x.2) :: r) M
    | .inr (.inl x) => k (pc + 1) loc (.int (Int32.ofNat x.2.1) :: r) M
    | .inr (.inr (.inr x)) => k (pc + 1) loc (.int (Int32.ofNat x.1) :: r) M
    | _ => False
  | _ => False
def qo_ss (z : Nat) : qO := fun pc loc st M k => k (pc + 3) loc (.ref z :: st) M
def qo_mx : qO := fun pc loc st M k => match st with
  | .int y :: .int x :: r => (r.map fun v => v.category).sum ≤ 8 ∧ k (pc + 3) loc (.int (if x < y then y else x) :: r) M
  | _ => False
def qo_mn : qO := fun pc loc st M k => match st with
  | .int y :: .int x :: r => (r.map fun v => v.category).sum ≤ 8 ∧ k (pc + 3) loc (.int (if y < x then y else x) :: r) M
  | _ => False
def qo_cp (lay : Nat → qL) : qO := fun pc loc st M k => match st with
  | .int n :: .int dp :: .ref q1 :: .int sp :: .ref q0 :: r => match lay q0, lay q1 with
    | .inl x0, .inl x1 => x0.1 = 0 ∧ x1.1 = 0 ∧ (r.map fun v => v.category).sum ≤ 8 ∧ (¬ sp < 0) ∧ (¬ dp < 0) ∧ (¬ n < 0) ∧ sp.toNatClampNeg + n.toNatClampNeg ≤ x0.2 ∧ dp.toNatClampNeg + n.toNatClampNeg ≤ x1.2 ∧
        k (pc + 3) loc r (va_up M q1 (va_cpy (M q0) (M q1) sp.toNatClampNeg dp.toNatClampNeg n.toNatClampNeg))
    | _, _ => False
  | _ => False
-- an instruction asks no more of a weaker goal
def qq_Mon (op : qO) : Prop := ∀ pc loc st M (k k' : qK), (∀ pc' loc' st' M', k pc' loc' st' M' → k' pc' loc' st' M') → op pc loc st M k → op pc loc st M k'
-- the machine: the least relation closed under the tables
def qq_ent (mx : Nat → Nat) (mj : Nat) (vs : List Value) : List (Option Value) := vs.map some ++ List.replicate (mx mj - vs.length) none
def qq_rcv (lay : Nat → qL) (rc : Option Nat) (vs : List Value) : Prop := match rc with
  | none => True
  | some ci => match vs with
    | .ref q :: _ => match lay q with
      | .inr (.inr (.inl x)) => x.1 = ci
      | _ => False
    | _ => False
def qq_ret (b : Nat) (st : List Value) (M : qM) (post : qR) : Prop := match st with
  | [] => b = 0 ∧ post none M
  | [.int v] => (b = 1 ∨ (b = 2 ∧ (v = 0 ∨ v = 1))) ∧ post (some (.int v)) M
  | _ => False
def qq_stp (lay : Nat → qL) (mx : Nat → Nat) (P : qP) (X : qX) : qX := fun mi pc loc st M post => match P mi pc with
  | none => False
  | some (.inl op) => op pc loc st M (fun pc' loc' st' M' => X mi pc' loc' st' M' post)
  | some (.inr (.inl c)) => ∃ vs rest : List Value, st = vs.reverse ++ rest ∧ vs.length = c.2.1 ∧ (∀ v ∈ vs, v.category = 1) ∧ (rest.map fun v => v.category).sum ≤ 8 ∧ qq_rcv lay c.2.2 vs ∧
      X c.1 0 (qq_ent mx c.1 vs) [] M (fun r M' => X mi (pc + 3) loc (r.toList ++ rest) M' post)
  | some (.inr (.inr b)) => qq_ret b st M post
def qq_cl (lay : Nat → qL) (mx : Nat → Nat) (P : qP) (X : qX) : Prop :=
  (∀ mi pc loc st M (p p' : qR), (∀ r M', p r M' → p' r M') → X mi pc loc st M p → X mi pc loc st M p') ∧ ∀ mi pc loc st M post, qq_stp lay mx P X mi pc loc st M post → X mi pc loc st M post
def qq_Ev (lay : Nat → qL) (mx : Nat → Nat) (P : qP) : qX := fun mi pc loc st M post => ∀ X : qX, qq_cl lay mx P X → X mi pc loc st M post
section QEV
variable {lay : Nat → qL} {mx : Nat → Nat} {P : qP}
theorem qq_Ev.mono {mi pc : Nat} {loc : List (Option Value)} {st : List Value} {M : qM} {p p' : qR} (h : qq_Ev lay mx P mi pc loc st M p) (hp : ∀ r M', p r M' → p' r M') : qq_Ev lay mx P mi pc loc st M p' :=
  fun X hX => hX.1 _ _ _ _ _ _ _ hp (h X hX)
theorem qq_Ev.op {mi pc : Nat} {loc : List (Option Value)} {st : List Value} {M : qM} {post : qR} {op : qO} (hP : P mi pc = some (.inl op)) (hm : qq_Mon op)
    (h : op pc loc st M (fun pc' loc' st' M' => qq_Ev lay mx P mi pc' loc' st' M' post)) : qq_Ev lay mx P mi pc loc st M post := by
  intro X hX
  refine hX.2 _ _ _ _ _ _ ?_
  unfold qq_stp
  rw [hP]
  exact hm _ _ _ _ _ _ (fun _ _ _ _ k => k X hX) h
theorem qq_Ev.call {mi pc mj n : Nat} {rc : Option Nat} {loc : List (Option Value)} {st : List Value} {M : qM} {post : qR} (hP : P mi pc = some (.inr (.inl (mj, n, rc)))) (vs rest : List Value) (hst : st = vs.reverse ++ rest) (hn : vs.length = n)
    (hc : ∀ v ∈ vs, v.category = 1) (hr : (rest.map fun v => v.category).sum ≤ 8) (hv : qq_rcv lay rc vs) {pc2 : qR} (h : qq_Ev lay mx P mj 0 (qq_ent mx mj vs) [] M pc2)
    (k : ∀ r M', pc2 r M' → qq_Ev lay mx P mi (pc + 3) loc (r.toList ++ rest) M' post) : qq_Ev lay mx P mi pc loc st M post := by
  intro X hX
  refine hX.2 _ _ _ _ _ _ ?_
  unfold qq_stp
  rw [hP]
  exact ⟨vs, rest, hst, hn, hc, hr, hv, hX.1 _ _ _ _ _ _ _ (fun r M' hp => k r M' hp X hX) (h X hX)⟩
theorem qq_Ev.ret {mi pc b : Nat} {loc : List (Option Value)} {st : List Value} {M : qM} {post : qR} (hP : P mi pc = some (.inr (.inr b))) (h : qq_ret b st M post) : qq_Ev lay mx P mi pc loc st M post := by
  intro X hX
  refine hX.2 _ _ _ _ _ _ ?_
  unfold qq_stp
  rw [hP]
  exact h
end QEV
-- monotone
theorem qm_k (v : Int32) (n : Nat) : qq_Mon (qo_k v n) := fun _ _ _ _ _ _ h g => h _ _ _ _ g
theorem qm_g (t : Nat) : qq_Mon (qo_g t) := fun _ _ _ _ _ _ h g => h _ _ _ _ g
theorem qm_ss (z : Nat) : qq_Mon (qo_ss z) := fun _ _ _ _ _ _ h g => h _ _ _ _ g
theorem qm_il (i n : Nat) : qq_Mon (qo_il i n) := by
  intro pc loc st M k k' h g
  unfold qo_il at g ⊢
  split at g
  · rename_i x hx
    try simp only [hx]
    exact h _ _ _ _ g
  · exact g.elim
theorem qm_al (i n : Nat) : qq_Mon (qo_al i n) := by
  intro pc loc st M k k' h g
  unfold qo_al at g ⊢
  split at g
  · rename_i x hx
    try simp only [hx]
    exact h _ _ _ _ g
  · exact g.elim
theorem qm_inc (i : Nat) (d : Int32) : qq_Mon (qo_inc i d) := by
  intro pc loc st M k k' h g
  unfold qo_inc at g ⊢
  split at g
  · rename_i x hx
    try simp only [hx]
    exact h _ _ _ _ g
  · exact g.elim
theorem qm_is (i n : Nat) : qq_Mon (qo_is i n) := by
  intro pc loc st M k k' h g
  unfold qo_is at g ⊢
  split at g
  · exact h _ _ _ _ g
  · exact g.elim
theorem qm_as (i n : Nat) : qq_Mon (qo_as i n) := by
  intro pc loc st M k k' h g
  unfold qo_as at g ⊢
  split at g
  · exact h _ _ _ _ g
  · exact g.elim
theorem qm_b (f : Int32 → Int32 → Int32) : qq_Mon (qo_b f) := by
  intro pc loc st M k k' h g
  unfold qo_b at g ⊢
  split at g
  · exact h _ _ _ _ g
  · exact g.elim
theorem qm_d (f : Int32 → Int32 → Int32) : qq_Mon (qo_d f) := by
  intro pc loc st M k k' h g
  unfold qo_d at g ⊢
  split at g
  · exact ⟨g.1, h _ _ _ _ g.2⟩
  · exact g.elim
theorem qm_u (f : Int32 → Int32) : qq_Mon (qo_u f) := by
  intro pc loc st M k k' h g
  unfold qo_u at g ⊢
  split at g
  · exact h _ _ _ _ g
  · exact g.elim
theorem qm_z (c : Int32 → Prop) (t : Nat) : qq_Mon (qo_z c t) := by
  intro pc loc st M k k' h g
  unfold qo_z at g ⊢
  split at g
  · exact ⟨fun q => h _ _ _ _ (g.1 q), fun q => h _ _ _ _ (g.2 q)⟩
  · exact g.elim
theorem qm_c (c : Int32 → Int32 → Prop) (t : Nat) : qq_Mon (qo_c c t) := by
  intro pc loc st M k k' h g
  unfold qo_c at g ⊢
  split at g
  · exact ⟨fun q => h _ _ _ _ (g.1 q), fun q => h _ _ _ _ (g.2 q)⟩
  · exact g.elim
theorem qm_sw (lo : Int) (ts : List Nat) (d : Nat) : qq_Mon (qo_sw lo ts d) := by
  intro pc loc st M k k' h g
  unfold qo_sw at g ⊢
  split at g
  · exact h _ _ _ _ g
  · exact g.elim
theorem qm_dup : qq_Mon qo_dup := by
  intro pc loc st M k k' h g
  unfold qo_dup at g ⊢
  split at g
  · exact ⟨g.1, h _ _ _ _ g.2⟩
  · exact g.elim
theorem qm_pop : qq_Mon qo_pop := by
  intro pc loc st M k k' h g
  unfold qo_pop at g ⊢
  split at g
  · exact ⟨g.1, h _ _ _ _ g.2⟩
  · exact g.elim
theorem qm_dup2 : qq_Mon qo_dup2 := by
  intro pc loc st M k k' h g
  unfold qo_dup2 at g ⊢
  split at g
  · exact ⟨g.1, g.2.1, h _ _ _ _ g.2.2⟩
  · exact g.elim
theorem qm_dx1 : qq_Mon qo_dx1 := by
  intro pc loc st M k k' h g
  unfold qo_dx1 at g ⊢
  split at g
  · exact ⟨g.1, g.2.1, h _ _ _ _ g.2.2⟩
  · exact g.elim
theorem qm_dx2 : qq_Mon qo_dx2 := by
  intro pc loc st M k k' h g
  unfold qo_dx2 at g ⊢
  split at g
  · exact ⟨g.1, g.2.1, g.2.2.1, h _ _ _ _ g.2.2.2⟩
  · exact g.elim
theorem qm_mx : qq_Mon qo_mx := by
  intro pc loc st M k k' h g
  unfold qo_mx at g ⊢
  split at g
  · exact ⟨g.1, h _ _ _ _ g.2⟩
  · exact g.elim
theorem qm_mn : qq_Mon qo_mn := by
  intro pc loc st M k k' h g
  unfold qo_mn at g ⊢
  split at g
  · exact ⟨g.1, h _ _ _ _ g.2⟩
  · exact g.elim
theorem qm_put (lay : Nat → qL) (ci j : Nat) : qq_Mon (qo_put lay ci j) := by
  intro pc loc st M k k' h g
  unfold qo_put at g ⊢
  split at g
  · split at g
    · rename_i x hx
      try simp only [hx]
      exact ⟨g.1, g.2.1, h _ _ _ _ g.2.2⟩
    · exact g.elim
  · exact g.elim
theorem qm_ia (lay : Nat → qL) : qq_Mon (qo_ia lay) := by
  intro pc loc st M k k' h g
  unfold qo_ia at g ⊢
  split at g
  · split at g
    · rename_i x hx
      try simp only [hx]
      exact ⟨g.1, g.2.1, h _ _ _ _ g.2.2⟩
    · rename_i x hx
      try simp only [hx]
      exact ⟨g.1, h _ _ _ _ g.2⟩
    · exact g.elim
  · exact g.elim
theorem qm_ias (lay : Nat → qL) : qq_Mon (qo_ias lay) := by
  intro pc loc st M k k' h g
  unfold qo_ias at g ⊢
  split at g
  · split at g
    · rename_i x hx
      try simp only [hx]
      exact ⟨g.1, g.2.1, h _ _ _ _ g.2.2⟩
    · exact g.elim
  · exact g.elim
theorem qm_za (lay : Nat → qL) : qq_Mon (qo_za lay) := by
  intro pc loc st M k k' h g
  unfold qo_za at g ⊢
  split at g
  · split at g
    · rename_i x hx
      try simp only [hx]
      exact ⟨g.1, g.2.1, h _ _ _ _ g.2.2⟩
    · exact g.elim
  · exact g.elim
theorem qm_zas (lay : Nat → qL) : qq_Mon (qo_zas lay) := by
  intro pc loc st M k k' h g
  unfold qo_zas at g ⊢
  split at g
  · split at g
    · rename_i x hx
      try simp only [hx]
      exact ⟨g.1, g.2.1, h _ _ _ _ g.2.2⟩
    · exact g.elim
  · exact g.elim
theorem qm_len (lay : Nat → qL) : qq_Mon (qo_len lay) := by
  intro pc loc st M k k' h g
  unfold qo_len at g ⊢
  split at g
  · split at g
    · rename_i x hx
      try simp only [hx]
      exact h _ _ _ _ g
    · rename_i x hx
      try simp only [hx]
      exact h _ _ _ _ g
    · rename_i x hx
      try simp only [hx]
      exact h _ _ _ _ g
    · exact g.elim
  · exact g.elim
theorem qm_get (lay : Nat → qL) (ci j : Nat) : qq_Mon (qo_get lay ci j) := by
  intro pc loc st M k k' h g
  unfold qo_get at g ⊢
  split at g
  · split at g
    · rename_i x hx
      try simp only [hx]
      refine ⟨g.1, ?_⟩
      have g := g.2
      split at g
      · rename_i hj
        try simp only [hj]
        exact h _ _ _ _ g
      · rename_i z hj
        try simp only [hj]
        exact h _ _ _ _ g
      · exact g.elim
    · exact g.elim
  · exact g.elim
theorem qm_aa (lay : Nat → qL) : qq_Mon (qo_aa lay) := by
  intro pc loc st M k k' h g
  unfold qo_aa at g ⊢
  split at g
  · split at g
    · rename_i x hx
      try simp only [hx]
      refine ⟨g.1, ?_⟩
      have g := g.2
      split at g
      · rename_i z hj
        try simp only [hj]
        exact h _ _ _ _ g
      · exact g.elim
    · exact g.elim
  · exact g.elim
theorem qm_cp (lay : Nat → qL) : qq_Mon (qo_cp lay) := by
  intro pc loc st M k k' h g
  unfold qo_cp at g ⊢
  split at g
  · split at g
    · rename_i x0 x1 h0 h1
      try simp only [h0, h1]
      exact ⟨g.1, g.2.1, g.2.2.1, g.2.2.2.1, g.2.2.2.2.1, g.2.2.2.2.2.1, g.2.2.2.2.2.2.1, g.2.2.2.2.2.2.2.1, h _ _ _ _ g.2.2.2.2.2.2.2.2⟩
    · exact g.elim
  · exact g.elim
end
section
/-! The abstract machine's worlds: what a cell is at its address. -/
def qv (a : Nat → Nat) (v : Value) : Value := match v with
  | .ref k => .ref (a k)
  | w => w
theorem qv_cat (a : Nat → Nat) (v : Value) : (qv a v).category = v.category := by cases v <;> rfl
theorem qv_cats (a : Nat → Nat) (l : List Value) : ((l.map (qv a)).map fun v => v.category).sum = (l.map fun v => v.category).sum := by
  rw [List.map_map]
  congr 1
  exact List.map_congr_left fun v _ => qv_cat a v
def qv_F (a : Nat → Nat) (g : Nat → Int32) : List (Option (Option Nat)) → Nat → List Value
  | [], _ => []
  | none :: r, i => .int (g i) :: qv_F a g r (i + 1)
  | some o :: r, i => va_rf (o.map a) :: qv_F a g r (i + 1)
theorem qv_F_len (a : Nat → Nat) (g : Nat → Int32) : ∀ (fl : List (Option (Option Nat))) (i : Nat), (qv_F a g fl i).length = fl.length
  | [], _ => rfl
  | none :: r, i => by simp [qv_F, qv_F_len a g r (i + 1)]
  | some o :: r, i => by simp [qv_F, qv_F_len a g r (i + 1)]
theorem qv_F_int {a : Nat → Nat} {g : Nat → Int32} : ∀ (fl : List (Option (Option Nat))) (i k : Nat), fl[k]? = some none → (qv_F a g fl i)[k]? = some (.int (g (i + k)))
  | [], _, _, h => by simp at h
  | none :: r, i, 0, _ => by simp [qv_F]
  | none :: r, i, k + 1, h => by
    have h2 := qv_F_int (a := a) (g := g) r (i + 1) k (by simpa using h)
    simp only [qv_F, List.getElem?_cons_succ]
    rw [h2, Nat.add_right_comm, Nat.add_assoc]
  | some o :: r, i, 0, h => by simp at h
  | some o :: r, i, k + 1, h => by
    have h2 := qv_F_int (a := a) (g := g) r (i + 1) k (by simpa using h)
    simp only [qv_F, List.getElem?_cons_succ]
    rw [h2, Nat.add_right_comm, Nat.add_assoc]
theorem qv_F_ref {a : Nat → Nat} {g : Nat → Int32} {z : Nat} : ∀ (fl : List (Option (Option Nat))) (i k : Nat), fl[k]? = some (some (some z)) → (qv_F a g fl i)[k]? = some (.ref (a z))
  | [], _, _, h => by simp at h
  | none :: r, i, 0, h => by simp at h
  | none :: r, i, k + 1, h => by
    simp only [qv_F, List.getElem?_cons_succ]
    exact qv_F_ref r (i + 1) k (by simpa using h)
  | some o :: r, i, 0, h => by
    have h : o = some z := by simpa using h
    subst h
    rfl
  | some o :: r, i, k + 1, h => by
    simp only [qv_F, List.getElem?_cons_succ]
    exact qv_F_ref r (i + 1) k (by simpa using h)
theorem qv_F_congr {a : Nat → Nat} {g g' : Nat → Int32} : ∀ (fl : List (Option (Option Nat))) (i : Nat), (∀ j, i ≤ j → g j = g' j) → qv_F a g fl i = qv_F a g' fl i
  | [], _, _ => rfl
  | none :: r, i, h => by simp only [qv_F]; rw [h i (Nat.le_refl i), qv_F_congr r (i + 1) fun j hj => h j (by omega)]
  | some o :: r, i, h => by simp only [qv_F]; rw [qv_F_congr r (i + 1) fun j hj => h j (by omega)]
theorem qv_F_set {a : Nat → Nat} {g : Nat → Int32} {v : Int32} : ∀ (fl : List (Option (Option Nat))) (i k : Nat), fl[k]? = some none → (qv_F a g fl i).set k (.int v) = qv_F a (upd g (i + k) v) fl i
  | [], _, _, h => by simp at h
  | none :: r, i, 0, _ => by
    simp only [qv_F, List.set_cons_zero, Nat.add_zero]
    rw [qv_F_congr (g := upd g i v) (g' := g) r (i + 1) fun j hj => by unfold upd; rw [if_neg (by omega)]]
    unfold upd
    rw [if_pos rfl]
  | none :: r, i, k + 1, h => by
    have h2 := qv_F_set (a := a) (g := g) (v := v) r (i + 1) k (by simpa using h)
    simp only [qv_F, List.set_cons_succ]
    rw [h2, show i + 1 + k = i + (k + 1) by omega]
    congr 1
    unfold upd
    rw [if_neg (by omega)]
  | some o :: r, i, 0, h => by simp at h
  | some o :: r, i, k + 1, h => by
    have h2 := qv_F_set (a := a) (g := g) (v := v) r (i + 1) k (by simpa using h)
    simp only [qv_F, List.set_cons_succ]
    rw [h2, show i + 1 + k = i + (k + 1) by omega]
def qv_E (a : Nat → Nat) (ca : Nat → ClassId) (lc : qL) (g : Nat → Int32) : va_E := match lc with
  | .inl x => .inl (ca x.1, x.2, .inl g)
  | .inr (.inl x) => .inl (ca x.1, x.2.1, .inr (.inr (.inr (.inr (fun j => (x.2.2 j).map a)))))
  | .inr (.inr (.inl x)) => .inr (x.1, qv_F a g x.2 0)
  | .inr (.inr (.inr x)) => .inl (ca 0, x.1, .inl x.2)
/-- all that stands still: layouts, how many cells, addresses, array classes, class numbers and slots, classes, array types, what is known of tables, methods (names, code, locals, returns, frames, words), words, the launch -/
abbrev qZ : Type := (Nat → qL) × Nat × (Nat → Nat) × (Nat → ClassId) × va_G × List vw_C × List (ClassId × FieldType) × ((Nat → Prop) → State → Heap → Prop) × (Nat → MethodName) × (Nat → ByteArray) × (Nat → Nat) × (Nat → Option FieldType) × (Nat → Nat) × (Nat → Nat) × List Cond × Launch
abbrev z_lay (Z : qZ) : Nat → qL := Z.1
abbrev z_N (Z : qZ) : Nat := Z.2.1
abbrev z_a (Z : qZ) : Nat → Nat := Z.2.2.1
abbrev z_ca (Z : qZ) : Nat → ClassId := Z.2.2.2.1
abbrev z_D (Z : qZ) : va_G := Z.2.2.2.2.1
abbrev z_cl (Z : qZ) : List vw_C := Z.2.2.2.2.2.1
abbrev z_ty (Z : qZ) : List (ClassId × FieldType) := Z.2.2.2.2.2.2.1
abbrev z_St (Z : qZ) : (Nat → Prop) → State → Heap → Prop := Z.2.2.2.2.2.2.2.1
abbrev z_y (Z : qZ) : Nat → MethodName := Z.2.2.2.2.2.2.2.2.1
abbrev z_bc (Z : qZ) : Nat → ByteArray := Z.2.2.2.2.2.2.2.2.2.1
abbrev z_mx (Z : qZ) : Nat → Nat := Z.2.2.2.2.2.2.2.2.2.2.1
abbrev z_rt (Z : qZ) : Nat → Option FieldType := Z.2.2.2.2.2.2.2.2.2.2.2.1
abbrev z_fr (Z : qZ) : Nat → Nat := Z.2.2.2.2.2.2.2.2.2.2.2.2.1
abbrev z_lo (Z : qZ) : Nat → Nat := Z.2.2.2.2.2.2.2.2.2.2.2.2.2.1
abbrev z_Ts (Z : qZ) : List Cond := Z.2.2.2.2.2.2.2.2.2.2.2.2.2.2.1
abbrev z_l (Z : qZ) : Launch := Z.2.2.2.2.2.2.2.2.2.2.2.2.2.2.2
def qw (Z : qZ) (M : qM) : va_W := (List.range (z_N Z)).map (fun k => (z_a Z k, qv_E (z_a Z) (z_ca Z) (z_lay Z k) (M k)))
theorem qw_len (Z : qZ) (M : qM) : (qw Z M).length = z_N Z := by simp [qw]
theorem qw_at {Z : qZ} {k : Nat} (M : qM) (h : k < z_N Z) : (qw Z M)[k]? = some (z_a Z k, qv_E (z_a Z) (z_ca Z) (z_lay Z k) (M k)) := by
  unfold qw
  rw [List.getElem?_map, List.getElem?_range h]
  rfl
theorem qw_set {Z : qZ} {k : Nat} {M : qM} {g : Nat → Int32} {e : va_E} (h : k < z_N Z) (he : qv_E (z_a Z) (z_ca Z) (z_lay Z k) g = e) : (qw Z M).set k (z_a Z k, e) = qw Z (va_up M k g) := by
  apply List.ext_getElem?
  intro i
  by_cases hi : k = i
  · subst hi
    rw [List.getElem?_set_self (by rw [qw_len]; exact h), qw_at _ h, va_up_self, he]
  · rw [List.getElem?_set_ne hi]
    by_cases hN : i < z_N Z
    · rw [qw_at _ hN, qw_at _ hN, va_up_ne _ _ (fun q => hi q.symm)]
    · rw [List.getElem?_eq_none (by rw [qw_len]; omega), List.getElem?_eq_none (by rw [qw_len]; omega)]
def qq_cell (c : qL) : Prop := match c with
  | .inr (.inr (.inr _)) => False
  | _ => True
/-- what must hold of it -/
def qq_OK (Z : qZ) : Prop :=
  (∀ q, qq_cell (z_lay Z q) → q < z_N Z) ∧ (z_ty Z)[0]? = some (z_ca Z 0, .int) ∧ (z_ty Z)[1]? = some (z_ca Z 1, .boolean) ∧
  (∀ q x, z_lay Z q = .inl x → ∃ T, (z_ty Z)[x.1]? = some (z_ca Z x.1, T)) ∧ (∀ q x, z_lay Z q = .inr (.inl x) → ∃ T, (z_ty Z)[x.1]? = some (z_ca Z x.1, T) ∧ T.isReference = true) ∧
  (∀ A u U H, u.vm.Alike U.vm → z_St Z A u H → z_St Z A U H) ∧ (∀ A U H H1, z_St Z A U H → (∀ q : Nat, q < H.size → ¬ A q → H1[q]? = H[q]?) → z_St Z A U H1) ∧ (∀ A B U H, z_St Z A U H → (∀ q : Nat, B q → A q) → z_St Z B U H) ∧
  (∀ A U H q x, z_St Z A U H → z_lay Z q = .inr (.inr (.inr x)) → va_T .int (z_a Z q) x.1 (fun j => .int (x.2 j)) A U H)
-- locals
def qv_lv (a : Nat → Nat) (loc : List (Option Value)) : List (Nat × Value) := (List.range loc.length).filterMap (fun i => match loc[i]? with
  | some (some v) => if v.category = 1 then some (i, qv a v) else none
  | _ => none)
theorem qv_lv_in {a : Nat → Nat} {loc : List (Option Value)} {i : Nat} {v : Value} (h : loc[i]? = some (some v)) (hc : v.category = 1) : (i, qv a v) ∈ qv_lv a loc := by
  unfold qv_lv
  refine List.mem_filterMap.mpr ⟨i, List.mem_range.mpr (List.getElem?_eq_some_iff.mp h).1, ?_⟩
  simp only [h, hc, if_true]
theorem qv_lv_of {a : Nat → Nat} {loc : List (Option Value)} {q : Nat × Value} (h : q ∈ qv_lv a loc) : ∃ v : Value, loc[q.1]? = some (some v) ∧ v.category = 1 ∧ q.2 = qv a v := by
  unfold qv_lv at h
  obtain ⟨i, -, h⟩ := List.mem_filterMap.mp h
  split at h
  · rename_i v hv
    split at h
    · rename_i hc
      cases h
      exact ⟨v, hv, hc, rfl⟩
    · cases h
  · cases h
theorem qv_store {a : Nat → Nat} {loc : List (Option Value)} {ls : Array Slot} {n i : Nat} {v : Value} (hc : v.category = 1)
    (h : lv_has ls n ((i, qv a v) :: (qv_lv a loc).filter (fun q => !(q.1 == i) && !(q.1 + 1 == i && q.2.category == 2)))) : lv_has ls n (qv_lv a (loc.set i (some v))) := by
  refine ⟨h.1, h.2.1, fun q hq => ?_⟩
  obtain ⟨w, hw, hwc, e⟩ := qv_lv_of hq
  obtain ⟨j, z⟩ := q
  dsimp only at hw e
  subst e
  by_cases hi : i = j
  · subst hi
    have hl : i < loc.length := by
      have := (List.getElem?_eq_some_iff.mp hw).1
      simpa using this
    rw [List.getElem?_set_self hl] at hw
    cases hw
    exact h.2.2 _ List.mem_cons_self
  · rw [List.getElem?_set_ne hi] at hw
    refine h.2.2 _ (List.mem_cons_of_mem _ (List.mem_filter.mpr ⟨qv_lv_in hw hwc, ?_⟩))
    have h1 : (j == i) = false := by simpa using fun e => hi e.symm
    have h2 : ((qv a w).category == 2) = false := by rw [qv_cat, hwc]; rfl
    simp [h1, h2]
theorem qv_entry {a : Nat → Nat} {vs : List Value} {n : Nat} {mx : Nat → Nat} {mj : Nat} (hn : vs.length ≤ n) (hm : mx mj = n) (hc : ∀ v ∈ vs, v.category = 1) :
    ∃ ls, (lg_sl (vs.map (qv a)) ++ List.replicate (n - (lg_sl (vs.map (qv a))).length) Slot.unset).toArray = ls ∧ lv_has ls n (qv_lv a (qq_ent mx mj vs)) := by
  have hs : ∀ l : List Value, (∀ v ∈ l, v.category = 1) → lg_sl (l.map (qv a)) = l.map (fun v => Slot.val (qv a v)) := by
    intro l
    induction l with
    | nil => intro _; rfl
    | cons v t ih =>
      intro h
      have h1 : (qv a v).category = 1 := by rw [qv_cat]; exact h v List.mem_cons_self
      have h2 := ih fun w hw => h w (List.mem_cons_of_mem _ hw)
      simp only [lg_sl, List.map_cons, List.flatMap_cons, h1] at h2 ⊢
      rw [h2]
      rfl
  have hlen : (lg_sl (vs.map (qv a))).length ≤ n := by rw [hs vs hc]; simpa using hn
  refine ⟨_, rfl, ?_⟩
  have he := lv_entry (vs.map (qv a)) hlen
  refine ⟨he.1, he.2.1, fun q hq => ?_⟩
  obtain ⟨w, hw, hwc, e⟩ := qv_lv_of hq
  obtain ⟨j, z⟩ := q
  dsimp only at hw e
  subst e
  have hj : vs[j]? = some w := by
    unfold qq_ent at hw
    by_cases hjl : j < vs.length
    · rw [List.getElem?_append_left (by simpa using hjl), List.getElem?_map] at hw
      cases hv : vs[j]? with
      | none => rw [hv] at hw; cases hw
      | some u => rw [hv] at hw; cases hw; rfl
    · rw [List.getElem?_append_right (by simpa using hjl)] at hw
      have := List.mem_of_getElem? hw
      have := List.eq_of_mem_replicate this
      cases this
  rw [hs vs hc]
  have hjl := (List.getElem?_eq_some_iff.mp hj).1
  rw [List.getElem?_toArray, List.getElem?_append_left (by simpa using hjl), List.getElem?_map, hj]
  rfl
end
section
/-! Where a method stands, and that an instruction is sound there. -/
def qq_Cx (Z : qZ) (mi : Nat) (p : Program) (R : Room) (s : State) (m : MethodId) (args : Array Value) (meth : Method) (c : Code) (A : Nat → Prop) (cells slots : Nat) : Prop :=
  p.tables.exec = Jvm.exec ∧ c.code = z_bc Z mi ∧ c.maxLocals = z_mx Z mi ∧ s.vm.findClass (z_y Z mi).cls = some m.cls ∧ (∀ w ∈ z_Ts Z, w.before args s = true) ∧ va_K (z_D Z) (z_cl Z) (z_ty Z) s ∧
  (∀ q : Nat, s.heap.size ≤ q → A q) ∧ z_St Z A s s.heap ∧ (z_fr Z mi ≤ R.frames ∧ z_lo Z mi ≤ R.locals) ∧ meth.sig.returnType = z_rt Z mi ∧ meth.locks = false ∧ (cells ≤ R.cells ∧ slots ≤ R.slots)
def qq_G (Z : qZ) (mi : Nat) (p : Program) (e : Env) (R : Room) (s : State) (m : MethodId) (args : Array Value) (below : List Frame) (meth : Method) (c : Code) (A : Nat → Prop) (cells slots : Nat) (Q : State → Prop) (pc : Nat) (loc : List (Option Value)) (st : List Value) (M : qM) : Prop :=
  ∀ (H : Heap) (locs : List Loc) (ls : Array Slot), lv_has ls (z_mx Z mi) (qv_lv (z_a Z) loc) → va_P (z_D Z) (z_cl Z) (qw Z M) H → va_D A (qw Z M) → va_S A s.heap H locs →
    W p (z_l Z) e R s m args below meth c H locs cells slots Q (F0 m pc ls (st.map (qv (z_a Z))))
def qq_Snd (Z : qZ) (mi pc : Nat) (op : qO) : Prop :=
  ∀ (p : Program) (e : Env) (R : Room) (s : State) (m : MethodId) (args : Array Value) (below : List Frame) (meth : Method) (c : Code) (A : Nat → Prop) (cells slots : Nat) (Q : State → Prop) (loc : List (Option Value)) (st : List Value) (M : qM),
    qq_Cx Z mi p R s m args meth c A cells slots → op pc loc st M (fun pc' loc' st' M' => qq_G Z mi p e R s m args below meth c A cells slots Q pc' loc' st' M') → qq_G Z mi p e R s m args below meth c A cells slots Q pc loc st M
section QROWS
variable {Z : qZ} {mi pc : Nat}
theorem qs_iconst {n : Int} {v : Int32} (hd : decode (z_bc Z mi) pc = .ok (.iconst n, 1)) (hv : Int32.ofInt n = v) : qq_Snd Z mi pc (qo_k v 1) := by
  intro p e R s m args below meth c A cells slots Q loc st M cx h H locs ls hl hP hD hS
  exact lv_iconst cx.1 cx.2.1 hd hv (h H locs ls hl hP hD hS)
theorem qs_bipush {n : Int} {v : Int32} (hd : decode (z_bc Z mi) pc = .ok (.bipush n, 2)) (hv : (Int8.ofInt n).toInt32 = v) : qq_Snd Z mi pc (qo_k v 2) := by
  intro p e R s m args below meth c A cells slots Q loc st M cx h H locs ls hl hP hD hS
  exact lv_bipush cx.1 cx.2.1 hd hv (h H locs ls hl hP hD hS)
theorem qs_sipush {n : Int} {v : Int32} (hd : decode (z_bc Z mi) pc = .ok (.sipush n, 3)) (hv : (Int16.ofInt n).toInt32 = v) : qq_Snd Z mi pc (qo_k v 3) := by
  intro p e R s m args below meth c A cells slots Q loc st M cx h H locs ls hl hP hD hS
  exact lv_sipush cx.1 cx.2.1 hd hv (h H locs ls hl hP hD hS)
theorem qs_ldc {index : Nat} {v : Int32} (hd : decode (z_bc Z mi) pc = .ok (.ldc index, 2)) (hc : Cond.constant (z_y Z mi).cls index v ∈ z_Ts Z) : qq_Snd Z mi pc (qo_k v 2) := by
  intro p e R s m args below meth c A cells slots Q loc st M cx h H locs ls hl hP hD hS
  exact lv_ldc cx.1 cx.2.1 cx.2.2.2.1 (cx.2.2.2.2.1 _ hc) hd (h H locs ls hl hP hD hS)
theorem qs_iload_n {k : Fin 4} {i : Nat} (hd : decode (z_bc Z mi) pc = .ok (.iload_n k, 1)) (hi : (k : Nat) = i) : qq_Snd Z mi pc (qo_il i 1) := by
  intro p e R s m args below meth c A cells slots Q loc st M cx h H locs ls hl hP hD hS
  unfold qo_il at h
  split at h
  · rename_i x hx
    exact lv_iload_n cx.1 cx.2.1 hd hi (hl.2.2 _ (qv_lv_in hx rfl)) (h H locs ls hl hP hD hS)
  · exact h.elim
theorem qs_iload {i : Nat} (hd : decode (z_bc Z mi) pc = .ok (.iload i, 2)) : qq_Snd Z mi pc (qo_il i 2) := by
  intro p e R s m args below meth c A cells slots Q loc st M cx h H locs ls hl hP hD hS
  unfold qo_il at h
  split at h
  · rename_i x hx
    exact lv_iload cx.1 cx.2.1 hd (hl.2.2 _ (qv_lv_in hx rfl)) (h H locs ls hl hP hD hS)
  · exact h.elim
theorem qs_aload_n {k : Fin 4} {i : Nat} (hd : decode (z_bc Z mi) pc = .ok (.aload_n k, 1)) (hi : (k : Nat) = i) : qq_Snd Z mi pc (qo_al i 1) := by
  intro p e R s m args below meth c A cells slots Q loc st M cx h H locs ls hl hP hD hS
  unfold qo_al at h
  split at h
  · rename_i x hx
    exact lv_aload_n cx.1 cx.2.1 hd hi (hl.2.2 _ (qv_lv_in hx rfl)) (h H locs ls hl hP hD hS)
  · exact h.elim
theorem qs_aload {i : Nat} (hd : decode (z_bc Z mi) pc = .ok (.aload i, 2)) : qq_Snd Z mi pc (qo_al i 2) := by
  intro p e R s m args below meth c A cells slots Q loc st M cx h H locs ls hl hP hD hS
  unfold qo_al at h
  split at h
  · rename_i x hx
    exact lv_aload cx.1 cx.2.1 hd (hl.2.2 _ (qv_lv_in hx rfl)) (h H locs ls hl hP hD hS)
  · exact h.elim
theorem qs_istore_n {k : Fin 4} {i : Nat} (hd : decode (z_bc Z mi) pc = .ok (.istore_n k, 1)) (hi : (k : Nat) = i) (hn : i < z_mx Z mi) : qq_Snd Z mi pc (qo_is i 1) := by
  intro p e R s m args below meth c A cells slots Q loc st M cx h H locs ls hl hP hD hS
  unfold qo_is at h
  split at h
  · rename_i x r
    exact lv_istore_n cx.1 cx.2.1 hd hi hl hn rfl (fun ls1 hl1 => h H locs ls1 (qv_store (v := .int x) rfl hl1) hP hD hS)
  · exact h.elim
theorem qs_istore {i : Nat} (hd : decode (z_bc Z mi) pc = .ok (.istore i, 2)) (hn : i < z_mx Z mi) : qq_Snd Z mi pc (qo_is i 2) := by
  intro p e R s m args below meth c A cells slots Q loc st M cx h H locs ls hl hP hD hS
  unfold qo_is at h
  split at h
  · rename_i x r
    exact lv_istore cx.1 cx.2.1 hd hl hn rfl (fun ls1 hl1 => h H locs ls1 (qv_store (v := .int x) rfl hl1) hP hD hS)
  · exact h.elim
theorem qs_astore_n {k : Fin 4} {i : Nat} (hd : decode (z_bc Z mi) pc = .ok (.astore_n k, 1)) (hi : (k : Nat) = i) (hn : i < z_mx Z mi) : qq_Snd Z mi pc (qo_as i 1) := by
  intro p e R s m args below meth c A cells slots Q loc st M cx h H locs ls hl hP hD hS
  unfold qo_as at h
  split at h
  · rename_i x r
    exact lv_astore_n cx.1 cx.2.1 hd hi hl hn rfl (fun ls1 hl1 => h H locs ls1 (qv_store (v := .ref x) rfl hl1) hP hD hS)
  · exact h.elim
theorem qs_astore {i : Nat} (hd : decode (z_bc Z mi) pc = .ok (.astore i, 2)) (hn : i < z_mx Z mi) : qq_Snd Z mi pc (qo_as i 2) := by
  intro p e R s m args below meth c A cells slots Q loc st M cx h H locs ls hl hP hD hS
  unfold qo_as at h
  split at h
  · rename_i x r
    exact lv_astore cx.1 cx.2.1 hd hl hn rfl (fun ls1 hl1 => h H locs ls1 (qv_store (v := .ref x) rfl hl1) hP hD hS)
  · exact h.elim
theorem qs_iinc {i : Nat} {n : Int} {v : Int32} (hd : decode (z_bc Z mi) pc = .ok (.iinc i n, 3)) (hv : Int32.ofInt n = v) (hn : i < z_mx Z mi) : qq_Snd Z mi pc (qo_inc i v) := by
  intro p e R s m args below meth c A cells slots Q loc st M cx h H locs ls hl hP hD hS
  unfold qo_inc at h
  split at h
  · rename_i x hx
    obtain ⟨k, hk⟩ := List.getElem?_of_mem (qv_lv_in (a := z_a Z) hx rfl)
    exact lv_iinc cx.1 cx.2.1 hd hl hk (by rw [hv]) hn rfl (fun ls1 hl1 => h H locs ls1 (qv_store (v := .int (x + v)) rfl hl1) hP hD hS)
  · exact h.elim
theorem qs_iadd (hd : decode (z_bc Z mi) pc = .ok (.iadd, 1)) : qq_Snd Z mi pc (qo_b (fun x y => x + y)) := by
  intro p e R s m args below meth c A cells slots Q loc st M cx h H locs ls hl hP hD hS
  unfold qo_b at h
  split at h
  · exact lv_iadd cx.1 cx.2.1 hd (h H locs ls hl hP hD hS)
  · exact h.elim
theorem qs_isub (hd : decode (z_bc Z mi) pc = .ok (.isub, 1)) : qq_Snd Z mi pc (qo_b (fun x y => x - y)) := by
  intro p e R s m args below meth c A cells slots Q loc st M cx h H locs ls hl hP hD hS
  unfold qo_b at h
  split at h
  · exact lv_isub cx.1 cx.2.1 hd (h H locs ls hl hP hD hS)
  · exact h.elim
theorem qs_imul (hd : decode (z_bc Z mi) pc = .ok (.imul, 1)) : qq_Snd Z mi pc (qo_b (fun x y => x * y)) := by
  intro p e R s m args below meth c A cells slots Q loc st M cx h H locs ls hl hP hD hS
  unfold qo_b at h
  split at h
  · exact lv_imul cx.1 cx.2.1 hd (h H locs ls hl hP hD hS)
  · exact h.elim
theorem qs_iand (hd : decode (z_bc Z mi) pc = .ok (.iand, 1)) : qq_Snd Z mi pc (qo_b (fun x y => x &&& y)) := by
  intro p e R s m args below meth c A cells slots Q loc st M cx h H locs ls hl hP hD hS
  unfold qo_b at h
  split at h
  · exact lv_iand cx.1 cx.2.1 hd (h H locs ls hl hP hD hS)
  · exact h.elim
theorem qs_ior (hd : decode (z_bc Z mi) pc = .ok (.ior, 1)) : qq_Snd Z mi pc (qo_b (fun x y => x ||| y)) := by
  intro p e R s m args below meth c A cells slots Q loc st M cx h H locs ls hl hP hD hS
  unfold qo_b at h
  split at h
  · exact lv_ior cx.1 cx.2.1 hd (h H locs ls hl hP hD hS)
  · exact h.elim
theorem qs_ixor (hd : decode (z_bc Z mi) pc = .ok (.ixor, 1)) : qq_Snd Z mi pc (qo_b (fun x y => x ^^^ y)) := by
  intro p e R s m args below meth c A cells slots Q loc st M cx h H locs ls hl hP hD hS
  unfold qo_b at h
  split at h
  · exact lv_ixor cx.1 cx.2.1 hd (h H locs ls hl hP hD hS)
  · exact h.elim
theorem qs_ishl (hd : decode (z_bc Z mi) pc = .ok (.ishl, 1)) : qq_Snd Z mi pc (qo_b (fun x y => x <<< (y &&& 31))) := by
  intro p e R s m args below meth c A cells slots Q loc st M cx h H locs ls hl hP hD hS
  unfold qo_b at h
  split at h
  · exact lv_ishl cx.1 cx.2.1 hd (h H locs ls hl hP hD hS)
  · exact h.elim
theorem qs_ishr (hd : decode (z_bc Z mi) pc = .ok (.ishr, 1)) : qq_Snd Z mi pc (qo_b (fun x y => x >>> (y &&& 31))) := by
  intro p e R s m args below meth c A cells slots Q loc st M cx h H locs ls hl hP hD hS
  unfold qo_b at h
  split at h
  · exact lv_ishr cx.1 cx.2.1 hd (h H locs ls hl hP hD hS)
  · exact h.elim
theorem qs_idiv (hd : decode (z_bc Z mi) pc = .ok (.idiv, 1)) : qq_Snd Z mi pc (qo_d (fun x y => x / y)) := by
  intro p e R s m args below meth c A cells slots Q loc st M cx h H locs ls hl hP hD hS
  unfold qo_d at h
  split at h
  · exact lv_idiv cx.1 cx.2.1 hd h.1 (h.2 H locs ls hl hP hD hS)
  · exact h.elim
theorem qs_irem (hd : decode (z_bc Z mi) pc = .ok (.irem, 1)) : qq_Snd Z mi pc (qo_d (fun x y => x - x / y * y)) := by
  intro p e R s m args below meth c A cells slots Q loc st M cx h H locs ls hl hP hD hS
  unfold qo_d at h
  split at h
  · exact lv_irem cx.1 cx.2.1 hd h.1 (h.2 H locs ls hl hP hD hS)
  · exact h.elim
theorem qs_ineg (hd : decode (z_bc Z mi) pc = .ok (.ineg, 1)) : qq_Snd Z mi pc (qo_u (fun x => -x)) := by
  intro p e R s m args below meth c A cells slots Q loc st M cx h H locs ls hl hP hD hS
  unfold qo_u at h
  split at h
  · exact lv_ineg cx.1 cx.2.1 hd (h H locs ls hl hP hD hS)
  · exact h.elim
theorem qs_dup (hd : decode (z_bc Z mi) pc = .ok (.dup, 1)) : qq_Snd Z mi pc qo_dup := by
  intro p e R s m args below meth c A cells slots Q loc st M cx h H locs ls hl hP hD hS
  unfold qo_dup at h
  split at h
  · exact lv_dup cx.1 cx.2.1 hd (by rw [qv_cat]; exact h.1) (h.2 H locs ls hl hP hD hS)
  · exact h.elim
theorem qs_pop (hd : decode (z_bc Z mi) pc = .ok (.pop, 1)) : qq_Snd Z mi pc qo_pop := by
  intro p e R s m args below meth c A cells slots Q loc st M cx h H locs ls hl hP hD hS
  unfold qo_pop at h
  split at h
  · rename_i v r
    exact lv_pop (va := qv (z_a Z) v) cx.1 cx.2.1 hd (by rw [qv_cat]; exact h.1) (h.2 H locs ls hl hP hD hS)
  · exact h.elim
theorem qs_dup2 (hd : decode (z_bc Z mi) pc = .ok (.dup2, 1)) : qq_Snd Z mi pc qo_dup2 := by
  intro p e R s m args below meth c A cells slots Q loc st M cx h H locs ls hl hP hD hS
  unfold qo_dup2 at h
  split at h
  · exact lv_dup2_11 cx.1 cx.2.1 hd (by rw [qv_cat]; exact h.1) (by rw [qv_cat]; exact h.2.1) (h.2.2 H locs ls hl hP hD hS)
  · exact h.elim
theorem qs_dup_x1 (hd : decode (z_bc Z mi) pc = .ok (.dup_x1, 1)) : qq_Snd Z mi pc qo_dx1 := by
  intro p e R s m args below meth c A cells slots Q loc st M cx h H locs ls hl hP hD hS
  unfold qo_dx1 at h
  split at h
  · exact lv_dup_x1 cx.1 cx.2.1 hd (by rw [qv_cat]; exact h.1) (by rw [qv_cat]; exact h.2.1) (h.2.2 H locs ls hl hP hD hS)
  · exact h.elim
theorem qs_dup_x2 (hd : decode (z_bc Z mi) pc = .ok (.dup_x2, 1)) : qq_Snd Z mi pc qo_dx2 := by
  intro p e R s m args below meth c A cells slots Q loc st M cx h H locs ls hl hP hD hS
  unfold qo_dx2 at h
  split at h
  · exact lv_dup_x2 cx.1 cx.2.1 hd (by rw [qv_cat]; exact h.1) (by rw [qv_cat]; exact h.2.1) (by rw [qv_cat]; exact h.2.2.1) (h.2.2.2 H locs ls hl hP hD hS)
  · exact h.elim
theorem qs_if_eq {off : Int} {t : Nat} (hd : decode (z_bc Z mi) pc = .ok (.ifCond .eq off, 3)) (ht : (pc : Int) + off = (t : Int)) : qq_Snd Z mi pc (qo_z (fun x => x = 0) t) := by
  intro p e R s m args below meth c A cells slots Q loc st M cx h H locs ls hl hP hD hS
  unfold qo_z at h
  split at h
  · exact lv_if_eq cx.1 cx.2.1 hd ht (fun q => h.1 q H locs ls hl hP hD hS) (fun q => h.2 q H locs ls hl hP hD hS)
  · exact h.elim
theorem qs_if_ne {off : Int} {t : Nat} (hd : decode (z_bc Z mi) pc = .ok (.ifCond .ne off, 3)) (ht : (pc : Int) + off = (t : Int)) : qq_Snd Z mi pc (qo_z (fun x => ¬ x = 0) t) := by
  intro p e R s m args below meth c A cells slots Q loc st M cx h H locs ls hl hP hD hS
  unfold qo_z at h
  split at h
  · exact lv_if_ne cx.1 cx.2.1 hd ht (fun q => h.1 q H locs ls hl hP hD hS) (fun q => h.2 (fun n => n q) H locs ls hl hP hD hS)
  · exact h.elim
theorem qs_if_lt {off : Int} {t : Nat} (hd : decode (z_bc Z mi) pc = .ok (.ifCond .lt off, 3)) (ht : (pc : Int) + off = (t : Int)) : qq_Snd Z mi pc (qo_z (fun x => x < 0) t) := by
  intro p e R s m args below meth c A cells slots Q loc st M cx h H locs ls hl hP hD hS
  unfold qo_z at h
  split at h
  · exact lv_if_lt cx.1 cx.2.1 hd ht (fun q => h.1 q H locs ls hl hP hD hS) (fun q => h.2 q H locs ls hl hP hD hS)
  · exact h.elim
theorem qs_if_ge {off : Int} {t : Nat} (hd : decode (z_bc Z mi) pc = .ok (.ifCond .ge off, 3)) (ht : (pc : Int) + off = (t : Int)) : qq_Snd Z mi pc (qo_z (fun x => 0 ≤ x) t) := by
  intro p e R s m args below meth c A cells slots Q loc st M cx h H locs ls hl hP hD hS
  unfold qo_z at h
  split at h
  · exact lv_if_ge cx.1 cx.2.1 hd ht (fun q => h.1 q H locs ls hl hP hD hS) (fun q => h.2 q H locs ls hl hP hD hS)
  · exact h.elim
theorem qs_if_gt {off : Int} {t : Nat} (hd : decode (z_bc Z mi) pc = .ok (.ifCond .gt off, 3)) (ht : (pc : Int) + off = (t : Int)) : qq_Snd Z mi pc (qo_z (fun x => 0 < x) t) := by
  intro p e R s m args below meth c A cells slots Q loc st M cx h H locs ls hl hP hD hS
  unfold qo_z at h
  split at h
  · exact lv_if_gt cx.1 cx.2.1 hd ht (fun q => h.1 q H locs ls hl hP hD hS) (fun q => h.2 q H locs ls hl hP hD hS)
  · exact h.elim
theorem qs_if_le {off : Int} {t : Nat} (hd : decode (z_bc Z mi) pc = .ok (.ifCond .le off, 3)) (ht : (pc : Int) + off = (t : Int)) : qq_Snd Z mi pc (qo_z (fun x => x ≤ 0) t) := by
  intro p e R s m args below meth c A cells slots Q loc st M cx h H locs ls hl hP hD hS
  unfold qo_z at h
  split at h
  · exact lv_if_le cx.1 cx.2.1 hd ht (fun q => h.1 q H locs ls hl hP hD hS) (fun q => h.2 q H locs ls hl hP hD hS)
  · exact h.elim
theorem qs_icmp_eq {off : Int} {t : Nat} (hd : decode (z_bc Z mi) pc = .ok (.if_icmp .eq off, 3)) (ht : (pc : Int) + off = (t : Int)) : qq_Snd Z mi pc (qo_c (fun x y => x = y) t) := by
  intro p e R s m args below meth c A cells slots Q loc st M cx h H locs ls hl hP hD hS
  unfold qo_c at h
  split at h
  · exact lv_icmp_eq cx.1 cx.2.1 hd ht (fun q => h.1 q H locs ls hl hP hD hS) (fun q => h.2 q H locs ls hl hP hD hS)
  · exact h.elim
theorem qs_icmp_ne {off : Int} {t : Nat} (hd : decode (z_bc Z mi) pc = .ok (.if_icmp .ne off, 3)) (ht : (pc : Int) + off = (t : Int)) : qq_Snd Z mi pc (qo_c (fun x y => ¬ x = y) t) := by
  intro p e R s m args below meth c A cells slots Q loc st M cx h H locs ls hl hP hD hS
  unfold qo_c at h
  split at h
  · exact lv_icmp_ne cx.1 cx.2.1 hd ht (fun q => h.1 q H locs ls hl hP hD hS) (fun q => h.2 (fun n => n q) H locs ls hl hP hD hS)
  · exact h.elim
theorem qs_icmp_lt {off : Int} {t : Nat} (hd : decode (z_bc Z mi) pc = .ok (.if_icmp .lt off, 3)) (ht : (pc : Int) + off = (t : Int)) : qq_Snd Z mi pc (qo_c (fun x y => x < y) t) := by
  intro p e R s m args below meth c A cells slots Q loc st M cx h H locs ls hl hP hD hS
  unfold qo_c at h
  split at h
  · exact lv_icmp_lt cx.1 cx.2.1 hd ht (fun q => h.1 q H locs ls hl hP hD hS) (fun q => h.2 q H locs ls hl hP hD hS)
  · exact h.elim
theorem qs_icmp_ge {off : Int} {t : Nat} (hd : decode (z_bc Z mi) pc = .ok (.if_icmp .ge off, 3)) (ht : (pc : Int) + off = (t : Int)) : qq_Snd Z mi pc (qo_c (fun x y => y ≤ x) t) := by
  intro p e R s m args below meth c A cells slots Q loc st M cx h H locs ls hl hP hD hS
  unfold qo_c at h
  split at h
  · exact lv_icmp_ge cx.1 cx.2.1 hd ht (fun q => h.1 q H locs ls hl hP hD hS) (fun q => h.2 q H locs ls hl hP hD hS)
  · exact h.elim
theorem qs_icmp_gt {off : Int} {t : Nat} (hd : decode (z_bc Z mi) pc = .ok (.if_icmp .gt off, 3)) (ht : (pc : Int) + off = (t : Int)) : qq_Snd Z mi pc (qo_c (fun x y => y < x) t) := by
  intro p e R s m args below meth c A cells slots Q loc st M cx h H locs ls hl hP hD hS
  unfold qo_c at h
  split at h
  · exact lv_icmp_gt cx.1 cx.2.1 hd ht (fun q => h.1 q H locs ls hl hP hD hS) (fun q => h.2 q H locs ls hl hP hD hS)
  · exact h.elim
theorem qs_icmp_le {off : Int} {t : Nat} (hd : decode (z_bc Z mi) pc = .ok (.if_icmp .le off, 3)) (ht : (pc : Int) + off = (t : Int)) : qq_Snd Z mi pc (qo_c (fun x y => x ≤ y) t) := by
  intro p e R s m args below meth c A cells slots Q loc st M cx h H locs ls hl hP hD hS
  unfold qo_c at h
  split at h
  · exact lv_icmp_le cx.1 cx.2.1 hd ht (fun q => h.1 q H locs ls hl hP hD hS) (fun q => h.2 q H locs ls hl hP hD hS)
  · exact h.elim
theorem qs_goto {off : Int} {t : Nat} (hd : decode (z_bc Z mi) pc = .ok (.goto off, 3)) (ht : (pc : Int) + off = (t : Int)) : qq_Snd Z mi pc (qo_g t) := by
  intro p e R s m args below meth c A cells slots Q loc st M cx h H locs ls hl hP hD hS
  exact lv_goto cx.1 cx.2.1 hd ht (h H locs ls hl hP hD hS)
theorem qs_table {dflt lo hi : Int} {offs : Array Int} {len : Nat} {ts : List Nat} {t : Nat} (hd : decode (z_bc Z mi) pc = .ok (.tableswitch dflt lo hi offs, len)) (ht : (pc : Int) + dflt = (t : Int)) (hn : (offs.size : Int) = hi - lo + 1) (ho : offs.toList.map (fun o => (pc : Int) + o) = ts.map (fun (x : Nat) => (x : Int))) : qq_Snd Z mi pc (qo_sw lo ts t) := by
  intro p e R s m args below meth c A cells slots Q loc st M cx h H locs ls hl hP hD hS
  unfold qo_sw at h
  split at h
  · rename_i x r
    have hl1 : ts.length = offs.size := by have := congrArg List.length ho; simpa using this.symm
    by_cases h1 : x.toInt < lo
    · rw [if_pos h1] at h
      exact lv_tableOut cx.1 cx.2.1 hd (Or.inl h1) ht (h H locs ls hl hP hD hS)
    · rw [if_neg h1] at h
      by_cases h2 : hi < x.toInt
      · rw [List.getD_eq_getElem?_getD, List.getElem?_eq_none (by omega)] at h
        exact lv_tableOut cx.1 cx.2.1 hd (Or.inr h2) ht (h H locs ls hl hP hD hS)
      · have hj : (x.toInt - lo).toNat < ts.length := by omega
        have hj2 : (x.toInt - lo).toNat < offs.size := by omega
        have he : (offs.toList.map (fun o => (pc : Int) + o))[(x.toInt - lo).toNat]? = (ts.map (fun (x : Nat) => (x : Int)))[(x.toInt - lo).toNat]? := by rw [ho]
        rw [List.getElem?_map, List.getElem?_map, List.getElem?_eq_getElem hj, Array.getElem?_toList, Array.getElem?_eq_getElem hj2] at he
        rw [List.getD_eq_getElem?_getD, List.getElem?_eq_getElem hj] at h
        exact lv_tableIn cx.1 cx.2.1 hd h1 h2 (Array.getElem?_eq_getElem hj2) (by simpa using he) (h H locs ls hl hP hD hS)
  · exact h.elim
theorem qs_ss {index z : Nat} {C n d : String} (hd : decode (z_bc Z mi) pc = .ok (.getstatic index, 3)) (hZ : ∀ A U H, z_St Z A U H → va_Z C n d (.ref (z_a Z z)) A U H) (hl0 : Cond.fieldLink (z_y Z mi).cls index C n d ∈ z_Ts Z) : qq_Snd Z mi pc (qo_ss z) := by
  intro p e R s m args below meth c A cells slots Q loc st M cx h H locs ls hl hP hD hS
  exact va_gets cx.1 cx.2.1 (hZ _ _ _ cx.2.2.2.2.2.2.2.1) hS cx.2.2.2.1 (cx.2.2.2.2.1 _ hl0) (fun _ h9 => h9) hd (h H locs ls hl hP hD hS)
theorem qs_ssN {index z : Nat} {C n d host : String} (hd : decode (z_bc Z mi) pc = .ok (.getstatic index, 3)) (hZ : ∀ A U H, z_St Z A U H → va_Z C n d (.ref (z_a Z z)) A U H) (hl0 : Cond.fieldLinkNest (z_y Z mi).cls index C n d host ∈ z_Ts Z) : qq_Snd Z mi pc (qo_ss z) := by
  intro p e R s m args below meth c A cells slots Q loc st M cx h H locs ls hl hP hD hS
  exact va_getsN cx.1 cx.2.1 (hZ _ _ _ cx.2.2.2.2.2.2.2.1) hS cx.2.2.2.1 (cx.2.2.2.2.1 _ hl0) (fun _ h9 => h9) hd (h H locs ls hl hP hD hS)
theorem qs_get {index ci j : Nat} {C : String} {T : u_T} {n : Nat} (hd : decode (z_bc Z mi) pc = .ok (.getfield index, 3)) (hOK : qq_OK Z) (hc : (z_cl Z)[ci]? = some (C, T, n)) (hin : ∀ w ∈ u_ws C T n, w ∈ z_Ts Z) (hk : j < n) (hl0 : Cond.fieldLink (z_y Z mi).cls index (T j).1 (T j).2.1 (T j).2.2.1 ∈ z_Ts Z) : qq_Snd Z mi pc (qo_get (z_lay Z) ci j) := by
  intro p e R s m args below meth c A cells slots Q loc st M cx h H locs ls hl hP hD hS
  unfold qo_get at h
  split at h
  · rename_i q r
    split at h
    · rename_i x hx
      obtain ⟨hx1, h⟩ := h
      subst hx1
      have hN : q < z_N Z := hOK.1 q (by rw [hx]; trivial)
      have he : (qw Z M)[q]? = some (z_a Z q, .inr (x.1, qv_F (z_a Z) (M q) x.2 0)) := by rw [qw_at M hN, hx]; rfl
      split at h
      · rename_i hj
        have hv := qv_F_int (a := z_a Z) (g := M q) x.2 0 j hj
        rw [Nat.zero_add] at hv
        exact va_get cx.1 cx.2.1 cx.2.2.2.2.1 hin cx.2.2.2.1 cx.2.2.2.2.2.1 hP q he hc j hk (cx.2.2.2.2.1 _ hl0) (fun _ h9 => h9) hv hd (h H locs ls hl hP hD hS)
      · rename_i z hj
        exact va_get cx.1 cx.2.1 cx.2.2.2.2.1 hin cx.2.2.2.1 cx.2.2.2.2.2.1 hP q he hc j hk (cx.2.2.2.2.1 _ hl0) (fun _ h9 => h9) (qv_F_ref x.2 0 j hj) hd (h H locs ls hl hP hD hS)
      · exact h.elim
    · exact h.elim
  · exact h.elim
theorem qs_put {index ci j : Nat} {C : String} {T : u_T} {n : Nat} (hd : decode (z_bc Z mi) pc = .ok (.putfield index, 3)) (hOK : qq_OK Z) (hc : (z_cl Z)[ci]? = some (C, T, n)) (hin : ∀ w ∈ u_ws C T n, w ∈ z_Ts Z) (ty0 : Nat → FieldType) (hty : ∀ k, k < n → parseFieldDescriptor (T k).2.2.1 = some (ty0 k)) (hnm : ∀ a, a < n → ∀ b, b < n → a ≠ b → (T a).2.1 ≠ (T b).2.1) (hk : j < n) (hfin : (T j).2.2.2 = false) (hint : parseFieldDescriptor (T j).2.2.1 = some .int) (hl0 : Cond.fieldLink (z_y Z mi).cls index (T j).1 (T j).2.1 (T j).2.2.1 ∈ z_Ts Z) : qq_Snd Z mi pc (qo_put (z_lay Z) ci j) := by
  intro p e R s m args below meth c A cells slots Q loc st M cx h H locs ls hl hP hD hS
  unfold qo_put at h
  split at h
  · rename_i v q r
    split at h
    · rename_i x hx
      obtain ⟨hx1, hj, h⟩ := h
      subst hx1
      have hN : q < z_N Z := hOK.1 q (by rw [hx]; trivial)
      have he : (qw Z M)[q]? = some (z_a Z q, .inr (x.1, qv_F (z_a Z) (M q) x.2 0)) := by rw [qw_at M hN, hx]; rfl
      have hs : (qw Z M).set q (z_a Z q, .inr (x.1, (qv_F (z_a Z) (M q) x.2 0).set j (.int v))) = qw Z (va_up M q (upd (M q) j v)) := by
        refine qw_set hN ?_
        rw [hx, qv_F_set x.2 0 j hj, Nat.zero_add]
        rfl
      refine va_put (ty := .int) (v := .int v) cx.1 cx.2.1 cx.2.2.2.2.1 hin ty0 hty hnm cx.2.2.2.1 cx.2.2.2.2.2.1 hP hD hS q he hc j hk (cx.2.2.2.2.1 _ hl0) (fun _ h9 => h9) hfin hint rfl rfl (by rw [qv_F_len]; exact (List.getElem?_eq_some_iff.mp hj).1) hd (fun H1 locs1 hP1 hD1 hS1 => ?_)
      rw [hs] at hP1 hD1
      exact h H1 locs1 ls hl hP1 hD1 hS1
    · exact h.elim
  · exact h.elim
theorem qs_getN {index ci j : Nat} {C : String} {T : u_T} {n : Nat} {host : String} (hd : decode (z_bc Z mi) pc = .ok (.getfield index, 3)) (hOK : qq_OK Z) (hc : (z_cl Z)[ci]? = some (C, T, n)) (hin : ∀ w ∈ u_ws C T n, w ∈ z_Ts Z) (hk : j < n) (hl0 : Cond.fieldLinkNest (z_y Z mi).cls index (T j).1 (T j).2.1 (T j).2.2.1 host ∈ z_Ts Z) : qq_Snd Z mi pc (qo_get (z_lay Z) ci j) := by
  intro p e R s m args below meth c A cells slots Q loc st M cx h H locs ls hl hP hD hS
  unfold qo_get at h
  split at h
  · rename_i q r
    split at h
    · rename_i x hx
      obtain ⟨hx1, h⟩ := h
      subst hx1
      have hN : q < z_N Z := hOK.1 q (by rw [hx]; trivial)
      have he : (qw Z M)[q]? = some (z_a Z q, .inr (x.1, qv_F (z_a Z) (M q) x.2 0)) := by rw [qw_at M hN, hx]; rfl
      split at h
      · rename_i hj
        have hv := qv_F_int (a := z_a Z) (g := M q) x.2 0 j hj
        rw [Nat.zero_add] at hv
        exact va_getN cx.1 cx.2.1 cx.2.2.2.2.1 hin cx.2.2.2.1 cx.2.2.2.2.2.1 hP q he hc j hk (cx.2.2.2.2.1 _ hl0) (fun _ h9 => h9) hv hd (h H locs ls hl hP hD hS)
      · rename_i z hj
        exact va_getN cx.1 cx.2.1 cx.2.2.2.2.1 hin cx.2.2.2.1 cx.2.2.2.2.2.1 hP q he hc j hk (cx.2.2.2.2.1 _ hl0) (fun _ h9 => h9) (qv_F_ref x.2 0 j hj) hd (h H locs ls hl hP hD hS)
      · exact h.elim
    · exact h.elim
  · exact h.elim
theorem qs_putN {index ci j : Nat} {C : String} {T : u_T} {n : Nat} {host : String} (hd : decode (z_bc Z mi) pc = .ok (.putfield index, 3)) (hOK : qq_OK Z) (hc : (z_cl Z)[ci]? = some (C, T, n)) (hin : ∀ w ∈ u_ws C T n, w ∈ z_Ts Z) (ty0 : Nat → FieldType) (hty : ∀ k, k < n → parseFieldDescriptor (T k).2.2.1 = some (ty0 k)) (hnm : ∀ a, a < n → ∀ b, b < n → a ≠ b → (T a).2.1 ≠ (T b).2.1) (hk : j < n) (hfin : (T j).2.2.2 = false) (hint : parseFieldDescriptor (T j).2.2.1 = some .int) (hl0 : Cond.fieldLinkNest (z_y Z mi).cls index (T j).1 (T j).2.1 (T j).2.2.1 host ∈ z_Ts Z) : qq_Snd Z mi pc (qo_put (z_lay Z) ci j) := by
  intro p e R s m args below meth c A cells slots Q loc st M cx h H locs ls hl hP hD hS
  unfold qo_put at h
  split at h
  · rename_i v q r
    split at h
    · rename_i x hx
      obtain ⟨hx1, hj, h⟩ := h
      subst hx1
      have hN : q < z_N Z := hOK.1 q (by rw [hx]; trivial)
      have he : (qw Z M)[q]? = some (z_a Z q, .inr (x.1, qv_F (z_a Z) (M q) x.2 0)) := by rw [qw_at M hN, hx]; rfl
      have hs : (qw Z M).set q (z_a Z q, .inr (x.1, (qv_F (z_a Z) (M q) x.2 0).set j (.int v))) = qw Z (va_up M q (upd (M q) j v)) := by
        refine qw_set hN ?_
        rw [hx, qv_F_set x.2 0 j hj, Nat.zero_add]
        rfl
      refine va_putN (ty := .int) (v := .int v) cx.1 cx.2.1 cx.2.2.2.2.1 hin ty0 hty hnm cx.2.2.2.1 cx.2.2.2.2.2.1 hP hD hS q he hc j hk (cx.2.2.2.2.1 _ hl0) (fun _ h9 => h9) hfin hint rfl rfl (by rw [qv_F_len]; exact (List.getElem?_eq_some_iff.mp hj).1) hd (fun H1 locs1 hP1 hD1 hS1 => ?_)
      rw [hs] at hP1 hD1
      exact h H1 locs1 ls hl hP1 hD1 hS1
    · exact h.elim
  · exact h.elim
theorem qs_ia (hd : decode (z_bc Z mi) pc = .ok (.iaload, 1)) (hOK : qq_OK Z) : qq_Snd Z mi pc (qo_ia (z_lay Z)) := by
  intro p e R s m args below meth c A cells slots Q loc st M cx h H locs ls hl hP hD hS
  unfold qo_ia at h
  split at h
  · rename_i i q r
    split at h
    · rename_i x hx
      obtain ⟨t, n⟩ := x
      obtain ⟨ht, hin, h⟩ := h
      dsimp only at ht hin
      subst ht
      have hN : q < z_N Z := hOK.1 q (by rw [hx]; trivial)
      have he : (qw Z M)[q]? = some (z_a Z q, .inl (z_ca Z 0, n, .inl (M q))) := by rw [qw_at M hN, hx]; rfl
      exact va_iald cx.1 cx.2.1 cx.2.2.2.2.2.1 hP q 0 he hOK.2.1 hin hd (h H locs ls hl hP hD hS)
    · rename_i x hx
      exact va_ti cx.1 cx.2.1 (hOK.2.2.2.2.2.2.2.2 _ _ _ q x cx.2.2.2.2.2.2.2.1 hx) hS h.1 rfl hd (h.2 H locs ls hl hP hD hS)
    · exact h.elim
  · exact h.elim
theorem qs_za (hd : decode (z_bc Z mi) pc = .ok (.baload, 1)) (hOK : qq_OK Z) : qq_Snd Z mi pc (qo_za (z_lay Z)) := by
  intro p e R s m args below meth c A cells slots Q loc st M cx h H locs ls hl hP hD hS
  unfold qo_za at h
  split at h
  · rename_i i q r
    split at h
    · rename_i x hx
      obtain ⟨t, n⟩ := x
      obtain ⟨ht, hin, h⟩ := h
      dsimp only at ht hin
      subst ht
      have hN : q < z_N Z := hOK.1 q (by rw [hx]; trivial)
      have he : (qw Z M)[q]? = some (z_a Z q, .inl (z_ca Z 1, n, .inl (M q))) := by rw [qw_at M hN, hx]; rfl
      exact va_zald cx.1 cx.2.1 cx.2.2.2.2.2.1 hP q 1 he hOK.2.2.1 hin hd (h H locs ls hl hP hD hS)
    · exact h.elim
  · exact h.elim
theorem qs_ias (hd : decode (z_bc Z mi) pc = .ok (.iastore, 1)) (hOK : qq_OK Z) : qq_Snd Z mi pc (qo_ias (z_lay Z)) := by
  intro p e R s m args below meth c A cells slots Q loc st M cx h H locs ls hl hP hD hS
  unfold qo_ias at h
  split at h
  · rename_i v i q r
    split at h
    · rename_i x hx
      obtain ⟨t, n⟩ := x
      obtain ⟨ht, hin, h⟩ := h
      dsimp only at ht hin
      subst ht
      have hN : q < z_N Z := hOK.1 q (by rw [hx]; trivial)
      have he : (qw Z M)[q]? = some (z_a Z q, .inl (z_ca Z 0, n, .inl (M q))) := by rw [qw_at M hN, hx]; rfl
      have hs : (qw Z M).set q (z_a Z q, .inl (z_ca Z 0, n, .inl (upd (M q) i.toNatClampNeg v))) = qw Z (va_up M q (upd (M q) i.toNatClampNeg v)) := qw_set hN (by rw [hx]; rfl)
      refine va_iast cx.1 cx.2.1 cx.2.2.2.2.2.1 hP hD hS q 0 he hOK.2.1 hin hd (fun H1 locs1 hP1 hD1 hS1 => ?_)
      rw [hs] at hP1 hD1
      exact h H1 locs1 ls hl hP1 hD1 hS1
    · exact h.elim
  · exact h.elim
theorem qs_zas (hd : decode (z_bc Z mi) pc = .ok (.bastore, 1)) (hOK : qq_OK Z) : qq_Snd Z mi pc (qo_zas (z_lay Z)) := by
  intro p e R s m args below meth c A cells slots Q loc st M cx h H locs ls hl hP hD hS
  unfold qo_zas at h
  split at h
  · rename_i v i q r
    split at h
    · rename_i x hx
      obtain ⟨t, n⟩ := x
      obtain ⟨ht, hin, h⟩ := h
      dsimp only at ht hin
      subst ht
      have hN : q < z_N Z := hOK.1 q (by rw [hx]; trivial)
      have he : (qw Z M)[q]? = some (z_a Z q, .inl (z_ca Z 1, n, .inl (M q))) := by rw [qw_at M hN, hx]; rfl
      have hs : (qw Z M).set q (z_a Z q, .inl (z_ca Z 1, n, .inl (upd (M q) i.toNatClampNeg (vp_nar .boolean v)))) = qw Z (va_up M q (upd (M q) i.toNatClampNeg (vp_nar .boolean v))) := qw_set hN (by rw [hx]; rfl)
      refine va_zast cx.1 cx.2.1 cx.2.2.2.2.2.1 hP hD hS q 1 he hOK.2.2.1 hin hd (fun H1 locs1 hP1 hD1 hS1 => ?_)
      rw [hs] at hP1 hD1
      exact h H1 locs1 ls hl hP1 hD1 hS1
    · exact h.elim
  · exact h.elim
theorem qs_aa (hd : decode (z_bc Z mi) pc = .ok (.aaload, 1)) (hOK : qq_OK Z) : qq_Snd Z mi pc (qo_aa (z_lay Z)) := by
  intro p e R s m args below meth c A cells slots Q loc st M cx h H locs ls hl hP hD hS
  unfold qo_aa at h
  split at h
  · rename_i i q r
    split at h
    · rename_i x hx
      obtain ⟨hin, h⟩ := h
      split at h
      · rename_i z hz
        have hN : q < z_N Z := hOK.1 q (by rw [hx]; trivial)
        obtain ⟨T, hT, hR⟩ := hOK.2.2.2.2.1 q x hx
        have he : (qw Z M)[q]? = some (z_a Z q, .inl (z_ca Z x.1, x.2.1, .inr (.inr (.inr (.inr (fun j => (x.2.2 j).map (z_a Z))))))) := by rw [qw_at M hN, hx]; rfl
        have hlt : i.toNatClampNeg < x.2.1 := Nat.not_le.mp fun q => hin (Or.inr q)
        exact W.aald (v := .ref (z_a Z z)) (ty := T) cx.1 cx.2.1 (hP q _ he) ((cx.2.2.2.2.2.1.2 x.1 _ hT).1 x.2.1 (fun j => va_rf ((x.2.2 j).map (z_a Z)))) hR (fun q => by cases q) (by show ¬ (i < 0 ∨ (arrV _ _ _).slots.size ≤ _); rw [arrV_size]; exact hin) (by show (arrV _ _ _).slots[_]? = _; rw [arrV_read _ _ hlt]; show some (va_rf ((x.2.2 i.toNatClampNeg).map (z_a Z))) = _; rw [hz]; rfl) rfl rfl hd (h H locs ls hl hP hD hS)
      · exact h.elim
    · exact h.elim
  · exact h.elim
theorem qs_len (hd : decode (z_bc Z mi) pc = .ok (.arraylength, 1)) (hOK : qq_OK Z) : qq_Snd Z mi pc (qo_len (z_lay Z)) := by
  intro p e R s m args below meth c A cells slots Q loc st M cx h H locs ls hl hP hD hS
  unfold qo_len at h
  split at h
  · rename_i q r
    split at h
    · rename_i x hx
      have hN : q < z_N Z := hOK.1 q (by rw [hx]; trivial)
      obtain ⟨T, hT⟩ := hOK.2.2.2.1 q x hx
      have he : (qw Z M)[q]? = some (z_a Z q, .inl (z_ca Z x.1, x.2, .inl (M q))) := by rw [qw_at M hN, hx]; rfl
      exact va_alen cx.1 cx.2.1 cx.2.2.2.2.2.1 hP q x.1 he hT rfl hd (h H locs ls hl hP hD hS)
    · rename_i x hx
      have hN : q < z_N Z := hOK.1 q (by rw [hx]; trivial)
      obtain ⟨T, hT, -⟩ := hOK.2.2.2.2.1 q x hx
      have he : (qw Z M)[q]? = some (z_a Z q, .inl (z_ca Z x.1, x.2.1, .inr (.inr (.inr (.inr (fun j => (x.2.2 j).map (z_a Z))))))) := by rw [qw_at M hN, hx]; rfl
      exact va_alen cx.1 cx.2.1 cx.2.2.2.2.2.1 hP q x.1 he hT rfl hd (h H locs ls hl hP hD hS)
    · rename_i x hx
      exact va_tlen cx.1 cx.2.1 (hOK.2.2.2.2.2.2.2.2 _ _ _ q x cx.2.2.2.2.2.2.2.1 hx) hS rfl hd (h H locs ls hl hP hD hS)
    · exact h.elim
  · exact h.elim
theorem qs_mmax {index : Nat} (hd : decode (z_bc Z mi) pc = .ok (.invokestatic index, 3)) (hl0 : Cond.methodLink (z_y Z mi).cls index Lib.Math.max.name ∈ z_Ts Z) (hst : Cond.static Lib.Math.max.name ∈ z_Ts Z) (hini : Cond.initialized "java/lang/Math" ∈ z_Ts Z) (hcode : Cond.code Lib.Math.max.name Lib.Math.max.code 2 (some .int) ∈ z_Ts Z) (hf : 1 ≤ z_fr Z mi) (hlo : 21 ≤ z_lo Z mi) : qq_Snd Z mi pc qo_mx := by
  intro p e R s m args below meth c A cells slots Q loc st M cx h H locs ls hl hP hD hS
  unfold qo_mx at h
  split at h
  · rename_i y x r
    have hr := h.1
    have hR := cx.2.2.2.2.2.2.2.2.1
    have hcs := cx.2.2.2.2.2.2.2.2.2.2.2
    exact va_mmax cx.1 cx.2.1 (cx.2.2.1.trans hl.1.symm) cx.2.2.2.1 (cx.2.2.2.2.1 _ hl0) (cx.2.2.2.2.1 _ hst) (cx.2.2.2.2.1 _ hini) (cx.2.2.2.2.1 _ hcode) (Nat.le_trans hf hR.1) (by rw [qv_cats]; omega) hcs.1 hcs.2 hd (h.2 H locs ls hl hP hD hS)
  · exact h.elim
theorem qs_mmin {index : Nat} (hd : decode (z_bc Z mi) pc = .ok (.invokestatic index, 3)) (hl0 : Cond.methodLink (z_y Z mi).cls index Lib.Math.min.name ∈ z_Ts Z) (hst : Cond.static Lib.Math.min.name ∈ z_Ts Z) (hini : Cond.initialized "java/lang/Math" ∈ z_Ts Z) (hcode : Cond.code Lib.Math.min.name Lib.Math.min.code 2 (some .int) ∈ z_Ts Z) (hf : 1 ≤ z_fr Z mi) (hlo : 21 ≤ z_lo Z mi) : qq_Snd Z mi pc qo_mn := by
  intro p e R s m args below meth c A cells slots Q loc st M cx h H locs ls hl hP hD hS
  unfold qo_mn at h
  split at h
  · rename_i y x r
    have hr := h.1
    have hR := cx.2.2.2.2.2.2.2.2.1
    have hcs := cx.2.2.2.2.2.2.2.2.2.2.2
    exact va_mmin cx.1 cx.2.1 (cx.2.2.1.trans hl.1.symm) cx.2.2.2.1 (cx.2.2.2.2.1 _ hl0) (cx.2.2.2.2.1 _ hst) (cx.2.2.2.2.1 _ hini) (cx.2.2.2.2.1 _ hcode) (Nat.le_trans hf hR.1) (by rw [qv_cats]; omega) hcs.1 hcs.2 hd (h.2 H locs ls hl hP hD hS)
  · exact h.elim
theorem qs_cp {index : Nat} (hd : decode (z_bc Z mi) pc = .ok (.invokestatic index, 3)) (hOK : qq_OK Z) (hl0 : Cond.methodLink (z_y Z mi).cls index arraycopyName ∈ z_Ts Z) (hnat : Cond.native arraycopyName ∈ z_Ts Z) (hst : Cond.static arraycopyName ∈ z_Ts Z) (hini : Cond.initialized "java/lang/System" ∈ z_Ts Z) (hf : 1 ≤ z_fr Z mi) (hlo : 8 + (nativeFrameWords "java/lang/System" "arraycopy" 5 + 11) ≤ z_lo Z mi) : qq_Snd Z mi pc (qo_cp (z_lay Z)) := by
  intro p e R s m args below meth c A cells slots Q loc st M cx h H locs ls hl hP hD hS
  unfold qo_cp at h
  split at h
  · rename_i n dp q1 sp q0 r
    split at h
    · rename_i x0 x1 h0 h1
      obtain ⟨t0, n0⟩ := x0
      obtain ⟨t1, n1⟩ := x1
      obtain ⟨ht0, ht1, hr, hs1, hs2, hs3, hs4, hs5, h⟩ := h
      dsimp only at ht0 ht1 hs4 hs5
      subst ht0
      subst ht1
      have hR := cx.2.2.2.2.2.2.2.2.1
      have hN0 : q0 < z_N Z := hOK.1 q0 (by rw [h0]; trivial)
      have hN1 : q1 < z_N Z := hOK.1 q1 (by rw [h1]; trivial)
      have he0 : (qw Z M)[q0]? = some (z_a Z q0, .inl (z_ca Z 0, n0, .inl (M q0))) := by rw [qw_at M hN0, h0]; rfl
      have he1 : (qw Z M)[q1]? = some (z_a Z q1, .inl (z_ca Z 0, n1, .inl (M q1))) := by rw [qw_at M hN1, h1]; rfl
      have hs : (qw Z M).set q1 (z_a Z q1, .inl (z_ca Z 0, n1, .inl (va_cpy (M q0) (M q1) sp.toNatClampNeg dp.toNatClampNeg n.toNatClampNeg))) = qw Z (va_up M q1 (va_cpy (M q0) (M q1) sp.toNatClampNeg dp.toNatClampNeg n.toNatClampNeg)) := qw_set hN1 (by rw [h1]; rfl)
      refine va_copyi (ty := .int) cx.1 cx.2.1 (cx.2.2.1.trans hl.1.symm) cx.2.2.2.1 (cx.2.2.2.2.1 _ hl0) (cx.2.2.2.2.1 _ hnat) (cx.2.2.2.2.1 _ hst) (cx.2.2.2.2.1 _ hini) cx.2.2.2.2.2.1 hP hD hS q0 q1 0 0 he0 he1 hOK.2.1 hOK.2.1 rfl hs1 hs2 hs3 hs4 hs5 (fun _ _ => rfl) (Nat.le_trans hf hR.1) (by rw [qv_cats]; omega) hd (fun H1 locs1 hP1 hD1 hS1 => ?_)
      rw [hs] at hP1 hD1
      exact h H1 locs1 ls hl hP1 hD1 hS1
    · exact h.elim
  · exact h.elim
end QROWS
end
section
/-! What the abstract machine says of a method is its contract. -/
def qq_ws (Z : qZ) (mj : Nat) : List Cond := .code (z_y Z mj) (z_bc Z mj) (z_mx Z mj) (z_rt Z mj) :: z_Ts Z
def qq_rm (Z : qZ) (mj : Nat) : Room := { frames := z_fr Z mj, cells := 0, slots := 0, locals := z_lo Z mj }
def qq_Pc (Z : qZ) (vs : List Value) (M : qM) (sz : Nat) : Array Value → State → Prop :=
  va_Pc (vs.map (qv (z_a Z))) (fun U => U.heap.size = sz ∧ va_P (z_D Z) (z_cl Z) (qw Z M) U.heap ∧ va_K (z_D Z) (z_cl Z) (z_ty Z) U ∧ va_D (fun _ => True) (qw Z M) ∧ z_St Z (va_A (qw Z M) sz) U U.heap)
def qq_Q (Z : qZ) (post : qR) (A : Nat → Prop) : Array Value → State → Outcome → State → Prop := fun _ st oc t =>
  (∃ (r : Option Value) (M : qM), oc = .returned (r.map (qv (z_a Z))) ∧ post r M ∧ va_P (z_D Z) (z_cl Z) (qw Z M) t.heap ∧ va_K (z_D Z) (z_cl Z) (z_ty Z) t ∧ va_D A (qw Z M)) ∧ va_F A st t
def qq_X (Z : qZ) : qX := fun mi pc loc st M post =>
  ∀ (p : Program) (e : Env) (R : Room) (s : State) (m : MethodId) (args : Array Value) (below : List Frame) (meth : Method) (c : Code) (A : Nat → Prop) (cells slots : Nat),
    qq_Cx Z mi p R s m args meth c A cells slots → qq_G Z mi p e R s m args below meth c A cells slots (MQ below (qq_Q Z post A) args s cells slots A) pc loc st M
/-- a call: the callee's contract is enough for it -/
def qq_SC (Z : qZ) (mi pc mj n : Nat) (rc : Option Nat) : Prop :=
  ∀ (p : Program) (e : Env) (R : Room) (s : State) (m : MethodId) (args : Array Value) (below : List Frame) (meth : Method) (c : Code) (A : Nat → Prop) (cells slots : Nat), qq_Cx Z mi p R s m args meth c A cells slots →
  ∀ (H : Heap) (locs : List Loc) (ls : Array Slot) (M : qM) (Pc : Array Value → State → Prop) (Qc : Array Value → State → Outcome → State → Prop) (free : Addr → Prop), Met (z_l Z) (z_y Z mj) (qq_ws Z mj) (qq_rm Z mj) Pc Qc 0 0 free →
  ∀ vs rest : List Value, vs.length = n → ls.size = z_mx Z mi → (rest.map fun v => v.category).sum ≤ 8 → qq_rcv (z_lay Z) rc vs → va_P (z_D Z) (z_cl Z) (qw Z M) H → FrameBlind Pc →
    (∀ U : State, U.heap = H → s.WarmedH U.vm → Pc (vs.map (qv (z_a Z))).toArray U) →
    va_Run p (z_l Z) e R s m args below meth c H locs cells slots 0 0 (F0 m pc ls ((vs.map (qv (z_a Z))).reverse ++ rest.map (qv (z_a Z)))) (rest.map (qv (z_a Z))) (Qc (vs.map (qv (z_a Z))).toArray) free
def qq_SR (Z : qZ) (mi pc b : Nat) : Prop :=
  (b = 0 ∧ decode (z_bc Z mi) pc = .ok (.return_, 1) ∧ z_rt Z mi = none) ∨ (b = 1 ∧ decode (z_bc Z mi) pc = .ok (.ireturn, 1) ∧ z_rt Z mi = some .int) ∨ (b = 2 ∧ decode (z_bc Z mi) pc = .ok (.ireturn, 1) ∧ z_rt Z mi = some .boolean)
theorem qq_Qmono {Z : qZ} {p p' : qR} {A : Nat → Prop} {av : Array Value} {st : State} {o : Outcome} {t : State} (hp : ∀ r M, p r M → p' r M) (h : qq_Q Z p A av st o t) : qq_Q Z p' A av st o t := by
  obtain ⟨⟨r, M, h1, h2, h3⟩, h4⟩ := h
  exact ⟨⟨r, M, h1, hp r M h2, h3⟩, h4⟩
theorem qq_met {Z : qZ} {mj : Nat} {vs : List Value} {M : qM} {post : qR} {sz : Nat} (hX : qq_X Z mj 0 (qq_ent (z_mx Z) mj vs) [] M post) (hpl : plainName (z_y Z mj).cls = true) (hc : ∀ v ∈ vs, v.category = 1) (hn : vs.length ≤ z_mx Z mj) :
    Met (z_l Z) (z_y Z mj) (qq_ws Z mj) (qq_rm Z mj) (qq_Pc Z vs M sz) (qq_Q Z post (va_A (qw Z M) sz)) 0 0 (va_A (qw Z M) sz) := by
  refine Met.ofW (cc := z_bc Z mj) (maxL := z_mx Z mj) (ret := z_rt Z mj) hpl rfl ?_
  intro p e s m args below meth c s₁ B hml hv
  obtain ⟨rfl, hsz, hP, hK, hD0, hSt⟩ := hv
  subst hsz
  have hts := atoms_spec (ws := qq_ws Z mj) B.pre
  obtain ⟨ls, hls, hl⟩ := qv_entry (a := z_a Z) (mx := z_mx Z) (mj := mj) hn rfl hc
  rw [lg_entry_eq, hls]
  exact hX p e _ s m _ below meth c _ 0 0 ⟨B.exec, B.bytes, hml, findClass_of_methodNamed B.named, fun w hw => hts w (List.mem_cons_of_mem _ hw), hK, fun q h => Or.inr h, hSt, ⟨Nat.le_refl _, Nat.le_refl _⟩, B.returns, B.notSynchronized, ⟨Nat.zero_le _, Nat.zero_le _⟩⟩ s.heap [] ls hl hP hD0.self va_S.rf
theorem qq_callW {Z : qZ} {p : Program} {l : Launch} {e : Env} {R : Room} {s : State} {m : MethodId} {args : Array Value} {below : List Frame} {meth : Method} {c : Code} {H : Heap} {locs : List Loc} {cells slots : Nat} {Q : State → Prop} {pc : Nat} {ls : Array Slot} {rest st0 : List Value} {av : Array Value} {A A1 : Nat → Prop} {H0 : Heap} {free : Addr → Prop} {post : qR}
    (hr : va_Run p l e R s m args below meth c H locs cells slots 0 0 (F0 m pc ls st0) rest (qq_Q Z post A1 av) free) (hS : va_S A H0 H locs) (hA : ∀ q : Nat, A1 q → A q) (hf : ∀ q : Nat, free q → A q)
    (kk : ∀ (r : Option Value) (M1 : qM) (H1 : Heap) (locs1 : List Loc), post r M1 → va_P (z_D Z) (z_cl Z) (qw Z M1) H1 → va_D A1 (qw Z M1) → va_S A H0 H1 locs1 → W p l e R s m args below meth c H1 locs1 cells slots Q (F0 m (pc + 3) ls ((r.map (qv (z_a Z))).toList ++ rest))) :
    W p l e R s m args below meth c H locs cells slots Q (F0 m pc ls st0) := by
  intro T hT X
  obtain ⟨v, st₀, t, T', L, h0, X', hL, e1, e2, ⟨⟨r, M1, hv, hp, hPt, hKt, hDt⟩, hz, hk⟩, st⟩ := hr T hT X
  cases hv
  rw [h0] at hz hk
  obtain ⟨t2, a1, b1⟩ := kk r M1 T'.heap (locs ++ L) hp (by rw [e1]; exact hPt) hDt
    ⟨Nat.le_trans hS.1 (by rw [e1]; exact hz), fun q h1 h2 => by rw [e1, hk q (Nat.lt_of_lt_of_le h1 hS.1) (fun z => h2 (hA q z))]; exact hS.2.1 q h1 h2, fun q hq => by
      rcases List.mem_append.mp hq with h | h
      · exact hS.2.2 q h
      · exact hf _ (hL q h)⟩ T' rfl X'
  exact ⟨t2, st t2 a1, b1⟩
theorem qq_ret_sound {Z : qZ} {mi pc b : Nat} {loc : List (Option Value)} {st : List Value} {M : qM} {post : qR} (hb : qq_SR Z mi pc b) (h : qq_ret b st M post) : qq_X Z mi pc loc st M post := by
  intro p e R s m args below meth c A cells slots cx H locs ls hl hP hD hS
  have hK := cx.2.2.2.2.2.1
  have hlocks : meth.locks = false := cx.2.2.2.2.2.2.2.2.2.2.1
  have hr := cx.2.2.2.2.2.2.2.2.2.1
  unfold qq_ret at h
  split at h
  · obtain ⟨hb0, hp⟩ := h
    rcases hb with ⟨-, hd, ht⟩ | ⟨h1, -⟩ | ⟨h1, -⟩
    · exact W.vret cx.1 cx.2.1 (hr.trans ht) (fun t ht hW => ⟨⟨none, M, rfl, hp, by rw [ht]; exact hP, va_K.moved hW.alike hK, hD⟩, hS.F ht⟩) hS.2.2 hd hlocks
    · omega
    · omega
  · rename_i v
    obtain ⟨hv, hp⟩ := h
    rcases hb with ⟨h1, -⟩ | ⟨h1, hd, ht⟩ | ⟨h1, hd, ht⟩
    · omega
    · exact W.iret (v := v) cx.1 cx.2.1 (hr.trans ht) (fun t ht hW => ⟨⟨some (.int v), M, rfl, hp, by rw [ht]; exact hP, va_K.moved hW.alike hK, hD⟩, hS.F ht⟩) hS.2.2 hd hlocks
    · have hv2 : v = 0 ∨ v = 1 := by
        rcases hv with h2 | ⟨-, h2⟩
        · omega
        · exact h2
      have hn : narrow .boolean (.int v) = .int v := by rcases hv2 with rfl | rfl <;> rfl
      exact W.zret (v := v) cx.1 cx.2.1 (hr.trans ht) hn (fun t ht hW => ⟨⟨some (.int v), M, rfl, hp, by rw [ht]; exact hP, va_K.moved hW.alike hK, hD⟩, hS.F ht⟩) hS.2.2 hd hlocks
  · exact h.elim
theorem qq_closed {Z : qZ} {P : qP} (hOK : qq_OK Z) (hO : ∀ mi pc op, P mi pc = some (.inl op) → qq_Mon op ∧ qq_Snd Z mi pc op) (hC : ∀ mi pc mj n rc, P mi pc = some (.inr (.inl (mj, n, rc))) → qq_SC Z mi pc mj n rc ∧ n ≤ z_mx Z mj)
    (hR : ∀ mi pc b, P mi pc = some (.inr (.inr b)) → qq_SR Z mi pc b) (hY : ∀ mj, plainName (z_y Z mj).cls = true) : qq_cl (z_lay Z) (z_mx Z) P (qq_X Z) := by
  refine ⟨fun mi pc loc st M p1 p2 hp h => ?_, fun mi pc loc st M post h => ?_⟩
  · intro p e R s m args below meth c A cells slots cx H locs ls hl hP hD hS T hT X
    obtain ⟨t, a1, o, b1, b2, b3, b4⟩ := h p e R s m args below meth c A cells slots cx H locs ls hl hP hD hS T hT X
    exact ⟨t, a1, o, b1, b2, qq_Qmono hp b3, b4⟩
  · unfold qq_stp at h
    split at h
    · exact h.elim
    · rename_i op hop
      intro p e R s m args below meth c A cells slots cx
      obtain ⟨hm, hs⟩ := hO mi pc op hop
      exact hs p e R s m args below meth c A cells slots _ loc st M cx (hm _ _ _ _ _ _ (fun _ _ _ _ k => k p e R s m args below meth c A cells slots cx) h)
    · rename_i cc hcc
      obtain ⟨mj, n, rc⟩ := cc
      obtain ⟨vs, rest, rfl, hn, hcat, hsum, hrcv, hX⟩ := h
      dsimp only at hn hrcv hX
      intro p e R s m args below meth c A cells slots cx H locs ls hl hP hD hS
      obtain ⟨hsc, hmx⟩ := hC mi pc mj n rc hcc
      have hFA : ∀ q : Nat, va_A (qw Z M) H.size q → A q := by
        intro q hq
        rcases hq with ⟨k, e', hk⟩ | hq
        · exact hD.2 k (q, e') hk
        · exact cx.2.2.2.2.2.2.1 q (Nat.le_trans hS.1 hq)
      have hM := qq_met (sz := H.size) hX (hY mj) hcat (by rw [hn]; exact hmx)
      have hrun := hsc p e R s m args below meth c A cells slots cx H locs ls M _ _ _ hM vs rest hn hl.1 hsum hrcv hP
        (fun av U g mk q => by
          obtain ⟨q0, q1, qP, qK, qD, qS⟩ := q
          exact ⟨q0, q1, qP, va_K.moved (u := U) (U := U.calling g mk av) (Vm.Alike.refl U.vm) qK, qD, hOK.2.2.2.2.2.1 _ U (U.calling g mk av) _ (Vm.Alike.refl U.vm) qS⟩)
        (fun U hU hW => ⟨rfl, by rw [hU], by rw [hU]; exact hP, va_K.moved hW.alike cx.2.2.2.2.2.1, hD.weaken (fun _ _ _ _ => trivial), by
          rw [hU]
          exact hOK.2.2.2.2.2.2.2.1 _ _ _ _ (hOK.2.2.2.2.2.1 _ s U _ hW.alike (hOK.2.2.2.2.2.2.1 _ _ _ _ cx.2.2.2.2.2.2.2.1 hS.2.1)) hFA⟩)
      rw [List.map_append, List.map_reverse]
      refine qq_callW hrun hS hFA hFA (fun r M1 H1 locs1 hp hP1 hD1 hS1 => ?_)
      have hgo := hp p e R s m args below meth c A cells slots cx H1 locs1 ls hl hP1 (hD1.weaken (fun k q _ h => hFA q.1 h)) hS1
      have he : (r.toList ++ rest).map (qv (z_a Z)) = (r.map (qv (z_a Z))).toList ++ rest.map (qv (z_a Z)) := by cases r <;> simp
      rw [he] at hgo
      exact hgo
    · rename_i b hb
      exact qq_ret_sound (hR mi pc b hb) h
/-- what is run is so -/
theorem qq_sound {Z : qZ} {P : qP} (hOK : qq_OK Z) (hO : ∀ mi pc op, P mi pc = some (.inl op) → qq_Mon op ∧ qq_Snd Z mi pc op) (hC : ∀ mi pc mj n rc, P mi pc = some (.inr (.inl (mj, n, rc))) → qq_SC Z mi pc mj n rc ∧ n ≤ z_mx Z mj)
    (hR : ∀ mi pc b, P mi pc = some (.inr (.inr b)) → qq_SR Z mi pc b) (hY : ∀ mj, plainName (z_y Z mj).cls = true) {mi pc : Nat} {loc : List (Option Value)} {st : List Value} {M : qM} {post : qR} (h : qq_Ev (z_lay Z) (z_mx Z) P mi pc loc st M post) : qq_X Z mi pc loc st M post :=
  h _ (qq_closed hOK hO hC hR hY)
/-! calls, by their kind -/
section QCALLS
variable {Z : qZ} {mi pc mj : Nat}
theorem qq_good {L : List Cond} (hG : ∀ w ∈ z_Ts Z, (w.onTables && w.keeps) = true ∨ ∃ ty, w = .arrayClass ty) (h : ∀ w ∈ L, w ∈ z_Ts Z) : GoodIn (z_Ts Z) L := fun w hw => ⟨h w hw, hG w (h w hw)⟩
theorem qq_ws_in (hcode : Cond.code (z_y Z mj) (z_bc Z mj) (z_mx Z mj) (z_rt Z mj) ∈ z_Ts Z) : ∀ w ∈ qq_ws Z mj, w ∈ z_Ts Z := by
  intro w hw
  rcases List.mem_cons.mp hw with rfl | h
  · exact hcode
  · exact h
/-- a static method, of any class -/
theorem qs_callS {index n : Nat} (hd : decode (z_bc Z mi) pc = .ok (.invokestatic index, 3)) (hG : ∀ w ∈ z_Ts Z, (w.onTables && w.keeps) = true ∨ ∃ ty, w = .arrayClass ty) (hcode : Cond.code (z_y Z mj) (z_bc Z mj) (z_mx Z mj) (z_rt Z mj) ∈ z_Ts Z)
    (hl0 : Cond.methodLink (z_y Z mi).cls index (z_y Z mj) ∈ z_Ts Z) (hst : Cond.static (z_y Z mj) ∈ z_Ts Z) (hini : Cond.initialized (z_y Z mj).cls ∈ z_Ts Z)
    (hy : (z_y Z mj).cls ≠ "java/lang/invoke/MethodHandle" ∧ (z_y Z mj).cls ≠ "java/lang/invoke/VarHandle" ∧ (parseMethodDescriptor (z_y Z mj).desc).map (fun d => d.parameters.length) = some n) (hf : z_fr Z mj + 1 ≤ z_fr Z mi) (hlo : 8 + (z_mx Z mj + 11) + z_lo Z mj ≤ z_lo Z mi) : qq_SC Z mi pc mj n none := by
  intro p e R s m args below meth c A cells slots cx H locs ls M Pc Qc free hM vs rest hn hsz hsum hrcv hP hbl hpre
  have hR := cx.2.2.2.2.2.2.2.2.1
  have hcs := cx.2.2.2.2.2.2.2.2.2.2.2
  have hGI : GoodIn (z_Ts Z) (va_wsS (z_y Z mi).cls index (z_y Z mj) (qq_ws Z mj)) := qq_good hG (by
    intro w hw
    rcases List.mem_append.mp hw with h | h
    · rcases List.mem_cons.mp h with rfl | h
      · exact hl0
      · rcases List.mem_cons.mp h with rfl | h
        · exact hst
        · rcases List.mem_cons.mp h with rfl | h
          · exact hini
          · cases h
    · exact qq_ws_in hcode w h)
  exact va_runS (As := vs.map (qv (z_a Z))) (rest := rest.map (qv (z_a Z))) ⟨cx.1, cx.2.1, cx.2.2.1, cx.2.2.2.1, cx.2.2.2.2.1⟩ hM (va_cwS n cx.2.2.2.2.1 hGI rfl rfl rfl hy ⟨Nat.le_trans hf hR.1, Nat.le_trans hlo hR.2⟩) ⟨hbl, hpre⟩ rfl (by rw [List.length_map]; exact hn) hsz rfl (lv_room (by rw [qv_cats]; exact hsum)) hd ⟨hcs.1, hcs.2⟩
/-- a private static method of a nest mate -/
theorem qs_callSN {index n : Nat} {host : String} (hd : decode (z_bc Z mi) pc = .ok (.invokestatic index, 3)) (hG : ∀ w ∈ z_Ts Z, (w.onTables && w.keeps) = true ∨ ∃ ty, w = .arrayClass ty) (hcode : Cond.code (z_y Z mj) (z_bc Z mj) (z_mx Z mj) (z_rt Z mj) ∈ z_Ts Z)
    (hl0 : Cond.methodLinkNest (z_y Z mi).cls index (z_y Z mj) host ∈ z_Ts Z) (hst : Cond.static (z_y Z mj) ∈ z_Ts Z) (hini : Cond.initialized (z_y Z mj).cls ∈ z_Ts Z)
    (hy : (z_y Z mj).cls ≠ "java/lang/invoke/MethodHandle" ∧ (z_y Z mj).cls ≠ "java/lang/invoke/VarHandle" ∧ (parseMethodDescriptor (z_y Z mj).desc).map (fun d => d.parameters.length) = some n) (hf : z_fr Z mj + 1 ≤ z_fr Z mi) (hlo : 8 + (z_mx Z mj + 11) + z_lo Z mj ≤ z_lo Z mi) : qq_SC Z mi pc mj n none := by
  intro p e R s m args below meth c A cells slots cx H locs ls M Pc Qc free hM vs rest hn hsz hsum hrcv hP hbl hpre
  have hR := cx.2.2.2.2.2.2.2.2.1
  have hcs := cx.2.2.2.2.2.2.2.2.2.2.2
  exact va_runSN (As := vs.map (qv (z_a Z))) (rest := rest.map (qv (z_a Z))) ⟨cx.1, cx.2.1, cx.2.2.1, cx.2.2.2.1, cx.2.2.2.2.1⟩ hM
    ⟨va_cnB n cx.2.2.2.2.1 (qq_good hG (qq_ws_in hcode)) rfl rfl rfl (va_Nw.of rfl (cx.2.2.2.2.1 _ hl0)) (cx.2.2.2.2.1 _ hini) hy ⟨Nat.le_trans hf hR.1, Nat.le_trans hlo hR.2⟩, cx.2.2.2.2.1 _ hst, trivial⟩ ⟨hbl, hpre⟩ rfl (by rw [List.length_map]; exact hn) hsz rfl (lv_room (by rw [qv_cats]; exact hsum)) hd ⟨hcs.1, hcs.2⟩
/-- a method of an object whose class is known -/
theorem qs_callV {index n ci : Nat} {C : String} {T : u_T} {nn : Nat} (hd : decode (z_bc Z mi) pc = .ok (.invokevirtual index, 3)) (hOK : qq_OK Z) (hG : ∀ w ∈ z_Ts Z, (w.onTables && w.keeps) = true ∨ ∃ ty, w = .arrayClass ty) (hcode : Cond.code (z_y Z mj) (z_bc Z mj) (z_mx Z mj) (z_rt Z mj) ∈ z_Ts Z) (hcl : (z_cl Z)[ci]? = some (C, T, nn))
    (hl0 : Cond.methodLink (z_y Z mi).cls index (z_y Z mj) ∈ z_Ts Z) (hst : Cond.instanceMethod (z_y Z mj) ∈ z_Ts Z) (hse : Cond.selects C (z_y Z mj) (z_y Z mj) ∈ z_Ts Z) (hini : Cond.initialized C ∈ z_Ts Z)
    (hy : (z_y Z mj).cls = C ∧ (z_y Z mj).cls ≠ "java/lang/invoke/MethodHandle" ∧ (z_y Z mj).cls ≠ "java/lang/invoke/VarHandle" ∧ (parseMethodDescriptor (z_y Z mj).desc).map (fun d => d.parameters.length) = some n) (hf : z_fr Z mj + 1 ≤ z_fr Z mi) (hlo : 8 + (z_mx Z mj + 11) + z_lo Z mj ≤ z_lo Z mi) : qq_SC Z mi pc mj (n + 1) (some ci) := by
  intro p e R s m args below meth c A cells slots cx H locs ls M Pc Qc free hM vs rest hn hsz hsum hrcv hP hbl hpre
  have hR := cx.2.2.2.2.2.2.2.2.1
  have hcs := cx.2.2.2.2.2.2.2.2.2.2.2
  have hGI : GoodIn (z_Ts Z) (wsV (z_y Z mi).cls index C (z_y Z mj) (qq_ws Z mj)) := qq_good hG (by
    intro w hw
    rcases List.mem_append.mp hw with h | h
    · rcases List.mem_cons.mp h with rfl | h
      · exact hl0
      · rcases List.mem_cons.mp h with rfl | h
        · exact hst
        · rcases List.mem_cons.mp h with rfl | h
          · exact hse
          · rcases List.mem_cons.mp h with rfl | h
            · exact hini
            · cases h
    · exact qq_ws_in hcode w h)
  unfold qq_rcv at hrcv
  dsimp only at hrcv
  split at hrcv
  · rename_i q vt
    split at hrcv
    · rename_i x hx
      subst hrcv
      have hN : q < z_N Z := hOK.1 q (by rw [hx]; trivial)
      have he : (qw Z M)[q]? = some (z_a Z q, .inr (x.1, qv_F (z_a Z) (M q) x.2 0)) := by rw [qw_at M hN, hx]; rfl
      have hrc := va_recv cx.2.2.2.2.2.1 hP hcl he
      have hst0 : ((Value.ref q :: vt).map (qv (z_a Z))).reverse ++ rest.map (qv (z_a Z)) = (vt.map (qv (z_a Z))).reverse ++ Value.ref (z_a Z q) :: rest.map (qv (z_a Z)) := by
        rw [List.map_cons, List.reverse_cons, List.append_assoc]
        rfl
      rw [hst0]
      exact va_runV (C := C) (As := vt.map (qv (z_a Z))) (rest := rest.map (qv (z_a Z))) ⟨cx.1, cx.2.1, cx.2.2.1, cx.2.2.2.1, cx.2.2.2.2.1⟩ hM (cwV n cx.2.2.2.2.1 hGI rfl rfl rfl hy ⟨Nat.le_trans hf hR.1, Nat.le_trans hlo hR.2⟩) ⟨hbl, hrc, hpre⟩ rfl (by rw [List.length_map]; simpa using hn) hsz rfl (lv_room (by rw [qv_cats]; exact hsum)) hd ⟨hcs.1, hcs.2⟩
    · exact hrcv.elim
  · exact hrcv.elim
/-- a private method of an object of a nest mate's (or the own) class -/
theorem qs_callVN {index n ci : Nat} {C host : String} {T : u_T} {nn : Nat} (hd : decode (z_bc Z mi) pc = .ok (.invokevirtual index, 3)) (hOK : qq_OK Z) (hG : ∀ w ∈ z_Ts Z, (w.onTables && w.keeps) = true ∨ ∃ ty, w = .arrayClass ty) (hcode : Cond.code (z_y Z mj) (z_bc Z mj) (z_mx Z mj) (z_rt Z mj) ∈ z_Ts Z) (hcl : (z_cl Z)[ci]? = some (C, T, nn))
    (hl0 : Cond.methodLinkNest (z_y Z mi).cls index (z_y Z mj) host ∈ z_Ts Z) (hst : Cond.instanceMethod (z_y Z mj) ∈ z_Ts Z) (hse : Cond.selects C (z_y Z mj) (z_y Z mj) ∈ z_Ts Z) (hini : Cond.initialized (z_y Z mj).cls ∈ z_Ts Z)
    (hy : (z_y Z mj).cls ≠ "java/lang/invoke/MethodHandle" ∧ (z_y Z mj).cls ≠ "java/lang/invoke/VarHandle" ∧ (parseMethodDescriptor (z_y Z mj).desc).map (fun d => d.parameters.length) = some n) (hf : z_fr Z mj + 1 ≤ z_fr Z mi) (hlo : 8 + (z_mx Z mj + 11) + z_lo Z mj ≤ z_lo Z mi) : qq_SC Z mi pc mj (n + 1) (some ci) := by
  intro p e R s m args below meth c A cells slots cx H locs ls M Pc Qc free hM vs rest hn hsz hsum hrcv hP hbl hpre
  have hR := cx.2.2.2.2.2.2.2.2.1
  have hcs := cx.2.2.2.2.2.2.2.2.2.2.2
  unfold qq_rcv at hrcv
  dsimp only at hrcv
  split at hrcv
  · rename_i q vt
    split at hrcv
    · rename_i x hx
      subst hrcv
      have hN : q < z_N Z := hOK.1 q (by rw [hx]; trivial)
      have he : (qw Z M)[q]? = some (z_a Z q, .inr (x.1, qv_F (z_a Z) (M q) x.2 0)) := by rw [qw_at M hN, hx]; rfl
      have hrc := va_recv cx.2.2.2.2.2.1 hP hcl he
      have hst0 : ((Value.ref q :: vt).map (qv (z_a Z))).reverse ++ rest.map (qv (z_a Z)) = (vt.map (qv (z_a Z))).reverse ++ Value.ref (z_a Z q) :: rest.map (qv (z_a Z)) := by
        rw [List.map_cons, List.reverse_cons, List.append_assoc]
        rfl
      rw [hst0]
      exact va_runVN (C := C) (As := vt.map (qv (z_a Z))) (rest := rest.map (qv (z_a Z))) ⟨cx.1, cx.2.1, cx.2.2.1, cx.2.2.2.1, cx.2.2.2.2.1⟩ hM
        ⟨va_cnB n cx.2.2.2.2.1 (qq_good hG (qq_ws_in hcode)) rfl rfl rfl (va_Nw.of rfl (cx.2.2.2.2.1 _ hl0)) (cx.2.2.2.2.1 _ hini) hy ⟨Nat.le_trans hf hR.1, Nat.le_trans hlo hR.2⟩, cx.2.2.2.2.1 _ hst, cx.2.2.2.2.1 _ hse⟩ ⟨hbl, hrc, hpre⟩ rfl (by rw [List.length_map]; simpa using hn) hsz rfl (lv_room (by rw [qv_cats]; exact hsum)) hd ⟨hcs.1, hcs.2⟩
    · exact hrcv.elim
  · exact hrcv.elim
end QCALLS
end
section
/-! One step of the abstract machine, goal first. -/
def ms (M : qM) (q j : Nat) (v : Int32) : qM := va_up M q (upd (M q) j v)
theorem ms_at (M : qM) (q j : Nat) (v : Int32) : ms M q j v q j = v := by unfold ms; rw [va_up_self]; unfold upd; rw [if_pos rfl]
theorem ms_row {M : qM} {q j i : Nat} {v : Int32} (h : i ≠ j) : ms M q j v q i = M q i := by unfold ms; rw [va_up_self]; unfold upd; rw [if_neg h]
theorem ms_ne {M : qM} {q j a i : Nat} {v : Int32} (h : a ≠ q) : ms M q j v a i = M a i := by unfold ms; rw [va_up_ne _ _ h]
theorem ms_rows {M : qM} {q j a : Nat} {v : Int32} (h : a ≠ q) : ms M q j v a = M a := by unfold ms; rw [va_up_ne _ _ h]
section QSTEP
variable {lay : Nat → qL} {mx : Nat → Nat} {P : qP} {mi pc pc' : Nat} {loc : List (Option Value)} {st : List Value} {M : qM} {post : qR}
theorem ev_k {v : Int32} {n : Nat} (hP : P mi pc = some (.inl (qo_k v n))) (hpc : pc + n = pc') (h : qq_Ev lay mx P mi pc' loc (.int v :: st) M post) : qq_Ev lay mx P mi pc loc st M post := by
  subst hpc
  refine qq_Ev.op hP (qm_k _ _) ?_
  exact h
theorem ev_il {i n : Nat} {x : Int32} (hP : P mi pc = some (.inl (qo_il i n))) (hpc : pc + n = pc') (hl : loc[i]? = some (some (.int x))) (h : qq_Ev lay mx P mi pc' loc (.int x :: st) M post) : qq_Ev lay mx P mi pc loc st M post := by
  subst hpc
  refine qq_Ev.op hP (qm_il _ _) ?_
  unfold qo_il
  rw [hl]
  exact h
theorem ev_al {i n x : Nat} (hP : P mi pc = some (.inl (qo_al i n))) (hpc : pc + n = pc') (hl : loc[i]? = some (some (.ref x))) (h : qq_Ev lay mx P mi pc' loc (.ref x :: st) M post) : qq_Ev lay mx P mi pc loc st M post := by
  subst hpc
  refine qq_Ev.op hP (qm_al _ _) ?_
  unfold qo_al
  rw [hl]
  exact h
theorem ev_is {i n : Nat} {x : Int32} (hP : P mi pc = some (.inl (qo_is i n))) (hpc : pc + n = pc') {loc1 : List (Option Value)} (hl : loc.set i (some (.int x)) = loc1) (h : qq_Ev lay mx P mi pc' loc1 st M post) : qq_Ev lay mx P mi pc loc (.int x :: st) M post := by
  subst hpc
  refine qq_Ev.op hP (qm_is _ _) ?_
  subst hl
  exact h
theorem ev_as {i n x : Nat} (hP : P mi pc = some (.inl (qo_as i n))) (hpc : pc + n = pc') {loc1 : List (Option Value)} (hl : loc.set i (some (.ref x)) = loc1) (h : qq_Ev lay mx P mi pc' loc1 st M post) : qq_Ev lay mx P mi pc loc (.ref x :: st) M post := by
  subst hpc
  refine qq_Ev.op hP (qm_as _ _) ?_
  subst hl
  exact h
theorem ev_inc {i : Nat} {d x : Int32} (hP : P mi pc = some (.inl (qo_inc i d))) (hpc : pc + 3 = pc') (hl : loc[i]? = some (some (.int x))) {loc1 : List (Option Value)} (hs : loc.set i (some (.int (x + d))) = loc1) (h : qq_Ev lay mx P mi pc' loc1 st M post) : qq_Ev lay mx P mi pc loc st M post := by
  subst hpc
  refine qq_Ev.op hP (qm_inc _ _) ?_
  subst hs
  unfold qo_inc
  rw [hl]
  exact h
theorem ev_b {f : Int32 → Int32 → Int32} {x y : Int32} (hP : P mi pc = some (.inl (qo_b f))) (hpc : pc + 1 = pc') (h : qq_Ev lay mx P mi pc' loc (.int (f x y) :: st) M post) : qq_Ev lay mx P mi pc loc (.int y :: .int x :: st) M post := by
  subst hpc
  refine qq_Ev.op hP (qm_b _) ?_
  exact h
theorem ev_d {f : Int32 → Int32 → Int32} {x y : Int32} (hP : P mi pc = some (.inl (qo_d f))) (hpc : pc + 1 = pc') (hy : ¬ y = 0) (h : qq_Ev lay mx P mi pc' loc (.int (f x y) :: st) M post) : qq_Ev lay mx P mi pc loc (.int y :: .int x :: st) M post := by
  subst hpc
  refine qq_Ev.op hP (qm_d _) ?_
  exact ⟨hy, h⟩
theorem ev_u {f : Int32 → Int32} {x : Int32} (hP : P mi pc = some (.inl (qo_u f))) (hpc : pc + 1 = pc') (h : qq_Ev lay mx P mi pc' loc (.int (f x) :: st) M post) : qq_Ev lay mx P mi pc loc (.int x :: st) M post := by
  subst hpc
  refine qq_Ev.op hP (qm_u _) ?_
  exact h
theorem ev_z {c : Int32 → Prop} {t : Nat} {x : Int32} (hP : P mi pc = some (.inl (qo_z c t))) (hpc : pc + 3 = pc') (ht : c x → qq_Ev lay mx P mi t loc st M post) (hf : ¬ c x → qq_Ev lay mx P mi pc' loc st M post) : qq_Ev lay mx P mi pc loc (.int x :: st) M post := by
  subst hpc
  exact qq_Ev.op hP (qm_z _ _) ⟨ht, hf⟩
theorem ev_c {c : Int32 → Int32 → Prop} {t : Nat} {x y : Int32} (hP : P mi pc = some (.inl (qo_c c t))) (hpc : pc + 3 = pc') (ht : c x y → qq_Ev lay mx P mi t loc st M post) (hf : ¬ c x y → qq_Ev lay mx P mi pc' loc st M post) : qq_Ev lay mx P mi pc loc (.int y :: .int x :: st) M post := by
  subst hpc
  exact qq_Ev.op hP (qm_c _ _) ⟨ht, hf⟩
theorem ev_zt {c : Int32 → Prop} {t : Nat} {x : Int32} (hP : P mi pc = some (.inl (qo_z c t))) (hc : c x) (h : qq_Ev lay mx P mi t loc st M post) : qq_Ev lay mx P mi pc loc (.int x :: st) M post := by
  exact qq_Ev.op hP (qm_z _ _) ⟨fun _ => h, fun n => absurd hc n⟩
theorem ev_zf {c : Int32 → Prop} {t : Nat} {x : Int32} (hP : P mi pc = some (.inl (qo_z c t))) (hpc : pc + 3 = pc') (hc : ¬ c x) (h : qq_Ev lay mx P mi pc' loc st M post) : qq_Ev lay mx P mi pc loc (.int x :: st) M post := by
  subst hpc
  exact qq_Ev.op hP (qm_z _ _) ⟨fun n => absurd n hc, fun _ => h⟩
theorem ev_ct {c : Int32 → Int32 → Prop} {t : Nat} {x y : Int32} (hP : P mi pc = some (.inl (qo_c c t))) (hc : c x y) (h : qq_Ev lay mx P mi t loc st M post) : qq_Ev lay mx P mi pc loc (.int y :: .int x :: st) M post := by
  exact qq_Ev.op hP (qm_c _ _) ⟨fun _ => h, fun n => absurd hc n⟩
theorem ev_cf {c : Int32 → Int32 → Prop} {t : Nat} {x y : Int32} (hP : P mi pc = some (.inl (qo_c c t))) (hpc : pc + 3 = pc') (hc : ¬ c x y) (h : qq_Ev lay mx P mi pc' loc st M post) : qq_Ev lay mx P mi pc loc (.int y :: .int x :: st) M post := by
  subst hpc
  exact qq_Ev.op hP (qm_c _ _) ⟨fun n => absurd n hc, fun _ => h⟩
theorem ev_g {t : Nat} (hP : P mi pc = some (.inl (qo_g t)))  (h : qq_Ev lay mx P mi t loc st M post) : qq_Ev lay mx P mi pc loc st M post := by
  exact qq_Ev.op hP (qm_g _) h
theorem ev_sw {lo : Int} {ts : List Nat} {d t : Nat} {x : Int32} (hP : P mi pc = some (.inl (qo_sw lo ts d))) (ht : (if x.toInt < lo then d else ts.getD (x.toInt - lo).toNat d) = t) (h : qq_Ev lay mx P mi t loc st M post) : qq_Ev lay mx P mi pc loc (.int x :: st) M post := by
  subst ht
  exact qq_Ev.op hP (qm_sw _ _ _) h
theorem ev_dup {v : Value} (hP : P mi pc = some (.inl qo_dup)) (hpc : pc + 1 = pc') (hv : v.category = 1) (h : qq_Ev lay mx P mi pc' loc (v :: v :: st) M post) : qq_Ev lay mx P mi pc loc (v :: st) M post := by
  subst hpc
  refine qq_Ev.op hP (qm_dup) ?_
  exact ⟨hv, h⟩
theorem ev_pop {v : Value} (hP : P mi pc = some (.inl qo_pop)) (hpc : pc + 1 = pc') (hv : v.category = 1) (h : qq_Ev lay mx P mi pc' loc st M post) : qq_Ev lay mx P mi pc loc (v :: st) M post := by
  subst hpc
  refine qq_Ev.op hP (qm_pop) ?_
  exact ⟨hv, h⟩
theorem ev_dup2 {v u : Value} (hP : P mi pc = some (.inl qo_dup2)) (hpc : pc + 1 = pc') (hv : v.category = 1) (hu : u.category = 1) (h : qq_Ev lay mx P mi pc' loc (v :: u :: v :: u :: st) M post) : qq_Ev lay mx P mi pc loc (v :: u :: st) M post := by
  subst hpc
  refine qq_Ev.op hP (qm_dup2) ?_
  exact ⟨hv, hu, h⟩
theorem ev_dx1 {v u : Value} (hP : P mi pc = some (.inl qo_dx1)) (hpc : pc + 1 = pc') (hv : v.category = 1) (hu : u.category = 1) (h : qq_Ev lay mx P mi pc' loc (v :: u :: v :: st) M post) : qq_Ev lay mx P mi pc loc (v :: u :: st) M post := by
  subst hpc
  refine qq_Ev.op hP (qm_dx1) ?_
  exact ⟨hv, hu, h⟩
theorem ev_dx2 {v u t : Value} (hP : P mi pc = some (.inl qo_dx2)) (hpc : pc + 1 = pc') (hv : v.category = 1) (hu : u.category = 1) (ht : t.category = 1) (h : qq_Ev lay mx P mi pc' loc (v :: u :: t :: v :: st) M post) : qq_Ev lay mx P mi pc loc (v :: u :: t :: st) M post := by
  subst hpc
  refine qq_Ev.op hP (qm_dx2) ?_
  exact ⟨hv, hu, ht, h⟩
theorem ev_geti {ci j : Nat} {q : Nat} {fl : List (Option (Option Nat))} (hP : P mi pc = some (.inl (qo_get lay ci j))) (hpc : pc + 3 = pc') (hl : lay q = .inr (.inr (.inl (ci, fl)))) (hj : fl[j]? = some none) (h : qq_Ev lay mx P mi pc' loc (.int (M q j) :: st) M post) : qq_Ev lay mx P mi pc loc (.ref q :: st) M post := by
  subst hpc
  refine qq_Ev.op hP (qm_get _ _ _) ?_
  unfold qo_get
  simp only [hl, hj]
  exact ⟨trivial, h⟩
theorem ev_getr {ci j z : Nat} {q : Nat} {fl : List (Option (Option Nat))} (hP : P mi pc = some (.inl (qo_get lay ci j))) (hpc : pc + 3 = pc') (hl : lay q = .inr (.inr (.inl (ci, fl)))) (hj : fl[j]? = some (some (some z))) (h : qq_Ev lay mx P mi pc' loc (.ref z :: st) M post) : qq_Ev lay mx P mi pc loc (.ref q :: st) M post := by
  subst hpc
  refine qq_Ev.op hP (qm_get _ _ _) ?_
  unfold qo_get
  simp only [hl, hj]
  exact ⟨trivial, h⟩
theorem ev_put {ci j : Nat} {v : Int32} {q : Nat} {fl : List (Option (Option Nat))} (hP : P mi pc = some (.inl (qo_put lay ci j))) (hpc : pc + 3 = pc') (hl : lay q = .inr (.inr (.inl (ci, fl)))) (hj : fl[j]? = some none) (h : qq_Ev lay mx P mi pc' loc st (ms M q j v) post) : qq_Ev lay mx P mi pc loc (.int v :: .ref q :: st) M post := by
  subst hpc
  refine qq_Ev.op hP (qm_put _ _ _) ?_
  unfold qo_put
  simp only [hl]
  exact ⟨trivial, hj, h⟩
theorem ev_ia {q n : Nat} {i : Int32} (hP : P mi pc = some (.inl (qo_ia lay))) (hpc : pc + 1 = pc') (hl : lay q = .inl (0, n)) (hin : vp_in i n) (h : qq_Ev lay mx P mi pc' loc (.int (M q i.toNatClampNeg) :: st) M post) : qq_Ev lay mx P mi pc loc (.int i :: .ref q :: st) M post := by
  subst hpc
  refine qq_Ev.op hP (qm_ia _) ?_
  unfold qo_ia
  simp only [hl]
  exact ⟨trivial, hin, h⟩
theorem ev_ta {q n : Nat} {f : Nat → Int32} {i : Int32} (hP : P mi pc = some (.inl (qo_ia lay))) (hpc : pc + 1 = pc') (hl : lay q = .inr (.inr (.inr (n, f)))) (hin : vp_in i n) (h : qq_Ev lay mx P mi pc' loc (.int (f i.toNatClampNeg) :: st) M post) : qq_Ev lay mx P mi pc loc (.int i :: .ref q :: st) M post := by
  subst hpc
  refine qq_Ev.op hP (qm_ia _) ?_
  unfold qo_ia
  simp only [hl]
  exact ⟨hin, h⟩
theorem ev_ias {q n : Nat} {i v : Int32} (hP : P mi pc = some (.inl (qo_ias lay))) (hpc : pc + 1 = pc') (hl : lay q = .inl (0, n)) (hin : vp_in i n) (h : qq_Ev lay mx P mi pc' loc st (ms M q i.toNatClampNeg v) post) : qq_Ev lay mx P mi pc loc (.int v :: .int i :: .ref q :: st) M post := by
  subst hpc
  refine qq_Ev.op hP (qm_ias _) ?_
  unfold qo_ias
  simp only [hl]
  exact ⟨trivial, hin, h⟩
theorem ev_za {q n : Nat} {i : Int32} (hP : P mi pc = some (.inl (qo_za lay))) (hpc : pc + 1 = pc') (hl : lay q = .inl (1, n)) (hin : vp_in i n) (h : qq_Ev lay mx P mi pc' loc (.int (M q i.toNatClampNeg) :: st) M post) : qq_Ev lay mx P mi pc loc (.int i :: .ref q :: st) M post := by
  subst hpc
  refine qq_Ev.op hP (qm_za _) ?_
  unfold qo_za
  simp only [hl]
  exact ⟨trivial, hin, h⟩
theorem ev_zas {q n : Nat} {i v : Int32} (hP : P mi pc = some (.inl (qo_zas lay))) (hpc : pc + 1 = pc') (hl : lay q = .inl (1, n)) (hin : vp_in i n) (h : qq_Ev lay mx P mi pc' loc st (ms M q i.toNatClampNeg (vp_nar .boolean v)) post) : qq_Ev lay mx P mi pc loc (.int v :: .int i :: .ref q :: st) M post := by
  subst hpc
  refine qq_Ev.op hP (qm_zas _) ?_
  unfold qo_zas
  simp only [hl]
  exact ⟨trivial, hin, h⟩
theorem ev_aa {q t n z : Nat} {f : Nat → Option Nat} {i : Int32} (hP : P mi pc = some (.inl (qo_aa lay))) (hpc : pc + 1 = pc') (hl : lay q = .inr (.inl (t, n, f))) (hin : vp_in i n) (hz : f i.toNatClampNeg = some z) (h : qq_Ev lay mx P mi pc' loc (.ref z :: st) M post) : qq_Ev lay mx P mi pc loc (.int i :: .ref q :: st) M post := by
  subst hpc
  refine qq_Ev.op hP (qm_aa _) ?_
  unfold qo_aa
  simp only [hl, hz]
  exact ⟨hin, h⟩
theorem ev_len {q t n : Nat} (hP : P mi pc = some (.inl (qo_len lay))) (hpc : pc + 1 = pc') (hl : lay q = .inl (t, n)) (h : qq_Ev lay mx P mi pc' loc (.int (Int32.ofNat n) :: st) M post) : qq_Ev lay mx P mi pc loc (.ref q :: st) M post := by
  subst hpc
  refine qq_Ev.op hP (qm_len _) ?_
  unfold qo_len
  simp only [hl]
  exact h
theorem ev_tlen {q n : Nat} {f : Nat → Int32} (hP : P mi pc = some (.inl (qo_len lay))) (hpc : pc + 1 = pc') (hl : lay q = .inr (.inr (.inr (n, f)))) (h : qq_Ev lay mx P mi pc' loc (.int (Int32.ofNat n) :: st) M post) : qq_Ev lay mx P mi pc loc (.ref q :: st) M post := by
  subst hpc
  refine qq_Ev.op hP (qm_len _) ?_
  unfold qo_len
  simp only [hl]
  exact h
theorem ev_ss {z : Nat} (hP : P mi pc = some (.inl (qo_ss z))) (hpc : pc + 3 = pc') (h : qq_Ev lay mx P mi pc' loc (.ref z :: st) M post) : qq_Ev lay mx P mi pc loc st M post := by
  subst hpc
  refine qq_Ev.op hP (qm_ss _) ?_
  exact h
theorem ev_mx {x y : Int32} (hP : P mi pc = some (.inl qo_mx)) (hpc : pc + 3 = pc') (hr : (st.map fun v => v.category).sum ≤ 8) (h : qq_Ev lay mx P mi pc' loc (.int (if x < y then y else x) :: st) M post) : qq_Ev lay mx P mi pc loc (.int y :: .int x :: st) M post := by
  subst hpc
  refine qq_Ev.op hP (qm_mx) ?_
  exact ⟨hr, h⟩
theorem ev_mn {x y : Int32} (hP : P mi pc = some (.inl qo_mn)) (hpc : pc + 3 = pc') (hr : (st.map fun v => v.category).sum ≤ 8) (h : qq_Ev lay mx P mi pc' loc (.int (if y < x then y else x) :: st) M post) : qq_Ev lay mx P mi pc loc (.int y :: .int x :: st) M post := by
  subst hpc
  refine qq_Ev.op hP (qm_mn) ?_
  exact ⟨hr, h⟩
theorem ev_cp {q0 q1 n0 n1 : Nat} {n dp sp : Int32} (hP : P mi pc = some (.inl (qo_cp lay))) (hpc : pc + 3 = pc') (h0 : lay q0 = .inl (0, n0)) (h1 : lay q1 = .inl (0, n1)) (hr : (st.map fun v => v.category).sum ≤ 8) (h2 : ¬ sp < 0) (h3 : ¬ dp < 0) (h4 : ¬ n < 0) (h5 : sp.toNatClampNeg + n.toNatClampNeg ≤ n0) (h6 : dp.toNatClampNeg + n.toNatClampNeg ≤ n1) (h : qq_Ev lay mx P mi pc' loc st (va_up M q1 (va_cpy (M q0) (M q1) sp.toNatClampNeg dp.toNatClampNeg n.toNatClampNeg)) post) : qq_Ev lay mx P mi pc loc (.int n :: .int dp :: .ref q1 :: .int sp :: .ref q0 :: st) M post := by
  subst hpc
  refine qq_Ev.op hP (qm_cp _) ?_
  unfold qo_cp
  simp only [h0, h1]
  exact ⟨trivial, trivial, hr, h2, h3, h4, h5, h6, h⟩
theorem ev_ri {b : Nat} {v : Int32} (hP : P mi pc = some (.inr (.inr b))) (hb : b = 1 ∨ (b = 2 ∧ (v = 0 ∨ v = 1))) (h : post (some (.int v)) M) : qq_Ev lay mx P mi pc loc [.int v] M post := qq_Ev.ret hP ⟨hb, h⟩
theorem ev_rv (hP : P mi pc = some (.inr (.inr 0))) (h : post none M) : qq_Ev lay mx P mi pc loc [] M post := qq_Ev.ret hP ⟨rfl, h⟩
end QSTEP
end
section
/-! More steps, in the forms that the printed walks use. -/
noncomputable def bi (p : Prop) : Int32 := @ite _ p (Classical.propDecidable p) 1 0
theorem bi_pos {p : Prop} (h : p) : bi p = 1 := by unfold bi; exact if_pos h
theorem bi_neg {p : Prop} (h : ¬ p) : bi p = 0 := by unfold bi; exact if_neg h
theorem bi_ne {p : Prop} (h : ¬ bi p = 0) : p := Classical.byContradiction fun n => h (bi_neg n)
theorem bi_eq {p : Prop} (h : bi p = 0) : ¬ p := fun n => by rw [bi_pos n] at h; exact absurd h (by decide)
theorem bi_congr {p q : Prop} (h : p ↔ q) : bi p = bi q := by rw [propext h]
theorem bi_if {p : Prop} {c : Prop} (d : Decidable c) (h : c ↔ p) : (@ite _ c d (1 : Int32) 0) = bi p := by
  by_cases hc : c
  · rw [if_pos hc, bi_pos (h.mp hc)]
  · rw [if_neg hc, bi_neg (fun q => hc (h.mpr q))]
theorem zb_0 : vp_nar .boolean 0 = 0 := by decide +kernel
theorem zb_1 : vp_nar .boolean 1 = 1 := by decide +kernel
theorem zb_ite {c : Prop} {d : Decidable c} {a b : Int32} (ha : vp_nar .boolean a = a) (hb : vp_nar .boolean b = b) : vp_nar .boolean (@ite _ c d a b) = @ite _ c d a b := by
  by_cases hc : c
  · rw [if_pos hc]; exact ha
  · rw [if_neg hc]; exact hb
theorem zb_bi {p : Prop} : vp_nar .boolean (bi p) = bi p := zb_ite zb_1 zb_0
theorem z1_0 : (0 : Int32) = 0 ∨ (0 : Int32) = 1 := Or.inl rfl
theorem z1_1 : (1 : Int32) = 0 ∨ (1 : Int32) = 1 := Or.inr rfl
theorem z1_ite {c : Prop} {d : Decidable c} {a b : Int32} (ha : a = 0 ∨ a = 1) (hb : b = 0 ∨ b = 1) : (@ite _ c d a b) = 0 ∨ (@ite _ c d a b) = 1 := by
  by_cases hc : c
  · rw [if_pos hc]; exact ha
  · rw [if_neg hc]; exact hb
theorem z1_bi {p : Prop} : bi p = 0 ∨ bi p = 1 := z1_ite z1_1 z1_0
theorem vp_lit {i : Int32} {n : Nat} (h : ¬ (i < 0 ∨ n ≤ i.toNatClampNeg)) : vp_in i n := h
/-- returns v and leaves the memory -/
def qv1 (M : qM) (v : Int32) : qR := fun r M' => r = some (.int v) ∧ M' = M
/-- returns nothing, and the memory is N -/
def qv0 (N : qM) : qR := fun r M' => r = none ∧ M' = N
section QSTEP2
variable {lay : Nat → qL} {mx : Nat → Nat} {P : qP} {mi pc pc' : Nat} {loc : List (Option Value)} {st : List Value} {M : qM} {post : qR}
theorem ev_iac {q n j : Nat} {i : Int32} (hP : P mi pc = some (.inl (qo_ia lay))) (hpc : pc + 1 = pc') (hl : lay q = .inl (0, n)) (hin : vp_in i n) (hj : i.toNatClampNeg = j) (h : qq_Ev lay mx P mi pc' loc (.int (M q j) :: st) M post) : qq_Ev lay mx P mi pc loc (.int i :: .ref q :: st) M post := by
  subst hj
  exact ev_ia hP hpc hl hin h
theorem ev_zac {q n j : Nat} {i : Int32} (hP : P mi pc = some (.inl (qo_za lay))) (hpc : pc + 1 = pc') (hl : lay q = .inl (1, n)) (hin : vp_in i n) (hj : i.toNatClampNeg = j) (h : qq_Ev lay mx P mi pc' loc (.int (M q j) :: st) M post) : qq_Ev lay mx P mi pc loc (.int i :: .ref q :: st) M post := by
  subst hj
  exact ev_za hP hpc hl hin h
theorem ev_iasc {q n j : Nat} {i v : Int32} (hP : P mi pc = some (.inl (qo_ias lay))) (hpc : pc + 1 = pc') (hl : lay q = .inl (0, n)) (hin : vp_in i n) (hj : i.toNatClampNeg = j) (h : qq_Ev lay mx P mi pc' loc st (ms M q j v) post) : qq_Ev lay mx P mi pc loc (.int v :: .int i :: .ref q :: st) M post := by
  subst hj
  exact ev_ias hP hpc hl hin h
theorem ev_zasb {q n : Nat} {i v : Int32} (hP : P mi pc = some (.inl (qo_zas lay))) (hpc : pc + 1 = pc') (hl : lay q = .inl (1, n)) (hin : vp_in i n) (hz : vp_nar .boolean v = v) (h : qq_Ev lay mx P mi pc' loc st (ms M q i.toNatClampNeg v) post) : qq_Ev lay mx P mi pc loc (.int v :: .int i :: .ref q :: st) M post :=
  ev_zas hP hpc hl hin (by rw [hz]; exact h)
theorem ev_zasc {q n j : Nat} {i v : Int32} (hP : P mi pc = some (.inl (qo_zas lay))) (hpc : pc + 1 = pc') (hl : lay q = .inl (1, n)) (hin : vp_in i n) (hj : i.toNatClampNeg = j) (hz : vp_nar .boolean v = v) (h : qq_Ev lay mx P mi pc' loc st (ms M q j v) post) : qq_Ev lay mx P mi pc loc (.int v :: .int i :: .ref q :: st) M post := by
  subst hj
  exact ev_zasb hP hpc hl hin hz h
theorem ev_cpc {q0 q1 n0 n1 a b k : Nat} {n dp sp : Int32} (hP : P mi pc = some (.inl (qo_cp lay))) (hpc : pc + 3 = pc') (h0 : lay q0 = .inl (0, n0)) (h1 : lay q1 = .inl (0, n1)) (hr : (st.map fun v => v.category).sum ≤ 8) (h2 : ¬ sp < 0) (h3 : ¬ dp < 0) (h4 : ¬ n < 0) (ea : sp.toNatClampNeg = a) (eb : dp.toNatClampNeg = b) (ek : n.toNatClampNeg = k) (h5 : a + k ≤ n0) (h6 : b + k ≤ n1)
    (h : qq_Ev lay mx P mi pc' loc st (va_up M q1 (va_cpy (M q0) (M q1) a b k)) post) : qq_Ev lay mx P mi pc loc (.int n :: .int dp :: .ref q1 :: .int sp :: .ref q0 :: st) M post := by
  subst ea eb ek
  exact ev_cp hP hpc h0 h1 hr h2 h3 h4 h5 h6 h
theorem ev_ri1 {v : Int32} (hP : P mi pc = some (.inr (.inr 1))) (h : post (some (.int v)) M) : qq_Ev lay mx P mi pc loc [.int v] M post := ev_ri hP (Or.inl rfl) h
theorem ev_rz {v : Int32} (hP : P mi pc = some (.inr (.inr 2))) (hz : v = 0 ∨ v = 1) (h : post (some (.int v)) M) : qq_Ev lay mx P mi pc loc [.int v] M post := ev_ri hP (Or.inr ⟨rfl, hz⟩) h
theorem ev_cal {mj n : Nat} {rc : Option Nat} {vs rest : List Value} {en : List (Option Value)} (hP : P mi pc = some (.inr (.inl (mj, n, rc)))) (hst : st = vs.reverse ++ rest) (hn : vs.length = n) (hc : (vs.all fun v => v.category == 1) = true) (hr : Nat.ble ((rest.map fun v => v.category).sum) 8 = true) (hv : qq_rcv lay rc vs) (he : qq_ent mx mj vs = en) (hpc : pc + 3 = pc')
    (h : qq_Ev lay mx P mj 0 en [] M (fun r M' => qq_Ev lay mx P mi pc' loc (r.toList ++ rest) M' post)) : qq_Ev lay mx P mi pc loc st M post := by
  subst he hpc
  exact qq_Ev.call hP vs rest hst hn (fun v hv => by simpa using List.all_eq_true.mp hc v hv) (Nat.le_of_ble_eq_true hr) hv h (fun r M' k => k)
theorem ev_cal1 {mj n : Nat} {rc : Option Nat} {vs rest : List Value} {en : List (Option Value)} {v : Int32} (hP : P mi pc = some (.inr (.inl (mj, n, rc)))) (hst : st = vs.reverse ++ rest) (hn : vs.length = n) (hc : (vs.all fun v => v.category == 1) = true) (hr : Nat.ble ((rest.map fun v => v.category).sum) 8 = true) (hv : qq_rcv lay rc vs) (he : qq_ent mx mj vs = en) (hpc : pc + 3 = pc')
    (h : qq_Ev lay mx P mj 0 en [] M (qv1 M v)) (k : qq_Ev lay mx P mi pc' loc (.int v :: rest) M post) : qq_Ev lay mx P mi pc loc st M post := by
  refine ev_cal hP hst hn hc hr hv he hpc (h.mono ?_)
  rintro r M' ⟨rfl, rfl⟩
  exact k
theorem ev_ceq {t : Nat} {x y : Int32} (hP : P mi pc = some (.inl (qo_c (fun x y => x = y) t))) (hpc : pc + 3 = pc') (ht : x = y → qq_Ev lay mx P mi t loc st M post) (hf : ¬ x = y → qq_Ev lay mx P mi pc' loc st M post) : qq_Ev lay mx P mi pc loc (.int y :: .int x :: st) M post :=
  ev_c hP hpc ht hf
theorem ev_cne {t : Nat} {x y : Int32} (hP : P mi pc = some (.inl (qo_c (fun x y => ¬ x = y) t))) (hpc : pc + 3 = pc') (ht : ¬ x = y → qq_Ev lay mx P mi t loc st M post) (hf : x = y → qq_Ev lay mx P mi pc' loc st M post) : qq_Ev lay mx P mi pc loc (.int y :: .int x :: st) M post :=
  ev_c hP hpc ht (fun h => hf (Classical.not_not.mp h))
theorem ev_clt {t : Nat} {x y : Int32} (hP : P mi pc = some (.inl (qo_c (fun x y => x < y) t))) (hpc : pc + 3 = pc') (ht : x < y → qq_Ev lay mx P mi t loc st M post) (hf : ¬ x < y → qq_Ev lay mx P mi pc' loc st M post) : qq_Ev lay mx P mi pc loc (.int y :: .int x :: st) M post :=
  ev_c hP hpc ht hf
theorem ev_cge {t : Nat} {x y : Int32} (hP : P mi pc = some (.inl (qo_c (fun x y => y ≤ x) t))) (hpc : pc + 3 = pc') (ht : ¬ x < y → qq_Ev lay mx P mi t loc st M post) (hf : x < y → qq_Ev lay mx P mi pc' loc st M post) : qq_Ev lay mx P mi pc loc (.int y :: .int x :: st) M post :=
  ev_c hP hpc (fun h => ht (Int32.not_lt.mpr h)) (fun h => hf (Int32.not_le.mp h))
theorem ev_cgt {t : Nat} {x y : Int32} (hP : P mi pc = some (.inl (qo_c (fun x y => y < x) t))) (hpc : pc + 3 = pc') (ht : y < x → qq_Ev lay mx P mi t loc st M post) (hf : ¬ y < x → qq_Ev lay mx P mi pc' loc st M post) : qq_Ev lay mx P mi pc loc (.int y :: .int x :: st) M post :=
  ev_c hP hpc ht hf
theorem ev_cle {t : Nat} {x y : Int32} (hP : P mi pc = some (.inl (qo_c (fun x y => x ≤ y) t))) (hpc : pc + 3 = pc') (ht : ¬ y < x → qq_Ev lay mx P mi t loc st M post) (hf : y < x → qq_Ev lay mx P mi pc' loc st M post) : qq_Ev lay mx P mi pc loc (.int y :: .int x :: st) M post :=
  ev_c hP hpc (fun h => ht (Int32.not_lt.mpr h)) (fun h => hf (Int32.not_le.mp h))
theorem ev_zeq {t : Nat} {x : Int32} (hP : P mi pc = some (.inl (qo_z (fun x => x = 0) t))) (hpc : pc + 3 = pc') (ht : x = 0 → qq_Ev lay mx P mi t loc st M post) (hf : ¬ x = 0 → qq_Ev lay mx P mi pc' loc st M post) : qq_Ev lay mx P mi pc loc (.int x :: st) M post :=
  ev_z hP hpc ht hf
theorem ev_zne {t : Nat} {x : Int32} (hP : P mi pc = some (.inl (qo_z (fun x => ¬ x = 0) t))) (hpc : pc + 3 = pc') (ht : ¬ x = 0 → qq_Ev lay mx P mi t loc st M post) (hf : x = 0 → qq_Ev lay mx P mi pc' loc st M post) : qq_Ev lay mx P mi pc loc (.int x :: st) M post :=
  ev_z hP hpc ht (fun h => hf (Classical.not_not.mp h))
theorem ev_zlt {t : Nat} {x : Int32} (hP : P mi pc = some (.inl (qo_z (fun x => x < 0) t))) (hpc : pc + 3 = pc') (ht : x < 0 → qq_Ev lay mx P mi t loc st M post) (hf : ¬ x < 0 → qq_Ev lay mx P mi pc' loc st M post) : qq_Ev lay mx P mi pc loc (.int x :: st) M post :=
  ev_z hP hpc ht hf
theorem ev_zge {t : Nat} {x : Int32} (hP : P mi pc = some (.inl (qo_z (fun x => 0 ≤ x) t))) (hpc : pc + 3 = pc') (ht : ¬ x < 0 → qq_Ev lay mx P mi t loc st M post) (hf : x < 0 → qq_Ev lay mx P mi pc' loc st M post) : qq_Ev lay mx P mi pc loc (.int x :: st) M post :=
  ev_z hP hpc (fun h => ht (Int32.not_lt.mpr h)) (fun h => hf (Int32.not_le.mp h))
theorem ev_zgt {t : Nat} {x : Int32} (hP : P mi pc = some (.inl (qo_z (fun x => 0 < x) t))) (hpc : pc + 3 = pc') (ht : 0 < x → qq_Ev lay mx P mi t loc st M post) (hf : ¬ 0 < x → qq_Ev lay mx P mi pc' loc st M post) : qq_Ev lay mx P mi pc loc (.int x :: st) M post :=
  ev_z hP hpc ht hf
theorem ev_zle {t : Nat} {x : Int32} (hP : P mi pc = some (.inl (qo_z (fun x => x ≤ 0) t))) (hpc : pc + 3 = pc') (ht : ¬ 0 < x → qq_Ev lay mx P mi t loc st M post) (hf : 0 < x → qq_Ev lay mx P mi pc' loc st M post) : qq_Ev lay mx P mi pc loc (.int x :: st) M post :=
  ev_z hP hpc (fun h => ht (Int32.not_lt.mpr h)) (fun h => hf (Int32.not_le.mp h))
end QSTEP2
end
section
/-! Tables as trees. -/
abbrev qS : Type := Nat × (Nat → Int32)
def qq_br (k : Nat) (l r : Nat → Option qE) : Nat → Option qE := fun pc => if pc < k then l pc else r pc
def qq_lf (k : Nat) (e : qE) : Nat → Option qE := fun pc => if pc = k then some e else none
def qq_bm (k : Nat) (l r : qP) : qP := fun mi => if mi < k then l mi else r mi
def qq_lm (k : Nat) (t : Nat → Option qE) : qP := fun mi pc => if mi = k then t pc else none
def qq_row (Z : qZ) (mi pc : Nat) (e : qE) : Prop := match e with
  | .inl op => qq_Mon op ∧ qq_Snd Z mi pc op
  | .inr (.inl c) => qq_SC Z mi pc c.1 c.2.1 c.2.2 ∧ c.2.1 ≤ z_mx Z c.1
  | .inr (.inr b) => qq_SR Z mi pc b
def qq_gt (Z : qZ) (mi : Nat) (t : Nat → Option qE) : Prop := ∀ pc e, t pc = some e → qq_row Z mi pc e
def qq_gp (Z : qZ) (P : qP) : Prop := ∀ mi pc e, P mi pc = some e → qq_row Z mi pc e
theorem gt_br {Z : qZ} {mi k : Nat} {l r : Nat → Option qE} (hl : qq_gt Z mi l) (hr : qq_gt Z mi r) : qq_gt Z mi (qq_br k l r) := by
  intro pc e h
  unfold qq_br at h
  split at h
  · exact hl pc e h
  · exact hr pc e h
theorem gt_lf {Z : qZ} {mi k : Nat} {e : qE} (h : qq_row Z mi k e) : qq_gt Z mi (qq_lf k e) := by
  intro pc e' h'
  unfold qq_lf at h'
  split at h'
  · rename_i x
    subst x
    cases h'
    exact h
  · cases h'
theorem gp_bm {Z : qZ} {k : Nat} {l r : qP} (hl : qq_gp Z l) (hr : qq_gp Z r) : qq_gp Z (qq_bm k l r) := by
  intro mi pc e h
  unfold qq_bm at h
  split at h
  · exact hl mi pc e h
  · exact hr mi pc e h
theorem gp_lm {Z : qZ} {k : Nat} {t : Nat → Option qE} (h : qq_gt Z k t) : qq_gp Z (qq_lm k t) := by
  intro mi pc e h'
  unfold qq_lm at h'
  split at h'
  · rename_i x
    subst x
    exact h pc e h'
  · cases h'
theorem gp_sound {Z : qZ} {P : qP} (hOK : qq_OK Z) (hg : qq_gp Z P) (hY : ∀ mj, plainName (z_y Z mj).cls = true) {mi pc : Nat} {loc : List (Option Value)} {st : List Value} {M : qM} {post : qR} (h : qq_Ev (z_lay Z) (z_mx Z) P mi pc loc st M post) : qq_X Z mi pc loc st M post :=
  qq_sound hOK (fun mi pc op h => hg mi pc _ h) (fun mi pc mj n rc h => hg mi pc _ h) (fun mi pc b h => hg mi pc _ h) hY h
end
section
/-! The cells of class and reference. 0 the desk, 1 its board, 2 its sheet with arrays 3 .. 8, 9 names, 10 history, 11 its sheets, 12 router, 13 .. 16, 17 lanes, 18 its rows 19 .. 21, 22 heads, 23 tails, 24 taken, 25 tape, 26 bytes, 27 picture, 28 numbers of nets; 29 + 7 i the i-th sheet kept, with its arrays; 148 the reference, 149 .. 160 its arrays; 200 .. 202 tables, 210 the script. -/
def tb_right (j : Nat) : Int32 := [(1 : Int32), 1, 0, -1, -1, -1, 0, 1].getD j 0
def tb_down (j : Nat) : Int32 := [(0 : Int32), 1, 1, 1, 0, -1, -1, -1].getD j 0
def tb_cost (j : Nat) : Int32 := [(10 : Int32), 14, 10, 14, 10, 14, 10, 14, 30].getD j 0
def lSh (b : Nat) : qL := .inr (.inr (.inl (2, [some (some (b + 1)), some (some (b + 2)), some (some (b + 3)), some (some (b + 4)), some (some (b + 5)), some (some (b + 6)), none, none, none])))
def lAr (n : Nat) : qL := .inl (0, n)
def lBo (n : Nat) : qL := .inl (1, n)
def lOb (c : Nat) (l : List (Option (Option Nat))) : qL := .inr (.inr (.inl (c, l)))
def gL0 : List qL := [lOb 0 [some (some 1), some (some 10), some (some 12), some (some 25), some (some 28)], lOb 1 [some (some 2), some (some 9)], lSh 2, lAr 16, lAr 24, lAr 24, lAr 16, lAr 16, lAr 240, lAr 16,
  lOb 3 [some (some 11), none, none], .inr (.inl (2, 17, fun j => some (29 + 7 * j))), lOb 4 [some (some 13), some (some 14), none, some (some 15), some (some 16), some (some 17)], lBo 240, lAr 240, lBo 240, lAr 240,
  lOb 5 [some (some 18), some (some 22), some (some 23), some (some 24)], .inr (.inl (3, 3, fun j => some (19 + j))), lAr 240, lAr 240, lAr 240, lAr 3, lAr 3, lBo 240, lOb 6 [some (some 26), none, some (some 27)], lAr 400, lAr 120, lAr 16]
def gL1 : List qL := [lOb 7 [some (some 149), some (some 150), some (some 151), none, some (some 152), some (some 153), some (some 154), some (some 155), some (some 156), some (some 157), some (some 158), none, some (some 159), some (some 160)],
  lAr 592, lAr 592, lAr 9472, lAr 16, lAr 240, lAr 240, lAr 240, lBo 240, lAr 240, lAr 400, lAr 120, lAr 16]
def gLk (b j : Nat) : qL := if j = 0 then lSh b else if j = 1 then lAr 16 else if j = 2 then lAr 24 else if j = 3 then lAr 24 else if j = 4 then lAr 16 else if j = 5 then lAr 16 else lAr 240
def lTb (n : Nat) (f : Nat → Int32) : qL := .inr (.inr (.inr (n, f)))
def gL (w : qS) (k : Nat) : qL := if k < 29 then gL0.getD k (lTb 0 tb_right) else if k < 148 then gLk k ((k - 29) % 7) else if k < 161 then gL1.getD (k - 148) (lTb 0 tb_right) else if k = 200 then lTb 8 tb_right else if k = 201 then lTb 8 tb_down else if k = 202 then lTb 9 tb_cost else lTb w.1 w.2
def isSh (s : Nat) : Prop := s = 2 ∨ ∃ i, i < 17 ∧ s = 29 + 7 * i
theorem ly_k {w : qS} {i j : Nat} (hi : i < 17) (hj : j < 7) : gL w (29 + 7 * i + j) = gLk (29 + 7 * i + j) j := by
  unfold gL
  rw [if_neg (by omega), if_pos (by omega), show (29 + 7 * i + j - 29) % 7 = j by omega]
theorem ly_s0 {w : qS} {s : Nat} (h : isSh s) : gL w s = .inr (.inr (.inl (2, [some (some (s + 1)), some (some (s + 2)), some (some (s + 3)), some (some (s + 4)), some (some (s + 5)), some (some (s + 6)), none, none, none]))) := by
  rcases h with rfl | ⟨i, hi, rfl⟩
  · rfl
  · exact ly_k (j := 0) hi (by omega)
theorem ly_s1 {w : qS} {s : Nat} (h : isSh s) : gL w (s + 1) = .inl (0, 16) := by
  rcases h with rfl | ⟨i, hi, rfl⟩
  · rfl
  · exact ly_k hi (by omega)
theorem ly_s2 {w : qS} {s : Nat} (h : isSh s) : gL w (s + 2) = .inl (0, 24) := by
  rcases h with rfl | ⟨i, hi, rfl⟩
  · rfl
  · exact ly_k hi (by omega)
theorem ly_s3 {w : qS} {s : Nat} (h : isSh s) : gL w (s + 3) = .inl (0, 24) := by
  rcases h with rfl | ⟨i, hi, rfl⟩
  · rfl
  · exact ly_k hi (by omega)
theorem ly_s4 {w : qS} {s : Nat} (h : isSh s) : gL w (s + 4) = .inl (0, 16) := by
  rcases h with rfl | ⟨i, hi, rfl⟩
  · rfl
  · exact ly_k hi (by omega)
theorem ly_s5 {w : qS} {s : Nat} (h : isSh s) : gL w (s + 5) = .inl (0, 16) := by
  rcases h with rfl | ⟨i, hi, rfl⟩
  · rfl
  · exact ly_k hi (by omega)
theorem ly_s6 {w : qS} {s : Nat} (h : isSh s) : gL w (s + 6) = .inl (0, 240) := by
  rcases h with rfl | ⟨i, hi, rfl⟩
  · rfl
  · exact ly_k hi (by omega)
theorem vp_lt {i : Int32} {n : Nat} (h : vp_in i n) : i.toNatClampNeg < n := Nat.not_le.mp fun c => h (Or.inr c)
theorem ly_kept {i : Int32} (h : vp_in i 17) : isSh (29 + 7 * i.toNatClampNeg) := Or.inr ⟨_, vp_lt h, rfl⟩
theorem ly_row {w : qS} {i : Int32} (h : vp_in i 3) : gL w (19 + i.toNatClampNeg) = .inl (0, 240) := by
  have h := vp_lt h
  generalize i.toNatClampNeg = k at h
  match k, h with
  | 0, _ => rfl
  | 1, _ => rfl
  | 2, _ => rfl
theorem rc_sh {w : qS} {s : Nat} {vt : List Value} (h : isSh s) : qq_rcv (gL w) (some 2) (.ref s :: vt) := by
  unfold qq_rcv
  simp only [ly_s0 h]
end
section
/-! Small numbers as Java's ints. -/
abbrev iN (n : Nat) : Int32 := Int32.ofNat n
def pm (n : Nat) : Int32 := if n = 0 then -1 else Int32.ofNat (n - 1)
theorem iN_lt {a b : Nat} (ha : a < 2 ^ 31) (hb : b < 2 ^ 31) : iN a < iN b ↔ a < b := Int32.ofNat_lt_iff_lt ha hb
theorem iN_le {a b : Nat} (ha : a < 2 ^ 31) (hb : b < 2 ^ 31) : iN a ≤ iN b ↔ a ≤ b := Int32.ofNat_le_iff_le ha hb
theorem iN_toInt {a : Nat} (ha : a < 2 ^ 31) : (iN a).toInt = (a : Int) := Int32.toInt_ofNat_of_lt ha
theorem iN_eq {a b : Nat} (ha : a < 2 ^ 31) (hb : b < 2 ^ 31) : iN a = iN b ↔ a = b := by
  constructor
  · intro h
    have h1 := congrArg Int32.toInt h
    rw [iN_toInt ha, iN_toInt hb] at h1
    omega
  · intro h; rw [h]
theorem iN_nn {a : Nat} (ha : a < 2 ^ 31) : ¬ iN a < 0 := by
  intro h
  have h1 := (iN_lt ha (show 0 < 2 ^ 31 by decide)).mp h
  omega
theorem iN_pos {a : Nat} (ha : a < 2 ^ 31) : 0 < iN a ↔ 0 < a := iN_lt (show 0 < 2 ^ 31 by decide) ha
theorem iN_z {a : Nat} (ha : a < 2 ^ 31) : iN a = 0 ↔ a = 0 := iN_eq ha (show 0 < 2 ^ 31 by decide)
theorem iN_ix {a : Nat} (ha : a < 2 ^ 31) : (iN a).toNatClampNeg = a := Int32.toNatClampNeg_ofNat_of_lt ha
theorem iN_in {a n : Nat} (h : a < n) (ha : a < 2 ^ 31) : vp_in (iN a) n := by
  intro c
  rcases c with c | c
  · exact iN_nn ha c
  · rw [iN_ix ha] at c; omega
theorem iN_add (a b : Nat) : iN a + iN b = iN (a + b) := (Int32.ofNat_add a b).symm
theorem iN_mul (a b : Nat) : iN a * iN b = iN (a * b) := (Int32.ofNat_mul a b).symm
theorem iN_sub {a b : Nat} (h : b ≤ a) : iN a - iN b = iN (a - b) := (Int32.ofNat_sub a b h).symm
theorem iN_div {a b : Nat} (ha : a < 2 ^ 31) (hb : b < 2 ^ 31) : iN a / iN b = iN (a / b) := (Int32.ofNat_div ha hb).symm
theorem iN_rem {a b : Nat} (ha : a < 2 ^ 31) (hb : b < 2 ^ 31) : iN a - iN a / iN b * iN b = iN (a % b) := by
  rw [iN_div ha hb, iN_mul, iN_sub (Nat.div_mul_le_self a b)]
  congr 1
  have := Nat.div_add_mod a b
  rw [Nat.mul_comm] at this
  omega
theorem iN_succ (a : Nat) : iN a + 1 = iN (a + 1) := iN_add a 1
theorem iN_m1 {a : Nat} (h : 0 < a) : iN a + (-1) = iN (a - 1) := by
  have : iN a - iN 1 = iN (a - 1) := iN_sub h
  rw [← this]
  exact (Int32.sub_eq_add_neg (iN a) (iN 1)).symm
theorem pm_0 : pm 0 = -1 := rfl
theorem pm_s (n : Nat) : pm (n + 1) = iN n := rfl
theorem pm_of {n : Nat} (h : n ≠ 0) : pm n = iN (n - 1) := by unfold pm; rw [if_neg h]
theorem pm_neg {n : Nat} (hn : n ≤ 2 ^ 31) : pm n < 0 ↔ n = 0 := by
  constructor
  · intro h
    apply Classical.byContradiction
    intro h0
    rw [pm_of h0] at h
    exact iN_nn (by omega) h
  · intro h; subst h; decide
theorem pm_m1 {n : Nat} (hn : n ≤ 2 ^ 31) : pm n = -1 ↔ n = 0 := by
  constructor
  · intro h
    exact (pm_neg hn).mp (by rw [h]; decide)
  · intro h; subst h; rfl
theorem pm_eq {a b : Nat} (ha : a ≤ 2 ^ 31) (hb : b ≤ 2 ^ 31) : pm a = pm b ↔ a = b := by
  constructor
  · intro h
    by_cases a0 : a = 0
    · subst a0
      exact ((pm_m1 hb).mp (h.symm.trans pm_0)).symm
    · by_cases b0 : b = 0
      · subst b0
        exact (pm_m1 ha).mp (h.trans pm_0)
      · rw [pm_of a0, pm_of b0, iN_eq (by omega) (by omega)] at h
        omega
  · intro h; rw [h]
theorem pm_iN {a b : Nat} (ha : a ≤ 2 ^ 31) (hb : b < 2 ^ 31) : pm a = iN b ↔ a = b + 1 := by
  rw [← pm_s b, pm_eq ha (by omega)]
end
section
/-! Pure: counting, nets, pieces, costs. -/
noncomputable def cnt : Nat → (Nat → Prop) → Nat
  | 0, _ => 0
  | k + 1, p => cnt k p + @ite _ (p k) (Classical.propDecidable _) 1 0
theorem cnt_le (p : Nat → Prop) : ∀ k, cnt k p ≤ k
  | 0 => Nat.le_refl 0
  | k + 1 => by
    have := cnt_le p k
    simp only [cnt]
    split <;> omega
theorem cnt_mono {p q : Nat → Prop} : ∀ k, (∀ i, i < k → p i → q i) → cnt k p ≤ cnt k q
  | 0, _ => Nat.le_refl 0
  | k + 1, h => by
    have h1 := cnt_mono k (fun i hi => h i (by omega))
    simp only [cnt]
    by_cases hp : p k
    · rw [if_pos hp, if_pos (h k (by omega) hp)]; omega
    · rw [if_neg hp]; split <;> omega
theorem cnt_lt {p q : Nat → Prop} : ∀ k, (∀ i, i < k → p i → q i) → (∃ i, i < k ∧ ¬ p i ∧ q i) → cnt k p < cnt k q
  | 0, _, ⟨_, h, _⟩ => absurd h (by omega)
  | k + 1, h, ⟨i, hi, hn, hq⟩ => by
    simp only [cnt]
    by_cases hik : i = k
    · subst hik
      have h1 := cnt_mono i (fun j hj => h j (by omega))
      rw [if_neg hn, if_pos hq]; omega
    · have h1 := cnt_lt k (fun j hj => h j (by omega)) ⟨i, by omega, hn, hq⟩
      by_cases hp : p k
      · rw [if_pos hp, if_pos (h k (by omega) hp)]; omega
      · rw [if_neg hp]; split <;> omega
theorem cnt_all {p : Nat → Prop} : ∀ k, cnt k p = k → ∀ i, i < k → p i
  | 0, _, _, h => absurd h (by omega)
  | k + 1, h, i, hi => by
    simp only [cnt] at h
    have h1 := cnt_le p k
    by_cases hp : p k
    · rw [if_pos hp] at h
      by_cases hik : i = k
      · subst hik; exact hp
      · exact cnt_all k (by omega) i (by omega)
    · rw [if_neg hp] at h; omega
theorem cnt_none {p : Nat → Prop} : ∀ k, (∀ i, i < k → ¬ p i) → cnt k p = 0
  | 0, _ => rfl
  | k + 1, h => by
    simp only [cnt]
    rw [cnt_none k (fun i hi => h i (by omega)), if_neg (h k (by omega))]
theorem cnt_congr {p q : Nat → Prop} (k : Nat) (h : ∀ i, i < k → (p i ↔ q i)) : cnt k p = cnt k q :=
  Nat.le_antisymm (cnt_mono k fun i hi => (h i hi).mp) (cnt_mono k fun i hi => (h i hi).mpr)
/-- one more -/
theorem cnt_one {p q : Nat → Prop} : ∀ k (a : Nat), a < k → ¬ p a → (∀ i, i < k → (q i ↔ p i ∨ i = a)) → cnt k q = cnt k p + 1
  | 0, _, h, _, _ => absurd h (by omega)
  | k + 1, a, ha, hn, h => by
    simp only [cnt]
    by_cases hak : a = k
    · subst hak
      rw [if_neg hn, if_pos ((h a (by omega)).mpr (Or.inr rfl)), cnt_congr a (q := p) (p := q) (fun i hi => ⟨fun q => ((h i (by omega)).mp q).resolve_right (by omega), fun q => (h i (by omega)).mpr (Or.inl q)⟩)]
    · have h1 := cnt_one k a (by omega) hn (fun i hi => h i (by omega))
      have h2 : q k ↔ p k := ⟨fun q => ((h k (by omega)).mp q).resolve_right (by omega), fun q => (h k (by omega)).mpr (Or.inl q)⟩
      by_cases hp : p k
      · rw [if_pos hp, if_pos (h2.mpr hp)]; omega
      · rw [if_neg hp, if_neg (fun q => hp (h2.mp q))]; omega
-- nets
def jC (k : Nat) (S f : Nat → Nat) : Prop := ∀ j, j < k → f (S (64 + 2 * j)) = f (S (64 + 2 * j + 1))
def isNet (k : Nat) (S n : Nat → Nat) : Prop := jC k S n ∧ (∀ p, p < 16 → n p ≤ p) ∧ ∀ f, jC k S f → ∀ p, p < 16 → f (n p) = f p
theorem isNet_le {k : Nat} {S n m : Nat → Nat} (h : isNet k S n) (g : isNet k S m) (p : Nat) (hp : p < 16) : n p ≤ m p := by
  have h1 := g.2.2 n h.1 p hp
  have h2 := g.2.1 p hp
  have h3 := h.2.1 (m p) (by omega)
  omega
theorem isNet_uniq {k : Nat} {S n m : Nat → Nat} (h : isNet k S n) (g : isNet k S m) (p : Nat) (hp : p < 16) : n p = m p :=
  Nat.le_antisymm (isNet_le h g p hp) (isNet_le g h p hp)
theorem isNet_idem {k : Nat} {S n : Nat → Nat} (h : isNet k S n) {p : Nat} (hp : p < 16) : n (n p) = n p := h.2.2 n h.1 p hp
theorem isNet_lt {k : Nat} {S n : Nat → Nat} (h : isNet k S n) {p : Nat} (hp : p < 16) : n p < 16 := Nat.lt_of_le_of_lt (h.2.1 p hp) hp
theorem isNet_zero (S : Nat → Nat) : isNet 0 S (fun p => p) := ⟨fun j hj => absurd hj (by omega), fun p _ => Nat.le_refl p, fun f _ p _ => rfl⟩
/-- the class: the greater name gives way -/
def nnRen (n : Nat → Nat) (hi lo : Nat) : Nat → Nat := fun p => if n p = hi then lo else n p
theorem isNet_succ {k : Nat} {S n : Nat → Nat} (h : isNet k S n) (ha : S (64 + 2 * k) < 16) (hb : S (64 + 2 * k + 1) < 16) :
    isNet (k + 1) S (nnRen n (if n (S (64 + 2 * k)) < n (S (64 + 2 * k + 1)) then n (S (64 + 2 * k + 1)) else n (S (64 + 2 * k))) (if n (S (64 + 2 * k + 1)) < n (S (64 + 2 * k)) then n (S (64 + 2 * k + 1)) else n (S (64 + 2 * k)))) := by
  refine ⟨fun j hj => ?_, fun p hp => ?_, fun f hf p hp => ?_⟩
  · unfold nnRen
    by_cases hjk : j = k
    · subst hjk
      by_cases h1 : n (S (64 + 2 * j)) < n (S (64 + 2 * j + 1))
      · have h2 : ¬ n (S (64 + 2 * j + 1)) < n (S (64 + 2 * j)) := by omega
        simp only [if_pos h1, if_neg h2, if_true]
        rw [if_neg (by omega)]
      · simp only [if_neg h1, if_true]
        by_cases h2 : n (S (64 + 2 * j + 1)) < n (S (64 + 2 * j))
        · simp only [if_pos h2]
          rw [if_neg (by omega)]
        · simp only [if_neg h2]
          split <;> omega
    · rw [h.1 j (by omega)]
  · unfold nnRen
    have h1 := h.2.1 p hp
    repeat' split
    all_goals omega
  · have hf' : jC k S f := fun j hj => hf j (by omega)
    have e1 := h.2.2 f hf' _ ha
    have e2 := h.2.2 f hf' _ hb
    have e3 := hf k (by omega)
    have e4 := h.2.2 f hf' p hp
    unfold nnRen
    by_cases h1 : n (S (64 + 2 * k)) < n (S (64 + 2 * k + 1))
    · have h2 : ¬ n (S (64 + 2 * k + 1)) < n (S (64 + 2 * k)) := by omega
      simp only [if_pos h1, if_neg h2]
      by_cases h3 : n p = n (S (64 + 2 * k + 1))
      · rw [if_pos h3, e1, e3, ← e2, ← h3, e4]
      · rw [if_neg h3, e4]
    · simp only [if_neg h1]
      by_cases h2 : n (S (64 + 2 * k + 1)) < n (S (64 + 2 * k))
      · simp only [if_pos h2]
        by_cases h3 : n p = n (S (64 + 2 * k))
        · rw [if_pos h3, e2, ← e3, ← e1, ← h3, e4]
        · rw [if_neg h3, e4]
      · simp only [if_neg h2]
        by_cases h3 : n p = n (S (64 + 2 * k))
        · rw [if_pos h3, e1, ← e1, ← h3, e4]
        · rw [if_neg h3, e4]
/-- the reference: one joint pulls both its ends to the lesser -/
def nnPull (S m : Nat → Nat) (j : Nat) : Nat → Nat := fun p => if p = S (64 + 2 * j) ∨ p = S (64 + 2 * j + 1) then (if m (S (64 + 2 * j)) < m (S (64 + 2 * j + 1)) then m (S (64 + 2 * j)) else m (S (64 + 2 * j + 1))) else m p
def nnRow (S m : Nat → Nat) : Nat → Nat → Nat
  | 0 => m
  | j + 1 => nnPull S (nnRow S m j) j
def nnInv (n m : Nat → Nat) : Prop := ∀ p, p < 16 → m p ≤ p ∧ n (m p) = n p
theorem nnInv_ge {k : Nat} {S n m : Nat → Nat} (h : isNet k S n) (g : nnInv n m) {p : Nat} (hp : p < 16) : n p ≤ m p := by
  have := g p hp
  have := h.2.1 (m p) (by omega)
  omega
theorem nnPull_inv {k : Nat} {S n m : Nat → Nat} (h : isNet k S n) (hS : ∀ i, i < 2 * k → S (64 + i) < 16) (g : nnInv n m) {j : Nat} (hj : j < k) : nnInv n (nnPull S m j) ∧ ∀ p, p < 16 → nnPull S m j p ≤ m p := by
  have ha := hS (2 * j) (by omega)
  have hb := hS (2 * j + 1) (by omega)
  have e := h.1 j hj
  rw [← Nat.add_assoc] at hb
  have ga := g _ ha
  have gb := g _ hb
  refine ⟨fun p hp => ?_, fun p hp => ?_⟩
  · have gp := g p hp
    unfold nnPull
    by_cases c : p = S (64 + 2 * j) ∨ p = S (64 + 2 * j + 1)
    · rw [if_pos c]
      by_cases d : m (S (64 + 2 * j)) < m (S (64 + 2 * j + 1))
      · rw [if_pos d]
        rcases c with rfl | rfl
        · exact ga
        · exact ⟨by omega, by rw [ga.2, e]⟩
      · rw [if_neg d]
        rcases c with rfl | rfl
        · exact ⟨by omega, by rw [gb.2, e]⟩
        · exact gb
    · rw [if_neg c]
      exact gp
  · unfold nnPull
    by_cases c : p = S (64 + 2 * j) ∨ p = S (64 + 2 * j + 1)
    · rw [if_pos c]
      rcases c with rfl | rfl <;> split <;> omega
    · rw [if_neg c]
      exact Nat.le_refl _
theorem nnRow_inv {k : Nat} {S n m : Nat → Nat} (h : isNet k S n) (hS : ∀ i, i < 2 * k → S (64 + i) < 16) (g : nnInv n m) : ∀ j, j ≤ k → nnInv n (nnRow S m j) ∧ ∀ p, p < 16 → nnRow S m j p ≤ m p
  | 0, _ => ⟨g, fun p _ => Nat.le_refl _⟩
  | j + 1, hj => by
    have ih := nnRow_inv h hS g j (by omega)
    have st := nnPull_inv h hS ih.1 (show j < k by omega)
    exact ⟨st.1, fun p hp => Nat.le_trans (st.2 p hp) (ih.2 p hp)⟩
theorem nnRow_keep {k : Nat} {S n m : Nat → Nat} (h : isNet k S n) (hS : ∀ i, i < 2 * k → S (64 + i) < 16) (g : nnInv n m) {j : Nat} (hj : j ≤ k) {p : Nat} (hp : p < 16) (e : m p = n p) : nnRow S m j p = n p := by
  have h1 := nnRow_inv h hS g j hj
  have h2 := h1.2 p hp
  have h3 := nnInv_ge h h1.1 hp
  omega
theorem nnRow_hit {k : Nat} {S n m : Nat → Nat} (h : isNet k S n) (hS : ∀ i, i < 2 * k → S (64 + i) < 16) (g : nnInv n m) {i : Nat} (hi : i < k) (e : m (S (64 + 2 * i)) = n (S (64 + 2 * i)) ∨ m (S (64 + 2 * i + 1)) = n (S (64 + 2 * i + 1))) :
    ∀ j, j ≤ k → i < j → nnRow S m j (S (64 + 2 * i)) = n (S (64 + 2 * i)) ∧ nnRow S m j (S (64 + 2 * i + 1)) = n (S (64 + 2 * i + 1))
  | 0, _, hij => absurd hij (by omega)
  | j + 1, hj, hij => by
    have ha := hS (2 * i) (by omega)
    have hb := hS (2 * i + 1) (by omega)
    rw [← Nat.add_assoc] at hb
    have i1 := nnRow_inv h hS g j (by omega)
    have i2 := nnRow_inv h hS g (j + 1) hj
    have st := nnPull_inv h hS i1.1 (show j < k by omega)
    have la := nnInv_ge h i2.1 ha
    have lb := nnInv_ge h i2.1 hb
    by_cases c : i = j
    · subst c
      have eab := h.1 i hi
      have ka := nnInv_ge h i1.1 ha
      have kb := nnInv_ge h i1.1 hb
      have ma := i1.2 _ ha
      have mb := i1.2 _ hb
      have va : nnRow S m (i + 1) (S (64 + 2 * i)) ≤ n (S (64 + 2 * i)) ∧ nnRow S m (i + 1) (S (64 + 2 * i + 1)) ≤ n (S (64 + 2 * i + 1)) := by
        simp only [nnRow, nnPull, true_or, or_true, if_true]
        split <;> omega
      omega
    · have ih := nnRow_hit h hS g hi e j (by omega) (by omega)
      have sa := st.2 _ ha
      have sb := st.2 _ hb
      simp only [nnRow] at la lb ⊢
      omega
theorem nnRow_more {k : Nat} {S n m : Nat → Nat} (h : isNet k S n) (hS : ∀ i, i < 2 * k → S (64 + i) < 16) (g : nnInv n m) (w : ∃ p, p < 16 ∧ m p ≠ n p) : cnt 16 (fun p => m p = n p) < cnt 16 (fun p => nnRow S m k p = n p) := by
  obtain ⟨p, hp, hne⟩ := w
  apply Classical.byContradiction
  intro hno
  have hall : ∀ i, i < k → (m (S (64 + 2 * i)) = n (S (64 + 2 * i)) ↔ m (S (64 + 2 * i + 1)) = n (S (64 + 2 * i + 1))) := by
    intro i hi
    apply Classical.byContradiction
    intro hd
    have ha := hS (2 * i) (by omega)
    have hb := hS (2 * i + 1) (by omega)
    rw [← Nat.add_assoc] at hb
    have hit : m (S (64 + 2 * i)) = n (S (64 + 2 * i)) ∨ m (S (64 + 2 * i + 1)) = n (S (64 + 2 * i + 1)) := by
      apply Classical.byContradiction
      intro hz
      exact hd ⟨fun q => absurd (Or.inl q) hz, fun q => absurd (Or.inr q) hz⟩
    have h2 := nnRow_hit h hS g hi hit k (Nat.le_refl k) hi
    apply hno
    refine cnt_lt 16 (fun q hq e => nnRow_keep h hS g (Nat.le_refl k) hq e) ?_
    by_cases h1 : m (S (64 + 2 * i)) = n (S (64 + 2 * i))
    · exact ⟨_, hb, fun e => hd ⟨fun _ => e, fun _ => h1⟩, h2.2⟩
    · exact ⟨_, ha, h1, h2.1⟩
  have hc := h.2.2 (fun q => @ite _ (m q = n q) (Classical.propDecidable _) 1 0) (by
    intro i hi
    dsimp only
    by_cases h1 : m (S (64 + 2 * i)) = n (S (64 + 2 * i))
    · rw [if_pos h1, if_pos ((hall i hi).mp h1)]
    · rw [if_neg h1, if_neg (fun q => h1 ((hall i hi).mpr q))]) p hp
  try dsimp only at hc
  rw [if_neg hne, if_pos] at hc
  · cases hc
  · have q1 := g (n p) (isNet_lt h hp)
    have q2 := nnInv_ge h g (isNet_lt h hp)
    have q3 := isNet_idem h hp
    omega
def nnTurn (k : Nat) (S m : Nat → Nat) : Nat → Nat → Nat
  | 0 => m
  | t + 1 => nnRow S (nnTurn k S m t) k
theorem nnTurn_inv {k : Nat} {S n m : Nat → Nat} (h : isNet k S n) (hS : ∀ i, i < 2 * k → S (64 + i) < 16) (g : nnInv n m) : ∀ t, nnInv n (nnTurn k S m t)
  | 0 => g
  | t + 1 => (nnRow_inv h hS (nnTurn_inv h hS g t) k (Nat.le_refl k)).1
theorem nnTurn_cnt {k : Nat} {S n m : Nat → Nat} (h : isNet k S n) (hS : ∀ i, i < 2 * k → S (64 + i) < 16) (g : nnInv n m) : ∀ t, t ≤ 16 → t ≤ cnt 16 (fun p => nnTurn k S m t p = n p)
  | 0, _ => Nat.zero_le _
  | t + 1, ht => by
    have ih := nnTurn_cnt h hS g t (by omega)
    by_cases w : ∃ p, p < 16 ∧ nnTurn k S m t p ≠ n p
    · have := nnRow_more h hS (nnTurn_inv h hS g t) w
      simp only [nnTurn]
      omega
    · have hall : ∀ p, p < 16 → nnTurn k S m t p = n p := fun p hp => Classical.byContradiction fun q => w ⟨p, hp, q⟩
      have e : cnt 16 (fun p => nnTurn k S m (t + 1) p = n p) = cnt 16 (fun _ => True) := cnt_congr 16 fun p hp => ⟨fun _ => trivial, fun _ => nnRow_keep h hS (nnTurn_inv h hS g t) (Nat.le_refl k) hp (hall p hp)⟩
      rw [e]
      have : cnt 16 (fun _ => True) = 16 := by simp [cnt]
      omega
theorem nnTurn_end {k : Nat} {S n : Nat → Nat} (h : isNet k S n) (hS : ∀ i, i < 2 * k → S (64 + i) < 16) {p : Nat} (hp : p < 16) : nnTurn k S (fun p => p) 16 p = n p := by
  have g : nnInv n (fun p => p) := fun q hq => ⟨Nat.le_refl _, rfl⟩
  have h1 := nnTurn_cnt h hS g 16 (Nat.le_refl _)
  have h2 := cnt_le (fun p => nnTurn k S (fun p => p) 16 p = n p) 16
  exact cnt_all (p := fun p => nnTurn k S (fun p => p) 16 p = n p) 16 (Nat.le_antisymm h2 h1) p hp
-- the board: cells 0 .. 239, directions 0 .. 8; what is coded as 'one more' is 0 where there is none
def rx (d : Nat) : Nat := if d = 0 ∨ d = 1 ∨ d = 7 then 2 else if d = 2 ∨ d = 6 then 1 else 0
def ry (d : Nat) : Nat := if d = 1 ∨ d = 2 ∨ d = 3 then 2 else if d = 0 ∨ d = 4 then 1 else 0
def nx (c d : Nat) : Nat := if d = 8 then (if c < 120 then c + 121 else c - 119) else if c % 12 + rx d < 1 ∨ 12 < c % 12 + rx d ∨ c % 120 / 12 + ry d < 1 ∨ 10 < c % 120 / 12 + ry d then 0 else c + 12 * ry d + rx d - 12
def dop (d : Nat) : Nat := if d = 8 then 8 else (d + 4) % 8
def prc (d : Nat) : Nat := if d = 8 then 30 else if d % 2 = 0 then 10 else 14
theorem nx_tab : ∀ c : Fin 240, ∀ d : Fin 9, nx c.val d.val = 0 ∨ (nx c.val d.val ≤ 240 ∧ nx (nx c.val d.val - 1) (dop d.val) = c.val + 1 ∧ dop d.val < 9 ∧ prc (dop d.val) = prc d.val) := by decide +kernel
theorem nx_ok {c d : Nat} (hc : c < 240) (hd : d < 9) (h : nx c d ≠ 0) : nx c d ≤ 240 ∧ nx (nx c d - 1) (dop d) = c + 1 ∧ dop d < 9 ∧ prc (dop d) = prc d := (nx_tab ⟨c, hc⟩ ⟨d, hd⟩).resolve_left h
theorem prc_pos (d : Nat) : 10 ≤ prc d ∧ prc d ≤ 30 := by unfold prc; split <;> (try split) <;> omega
def nE (c e : Nat) : Prop := ∃ d, d < 9 ∧ nx c d = e + 1
theorem nE_lt {c e : Nat} (hc : c < 240) (h : nE c e) : e < 240 := by
  obtain ⟨d, hd, h⟩ := h
  have := nx_ok hc hd (by omega)
  omega
theorem nE_sym {c e : Nat} (hc : c < 240) (h : nE c e) : nE e c := by
  obtain ⟨d, hd, h⟩ := h
  have := nx_ok hc hd (by omega)
  rw [h, Nat.add_sub_cancel] at this
  exact ⟨dop d, this.2.2.1, this.2.1⟩
-- a piece: the cells of Q that hang together with s
def eC (Q : Nat → Prop) (f : Nat → Nat) : Prop := ∀ c e, c < 240 → e < 240 → Q c → Q e → nE c e → f c = f e
def isPc (Q : Nat → Prop) (s : Nat) (I : Nat → Prop) : Prop := I s ∧ (∀ c, c < 240 → I c → Q c) ∧ (∀ c e, c < 240 → e < 240 → I c → Q e → nE c e → I e) ∧ ∀ f, eC Q f → ∀ c, c < 240 → I c → f c = f s
theorem isPc_sub {Q I J : Nat → Prop} {s : Nat} (h : isPc Q s I) (g : isPc Q s J) {c : Nat} (hc : c < 240) (hI : I c) : J c := by
  have h1 := h.2.2.2 (fun q => @ite _ (J q) (Classical.propDecidable _) 1 0) (by
    intro a b ha hb qa qb hab
    dsimp only
    by_cases ja : J a
    · rw [if_pos ja, if_pos (g.2.2.1 a b ha hb ja qb hab)]
    · rw [if_neg ja, if_neg (fun jb => ja (g.2.2.1 b a hb ha jb qa (nE_sym ha hab)))]) c hc hI
  try dsimp only at h1
  rw [if_pos g.1] at h1
  apply Classical.byContradiction
  intro n
  rw [if_neg n] at h1
  cases h1
/-- labels of the reference at rest -/
def isLab (Q : Nat → Prop) (L : Nat → Nat) : Prop := eC Q L ∧ (∀ c, c < 240 → Q c → L c < 240 ∧ Q (L c)) ∧ ∀ f, eC Q f → ∀ c, c < 240 → Q c → f (L c) = f c
theorem isLab_pc {Q I : Nat → Prop} {L : Nat → Nat} {s : Nat} (h : isLab Q L) (g : isPc Q s I) (hs : s < 240) {c : Nat} (hc : c < 240) (hq : Q c) : L c = L s ↔ I c := by
  constructor
  · intro e
    have ec : eC Q (fun q => @ite _ (I q) (Classical.propDecidable _) 1 0) := by
      intro a b ha hb qa qb hab
      dsimp only
      by_cases ja : I a
      · rw [if_pos ja, if_pos (g.2.2.1 a b ha hb ja qb hab)]
      · rw [if_neg ja, if_neg (fun jb => ja (g.2.2.1 b a hb ha jb qa (nE_sym ha hab)))]
    have h1 := h.2.2 _ ec c hc hq
    have h2 := h.2.2 _ ec s hs (g.2.1 s hs g.1)
    rw [e, h2] at h1
    try dsimp only at h1
    rw [if_pos g.1] at h1
    apply Classical.byContradiction
    intro n
    rw [if_neg n] at h1
    cases h1
  · intro hI
    exact g.2.2.2 L h.1 c hc hI
-- costs: I the piece, F the free cells

def isCost (I F : Nat → Prop) (C : Nat → Nat) : Prop := (∀ c, c < 240 → I c → C c = 0) ∧ (∀ c, c < 240 → ¬ I c → ¬ F c → C c = 1000000) ∧ (∀ c, c < 240 → C c ≤ 1000000) ∧ (∀ c d, c < 240 → d < 9 → ¬ I c → F c → nx c d ≠ 0 → C c ≤ C (nx c d - 1) + prc d) ∧ ∀ c, c < 240 → ¬ I c → C c < 1000000 → ∃ d, d < 9 ∧ nx c d ≠ 0 ∧ C (nx c d - 1) + prc d ≤ C c
theorem isCost_le {I F : Nat → Prop} {C D : Nat → Nat} (h : isCost I F C) (g : isCost I F D) : ∀ k c, c < 240 → C c ≤ k → C c < 1000000 → D c ≤ C c
  | k, c, hc, hk, hf => by
    by_cases hI : I c
    · rw [g.1 c hc hI]; exact Nat.zero_le _
    · by_cases hF : F c
      · obtain ⟨d, hd, hn, hl⟩ := h.2.2.2.2 c hc hI hf
        have hp := prc_pos d
        have he := (nx_ok hc hd hn).1
        match k, hk with
        | 0, hk => omega
        | k + 1, hk =>
          have ih := isCost_le h g k (nx c d - 1) (by omega) (by omega) (by omega)
          have := g.2.2.2.1 c d hc hd hI hF hn
          omega
      · have := h.2.1 c hc hI hF
        omega
theorem isCost_uniq {I F : Nat → Prop} {C D : Nat → Nat} (h : isCost I F C) (g : isCost I F D) {c : Nat} (hc : c < 240) : C c = D c := by
  have h1 := h.2.2.1 c hc
  have h2 := g.2.2.1 c hc
  by_cases a : C c < 1000000
  · have e1 := isCost_le h g _ c hc (Nat.le_refl _) a
    have e2 := isCost_le g h _ c hc (Nat.le_refl _) (by omega)
    omega
  · by_cases b : D c < 1000000
    · have e2 := isCost_le g h _ c hc (Nat.le_refl _) b
      omega
    · omega
end
section
/-! Pure: cells are taken from three lanes by rising cost. -/
theorem cnt_img {n : Nat} {f : Nat → Nat} : ∀ t, (∀ i, i < t → f i < n) → (∀ i j, i < j → j < t → f i ≠ f j) → cnt n (fun c => ∃ i, i < t ∧ f i = c) = t
  | 0, _, _ => cnt_none n (fun c _ h => by obtain ⟨i, hi, _⟩ := h; omega)
  | t + 1, h, g => by
    have ih := cnt_img t (fun i hi => h i (by omega)) (fun i j hij hj => g i j hij (by omega))
    rw [cnt_one n (f t) (h t (by omega)) (p := fun c => ∃ i, i < t ∧ f i = c) (fun q => by
      obtain ⟨i, hi, e⟩ := q
      exact g i t hi (by omega) e) (fun c _ => ⟨fun q => by
      obtain ⟨i, hi, e⟩ := q
      by_cases it : i = t
      · subst it; exact Or.inr e.symm
      · exact Or.inl ⟨i, by omega, e⟩, fun q => by
      rcases q with ⟨i, hi, e⟩ | e
      · exact ⟨i, by omega, e⟩
      · exact ⟨t, by omega, e.symm⟩⟩), ih]
theorem pigeon {n : Nat} {f : Nat → Nat} {t : Nat} (h : ∀ i, i < t → f i < n) (g : ∀ i j, i < j → j < t → f i ≠ f j) : t ≤ n := by
  have h1 := cnt_img t h g
  have h2 := cnt_le (fun c => ∃ i, i < t ∧ f i = c) n
  omega
theorem pigeon1 {n : Nat} {f : Nat → Nat} {t e : Nat} (h : ∀ i, i < t → f i < n) (g : ∀ i j, i < j → j < t → f i ≠ f j) (he : e < n) (hn : ∀ i, i < t → f i ≠ e) : t < n := by
  refine pigeon (f := fun i => if i = t then e else f i) (t := t + 1) (fun i hi => ?_) (fun i j hij hj => ?_)
  · by_cases c : i = t
    · simp only [if_pos c]; exact he
    · simp only [if_neg c]; exact h i (by omega)
  · have ci : ¬ i = t := by omega
    simp only [if_neg ci]
    by_cases c : j = t
    · simp only [if_pos c]; exact hn i (by omega)
    · simp only [if_neg c]; exact g i j hij (by omega)
def wl (l : Nat) : Nat := if l = 0 then 10 else if l = 1 then 14 else 30
def ln (d : Nat) : Nat := if d = 8 then 2 else d % 2
theorem wl_ln {d : Nat} (hd : d < 9) : wl (ln d) = prc d ∧ ln d < 3 := by
  unfold wl ln prc
  by_cases h : d = 8
  · subst h; decide
  · simp only [if_neg h]
    have h2 : d % 2 = 0 ∨ d % 2 = 1 := by omega
    rcases h2 with h2 | h2 <;> rw [h2] <;> decide
def up1 (f : Nat → Nat) (a v : Nat) : Nat → Nat := fun x => if x = a then v else f x
theorem up1_at (f : Nat → Nat) (a v : Nat) : up1 f a v a = v := by unfold up1; rw [if_pos rfl]
theorem up1_ne {f : Nat → Nat} {a v x : Nat} (h : x ≠ a) : up1 f a v x = f x := by unfold up1; rw [if_neg h]
/-- b: the cell from which it spreads, its directions below dd are done -/
def dInv (I F Pd : Nat → Prop) (C : Nat → Nat) (T : Nat → Prop) (h t : Nat → Nat) (q : Nat → Nat → Nat) (D b dd : Nat) : Prop := ∃ K : Nat → Nat → Nat,
  (∀ l, l < 3 → h l ≤ t l ∧ t l ≤ 240) ∧
  (∀ l i, l < 3 → i < t l → q l i < 240 ∧ C (q l i) ≤ K l i ∧ K l i ≤ D + wl l) ∧
  (∀ l i j, l < 3 → i ≤ j → j < t l → K l i ≤ K l j) ∧
  (∀ l i j, l < 3 → i < j → j < t l → q l i ≠ q l j) ∧
  (∀ c, c < 240 → C c < 1000000 → ¬ T c → ∃ l i, l < 3 ∧ h l ≤ i ∧ i < t l ∧ q l i = c ∧ K l i = C c) ∧
  (∀ c, c < 240 → T c → C c ≤ D ∧ C c < 1000000) ∧ (∀ c, c < 240 → ¬ T c → D ≤ C c) ∧
  (∀ c, c < 240 → I c → C c = 0) ∧ (∀ c, c < 240 → C c ≤ 1000000) ∧
  (∀ c, c < 240 → ¬ I c → C c < 1000000 → (F c ∨ Pd c) ∧ ∃ d, d < 9 ∧ nx c d ≠ 0 ∧ (I (nx c d - 1) ∨ F (nx c d - 1)) ∧ C (nx c d - 1) + prc d ≤ C c) ∧
  (∀ c d, c < 240 → d < 9 → T c → (I c ∨ F c) → (c = b → d < dd) → nx c d ≠ 0 → (F (nx c d - 1) ∨ Pd (nx c d - 1)) → C (nx c d - 1) ≤ C c + prc d)
theorem dInv_take {I F Pd : Nat → Prop} {C : Nat → Nat} {T : Nat → Prop} {h h' t : Nat → Nat} {q : Nat → Nat → Nat} {D dd best l0 : Nat} (v : dInv I F Pd C T h t q D 999 dd)
    (hh : ∀ l, l < 3 → h l ≤ h' l ∧ h' l ≤ t l ∧ ∀ i, h l ≤ i → i < h' l → T (q l i)) (hu : ∀ l, l < 3 → h' l < t l → ¬ T (q l (h' l))) (hl0 : l0 < 3) (hb0 : h' l0 < t l0) (hb1 : best = q l0 (h' l0)) (hb2 : C best < 1000000) (hm : ∀ l, l < 3 → h' l < t l → C best ≤ C (q l (h' l))) :
    dInv I F Pd C (fun c => T c ∨ c = best) h' t q (C best) best 0 ∧ ¬ T best ∧ best < 240 := by
  obtain ⟨K, v1, v2, v3, v4, v5, v6, v7, v8, v9, v10, v11⟩ := v
  have hbn : ¬ T best := by rw [hb1]; exact hu l0 hl0 hb0
  have hb240 : best < 240 := by rw [hb1]; exact (v2 l0 _ hl0 hb0).1
  have hDb : D ≤ C best := v7 best hb240 hbn
  have hmin : ∀ c, c < 240 → ¬ T c → C best ≤ C c := by
    intro c hc hn
    by_cases hf : C c < 1000000
    · obtain ⟨l, i, hl, hi, hit, e1, e2⟩ := v5 c hc hf hn
      have hle : h' l ≤ i := by
        apply Classical.byContradiction
        intro hlt
        have := (hh l hl).2.2 i hi (by omega)
        rw [e1] at this
        exact hn this
      have a1 := hm l hl (by omega)
      have a2 := (v2 l (h' l) hl (by omega)).2.1
      have a3 := v3 l (h' l) i hl hle hit
      omega
    · have := v9 c hc
      omega
  refine ⟨⟨K, fun l hl => ⟨(hh l hl).2.1, (v1 l hl).2⟩, fun l i hl hi => ?_, v3, v4, fun c hc hf hn => ?_, fun c hc hT => ?_, fun c hc hn => ?_, v8, v9, v10, fun c d hc hd hT hp hcb hn hfp => ?_⟩, hbn, hb240⟩
  · have := v2 l i hl hi
    exact ⟨this.1, this.2.1, by omega⟩
  · have hn' : ¬ T c := fun x => hn (Or.inl x)
    obtain ⟨l, i, hl, hi, hit, e1, e2⟩ := v5 c hc hf hn'
    refine ⟨l, i, hl, ?_, hit, e1, e2⟩
    apply Classical.byContradiction
    intro hlt
    have := (hh l hl).2.2 i hi (by omega)
    rw [e1] at this
    exact hn' this
  · rcases hT with hT | rfl
    · have := v6 c hc hT
      exact ⟨by omega, this.2⟩
    · exact ⟨Nat.le_refl _, hb2⟩
  · exact hmin c hc (fun x => hn (Or.inl x))
  · rcases hT with hT | rfl
    · exact v11 c d hc hd hT hp (fun e => by omega) hn hfp
    · exact absurd (hcb rfl) (by omega)
theorem dInv_none {I F Pd : Nat → Prop} {C : Nat → Nat} {T : Nat → Prop} {h h' t : Nat → Nat} {q : Nat → Nat → Nat} {D dd : Nat} (v : dInv I F Pd C T h t q D 999 dd)
    (hh : ∀ l, l < 3 → h l ≤ h' l ∧ h' l ≤ t l ∧ ∀ i, h l ≤ i → i < h' l → T (q l i)) (hu : ∀ l, l < 3 → ¬ h' l < t l) : ∀ c, c < 240 → C c < 1000000 → T c := by
  obtain ⟨K, v1, v2, v3, v4, v5, v6, v7, v8, v9, v10, v11⟩ := v
  intro c hc hf
  apply Classical.byContradiction
  intro hn
  obtain ⟨l, i, hl, hi, hit, e1, e2⟩ := v5 c hc hf hn
  have h1 := hu l hl
  have h2 := (hh l hl).2.2 i hi (by omega)
  rw [e1] at h2
  exact hn h2
theorem dInv_heads {I F Pd : Nat → Prop} {C : Nat → Nat} {T : Nat → Prop} {h h' t : Nat → Nat} {q : Nat → Nat → Nat} {D b dd : Nat} (v : dInv I F Pd C T h t q D b dd)
    (hh : ∀ l, l < 3 → h l ≤ h' l ∧ h' l ≤ t l ∧ ∀ i, h l ≤ i → i < h' l → T (q l i)) : dInv I F Pd C T h' t q D b dd := by
  obtain ⟨K, v1, v2, v3, v4, v5, v6, v7, v8, v9, v10, v11⟩ := v
  refine ⟨K, fun l hl => ⟨(hh l hl).2.1, (v1 l hl).2⟩, v2, v3, v4, fun c hc hf hn => ?_, v6, v7, v8, v9, v10, v11⟩
  obtain ⟨l, i, hl, hi, hit, e1, e2⟩ := v5 c hc hf hn
  refine ⟨l, i, hl, ?_, hit, e1, e2⟩
  apply Classical.byContradiction
  intro hlt
  have := (hh l hl).2.2 i hi (by omega)
  rw [e1] at this
  exact hn this
theorem dInv_room {I F Pd : Nat → Prop} {C : Nat → Nat} {T : Nat → Prop} {h t : Nat → Nat} {q : Nat → Nat → Nat} {D b dd e : Nat} (v : dInv I F Pd C T h t q D b dd) {l : Nat} (hl : l < 3) (he : e < 240) (hlt : D + wl l < C e) : t l < 240 := by
  obtain ⟨K, v1, v2, v3, v4, v5, v6, v7, v8, v9, v10, v11⟩ := v
  refine pigeon1 (f := q l) (e := e) (fun i hi => (v2 l i hl hi).1) (fun i j hij hj => v4 l i j hl hij hj) he (fun i hi x => ?_)
  have := v2 l i hl hi
  rw [x] at this
  omega
theorem dInv_relax {I F Pd : Nat → Prop} {C : Nat → Nat} {T : Nat → Prop} {h t : Nat → Nat} {q : Nat → Nat → Nat} {D b d : Nat} (v : dInv I F Pd C T h t q D b d) (hb : b < 240) (hT : T b) (hC : C b = D) (hp : I b ∨ F b) (hd : d < 9) (hn : nx b d ≠ 0) (hf : F (nx b d - 1) ∨ Pd (nx b d - 1)) (hlt : C b + prc d < C (nx b d - 1)) :
    dInv I F Pd (up1 C (nx b d - 1) (C b + prc d)) T h (up1 t (ln d) (t (ln d) + 1)) (fun l => if l = ln d then up1 (q l) (t l) (nx b d - 1) else q l) D b (d + 1) := by
  have hw := wl_ln hd
  have he := nx_ok hb hd hn
  have hroom := dInv_room (e := nx b d - 1) v hw.2 (by omega) (by rw [hw.1]; omega)
  obtain ⟨K, v1, v2, v3, v4, v5, v6, v7, v8, v9, v10, v11⟩ := v
  generalize hee : nx b d - 1 = e at *
  have he240 : e < 240 := by omega
  have hfar := v9 e he240
  have hpp := prc_pos d
  have heT : ¬ T e := fun x => by have := (v6 e he240 x).1; omega
  have heI : ¬ I e := fun x => by have := v8 e he240 x; omega
  have hbe : b ≠ e := fun x => heT (x ▸ hT)
  have hCle : ∀ c, up1 C e (C b + prc d) c ≤ C c := by
    intro c
    unfold up1
    split
    · rename_i x; subst x; omega
    · exact Nat.le_refl _
  have hnew : ∀ i, i < t (ln d) → q (ln d) i ≠ e := by
    intro i hi x
    have := v2 (ln d) i hw.2 hi
    rw [x, hw.1] at this
    omega
  refine ⟨fun l i => if l = ln d ∧ i = t l then C b + prc d else K l i, fun l hl => ?_, fun l i hl hi => ?_, fun l i j hl hij hj => ?_, fun l i j hl hij hj => ?_, fun c hc hcf hnT => ?_, fun c hc hcT => ?_, fun c hc hcn => ?_, fun c hc hI => ?_, fun c hc => ?_, fun c hc hI hcf => ?_, fun c d2 hc hd2 hcT hcp hcb hn2 hf2 => ?_⟩
  · have := v1 l hl
    by_cases c : l = ln d
    · subst c; rw [up1_at]; omega
    · rw [up1_ne c]; exact this
  · by_cases c : l = ln d
    · subst c
      rw [up1_at] at hi
      simp only [true_and, if_true]
      by_cases c2 : i = t (ln d)
      · subst c2
        rw [if_pos rfl, up1_at, up1_at]
        exact ⟨he240, Nat.le_refl _, by rw [hw.1]; omega⟩
      · rw [if_neg c2, up1_ne c2]
        have := v2 (ln d) i hl (by omega)
        have h3 := hCle (q (ln d) i)
        exact ⟨this.1, by omega, this.2.2⟩
    · rw [up1_ne c] at hi
      have c2 : ¬ (l = ln d ∧ i = t l) := fun x => c x.1
      simp only [if_neg c, if_neg c2]
      have := v2 l i hl hi
      have h3 := hCle (q l i)
      exact ⟨this.1, by omega, this.2.2⟩
  · by_cases c : l = ln d
    · subst c
      rw [up1_at] at hj
      simp only [true_and]
      by_cases c2 : j = t (ln d)
      · rw [if_pos c2]
        by_cases c3 : i = t (ln d)
        · rw [if_pos c3]; exact Nat.le_refl _
        · rw [if_neg c3]
          have := (v2 (ln d) i hl (by omega)).2.2
          rw [hw.1] at this
          omega
      · rw [if_neg c2, if_neg (by omega)]
        exact v3 (ln d) i j hl hij (by omega)
    · rw [up1_ne c] at hj
      have c2 : ¬ (l = ln d ∧ i = t l) := fun x => c x.1
      have c3 : ¬ (l = ln d ∧ j = t l) := fun x => c x.1
      simp only [if_neg c2, if_neg c3]
      exact v3 l i j hl hij hj
  · by_cases c : l = ln d
    · subst c
      rw [up1_at] at hj
      simp only [if_true]
      have ci : i ≠ t (ln d) := by omega
      rw [up1_ne ci]
      by_cases c2 : j = t (ln d)
      · subst c2
        rw [up1_at]
        exact hnew i (by omega)
      · rw [up1_ne c2]
        exact v4 (ln d) i j hl hij (by omega)
    · rw [up1_ne c] at hj
      simp only [if_neg c]
      exact v4 l i j hl hij hj
  · by_cases ce : c = e
    · subst ce
      refine ⟨ln d, t (ln d), hw.2, (v1 _ hw.2).1, by rw [up1_at]; omega, ?_, ?_⟩
      · simp only [if_true]; rw [up1_at]
      · simp only [and_self, if_true]; rw [up1_at]
    · rw [up1_ne ce] at hcf
      obtain ⟨l, i, hl, hi, hit, e1, e2⟩ := v5 c hc hcf hnT
      refine ⟨l, i, hl, hi, ?_, ?_, ?_⟩
      · by_cases c2 : l = ln d
        · subst c2; rw [up1_at]; omega
        · rw [up1_ne c2]; exact hit
      · by_cases c2 : l = ln d
        · subst c2; simp only [if_true]; rw [up1_ne (by omega)]; exact e1
        · simp only [if_neg c2]; exact e1
      · have c2 : ¬ (l = ln d ∧ i = t l) := by omega
        simp only [if_neg c2]
        rw [up1_ne ce]; exact e2
  · have ce : c ≠ e := fun x => heT (x ▸ hcT)
    rw [up1_ne ce]; exact v6 c hc hcT
  · by_cases ce : c = e
    · subst ce; rw [up1_at]; omega
    · rw [up1_ne ce]; exact v7 c hc hcn
  · have ce : c ≠ e := fun x => heI (x ▸ hI)
    rw [up1_ne ce]; exact v8 c hc hI
  · have := hCle c
    have := v9 c hc
    omega
  · by_cases ce : c = e
    · subst ce
      refine ⟨hf, dop d, he.2.2.1, ?_, ?_, ?_⟩
      · rw [he.2.1]; omega
      · rw [he.2.1, Nat.add_sub_cancel]; exact hp
      · rw [he.2.1, Nat.add_sub_cancel, up1_at, up1_ne hbe, he.2.2.2]; exact Nat.le_refl _
    · rw [up1_ne ce] at hcf
      obtain ⟨h1, d2, hd2, hn2, hp2, hle⟩ := v10 c hc hI hcf
      refine ⟨h1, d2, hd2, hn2, hp2, ?_⟩
      have := hCle (nx c d2 - 1)
      rw [up1_ne ce]
      omega
  · have ce : c ≠ e := fun x => heT (x ▸ hcT)
    rw [up1_ne ce]
    by_cases cb : c = b
    · subst cb
      by_cases cd : d2 = d
      · subst cd
        rw [hee, up1_at]; exact Nat.le_refl _
      · have := v11 c d2 hc hd2 hcT hcp (fun _ => by have := hcb rfl; omega) hn2 hf2
        have := hCle (nx c d2 - 1)
        omega
    · have := v11 c d2 hc hd2 hcT hcp (fun x => absurd x cb) hn2 hf2
      have := hCle (nx c d2 - 1)
      omega
theorem dInv_skip {I F Pd : Nat → Prop} {C : Nat → Nat} {T : Nat → Prop} {h t : Nat → Nat} {q : Nat → Nat → Nat} {D b d : Nat} (v : dInv I F Pd C T h t q D b d) (hs : nx b d = 0 ∨ ¬ (F (nx b d - 1) ∨ Pd (nx b d - 1)) ∨ C (nx b d - 1) ≤ C b + prc d) : dInv I F Pd C T h t q D b (d + 1) := by
  obtain ⟨K, v1, v2, v3, v4, v5, v6, v7, v8, v9, v10, v11⟩ := v
  refine ⟨K, v1, v2, v3, v4, v5, v6, v7, v8, v9, v10, fun c d2 hc hd2 hcT hcp hcb hn2 hf2 => ?_⟩
  by_cases cb : c = b
  · subst cb
    by_cases cd : d2 = d
    · subst cd
      rcases hs with hs | hs | hs
      · exact absurd hs hn2
      · exact absurd hf2 hs
      · exact hs
    · exact v11 c d2 hc hd2 hcT hcp (fun _ => by have := hcb rfl; omega) hn2 hf2
  · exact v11 c d2 hc hd2 hcT hcp (fun x => absurd x cb) hn2 hf2
theorem dInv_done {I F Pd : Nat → Prop} {C : Nat → Nat} {T : Nat → Prop} {h t : Nat → Nat} {q : Nat → Nat → Nat} {D b dd : Nat} (v : dInv I F Pd C T h t q D b dd) (hs : dd = 9 ∨ ¬ (I b ∨ F b)) : dInv I F Pd C T h t q D 999 0 := by
  obtain ⟨K, v1, v2, v3, v4, v5, v6, v7, v8, v9, v10, v11⟩ := v
  refine ⟨K, v1, v2, v3, v4, v5, v6, v7, v8, v9, v10, fun c d2 hc hd2 hcT hcp hcb hn2 hf2 => ?_⟩
  refine v11 c d2 hc hd2 hcT hcp (fun x => ?_) hn2 hf2
  rcases hs with hs | hs
  · omega
  · subst x; exact absurd hcp hs
/-- what is left at the end is a table of costs -/
theorem dInv_cost {I F Pd : Nat → Prop} {C : Nat → Nat} {T : Nat → Prop} {h t : Nat → Nat} {q : Nat → Nat → Nat} {D dd : Nat} (v : dInv I F Pd C T h t q D 999 dd) (hall : ∀ c, c < 240 → C c < 1000000 → T c) :
    isCost I F (fun c => @ite _ (I c ∨ F c) (Classical.propDecidable _) (C c) 1000000) := by
  obtain ⟨K, v1, v2, v3, v4, v5, v6, v7, v8, v9, v10, v11⟩ := v
  refine ⟨fun c hc hI => ?_, fun c hc hI hF => ?_, fun c hc => ?_, fun c d hc hd hI hF hn => ?_, fun c hc hI hcf => ?_⟩
  · simp only [if_pos (Or.inl hI : I c ∨ F c)]; exact v8 c hc hI
  · dsimp only; rw [if_neg (fun x : I c ∨ F c => x.elim hI hF)]
  · have := v9 c hc
    dsimp only
    split <;> omega
  · simp only [if_pos (Or.inr hF : I c ∨ F c)]
    have he := nx_ok hc hd hn
    by_cases hp : I (nx c d - 1) ∨ F (nx c d - 1)
    · rw [if_pos hp]
      by_cases hf : C (nx c d - 1) < 1000000
      · have h1 := v11 (nx c d - 1) (dop d) (by omega) he.2.2.1 (hall _ (by omega) hf) hp (fun x => by omega) (by rw [he.2.1]; omega) (by rw [he.2.1, Nat.add_sub_cancel]; exact Or.inl hF)
        rw [he.2.1, Nat.add_sub_cancel, he.2.2.2] at h1
        exact h1
      · have := v9 c hc
        omega
    · rw [if_neg hp]
      have := v9 c hc
      omega
  · dsimp only at hcf ⊢
    by_cases hp : I c ∨ F c
    · rw [if_pos hp] at hcf ⊢
      obtain ⟨_, d, hd, hn, hpe, hle⟩ := v10 c hc hI hcf
      exact ⟨d, hd, hn, by rw [if_pos hpe]; exact hle⟩
    · rw [if_neg hp] at hcf
      omega
/-- and a pad's own cost is the least of its neighbours' -/
theorem dInv_pad {I F Pd : Nat → Prop} {C : Nat → Nat} {T : Nat → Prop} {h t : Nat → Nat} {q : Nat → Nat → Nat} {D dd : Nat} (v : dInv I F Pd C T h t q D 999 dd) (hall : ∀ c, c < 240 → C c < 1000000 → T c) {s : Nat} (hs : s < 240) (hI : ¬ I s) (hp : Pd s) :
    (∀ d, d < 9 → nx s d ≠ 0 → (I (nx s d - 1) ∨ F (nx s d - 1)) → C s ≤ C (nx s d - 1) + prc d) ∧ (C s < 1000000 → ∃ d, d < 9 ∧ nx s d ≠ 0 ∧ (I (nx s d - 1) ∨ F (nx s d - 1)) ∧ C (nx s d - 1) + prc d ≤ C s) ∧ C s ≤ 1000000 := by
  obtain ⟨K, v1, v2, v3, v4, v5, v6, v7, v8, v9, v10, v11⟩ := v
  refine ⟨fun d hd hn hpe => ?_, fun hf => (v10 s hs hI hf).2, v9 s hs⟩
  have he := nx_ok hs hd hn
  by_cases hf : C (nx s d - 1) < 1000000
  · have h1 := v11 (nx s d - 1) (dop d) (by omega) he.2.2.1 (hall _ (by omega) hf) hpe (fun x => by omega) (by rw [he.2.1]; omega) (by rw [he.2.1, Nat.add_sub_cancel]; exact Or.inr hp)
    rw [he.2.1, Nat.add_sub_cancel, he.2.2.2] at h1
    exact h1
  · have := v9 s hs
    omega
end
section
/-! Pure: what a sheet is. S has the reference's places: 0 pins, 1 joints, 2 clearance, 16.. kinds, 32.. places, 64.. joints' ends, 112.. bars, 352.. copper (one more than its pin). -/
def bt (v l : Nat) : Nat := v / 2 ^ l % 2
abbrev hp (S : Nat → Nat) (p c : Nat) : Prop := bt (S (32 + p) / 120) (c / 120) = 1 ∧ S (32 + p) % 120 = c % 120
def padF (S : Nat → Nat) : Nat → Nat → Nat
  | 0, _ => 0
  | p + 1, c => if hp S p c then p + 1 else padF S p c
def pad (S : Nat → Nat) (c : Nat) : Nat := padF S (S 0) c
def own (S : Nat → Nat) (c : Nat) : Nat := if pad S c = 0 then S (352 + c) else pad S c
def ow (S n : Nat → Nat) (c : Nat) : Nat := if own S c = 0 then 0 else n (own S c - 1) + 1
def Ok (S : Nat → Nat) : Prop := S 0 ≤ 16 ∧ S 1 ≤ 24 ∧ (1 ≤ S 2 ∧ S 2 ≤ 2) ∧ (∀ p, p < 16 → S (16 + p) < 4) ∧ (∀ p, p < 16 → S (32 + p) = 0 ∨ (120 ≤ S (32 + p) ∧ S (32 + p) < 480 ∧ p < S 0)) ∧ (∀ i, i < 2 * S 1 → S (64 + i) < S 0) ∧
  (∀ c, c < 240 → S (112 + c) ≤ 1 ∧ S (352 + c) ≤ S 0) ∧ (∀ p q c, p < S 0 → q < S 0 → c < 240 → hp S p c → hp S q c → p = q) ∧ (∀ c, c < 240 → pad S c ≠ 0 → S (352 + c) = 0) ∧ (∀ c, c < 240 → S (112 + c) ≠ 0 → own S c = 0)
theorem padF_le (S : Nat → Nat) (c : Nat) : ∀ k, padF S k c ≤ k
  | 0 => Nat.le_refl 0
  | k + 1 => by
    have := padF_le S c k
    simp only [padF]
    split <;> omega
theorem padF_some {S : Nat → Nat} {c p : Nat} : ∀ k, padF S k c = p + 1 → p < k ∧ hp S p c
  | 0, h => by simp [padF] at h
  | k + 1, h => by
    simp only [padF] at h
    by_cases g : hp S k c
    · rw [if_pos g] at h
      have : k = p := by omega
      subst this
      exact ⟨by omega, g⟩
    · rw [if_neg g] at h
      have := padF_some k h
      exact ⟨by omega, this.2⟩
theorem padF_none {S : Nat → Nat} {c : Nat} : ∀ k, padF S k c = 0 → ∀ p, p < k → ¬ hp S p c
  | 0, _, _, h => absurd h (by omega)
  | k + 1, h, p, hpk => by
    simp only [padF] at h
    by_cases g : hp S k c
    · rw [if_pos g] at h; omega
    · rw [if_neg g] at h
      by_cases e : p = k
      · subst e; exact g
      · exact padF_none k h p (by omega)
theorem pad_le {S : Nat → Nat} (h : Ok S) (c : Nat) : pad S c ≤ S 0 ∧ pad S c ≤ 16 := by
  have := padF_le S c (S 0)
  have := h.1
  unfold pad
  omega
theorem pad_some {S : Nat → Nat} {c p : Nat} (e : pad S c = p + 1) : p < S 0 ∧ hp S p c := padF_some (S 0) e
theorem pad_none {S : Nat → Nat} {c : Nat} (e : pad S c = 0) {p : Nat} (hp0 : p < S 0) : ¬ hp S p c := padF_none (S 0) e p hp0
theorem pad_of {S : Nat → Nat} (h : Ok S) {c p : Nat} (hc : c < 240) (hp0 : p < S 0) (g : hp S p c) : pad S c = p + 1 := by
  match e : pad S c with
  | 0 => exact absurd g (pad_none e hp0)
  | k + 1 =>
    have := pad_some e
    rw [h.2.2.2.2.2.2.2.1 k p c this.1 hp0 hc this.2 g]
theorem pad_iff {S : Nat → Nat} (h : Ok S) {c p : Nat} (hc : c < 240) : pad S c = p + 1 ↔ p < S 0 ∧ hp S p c := ⟨pad_some, fun g => pad_of h hc g.1 g.2⟩
theorem pad_congr {S S' : Nat → Nat} (c : Nat) (h0 : S' 0 = S 0) (h : ∀ p, p < S 0 → S' (32 + p) = S (32 + p)) : pad S' c = pad S c := by
  unfold pad
  rw [h0]
  have : ∀ k, k ≤ S 0 → padF S' k c = padF S k c := by
    intro k
    induction k with
    | zero => intro _; rfl
    | succ k ih =>
      intro hk
      simp only [padF, hp]
      rw [h k (by omega), ih (by omega)]
  exact this _ (Nat.le_refl _)
theorem own_le {S : Nat → Nat} (h : Ok S) {c : Nat} (hc : c < 240) : own S c ≤ S 0 ∧ own S c ≤ 16 := by
  have h1 := pad_le h c
  have h2 := (h.2.2.2.2.2.2.1 c hc).2
  have h3 := h.1
  unfold own
  split <;> omega
theorem ow_le {S n : Nat → Nat} (h : Ok S) (hn : ∀ p, p < 16 → n p < 16) {c : Nat} (hc : c < 240) : ow S n c ≤ 16 := by
  have h1 := own_le h hc
  unfold ow
  split
  · omega
  · have := hn (own S c - 1) (by omega)
    omega
theorem ow_z {S n : Nat → Nat} {c : Nat} : ow S n c = 0 ↔ own S c = 0 := by
  unfold ow
  split <;> omega
/-- what the class keeps of a cell -/
def hv (S : Nat → Nat) (c : Nat) : Int32 := if own S c = 0 then (if S (112 + c) = 0 then -1 else -2) else iN (own S c - 1)
theorem hv_neg {S : Nat → Nat} (h : Ok S) {c : Nat} (hc : c < 240) : hv S c < 0 ↔ own S c = 0 := by
  have h1 := own_le h hc
  unfold hv
  by_cases e : own S c = 0
  · rw [if_pos e]
    refine ⟨fun _ => e, fun _ => ?_⟩
    split <;> decide
  · rw [if_neg e]
    exact ⟨fun x => absurd x (iN_nn (by omega)), fun x => absurd x e⟩
theorem hv_m1 {S : Nat → Nat} (h : Ok S) {c : Nat} (hc : c < 240) : hv S c = -1 ↔ own S c = 0 ∧ S (112 + c) = 0 := by
  constructor
  · intro x
    have e : own S c = 0 := (hv_neg h hc).mp (by rw [x]; decide)
    refine ⟨e, ?_⟩
    unfold hv at x
    rw [if_pos e] at x
    apply Classical.byContradiction
    intro n
    rw [if_neg n] at x
    exact absurd x (by decide)
  · intro x
    unfold hv
    rw [if_pos x.1, if_pos x.2]
theorem hv_m2 {S : Nat → Nat} (h : Ok S) {c : Nat} (hc : c < 240) : hv S c = -2 ↔ S (112 + c) ≠ 0 := by
  constructor
  · intro x n
    have e : own S c = 0 := (hv_neg h hc).mp (by rw [x]; decide)
    have := (hv_m1 h hc).mpr ⟨e, n⟩
    rw [x] at this
    exact absurd this (by decide)
  · intro x
    unfold hv
    rw [if_pos (h.2.2.2.2.2.2.2.2.2 c hc x), if_neg x]
theorem hv_of {S : Nat → Nat} {c : Nat} (e : own S c ≠ 0) : hv S c = iN (own S c - 1) := by unfold hv; rw [if_neg e]
/-- the cell so far from another one: i rows and j columns on, counted from r up and r to the left; one more, 0 where the board ends -/
def sh (r c i j : Nat) : Nat := if c % 12 + j < r ∨ 12 + r ≤ c % 12 + j ∨ c % 120 / 12 + i < r ∨ 10 + r ≤ c % 120 / 12 + i then 0 else c + 12 * i + j - 13 * r + 1
theorem sh_mid {r c : Nat} (hr : r ≤ 2) (hc : c < 240) : sh r c r r = c + 1 := by
  unfold sh
  rw [if_neg (by omega)]
  omega
theorem sh_le {r c i j : Nat} (hc : c < 240) : sh r c i j ≤ 240 := by
  unfold sh
  split
  · omega
  · omega
def fre (S n : Nat → Nat) (c net : Nat) : Prop := S (112 + c) = 0 ∧ ∀ i j, i ≤ 2 * S 2 → j ≤ 2 * S 2 → sh (S 2) c i j ≠ 0 → ow S n (sh (S 2) c i j - 1) = 0 ∨ ow S n (sh (S 2) c i j - 1) = net + 1
theorem fre_self {S n : Nat → Nat} {c net : Nat} (h : Ok S) (hc : c < 240) (f : fre S n c net) : ow S n c = 0 ∨ ow S n c = net + 1 := by
  have h2 := h.2.2.1
  have := f.2 (S 2) (S 2) (by omega) (by omega)
  rw [sh_mid h2.2 hc] at this
  simpa using this
/-- the pad of a placed pin with the least number -/
def fp (S : Nat → Nat) (p : Nat) : Nat := if S (32 + p) / 120 = 2 then 120 + S (32 + p) % 120 else S (32 + p) % 120
end
section
/-! Pure: what a route is. -/
def rchF (C : Nat → Nat) (c : Nat) : Nat → Nat
  | 0 => 1000000
  | d + 1 => if nx c d ≠ 0 ∧ C (nx c d - 1) + prc d < rchF C c d then C (nx c d - 1) + prc d else rchF C c d
def rch (C : Nat → Nat) (c : Nat) : Nat := rchF C c 9
theorem rchF_le (C : Nat → Nat) (c : Nat) : ∀ k, rchF C c k ≤ 1000000 ∧ ∀ d, d < k → nx c d ≠ 0 → rchF C c k ≤ C (nx c d - 1) + prc d
  | 0 => ⟨Nat.le_refl _, fun d hd => absurd hd (by omega)⟩
  | k + 1 => by
    have ih := rchF_le C c k
    simp only [rchF]
    refine ⟨?_, fun d hd hn => ?_⟩
    · split <;> omega
    · by_cases e : d = k
      · subst e
        split
        · exact Nat.le_refl _
        · rename_i h
          apply Classical.byContradiction
          intro h2
          exact h ⟨hn, by omega⟩
      · have := ih.2 d (by omega) hn
        split <;> omega
theorem rchF_hit (C : Nat → Nat) (c : Nat) : ∀ k, rchF C c k < 1000000 → ∃ d, d < k ∧ nx c d ≠ 0 ∧ C (nx c d - 1) + prc d = rchF C c k
  | 0, h => absurd h (by simp [rchF])
  | k + 1, h => by
    simp only [rchF] at h ⊢
    by_cases g : nx c k ≠ 0 ∧ C (nx c k - 1) + prc k < rchF C c k
    · rw [if_pos g]
      exact ⟨k, by omega, g.1, rfl⟩
    · rw [if_neg g] at h ⊢
      obtain ⟨d, hd, h1, h2⟩ := rchF_hit C c k h
      exact ⟨d, by omega, h1, h2⟩
theorem rch_eq {C : Nat → Nat} {c k : Nat} (h1 : ∀ d, d < 9 → nx c d ≠ 0 → k ≤ C (nx c d - 1) + prc d) (h2 : k < 1000000 → ∃ d, d < 9 ∧ nx c d ≠ 0 ∧ C (nx c d - 1) + prc d ≤ k) (h3 : k ≤ 1000000) : rch C c = k := by
  have a := rchF_le C c 9
  unfold rch
  by_cases hk : k < 1000000
  · obtain ⟨d, hd, hn, hl⟩ := h2 hk
    have b := a.2 d hd hn
    obtain ⟨d2, hd2, hn2, hl2⟩ := rchF_hit C c 9 (by omega)
    have e := h1 d2 hd2 hn2
    omega
  · by_cases g : rchF C c 9 < 1000000
    · obtain ⟨d2, hd2, hn2, hl2⟩ := rchF_hit C c 9 g
      have e := h1 d2 hd2 hn2
      omega
    · omega
theorem rchF_congr {C D : Nat → Nat} {c : Nat} (hc : c < 240) (h : ∀ e, e < 240 → C e = D e) : ∀ k, k ≤ 9 → rchF C c k = rchF D c k
  | 0, _ => rfl
  | k + 1, hk => by
    simp only [rchF]
    rw [rchF_congr hc h k (by omega)]
    by_cases hn : nx c k ≠ 0
    · rw [h (nx c k - 1) (by have := (nx_ok hc (by omega) hn).1; omega)]
    · rw [if_neg (fun x => hn x.1), if_neg (fun x => hn x.1)]
theorem rch_congr {C D : Nat → Nat} {c : Nat} (hc : c < 240) (h : ∀ e, e < 240 → C e = D e) : rch C c = rch D c := rchF_congr hc h 9 (by omega)
/-- the least of the neighbours by which what is left is what is left from here -/
def wst (C : Nat → Nat) (c left : Nat) : Nat → Nat
  | 0 => 240
  | d + 1 => if nx c d ≠ 0 ∧ C (nx c d - 1) + prc d = left ∧ nx c d - 1 < wst C c left d then nx c d - 1 else wst C c left d
theorem wst_congr {C D : Nat → Nat} {c : Nat} (left : Nat) (hc : c < 240) (h : ∀ e, e < 240 → C e = D e) : ∀ k, k ≤ 9 → wst C c left k = wst D c left k
  | 0, _ => rfl
  | k + 1, hk => by
    simp only [wst]
    rw [wst_congr left hc h k (by omega)]
    by_cases hn : nx c k ≠ 0
    · rw [h (nx c k - 1) (by have := (nx_ok hc (by omega) hn).1; omega)]
    · rw [if_neg (fun x => hn x.1), if_neg (fun x => hn x.1)]
theorem wst_hit {C : Nat → Nat} {c left : Nat} (hc : c < 240) : ∀ k, k ≤ 9 → wst C c left k ≤ 240 ∧ (wst C c left k < 240 → ∃ d, d < k ∧ nx c d = wst C c left k + 1 ∧ C (wst C c left k) + prc d = left) ∧ ((∃ d, d < k ∧ nx c d ≠ 0 ∧ C (nx c d - 1) + prc d = left) → wst C c left k < 240)
  | 0, _ => ⟨Nat.le_refl _, fun h => absurd h (by simp [wst]), fun ⟨d, h, _⟩ => absurd h (by omega)⟩
  | k + 1, hk => by
    have ih := wst_hit (C := C) (left := left) hc k (by omega)
    simp only [wst]
    by_cases g : nx c k ≠ 0 ∧ C (nx c k - 1) + prc k = left ∧ nx c k - 1 < wst C c left k
    · rw [if_pos g]
      have hn := (nx_ok hc (by omega) g.1).1
      refine ⟨by omega, fun _ => ⟨k, by omega, by omega, g.2.1⟩, fun _ => by omega⟩
    · rw [if_neg g]
      refine ⟨ih.1, fun h => ?_, fun h => ?_⟩
      · obtain ⟨d, hd, e1, e2⟩ := ih.2.1 h
        exact ⟨d, by omega, e1, e2⟩
      · obtain ⟨d, hd, e1, e2⟩ := h
        by_cases e : d = k
        · subst e
          have hn := (nx_ok hc (by omega) e1).1
          apply Classical.byContradiction
          intro h2
          exact g ⟨e1, e2, by omega⟩
        · exact ih.2.2 ⟨d, by omega, e1, e2⟩
def lay1 (S : Nat → Nat) (m c : Nat) : Nat → Nat := if pad S c = 0 then up1 S (352 + c) (m + 1) else S
def wayF (C : Nat → Nat) (m : Nat) : Nat → Nat → Nat → (Nat → Nat) → Nat → Nat
  | 0, _, _, S => S
  | k + 1, c, left, S => if left = 0 then S else wayF C m k (wst C c left 9) (C (wst C c left 9)) (lay1 S m (wst C c left 9))
theorem wayF_congr {C D : Nat → Nat} (m : Nat) (h : ∀ e, e < 240 → C e = D e) : ∀ k c left S, c < 240 → (left = 0 ∨ left < 1000000 ∧ ∃ d, d < 9 ∧ nx c d ≠ 0 ∧ C (nx c d - 1) + prc d = left) → (∀ e, e < 240 → C e = 0 ∨ C e = 1000000 ∨ ∃ d, d < 9 ∧ nx e d ≠ 0 ∧ C (nx e d - 1) + prc d = C e) → wayF C m k c left S = wayF D m k c left S
  | 0, _, _, _, _, _, _ => rfl
  | k + 1, c, left, S, hc, hl, ha => by
    simp only [wayF]
    by_cases h0 : left = 0
    · rw [if_pos h0, if_pos h0]
    · rw [if_neg h0, if_neg h0]
      have hl := hl.resolve_left h0
      have hw := wst_hit (C := C) (left := left) hc 9 (Nat.le_refl _)
      have he := hw.2.2 hl.2
      rw [← wst_congr left hc h 9 (Nat.le_refl _), ← h _ he]
      refine wayF_congr m h k _ _ _ he ?_ ha
      obtain ⟨d, hd, e1, e2⟩ := hw.2.1 he
      have := prc_pos d
      rcases ha _ he with x | x | x
      · exact Or.inl x
      · omega
      · exact Or.inr ⟨by omega, x⟩
-- nets' pins
def inN (S n : Nat → Nat) (net p : Nat) : Prop := p < S 0 ∧ n p = net ∧ S (32 + p) ≠ 0
def isFst (S n : Nat → Nat) (net p : Nat) : Prop := inN S n net p ∧ ∀ q, q < p → ¬ inN S n net q
def isPie (S n : Nat → Nat) (net : Nat) (I : Nat → Prop) : Prop := ∃ p, isFst S n net p ∧ isPc (fun c => ow S n c = net + 1) (fp S p) I
def isMis (S n : Nat → Nat) (net : Nat) (I : Nat → Prop) (m : Nat) : Prop := (inN S n net m ∧ ¬ I (fp S m)) ∧ ∀ q, q < m → ¬ (inN S n net q ∧ ¬ I (fp S q))
/-- code of the missing pin: one more, 0 for none -/
def Mis (S n : Nat → Nat) (net k : Nat) : Prop := (k = 0 ∧ ∀ p, ¬ inN S n net p) ∨ ∃ I, isPie S n net I ∧ ((k = 0 ∧ ∀ p, ¬ (inN S n net p ∧ ¬ I (fp S p))) ∨ ∃ m, k = m + 1 ∧ isMis S n net I m)
def pd2 (S : Nat → Nat) (C : Nat → Nat) (m : Nat) : Nat := if S (32 + m) / 120 = 3 ∧ rch C (fp S m + 120) < rch C (fp S m) then fp S m + 120 else fp S m
def Rt (S n : Nat → Nat) (net : Nat) (v : Int32) (S' : Nat → Nat) : Prop :=
  ((∀ p, ¬ inN S n net p) ∧ v = 0 ∧ S' = S) ∨ ∃ I, isPie S n net I ∧ (((∀ p, ¬ (inN S n net p ∧ ¬ I (fp S p))) ∧ v = 0 ∧ S' = S) ∨
    ∃ m C, isMis S n net I m ∧ isCost I (fun c => fre S n c net) C ∧ ((rch C (pd2 S C m) = 1000000 ∧ v = -2 ∧ S' = S) ∨
      (rch C (pd2 S C m) < 1000000 ∧ v = iN (rch C (pd2 S C m)) ∧ S' = wayF C m 240 (pd2 S C m) (rch C (pd2 S C m)) S)))
theorem fp_lt {S : Nat → Nat} (p : Nat) : fp S p < 240 := by
  unfold fp
  split <;> omega
theorem isFst_uniq {S n : Nat → Nat} {net p q : Nat} (h : isFst S n net p) (g : isFst S n net q) : p = q := by
  rcases Nat.lt_trichotomy p q with c | c | c
  · exact absurd h.1 (g.2 p c)
  · exact c
  · exact absurd g.1 (h.2 q c)
theorem isPie_uniq {S n : Nat → Nat} {net : Nat} {I J : Nat → Prop} (h : isPie S n net I) (g : isPie S n net J) {c : Nat} (hc : c < 240) : I c ↔ J c := by
  obtain ⟨p, h1, h2⟩ := h
  obtain ⟨q, g1, g2⟩ := g
  cases isFst_uniq h1 g1
  exact ⟨isPc_sub h2 g2 hc, isPc_sub g2 h2 hc⟩
theorem isMis_uniq {S n : Nat → Nat} {net m k : Nat} {I J : Nat → Prop} (e : ∀ c, c < 240 → (I c ↔ J c)) (h : isMis S n net I m) (g : isMis S n net J k) : m = k := by
  rcases Nat.lt_trichotomy m k with c | c | c
  · exact absurd ⟨h.1.1, fun x => h.1.2 ((e _ (fp_lt m)).mpr x)⟩ (g.2 m c)
  · exact c
  · exact absurd ⟨g.1.1, fun x => g.1.2 ((e _ (fp_lt k)).mp x)⟩ (h.2 k c)
theorem isCost_congr {I J F : Nat → Prop} {C : Nat → Nat} (e : ∀ c, c < 240 → (I c ↔ J c)) (h : isCost I F C) : isCost J F C :=
  ⟨fun c hc hJ => h.1 c hc ((e c hc).mpr hJ), fun c hc hJ => h.2.1 c hc (fun x => hJ ((e c hc).mp x)), h.2.2.1, fun c d hc hd hJ => h.2.2.2.1 c d hc hd (fun x => hJ ((e c hc).mp x)), fun c hc hJ => h.2.2.2.2 c hc (fun x => hJ ((e c hc).mp x))⟩
theorem isCost_eq {I F : Nat → Prop} {C : Nat → Nat} (h : isCost I F C) {e : Nat} (he : e < 240) : C e = 0 ∨ C e = 1000000 ∨ ∃ d, d < 9 ∧ nx e d ≠ 0 ∧ C (nx e d - 1) + prc d = C e := by
  by_cases hI : I e
  · exact Or.inl (h.1 e he hI)
  · by_cases hf : C e < 1000000
    · by_cases hF : F e
      · obtain ⟨d, hd, hn, hl⟩ := h.2.2.2.2 e he hI hf
        have := h.2.2.2.1 e d he hd hI hF hn
        exact Or.inr (Or.inr ⟨d, hd, hn, by omega⟩)
      · have := h.2.1 e he hI hF
        omega
    · have := h.2.2.1 e he
      exact Or.inr (Or.inl (by omega))
theorem pd2_lt {S C : Nat → Nat} {m : Nat} : pd2 S C m < 240 := by
  unfold pd2
  split
  · rename_i h
    unfold fp
    rw [if_neg (by omega)]
    omega
  · exact fp_lt m
theorem pd2_congr {S C D : Nat → Nat} {m : Nat} (h : ∀ e, e < 240 → C e = D e) : pd2 S C m = pd2 S D m := by
  unfold pd2
  by_cases g : S (32 + m) / 120 = 3
  · have hl : fp S m + 120 < 240 := by unfold fp; rw [if_neg (by omega)]; omega
    rw [rch_congr hl h, rch_congr (fp_lt m) h]
  · rw [if_neg (fun x => g x.1), if_neg (fun x => g x.1)]
theorem Rt_uniq {S n S1 S2 : Nat → Nat} {net : Nat} {v w : Int32} (h : Rt S n net v S1) (g : Rt S n net w S2) : v = w ∧ S1 = S2 := by
  rcases h with ⟨h0, rfl, rfl⟩ | ⟨I, hI, h⟩
  · rcases g with ⟨g0, rfl, rfl⟩ | ⟨J, ⟨p, hp, _⟩, _⟩
    · exact ⟨rfl, rfl⟩
    · exact absurd hp.1 (h0 p)
  · rcases g with ⟨g0, rfl, rfl⟩ | ⟨J, hJ, g⟩
    · obtain ⟨p, hp, _⟩ := hI
      exact absurd hp.1 (g0 p)
    · have e : ∀ c, c < 240 → (I c ↔ J c) := fun c hc => isPie_uniq hI hJ hc
      rcases h with ⟨h0, rfl, rfl⟩ | ⟨m, C, hm, hC, h⟩
      · rcases g with ⟨g0, rfl, rfl⟩ | ⟨k, D, hk, hD, g⟩
        · exact ⟨rfl, rfl⟩
        · exact absurd ⟨hk.1.1, fun x => hk.1.2 ((e _ (fp_lt k)).mp x)⟩ (h0 k)
      · rcases g with ⟨g0, rfl, rfl⟩ | ⟨k, D, hk, hD, g⟩
        · exact absurd ⟨hm.1.1, fun x => hm.1.2 ((e _ (fp_lt m)).mpr x)⟩ (g0 m)
        · cases isMis_uniq e hm hk
          have ec : ∀ c, c < 240 → C c = D c := fun c hc => isCost_uniq (isCost_congr e hC) hD hc
          have ep := pd2_congr (S := S) (m := m) ec
          have er := rch_congr (pd2_lt (S := S) (C := C) (m := m)) ec
          rw [← ep, ← er] at g
          rcases h with ⟨h1, rfl, rfl⟩ | ⟨h1, rfl, rfl⟩
          · rcases g with ⟨g1, rfl, rfl⟩ | ⟨g1, rfl, rfl⟩
            · exact ⟨rfl, rfl⟩
            · omega
          · rcases g with ⟨g1, rfl, rfl⟩ | ⟨g1, rfl, rfl⟩
            · omega
            · refine ⟨rfl, wayF_congr m ec 240 _ _ S pd2_lt (Or.inr ⟨h1, ?_⟩) (fun c hc => isCost_eq hC hc)⟩
              exact rchF_hit C _ 9 h1
end
section
/-! Pure: what a way changes. -/
theorem lay1_at (S : Nat → Nat) (m c i : Nat) : lay1 S m c i = if i = 352 + c ∧ pad S c = 0 then m + 1 else S i := by
  unfold lay1
  by_cases h : pad S c = 0
  · rw [if_pos h]
    unfold up1
    by_cases e : i = 352 + c
    · rw [if_pos e, if_pos ⟨e, h⟩]
    · rw [if_neg e, if_neg (fun x => e x.1)]
  · rw [if_neg h, if_neg (fun x => h x.2)]
theorem lay1_pad (S : Nat → Nat) (hS : S 0 ≤ 16) (m c e : Nat) : pad (lay1 S m c) e = pad S e := by
  refine pad_congr e ?_ (fun p hp => ?_)
  · rw [lay1_at, if_neg (fun x => by omega)]
  · rw [lay1_at, if_neg (fun x => by omega)]
theorem lay1_lo {S : Nat → Nat} {m c i : Nat} (h : i < 352) : lay1 S m c i = S i := by
  rw [lay1_at, if_neg (fun x => by omega)]
/-- a cell costs nothing just where it is of the piece -/
theorem isCost_z {I F : Nat → Prop} {C : Nat → Nat} (h : isCost I F C) {c : Nat} (hc : c < 240) (e : C c = 0) : I c := by
  apply Classical.byContradiction
  intro n
  obtain ⟨d, hd, hn, hl⟩ := h.2.2.2.2 c hc n (by omega)
  have := prc_pos d
  omega
theorem isCost_pass {I F : Nat → Prop} {C : Nat → Nat} (h : isCost I F C) {c : Nat} (hc : c < 240) (e : C c < 1000000) : I c ∨ F c := by
  by_cases hI : I c
  · exact Or.inl hI
  · by_cases hF : F c
    · exact Or.inr hF
    · have := h.2.1 c hc hI hF
      omega
/-- what is left can be gone -/
def wOK (C : Nat → Nat) (c left : Nat) : Prop := left = 0 ∨ left < 1000000 ∧ ∃ d, d < 9 ∧ nx c d ≠ 0 ∧ C (nx c d - 1) + prc d = left
theorem wOK_step {I F : Nat → Prop} {C : Nat → Nat} (h : isCost I F C) {c left : Nat} (hc : c < 240) (hl : wOK C c left) (h0 : left ≠ 0) :
    wst C c left 9 < 240 ∧ nE c (wst C c left 9) ∧ C (wst C c left 9) < left ∧ left < 1000000 ∧ (I (wst C c left 9) ∨ F (wst C c left 9)) ∧ wOK C (wst C c left 9) (C (wst C c left 9)) := by
  have hl := hl.resolve_left h0
  have hw := wst_hit (C := C) (left := left) hc 9 (Nat.le_refl _)
  have he := hw.2.2 hl.2
  obtain ⟨d, hd, e1, e2⟩ := hw.2.1 he
  have hp := prc_pos d
  refine ⟨he, ⟨d, hd, e1⟩, by omega, hl.1, isCost_pass h he (by omega), ?_⟩
  rcases isCost_eq h he with x | x | x
  · exact Or.inl x
  · omega
  · exact Or.inr ⟨by omega, x⟩
theorem wayF_prop {I F : Nat → Prop} {C : Nat → Nat} (h : isCost I F C) (m : Nat) {N : Nat} (hN : N = 240) : ∀ k c left S, S 0 ≤ 16 → c < 240 → wOK C c left → (cnt N (fun a => C a < left) ≤ k) → (∃ a, a < 240 ∧ I a) → (left = 0 → I c) →
    ∃ Y : Nat → Prop, (∀ e, Y e → e < 240 ∧ (I e ∨ F e)) ∧ (∀ i, (∃ e, i = 352 + e ∧ Y e ∧ pad S e = 0) → wayF C m k c left S i = m + 1) ∧ (∀ i, ¬ (∃ e, i = 352 + e ∧ Y e ∧ pad S e = 0) → wayF C m k c left S i = S i) ∧
      ∀ X : Nat → Prop, (∀ e, e < 240 → I e → X e) → (∀ a b, a < 240 → b < 240 → nE a b → X b → (Y a ∨ a = c) → X a) → X c
  | 0, c, left, S, hS, hc, hl, hk, ⟨a, ha, hI⟩, hz => by
    have h0 : left = 0 := by
      apply Classical.byContradiction
      intro h0
      have h1 : cnt N (fun a => C a < left) = 0 := by omega
      have h2 : cnt N (fun _ => False) < cnt N (fun a => C a < left) := cnt_lt N (fun _ _ x => x.elim) ⟨a, by omega, fun x => x, by rw [h.1 a ha hI]; omega⟩
      omega
    refine ⟨fun _ => False, fun _ x => x.elim, fun i x => ?_, fun i _ => rfl, fun X hX _ => hX c hc (hz h0)⟩
    obtain ⟨_, _, x, _⟩ := x
    exact x.elim
  | k + 1, c, left, S, hS, hc, hl, hk, hex, hz => by
    simp only [wayF]
    by_cases h0 : left = 0
    · rw [if_pos h0]
      refine ⟨fun _ => False, fun _ x => x.elim, fun i x => ?_, fun i _ => rfl, fun X hX _ => hX c hc (hz h0)⟩
      obtain ⟨_, _, x, _⟩ := x
      exact x.elim
    · rw [if_neg h0]
      obtain ⟨he, hE, hlt, hlf, hp, hok⟩ := wOK_step h hc hl h0
      generalize wst C c left 9 = e at *
      have hcnt : cnt N (fun a => C a < C e) < cnt N (fun a => C a < left) := cnt_lt N (fun a _ x => by omega) ⟨e, by omega, by omega, hlt⟩
      obtain ⟨Y, y1, y2, y3, y4⟩ := wayF_prop h m hN k e (C e) (lay1 S m e) (by rw [lay1_lo (by omega)]; exact hS) he hok (by omega) hex (fun z => isCost_z h he z)
      have hpad : ∀ x, pad (lay1 S m e) x = pad S x := fun x => lay1_pad S hS m e x
      refine ⟨fun x => Y x ∨ x = e, ?_, ?_, ?_, ?_⟩
      · rintro x (hx | rfl)
        · exact y1 x hx
        · exact ⟨he, hp⟩
      · rintro i ⟨x, rfl, hx, hpx⟩
        by_cases hy : Y x
        · exact y2 _ ⟨x, rfl, hy, by rw [hpad]; exact hpx⟩
        · have hxe := hx.resolve_left hy
          subst hxe
          rw [y3 _ (fun z => by
            obtain ⟨x2, e2, hx2, _⟩ := z
            have : x2 = x := by omega
            exact hy (this ▸ hx2)), lay1_at, if_pos ⟨rfl, hpx⟩]
      · intro i hi
        rw [y3 i (fun z => by
          obtain ⟨x, e1, hx, hpx⟩ := z
          exact hi ⟨x, e1, Or.inl hx, by rw [hpad] at hpx; exact hpx⟩), lay1_at, if_neg (fun z => hi ⟨e, z.1, Or.inr rfl, z.2⟩)]
      · intro X hX hcl
        have hXe : X e := y4 X hX (fun a b ha hb hab hXb hY => hcl a b ha hb hab hXb (Or.inl hY))
        exact hcl c e hc he hE hXe (Or.inr rfl)
end
