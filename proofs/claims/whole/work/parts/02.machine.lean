/-! An abstract machine for methods that make no objects: the layouts of the cells stand, only numbers change.
 Layout of a cell: an array of numbers (place of its type, length); an array of references (place of its type, length, which cells);
 an object (place of its class, slots: none is a number, some r a reference or null); a table that nobody writes (length, contents). -/
abbrev qL : Type := (Nat × Nat) ⊕ (Nat × Nat × (Nat → Option Nat)) ⊕ (Nat × List (Option (Option Nat))) ⊕ (Nat × (Nat → Int32))
abbrev qM : Type := Nat → Nat → Int32
abbrev qK : Type := Nat → List (Option Value) → List Value → qM → Prop
abbrev qO : Type := Nat → List (Option Value) → List Value → qM → qK → Prop
/-- an entry of a method's table: an instruction; a call (method, how many values, the receiver's class); a return (0 void, 1 int, 2 boolean) -/
abbrev qE : Type := qO ⊕ (Nat × Nat × Option Nat) ⊕ Nat
abbrev qR : Type := Option Value → qM → Prop
abbrev qX : Type := Nat → Nat → List (Option Value) → List Value → qM → qR → Prop
abbrev qP : Type := Nat → Nat → Option qE
-- instructions
def qo_k (v : Int32) (n : Nat) : qO := fun pc loc st M k => k (pc + n) loc (.int v :: st) M
def qo_il (i n : Nat) : qO := fun pc loc st M k => match loc[i]? with
  | some (some (.int x)) => k (pc + n) loc (.int x :: st) M
  | _ => False
def qo_al (i n : Nat) : qO := fun pc loc st M k => match loc[i]? with
  | some (some (.ref x)) => k (pc + n) loc (.ref x :: st) M
  | _ => False
def qo_is (i n : Nat) : qO := fun pc loc st M k => match st with
  | .int x :: r => k (pc + n) (loc.set i (some (.int x))) r M
  | _ => False
def qo_as (i n : Nat) : qO := fun pc loc st M k => match st with
  | .ref x :: r => k (pc + n) (loc.set i (some (.ref x))) r M
  | _ => False
def qo_inc (i : Nat) (d : Int32) : qO := fun pc loc st M k => match loc[i]? with
  | some (some (.int x)) => k (pc + 3) (loc.set i (some (.int (x + d)))) st M
  | _ => False
def qo_b (f : Int32 → Int32 → Int32) : qO := fun pc loc st M k => match st with
  | .int y :: .int x :: r => k (pc + 1) loc (.int (f x y) :: r) M
  | _ => False
def qo_d (f : Int32 → Int32 → Int32) : qO := fun pc loc st M k => match st with
  | .int y :: .int x :: r => (¬ y = 0) ∧ k (pc + 1) loc (.int (f x y) :: r) M
  | _ => False
def qo_u (f : Int32 → Int32) : qO := fun pc loc st M k => match st with
  | .int x :: r => k (pc + 1) loc (.int (f x) :: r) M
  | _ => False
def qo_z (c : Int32 → Prop) (t : Nat) : qO := fun pc loc st M k => match st with
  | .int x :: r => (c x → k t loc r M) ∧ (¬ c x → k (pc + 3) loc r M)
  | _ => False
def qo_c (c : Int32 → Int32 → Prop) (t : Nat) : qO := fun pc loc st M k => match st with
  | .int y :: .int x :: r => (c x y → k t loc r M) ∧ (¬ c x y → k (pc + 3) loc r M)
  | _ => False
def qo_g (t : Nat) : qO := fun _ loc st M k => k t loc st M
def qo_sw (lo : Int) (ts : List Nat) (d : Nat) : qO := fun _ loc st M k => match st with
  | .int x :: r => k (if x.toInt < lo then d else ts.getD (x.toInt - lo).toNat d) loc r M
  | _ => False
def qo_dup : qO := fun pc loc st M k => match st with
  | v :: r => v.category = 1 ∧ k (pc + 1) loc (v :: v :: r) M
  | _ => False
def qo_pop : qO := fun pc loc st M k => match st with
  | v :: r => v.category = 1 ∧ k (pc + 1) loc r M
  | _ => False
def qo_dup2 : qO := fun pc loc st M k => match st with
  | v :: w :: r => v.category = 1 ∧ w.category = 1 ∧ k (pc + 1) loc (v :: w :: v :: w :: r) M
  | _ => False
def qo_dx1 : qO := fun pc loc st M k => match st with
  | v :: w :: r => v.category = 1 ∧ w.category = 1 ∧ k (pc + 1) loc (v :: w :: v :: r) M
  | _ => False
def qo_dx2 : qO := fun pc loc st M k => match st with
  | v :: w :: x :: r => v.category = 1 ∧ w.category = 1 ∧ x.category = 1 ∧ k (pc + 1) loc (v :: w :: x :: v :: r) M
  | _ => False
def qo_get (lay : Nat → qL) (ci j : Nat) : qO := fun pc loc st M k => match st with
  | .ref q :: r => match lay q with
    | .inr (.inr (.inl x)) => x.1 = ci ∧ match x.2[j]? with
      | some none => k (pc + 3) loc (.int (M q j) :: r) M
      | some (some (some z)) => k (pc + 3) loc (.ref z :: r) M
      | _ => False
    | _ => False
  | _ => False
def qo_put (lay : Nat → qL) (ci j : Nat) : qO := fun pc loc st M k => match st with
  | .int v :: .ref q :: r => match lay q with
    | .inr (.inr (.inl x)) => x.1 = ci ∧ x.2[j]? = some none ∧ k (pc + 3) loc r (va_up M q (upd (M q) j v))
    | _ => False
  | _ => False
def qo_ia (lay : Nat → qL) : qO := fun pc loc st M k => match st with
  | .int i :: .ref q :: r => match lay q with
    | .inl x => x.1 = 0 ∧ vp_in i x.2 ∧ k (pc + 1) loc (.int (M q i.toNatClampNeg) :: r) M
    | .inr (.inr (.inr x)) => vp_in i x.1 ∧ k (pc + 1) loc (.int (x.2 i.toNatClampNeg) :: r) M
    | _ => False
  | _ => False
def qo_ias (lay : Nat → qL) : qO := fun pc loc st M k => match st with
  | .int v :: .int i :: .ref q :: r => match lay q with
    | .inl x => x.1 = 0 ∧ vp_in i x.2 ∧ k (pc + 1) loc r (va_up M q (upd (M q) i.toNatClampNeg v))
    | _ => False
  | _ => False
def qo_za (lay : Nat → qL) : qO := fun pc loc st M k => match st with
  | .int i :: .ref q :: r => match lay q with
    | .inl x => x.1 = 1 ∧ vp_in i x.2 ∧ k (pc + 1) loc (.int (M q i.toNatClampNeg) :: r) M
    | _ => False
  | _ => False
def qo_zas (lay : Nat → qL) : qO := fun pc loc st M k => match st with
  | .int v :: .int i :: .ref q :: r => match lay q with
    | .inl x => x.1 = 1 ∧ vp_in i x.2 ∧ k (pc + 1) loc r (va_up M q (upd (M q) i.toNatClampNeg (vp_nar .boolean v)))
    | _ => False
  | _ => False
def qo_aa (lay : Nat → qL) : qO := fun pc loc st M k => match st with
  | .int i :: .ref q :: r => match lay q with
    | .inr (.inl x) => vp_in i x.2.1 ∧ match x.2.2 i.toNatClampNeg with
      | some z => k (pc + 1) loc (.ref z :: r) M
      | none => False
    | _ => False
  | _ => False
def qo_len (lay : Nat → qL) : qO := fun pc loc st M k => match st with
  | .ref q :: r => match lay q with
    | .inl x => k (pc + 1) loc (.int (Int32.ofNat x.2) :: r) M
    | .inr (.inl x) => k (pc + 1) loc (.int (Int32.ofNat x.2.1) :: r) M
    | .inr (.inr (.inr x)) => k (pc + 1) loc (.int (Int32.ofNat x.1) :: r) M
    | _ => False
  | _ => False
def qo_ss (z : Nat) : qO := fun pc loc st M k => k (pc + 3) loc (.ref z :: st) M
def qo_mx : qO := fun pc loc st M k => match st with
  | .int y :: .int x :: r => (r.map fun v => v.category).sum ≤ 8 ∧ k (pc + 3) loc (.int (if x < y then y else x) :: r) M
  | _ => False
def qo_mn : qO := fun pc loc st M k => match st with
  | .int y :: .int x :: r => (r.map fun v => v.category).sum ≤ 8 ∧ k (pc + 3) loc (.int (if y < x then y else x) :: r) M
  | _ => False
def qo_cp (lay : Nat → qL) : qO := fun pc loc st M k => match st with
  | .int n :: .int dp :: .ref q1 :: .int sp :: .ref q0 :: r => match lay q0, lay q1 with
    | .inl x0, .inl x1 => x0.1 = 0 ∧ x1.1 = 0 ∧ (r.map fun v => v.category).sum ≤ 8 ∧ (¬ sp < 0) ∧ (¬ dp < 0) ∧ (¬ n < 0) ∧ sp.toNatClampNeg + n.toNatClampNeg ≤ x0.2 ∧ dp.toNatClampNeg + n.toNatClampNeg ≤ x1.2 ∧
        k (pc + 3) loc r (va_up M q1 (va_cpy (M q0) (M q1) sp.toNatClampNeg dp.toNatClampNeg n.toNatClampNeg))
    | _, _ => False
  | _ => False
-- an instruction asks no more of a weaker goal
def qq_Mon (op : qO) : Prop := ∀ pc loc st M (k k' : qK), (∀ pc' loc' st' M', k pc' loc' st' M' → k' pc' loc' st' M') → op pc loc st M k → op pc loc st M k'
-- the machine: the least relation closed under the tables
def qq_ent (mx : Nat → Nat) (mj : Nat) (vs : List Value) : List (Option Value) := vs.map some ++ List.replicate (mx mj - vs.length) none
def qq_rcv (lay : Nat → qL) (rc : Option Nat) (vs : List Value) : Prop := match rc with
  | none => True
  | some ci => match vs with
    | .ref q :: _ => match lay q with
      | .inr (.inr (.inl x)) => x.1 = ci
      | _ => False
    | _ => False
def qq_ret (b : Nat) (st : List Value) (M : qM) (post : qR) : Prop := match st with
  | [] => b = 0 ∧ post none M
  | [.int v] => (b = 1 ∨ (b = 2 ∧ (v = 0 ∨ v = 1))) ∧ post (some (.int v)) M
  | _ => False
def qq_stp (lay : Nat → qL) (mx : Nat → Nat) (P : qP) (X : qX) : qX := fun mi pc loc st M post => match P mi pc with
  | none => False
  | some (.inl op) => op pc loc st M (fun pc' loc' st' M' => X mi pc' loc' st' M' post)
  | some (.inr (.inl c)) => ∃ vs rest : List Value, st = vs.reverse ++ rest ∧ vs.length = c.2.1 ∧ (∀ v ∈ vs, v.category = 1) ∧ (rest.map fun v => v.category).sum ≤ 8 ∧ qq_rcv lay c.2.2 vs ∧
      X c.1 0 (qq_ent mx c.1 vs) [] M (fun r M' => X mi (pc + 3) loc (r.toList ++ rest) M' post)
  | some (.inr (.inr b)) => qq_ret b st M post
def qq_cl (lay : Nat → qL) (mx : Nat → Nat) (P : qP) (X : qX) : Prop :=
  (∀ mi pc loc st M (p p' : qR), (∀ r M', p r M' → p' r M') → X mi pc loc st M p → X mi pc loc st M p') ∧ ∀ mi pc loc st M post, qq_stp lay mx P X mi pc loc st M post → X mi pc loc st M post
def qq_Ev (lay : Nat → qL) (mx : Nat → Nat) (P : qP) : qX := fun mi pc loc st M post => ∀ X : qX, qq_cl lay mx P X → X mi pc loc st M post
section QEV
variable {lay : Nat → qL} {mx : Nat → Nat} {P : qP}
theorem qq_Ev.mono {mi pc : Nat} {loc : List (Option Value)} {st : List Value} {M : qM} {p p' : qR} (h : qq_Ev lay mx P mi pc loc st M p) (hp : ∀ r M', p r M' → p' r M') : qq_Ev lay mx P mi pc loc st M p' :=
  fun X hX => hX.1 _ _ _ _ _ _ _ hp (h X hX)
theorem qq_Ev.op {mi pc : Nat} {loc : List (Option Value)} {st : List Value} {M : qM} {post : qR} {op : qO} (hP : P mi pc = some (.inl op)) (hm : qq_Mon op)
    (h : op pc loc st M (fun pc' loc' st' M' => qq_Ev lay mx P mi pc' loc' st' M' post)) : qq_Ev lay mx P mi pc loc st M post := by
  intro X hX
  refine hX.2 _ _ _ _ _ _ ?_
  unfold qq_stp
  rw [hP]
  exact hm _ _ _ _ _ _ (fun _ _ _ _ k => k X hX) h
theorem qq_Ev.call {mi pc mj n : Nat} {rc : Option Nat} {loc : List (Option Value)} {st : List Value} {M : qM} {post : qR} (hP : P mi pc = some (.inr (.inl (mj, n, rc)))) (vs rest : List Value) (hst : st = vs.reverse ++ rest) (hn : vs.length = n)
    (hc : ∀ v ∈ vs, v.category = 1) (hr : (rest.map fun v => v.category).sum ≤ 8) (hv : qq_rcv lay rc vs) {pc2 : qR} (h : qq_Ev lay mx P mj 0 (qq_ent mx mj vs) [] M pc2)
    (k : ∀ r M', pc2 r M' → qq_Ev lay mx P mi (pc + 3) loc (r.toList ++ rest) M' post) : qq_Ev lay mx P mi pc loc st M post := by
  intro X hX
  refine hX.2 _ _ _ _ _ _ ?_
  unfold qq_stp
  rw [hP]
  exact ⟨vs, rest, hst, hn, hc, hr, hv, hX.1 _ _ _ _ _ _ _ (fun r M' hp => k r M' hp X hX) (h X hX)⟩
theorem qq_Ev.ret {mi pc b : Nat} {loc : List (Option Value)} {st : List Value} {M : qM} {post : qR} (hP : P mi pc = some (.inr (.inr b))) (h : qq_ret b st M post) : qq_Ev lay mx P mi pc loc st M post := by
  intro X hX
  refine hX.2 _ _ _ _ _ _ ?_
  unfold qq_stp
  rw [hP]
  exact h
end QEV
-- monotone
theorem qm_k (v : Int32) (n : Nat) : qq_Mon (qo_k v n) := fun _ _ _ _ _ _ h g => h _ _ _ _ g
theorem qm_g (t : Nat) : qq_Mon (qo_g t) := fun _ _ _ _ _ _ h g => h _ _ _ _ g
theorem qm_ss (z : Nat) : qq_Mon (qo_ss z) := fun _ _ _ _ _ _ h g => h _ _ _ _ g
theorem qm_il (i n : Nat) : qq_Mon (qo_il i n) := by
  intro pc loc st M k k' h g
  unfold qo_il at g ⊢
  split at g
  · rename_i x hx
    try simp only [hx]
    exact h _ _ _ _ g
  · exact g.elim
theorem qm_al (i n : Nat) : qq_Mon (qo_al i n) := by
  intro pc loc st M k k' h g
  unfold qo_al at g ⊢
  split at g
  · rename_i x hx
    try simp only [hx]
    exact h _ _ _ _ g
  · exact g.elim
theorem qm_inc (i : Nat) (d : Int32) : qq_Mon (qo_inc i d) := by
  intro pc loc st M k k' h g
  unfold qo_inc at g ⊢
  split at g
  · rename_i x hx
    try simp only [hx]
    exact h _ _ _ _ g
  · exact g.elim
theorem qm_is (i n : Nat) : qq_Mon (qo_is i n) := by
  intro pc loc st M k k' h g
  unfold qo_is at g ⊢
  split at g
  · exact h _ _ _ _ g
  · exact g.elim
theorem qm_as (i n : Nat) : qq_Mon (qo_as i n) := by
  intro pc loc st M k k' h g
  unfold qo_as at g ⊢
  split at g
  · exact h _ _ _ _ g
  · exact g.elim
theorem qm_b (f : Int32 → Int32 → Int32) : qq_Mon (qo_b f) := by
  intro pc loc st M k k' h g
  unfold qo_b at g ⊢
  split at g
  · exact h _ _ _ _ g
  · exact g.elim
theorem qm_d (f : Int32 → Int32 → Int32) : qq_Mon (qo_d f) := by
  intro pc loc st M k k' h g
  unfold qo_d at g ⊢
  split at g
  · exact ⟨g.1, h _ _ _ _ g.2⟩
  · exact g.elim
theorem qm_u (f : Int32 → Int32) : qq_Mon (qo_u f) := by
  intro pc loc st M k k' h g
  unfold qo_u at g ⊢
  split at g
  · exact h _ _ _ _ g
  · exact g.elim
theorem qm_z (c : Int32 → Prop) (t : Nat) : qq_Mon (qo_z c t) := by
  intro pc loc st M k k' h g
  unfold qo_z at g ⊢
  split at g
  · exact ⟨fun q => h _ _ _ _ (g.1 q), fun q => h _ _ _ _ (g.2 q)⟩
  · exact g.elim
theorem qm_c (c : Int32 → Int32 → Prop) (t : Nat) : qq_Mon (qo_c c t) := by
  intro pc loc st M k k' h g
  unfold qo_c at g ⊢
  split at g
  · exact ⟨fun q => h _ _ _ _ (g.1 q), fun q => h _ _ _ _ (g.2 q)⟩
  · exact g.elim
theorem qm_sw (lo : Int) (ts : List Nat) (d : Nat) : qq_Mon (qo_sw lo ts d) := by
  intro pc loc st M k k' h g
  unfold qo_sw at g ⊢
  split at g
  · exact h _ _ _ _ g
  · exact g.elim
theorem qm_dup : qq_Mon qo_dup := by
  intro pc loc st M k k' h g
  unfold qo_dup at g ⊢
  split at g
  · exact ⟨g.1, h _ _ _ _ g.2⟩
  · exact g.elim
theorem qm_pop : qq_Mon qo_pop := by
  intro pc loc st M k k' h g
  unfold qo_pop at g ⊢
  split at g
  · exact ⟨g.1, h _ _ _ _ g.2⟩
  · exact g.elim
theorem qm_dup2 : qq_Mon qo_dup2 := by
  intro pc loc st M k k' h g
  unfold qo_dup2 at g ⊢
  split at g
  · exact ⟨g.1, g.2.1, h _ _ _ _ g.2.2⟩
  · exact g.elim
theorem qm_dx1 : qq_Mon qo_dx1 := by
  intro pc loc st M k k' h g
  unfold qo_dx1 at g ⊢
  split at g
  · exact ⟨g.1, g.2.1, h _ _ _ _ g.2.2⟩
  · exact g.elim
theorem qm_dx2 : qq_Mon qo_dx2 := by
  intro pc loc st M k k' h g
  unfold qo_dx2 at g ⊢
  split at g
  · exact ⟨g.1, g.2.1, g.2.2.1, h _ _ _ _ g.2.2.2⟩
  · exact g.elim
theorem qm_mx : qq_Mon qo_mx := by
  intro pc loc st M k k' h g
  unfold qo_mx at g ⊢
  split at g
  · exact ⟨g.1, h _ _ _ _ g.2⟩
  · exact g.elim
theorem qm_mn : qq_Mon qo_mn := by
  intro pc loc st M k k' h g
  unfold qo_mn at g ⊢
  split at g
  · exact ⟨g.1, h _ _ _ _ g.2⟩
  · exact g.elim
theorem qm_put (lay : Nat → qL) (ci j : Nat) : qq_Mon (qo_put lay ci j) := by
  intro pc loc st M k k' h g
  unfold qo_put at g ⊢
  split at g
  · split at g
    · rename_i x hx
      try simp only [hx]
      exact ⟨g.1, g.2.1, h _ _ _ _ g.2.2⟩
    · exact g.elim
  · exact g.elim
theorem qm_ia (lay : Nat → qL) : qq_Mon (qo_ia lay) := by
  intro pc loc st M k k' h g
  unfold qo_ia at g ⊢
  split at g
  · split at g
    · rename_i x hx
      try simp only [hx]
      exact ⟨g.1, g.2.1, h _ _ _ _ g.2.2⟩
    · rename_i x hx
      try simp only [hx]
      exact ⟨g.1, h _ _ _ _ g.2⟩
    · exact g.elim
  · exact g.elim
theorem qm_ias (lay : Nat → qL) : qq_Mon (qo_ias lay) := by
  intro pc loc st M k k' h g
  unfold qo_ias at g ⊢
  split at g
  · split at g
    · rename_i x hx
      try simp only [hx]
      exact ⟨g.1, g.2.1, h _ _ _ _ g.2.2⟩
    · exact g.elim
  · exact g.elim
theorem qm_za (lay : Nat → qL) : qq_Mon (qo_za lay) := by
  intro pc loc st M k k' h g
  unfold qo_za at g ⊢
  split at g
  · split at g
    · rename_i x hx
      try simp only [hx]
      exact ⟨g.1, g.2.1, h _ _ _ _ g.2.2⟩
    · exact g.elim
  · exact g.elim
theorem qm_zas (lay : Nat → qL) : qq_Mon (qo_zas lay) := by
  intro pc loc st M k k' h g
  unfold qo_zas at g ⊢
  split at g
  · split at g
    · rename_i x hx
      try simp only [hx]
      exact ⟨g.1, g.2.1, h _ _ _ _ g.2.2⟩
    · exact g.elim
  · exact g.elim
theorem qm_len (lay : Nat → qL) : qq_Mon (qo_len lay) := by
  intro pc loc st M k k' h g
  unfold qo_len at g ⊢
  split at g
  · split at g
    · rename_i x hx
      try simp only [hx]
      exact h _ _ _ _ g
    · rename_i x hx
      try simp only [hx]
      exact h _ _ _ _ g
    · rename_i x hx
      try simp only [hx]
      exact h _ _ _ _ g
    · exact g.elim
  · exact g.elim
theorem qm_get (lay : Nat → qL) (ci j : Nat) : qq_Mon (qo_get lay ci j) := by
  intro pc loc st M k k' h g
  unfold qo_get at g ⊢
  split at g
  · split at g
    · rename_i x hx
      try simp only [hx]
      refine ⟨g.1, ?_⟩
      have g := g.2
      split at g
      · rename_i hj
        try simp only [hj]
        exact h _ _ _ _ g
      · rename_i z hj
        try simp only [hj]
        exact h _ _ _ _ g
      · exact g.elim
    · exact g.elim
  · exact g.elim
theorem qm_aa (lay : Nat → qL) : qq_Mon (qo_aa lay) := by
  intro pc loc st M k k' h g
  unfold qo_aa at g ⊢
  split at g
  · split at g
    · rename_i x hx
      try simp only [hx]
      refine ⟨g.1, ?_⟩
      have g := g.2
      split at g
      · rename_i z hj
        try simp only [hj]
        exact h _ _ _ _ g
      · exact g.elim
    · exact g.elim
  · exact g.elim
theorem qm_cp (lay : Nat → qL) : qq_Mon (qo_cp lay) := by
  intro pc loc st M k k' h g
  unfold qo_cp at g ⊢
  split at g
  · split at g
    · rename_i x0 x1 h0 h1
      try simp only [h0, h1]
      exact ⟨g.1, g.2.1, g.2.2.1, g.2.2.2.1, g.2.2.2.2.1, g.2.2.2.2.2.1, g.2.2.2.2.2.2.1, g.2.2.2.2.2.2.2.1, h _ _ _ _ g.2.2.2.2.2.2.2.2⟩
    · exact g.elim
  · exact g.elim
