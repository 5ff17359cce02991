/-! Tables as trees. -/
abbrev qS : Type := Nat × (Nat → Int32)
def qq_br (k : Nat) (l r : Nat → Option qE) : Nat → Option qE := fun pc => if pc < k then l pc else r pc
def qq_lf (k : Nat) (e : qE) : Nat → Option qE := fun pc => if pc = k then some e else none
def qq_bm (k : Nat) (l r : qP) : qP := fun mi => if mi < k then l mi else r mi
def qq_lm (k : Nat) (t : Nat → Option qE) : qP := fun mi pc => if mi = k then t pc else none
def qq_row (Z : qZ) (mi pc : Nat) (e : qE) : Prop := match e with
  | .inl op => qq_Mon op ∧ qq_Snd Z mi pc op
  | .inr (.inl c) => qq_SC Z mi pc c.1 c.2.1 c.2.2 ∧ c.2.1 ≤ z_mx Z c.1
  | .inr (.inr b) => qq_SR Z mi pc b
def qq_gt (Z : qZ) (mi : Nat) (t : Nat → Option qE) : Prop := ∀ pc e, t pc = some e → qq_row Z mi pc e
def qq_gp (Z : qZ) (P : qP) : Prop := ∀ mi pc e, P mi pc = some e → qq_row Z mi pc e
theorem gt_br {Z : qZ} {mi k : Nat} {l r : Nat → Option qE} (hl : qq_gt Z mi l) (hr : qq_gt Z mi r) : qq_gt Z mi (qq_br k l r) := by
  intro pc e h
  unfold qq_br at h
  split at h
  · exact hl pc e h
  · exact hr pc e h
theorem gt_lf {Z : qZ} {mi k : Nat} {e : qE} (h : qq_row Z mi k e) : qq_gt Z mi (qq_lf k e) := by
  intro pc e' h'
  unfold qq_lf at h'
  split at h'
  · rename_i x
    subst x
    cases h'
    exact h
  · cases h'
theorem gp_bm {Z : qZ} {k : Nat} {l r : qP} (hl : qq_gp Z l) (hr : qq_gp Z r) : qq_gp Z (qq_bm k l r) := by
  intro mi pc e h
  unfold qq_bm at h
  split at h
  · exact hl mi pc e h
  · exact hr mi pc e h
theorem gp_lm {Z : qZ} {k : Nat} {t : Nat → Option qE} (h : qq_gt Z k t) : qq_gp Z (qq_lm k t) := by
  intro mi pc e h'
  unfold qq_lm at h'
  split at h'
  · rename_i x
    subst x
    exact h pc e h'
  · cases h'
theorem gp_sound {Z : qZ} {P : qP} (hOK : qq_OK Z) (hg : qq_gp Z P) (hY : ∀ mj, plainName (z_y Z mj).cls = true) {mi pc : Nat} {loc : List (Option Value)} {st : List Value} {M : qM} {post : qR} (h : qq_Ev (z_lay Z) (z_mx Z) P mi pc loc st M post) : qq_X Z mi pc loc st M post :=
  qq_sound hOK (fun mi pc op h => hg mi pc _ h) (fun mi pc mj n rc h => hg mi pc _ h) (fun mi pc b h => hg mi pc _ h) hY h
