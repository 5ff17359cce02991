/-! Pure: routes one after the other. -/
/-- a way was laid -/
def RtP (S n : Nat → Nat) (net : Nat) (S' : Nat → Nat) : Prop := ∃ (I : Nat → Prop) (m : Nat) (Y : Nat → Prop) (c : Nat), isPie S n net I ∧ isMis S n net I m ∧ (c < 240 ∧ hp S m c ∧ (c = fp S m ∨ nE c (fp S m))) ∧ (∀ i, i < 352 → S' i = S i) ∧ (∀ e, Y e → e < 240 ∧ (I e ∨ fre S n e net)) ∧ (∀ e, e < 240 → Y e → pad S e = 0 → S' (352 + e) = m + 1) ∧ (∀ e, e < 240 → ¬ (Y e ∧ pad S e = 0) → S' (352 + e) = S (352 + e)) ∧
  ∀ X : Nat → Prop, (∀ e, e < 240 → I e → X e) → (∀ a b, a < 240 → b < 240 → nE a b → X b → (Y a ∨ a = c) → X a) → X c
theorem Rt_v {S n S' : Nat → Nat} {net : Nat} {v : Int32} (hS : Ok S) (h : Rt S n net v S') : (v = 0 ∧ S' = S ∧ Mis S n net 0) ∨ (v = -2 ∧ S' = S ∧ ∃ m, Mis S n net (m + 1)) ∨ (0 < v ∧ RtP S n net S') := by
  have hlo := Rt_lo h
  rcases h with ⟨h0, rfl, rfl⟩ | ⟨I, hI, ⟨h0, rfl, rfl⟩ | ⟨m, C, hm, hC, ⟨h1, rfl, rfl⟩ | ⟨h1, rfl, h2⟩⟩⟩
  · exact Or.inl ⟨rfl, rfl, Or.inl ⟨rfl, h0⟩⟩
  · exact Or.inl ⟨rfl, rfl, Or.inr ⟨I, hI, Or.inl ⟨rfl, h0⟩⟩⟩
  · exact Or.inr (Or.inl ⟨rfl, rfl, m, Or.inr ⟨I, hI, Or.inr ⟨m, rfl, hm⟩⟩⟩)
  · have hc : pd2 S C m < 240 := pd2_lt
    obtain ⟨d, hd, hn, hl⟩ := rchF_hit C (pd2 S C m) 9 h1
    have hp0 := prc_pos d
    have hpos : 0 < rch C (pd2 S C m) := by
      have : rch C (pd2 S C m) = rchF C (pd2 S C m) 9 := rfl
      omega
    have hok : wOK C (pd2 S C m) (rch C (pd2 S C m)) := Or.inr ⟨h1, d, hd, hn, hl⟩
    have hmS : m < S 0 := hm.1.1.1
    have hpl : S (32 + m) ≠ 0 := hm.1.1.2.2
    have hpm := fp_hp hS hmS hpl
    have hpc : hp S m (pd2 S C m) ∧ (pd2 S C m = fp S m ∨ nE (pd2 S C m) (fp S m)) := by
      unfold pd2
      by_cases x : S (32 + m) / 120 = 3 ∧ rch C (fp S m + 120) < rch C (fp S m)
      · rw [if_pos x]
        have ef : fp S m = S (32 + m) % 120 := by unfold fp; rw [if_neg (by omega)]
        refine ⟨⟨?_, by omega⟩, Or.inr ⟨8, by omega, ?_⟩⟩
        · rw [x.1, show (fp S m + 120) / 120 = 1 by omega]; decide
        · unfold nx
          rw [if_pos rfl, if_neg (by omega)]
          omega
      · rw [if_neg x]
        exact ⟨hpm, Or.inl rfl⟩
    refine Or.inr (Or.inr ⟨(iN_pos (by omega)).mpr hpos, ?_⟩)
    obtain ⟨p, hp1, hp2⟩ := id hI
    obtain ⟨Y, y1, y2, y3, y4⟩ := wayF_prop hC m (N := 240) rfl 240 (pd2 S C m) (rch C (pd2 S C m)) S hS.1 hc hok (cnt_le _ _) ⟨fp S p, fp_lt p, hp2.1⟩ (fun z => by omega)
    rw [← h2] at y2 y3
    refine ⟨I, m, Y, pd2 S C m, hI, hm, ⟨hc, hpc⟩, hlo, y1, fun e he hY hp => y2 _ ⟨e, rfl, hY, hp⟩, fun e he hn => y3 _ (fun x => ?_), y4⟩
    obtain ⟨e2, x1, x2, x3⟩ := x
    have : e2 = e := by omega
    subst this
    exact hn ⟨x2, x3⟩
theorem own_z {S n : Nat → Nat} {c : Nat} (h : ow S n c = 0) : pad S c = 0 := by
  have h1 := ow_z.mp h
  apply Classical.byContradiction
  intro x
  unfold own at h1
  rw [if_neg x] at h1
  exact x h1
/-- who owns a cell when a way was laid -/
theorem ow_way {S n S' : Nat → Nat} {net m : Nat} {I Y : Nat → Prop} (hS : Ok S) (hI : ∀ c, c < 240 → I c → ow S n c = net + 1) (hm : n m = net) (lo : ∀ i, i < 352 → S' i = S i) (y1 : ∀ e, Y e → e < 240 ∧ (I e ∨ fre S n e net)) (y2 : ∀ e, e < 240 → Y e → pad S e = 0 → S' (352 + e) = m + 1) (y3 : ∀ e, e < 240 → ¬ (Y e ∧ pad S e = 0) → S' (352 + e) = S (352 + e)) {e : Nat} (he : e < 240) :
    (Y e → ow S' n e = net + 1 ∧ (ow S n e = 0 ∨ ow S n e = net + 1)) ∧ (¬ Y e → ow S' n e = ow S n e) := by
  have h0 := hS.1
  have hpad : pad S' e = pad S e := pad_congr e (lo 0 (by omega)) (fun p hp => lo _ (by omega))
  have same : ¬ (Y e ∧ pad S e = 0) → ow S' n e = ow S n e := fun x => by
    have : own S' e = own S e := by unfold own; rw [hpad, y3 e he x]
    unfold ow
    rw [this]
  refine ⟨fun hY => ?_, fun hY => same (fun x => hY x.1)⟩
  have hor : ow S n e = 0 ∨ ow S n e = net + 1 := by
    rcases (y1 e hY).2 with x | x
    · exact Or.inr (hI e he x)
    · exact fre_self hS he x
  refine ⟨?_, hor⟩
  by_cases hp : pad S e = 0
  · have ho : own S' e = m + 1 := by
      unfold own
      rw [hpad, if_pos hp, y2 e he hY hp]
    unfold ow
    rw [ho, if_neg (by omega), Nat.add_sub_cancel, hm]
  · rw [same (fun x => hp x.2)]
    exact hor.resolve_left (fun x => hp (own_z x))
theorem inN_lo {S S' n : Nat → Nat} {net p : Nat} (h0 : S 0 ≤ 16) (lo : ∀ i, i < 352 → S' i = S i) : inN S' n net p ↔ inN S n net p := by
  unfold inN
  rw [lo 0 (by omega)]
  constructor
  · rintro ⟨h1, h2, h3⟩
    exact ⟨h1, h2, by rw [← lo (32 + p) (by omega)]; exact h3⟩
  · rintro ⟨h1, h2, h3⟩
    exact ⟨h1, h2, by rw [lo (32 + p) (by omega)]; exact h3⟩
theorem fp_lo {S S' : Nat → Nat} {p : Nat} (hp : p < 16) (lo : ∀ i, i < 352 → S' i = S i) : fp S' p = fp S p := by
  unfold fp
  rw [lo (32 + p) (by omega)]
theorem isPc_up {Q Q' I J : Nat → Prop} {s : Nat} (hQ : ∀ c, c < 240 → Q c → Q' c) (h : isPc Q s I) (g : isPc Q' s J) {c : Nat} (hc : c < 240) (hI : I c) : J c := by
  have h1 := h.2.2.2 (fun q => @ite _ (J q) (Classical.propDecidable _) 1 0) (by
    intro a b ha hb qa qb hab
    dsimp only
    by_cases ja : J a
    · rw [if_pos ja, if_pos (g.2.2.1 a b ha hb ja (hQ b hb qb) hab)]
    · rw [if_neg ja, if_neg (fun jb => ja (g.2.2.1 b a hb ha jb (hQ a ha qa) (nE_sym ha hab)))]) c hc hI
  try dsimp only at h1
  rw [if_pos g.1] at h1
  apply Classical.byContradiction
  intro n
  rw [if_neg n] at h1
  cases h1
/-- no pin below t is missing -/
def Lb (S n : Nat → Nat) (net t : Nat) : Prop := ∀ I m, isPie S n net I → isMis S n net I m → t ≤ m
theorem Lb_step {S n S' : Nat → Nat} {net t : Nat} (hS : Ok S) (h : Lb S n net t) (hR : RtP S n net S') : Lb S' n net (t + 1) := by
  obtain ⟨I, m, Y, c, hI, hm, ⟨hc, hpc, hcm⟩, lo, y1, y2, y3, y4⟩ := hR
  have h0 := hS.1
  have htm := h I m hI hm
  obtain ⟨p, hp1, hp2⟩ := hI
  have hmn : n m = net := hm.1.1.2.1
  have how := fun {e : Nat} (he : e < 240) => ow_way (e := e) hS (fun c hc x => hp2.2.1 c hc x) hmn lo y1 y2 y3 he
  have hup : ∀ e, e < 240 → ow S n e = net + 1 → ow S' n e = net + 1 := fun e he x => by
    by_cases hY : Y e
    · exact ((how he).1 hY).1
    · rw [(how he).2 hY]; exact x
  intro J k hJ hk
  obtain ⟨p', hp1', hp2'⟩ := hJ
  have hpp : p' = p := by
    refine isFst_uniq (S := S) (n := n) (net := net) ⟨(inN_lo h0 lo).mp hp1'.1, fun q hq x => hp1'.2 q hq ((inN_lo h0 lo).mpr x)⟩ hp1
  subst hpp
  have hps := hp1.1.1
  rw [fp_lo (by omega) lo] at hp2'
  have hIJ : ∀ e, e < 240 → I e → J e := fun e he x => isPc_up (fun c hc y => hup c hc y) hp2 hp2' he x
  have hocell : ow S n c = net + 1 := by rw [ow_pad hS hc hm.1.1.1 hpc, hmn]
  have hJc : J c := y4 J hIJ (fun a b ha hb hab hJb hor => hp2'.2.2.1 b a hb ha hJb (by
    rcases hor with x | x
    · exact ((how ha).1 x).1
    · rw [x]; exact hup c hc hocell) (nE_sym ha hab))
  have hJm : J (fp S m) := by
    rcases hcm with x | x
    · rw [← x]; exact hJc
    · exact hp2'.2.2.1 c (fp S m) hc (fp_lt m) hJc (hup _ (fp_lt m) (fp_ow hS hm.1.1)) x
  have hmS := hm.1.1.1
  have hk1 := (inN_lo h0 lo).mp hk.1.1
  have hkS := hk1.1
  have hkJ := hk.1.2
  rw [fp_lo (by omega) lo] at hkJ
  apply Classical.byContradiction
  intro hlt
  by_cases e : k = m
  · subst e; exact hkJ hJm
  · refine hm.2 k (by omega) ⟨hk1, fun x => hkJ (hIJ _ (fp_lt k) x)⟩
theorem Lb_0 (S n : Nat → Nat) (net : Nat) : Lb S n net 0 := fun _ _ _ _ => Nat.zero_le _
theorem Lb_16 {S n S' : Nat → Nat} {net : Nat} (hS : Ok S) (h : Lb S n net 16) : ¬ RtP S n net S' := by
  rintro ⟨I, m, Y, c, hI, hm, -⟩
  have := h I m hI hm
  have := hm.1.1.1
  have := hS.1
  omega
theorem isPc_cg {Q Q' I : Nat → Prop} {s : Nat} (hQ : ∀ c, c < 240 → (Q c ↔ Q' c)) (h : isPc Q s I) : isPc Q' s I :=
  ⟨h.1, fun c hc x => (hQ c hc).mp (h.2.1 c hc x), fun c e hc he x y z => h.2.2.1 c e hc he x ((hQ e he).mpr y) z, fun f hf c hc x => h.2.2.2 f (fun a b ha hb qa qb hab => hf a b ha hb ((hQ a ha).mp qa) ((hQ b hb).mp qb) hab) c hc x⟩
theorem Mis_cg {S S' n : Nat → Nat} {net k : Nat} (h0 : S 0 ≤ 16) (lo : ∀ i, i < 352 → S' i = S i) (hQ : ∀ c, c < 240 → (ow S n c = net + 1 ↔ ow S' n c = net + 1)) (h : Mis S n net k) : Mis S' n net k := by
  have hin : ∀ p, inN S' n net p ↔ inN S n net p := fun p => inN_lo h0 lo
  have hf : ∀ p, inN S n net p → fp S' p = fp S p := fun p hp => fp_lo (by have := hp.1; omega) lo
  rcases h with ⟨rfl, h1⟩ | ⟨I, ⟨p, hp1, hp2⟩, h1⟩
  · exact Or.inl ⟨rfl, fun p x => h1 p ((hin p).mp x)⟩
  · refine Or.inr ⟨I, ⟨p, ⟨(hin p).mpr hp1.1, fun q hq x => hp1.2 q hq ((hin q).mp x)⟩, by rw [hf p hp1.1]; exact isPc_cg hQ hp2⟩, ?_⟩
    rcases h1 with ⟨rfl, h1⟩ | ⟨m, rfl, h1, h2⟩
    · refine Or.inl ⟨rfl, fun q x => h1 q ⟨(hin q).mp x.1, ?_⟩⟩
      rw [← hf q ((hin q).mp x.1)]
      exact x.2
    · refine Or.inr ⟨m, rfl, ⟨(hin m).mpr h1.1, by rw [hf m h1.1]; exact h1.2⟩, fun q hq x => h2 q hq ⟨(hin q).mp x.1, ?_⟩⟩
      rw [← hf q ((hin q).mp x.1)]
      exact x.2
theorem mk_cg {S S' n : Nat → Nat} {net : Nat} (h0 : S 0 ≤ 16) (lo : ∀ i, i < 352 → S' i = S i) (hQ : ∀ c, c < 240 → (ow S n c = net + 1 ↔ ow S' n c = net + 1)) : mk S' n net = mk S n net := by
  have e : Mis S' n net = Mis S n net := funext fun k => propext ⟨fun h => Mis_cg (by rw [lo 0 (by omega)]; exact h0) (fun i hi => (lo i hi).symm) (fun c hc => (hQ c hc).symm) h, fun h => Mis_cg h0 lo hQ h⟩
  unfold mk
  rw [e]
/-- another net stays as it is -/
theorem mk_other {S n S' : Nat → Nat} {net o : Nat} {v : Int32} (hS : Ok S) (hne : o ≠ net) (h : Rt S n net v S') : mk S' n o = mk S n o := by
  rcases Rt_v hS h with ⟨-, rfl, -⟩ | ⟨-, rfl, -⟩ | ⟨-, I, m, Y, c, hI, hm, ⟨hc, hpc, hcm⟩, lo, y1, y2, y3, y4⟩
  · rfl
  · rfl
  · obtain ⟨p, hp1, hp2⟩ := hI
    refine mk_cg hS.1 lo (fun e he => ?_)
    have how := ow_way (e := e) hS (fun c hc x => hp2.2.1 c hc x) hm.1.1.2.1 lo y1 y2 y3 he
    by_cases hY : Y e
    · have h1 := how.1 hY
      constructor
      · intro x
        rcases h1.2 with y | y <;> omega
      · intro x
        have := h1.1
        omega
    · rw [how.2 hY]
/-- so many ways laid -/
def Ps (S n : Nat → Nat) (net : Nat) : Nat → (Nat → Nat) → Prop
  | 0, S' => S' = S
  | t + 1, S' => ∃ v S1, Ps S n net t S1 ∧ Rt S1 n net v S' ∧ 0 < v
theorem Ps_uniq {S n : Nat → Nat} {net : Nat} : ∀ t {S1 S2}, Ps S n net t S1 → Ps S n net t S2 → S1 = S2
  | 0, _, _, h, g => by rw [h, g]
  | t + 1, _, _, ⟨v, S1, h1, h2, _⟩, ⟨v', S1', g1, g2, _⟩ => by
    have := Ps_uniq t h1 g1
    subst this
    exact (Rt_uniq h2 g2).2
theorem Ps_pre {S n : Nat → Nat} {net t : Nat} : ∀ d {S'}, Ps S n net (t + d + 1) S' → ∃ S1 v S2, Ps S n net t S1 ∧ Rt S1 n net v S2 ∧ 0 < v
  | 0, S', ⟨v, S1, h1, h2, h3⟩ => ⟨S1, v, S', h1, h2, h3⟩
  | d + 1, _, ⟨_, S1, h1, _, _⟩ => Ps_pre d (S' := S1) h1
def Rs (S n : Nat → Nat) (net : Nat) (v : Int32) (S' : Nat → Nat) : Prop := ∃ t S1, Ps S n net t S1 ∧ Rt S1 n net v S' ∧ ¬ 0 < v
theorem Rs_uniq {S n S1 S2 : Nat → Nat} {net : Nat} {v u : Int32} (h : Rs S n net v S1) (g : Rs S n net u S2) : v = u ∧ S1 = S2 := by
  obtain ⟨t, Sa, h1, h2, h3⟩ := h
  obtain ⟨t', Sb, g1, g2, g3⟩ := g
  have key : ∀ (t t' : Nat) (Sa Sb S1 : Nat → Nat) (v : Int32), Ps S n net t Sa → Rt Sa n net v S1 → ¬ 0 < v → Ps S n net t' Sb → ¬ t < t' := by
    intro t t' Sa Sb S1 v h1 h2 h3 g1 hlt
    obtain ⟨d, rfl⟩ : ∃ d, t' = t + d + 1 := ⟨t' - t - 1, by omega⟩
    obtain ⟨Sc, u, Sd, k1, k2, k3⟩ := Ps_pre d g1
    have := Ps_uniq t h1 k1
    subst this
    have := (Rt_uniq h2 k2).1
    subst this
    exact h3 k3
  have a := key t t' Sa Sb S1 v h1 h2 h3 g1
  have b := key t' t Sb Sa S2 u g1 g2 g3 h1
  have : t = t' := by omega
  subst this
  have := Ps_uniq t h1 g1
  subst this
  exact Rt_uniq h2 g2
