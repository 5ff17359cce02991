/-! The reference: a net is connected. -/
theorem Ok_wayF {I F : Nat → Prop} {C : Nat → Nat} (hK : isCost I F C) (m : Nat) : ∀ f c left S, Ok S → m < S 0 → c < 240 → wOK C c left → (∀ c, c < 240 → I c ∨ F c → S (112 + c) = 0) → Ok (wayF C m f c left S) ∧ ∀ i, i < 352 → wayF C m f c left S i = S i
  | 0, c, left, S, hS, hm, hc, hok, hb => ⟨hS, fun _ _ => rfl⟩
  | f + 1, c, left, S, hS, hm, hc, hok, hb => by
    rw [wayF_s]
    by_cases z : left = 0
    · rw [if_pos z]; exact ⟨hS, fun _ _ => rfl⟩
    · rw [if_neg z]
      obtain ⟨t1, t2, t3, t4, t5, t6⟩ := wOK_step hK hc hok z
      have ih := Ok_wayF hK m f _ _ (lay1 S m (wst C c left 9)) (Ok_lay1 hS hm t1 (hb _ t1 t5)) (by rw [lay1_0]; exact hm) t1 t6 (fun c hc x => by rw [lay1_lo (by omega)]; exact hb c hc x)
      exact ⟨ih.1, fun i hi => by rw [ih.2 i hi, lay1_lo hi]⟩
theorem isNet_congr {k : Nat} {S S' n : Nat → Nat} (hk : k ≤ 24) (e : ∀ i, i < 352 → S' i = S i) (h : isNet k S n) : isNet k S' n := by
  have hj : ∀ f, jC k S' f ↔ jC k S f := by
    intro f
    constructor
    · intro x j hj
      have := x j hj
      rw [e _ (by omega), e _ (by omega)] at this
      exact this
    · intro x j hj
      rw [e _ (by omega), e _ (by omega)]
      exact x j hj
  exact ⟨(hj n).mpr h.1, h.2.1, fun f hf => h.2.2 f ((hj f).mp hf)⟩
section RROUTE
variable {w : qS} {S n : Nat → Nat} {M : qM}
def RRt (S n : Nat → Nat) (net : Nat) (M : qM) : qR := fun r M' => ∃ v S', r = some (.int v) ∧ Rt S n net v S' ∧ RD S' n M' ∧ isNet (S' 1) S' n ∧ fr [149, 152, 153, 154, 155, 156, 157] M M'
theorem ct_113 (h : RD S n M) (hn : isNet (S 1) S n) {net : Nat} (hnet : net < 16) : gE w 113 0 [some (.ref 148), some (.int (iN net)), none, none, none, none, none] [] M (RRt S n net M) := by
  have h0 := h.1.1
  have hj0 := h.1.2.1
  refine wk_113_0 ((ct_108 h hnet).mono ?_)
  rintro r M1 ⟨k, hk, rfl, a1, a2⟩
  have h1 : RD S n M1 := RD_fr h (fun q hq => a1 q (by rcases hq with rfl | rfl | rfl | rfl <;> decide))
  show gE w 113 5 _ [.int (pm k)] M1 _
  rcases a2 with ⟨rfl, a2⟩ | ⟨m, p0, I, L, rfl, a2, a3, a4, a5, a6⟩
  · refine wk_113_5 (r1 := 0) (r2 := 0) (fun c1 => absurd (by decide) c1) (fun c1 => absurd (by decide) c1) (fun c1 => absurd (by decide) c1) (fun c1 => absurd (by decide) c1) (fun _ => ⟨0, S, rfl, ?_, h1, hn, fr_sub a1 (by decide)⟩)
    rcases a2 with ⟨-, x⟩ | ⟨I, x1, ⟨-, x2⟩ | ⟨m, x2, -⟩⟩
    · exact Or.inl ⟨x, rfl, rfl⟩
    · exact Or.inr ⟨I, x1, Or.inl ⟨x2, rfl, rfl⟩⟩
    · omega
  · rw [pm_s]
    have hmS : m < S 0 := a4.1.1.1
    have hpl : S (32 + m) ≠ 0 := a4.1.1.2.2
    have hnn : ¬ iN m < 0 := iN_nn (by omega)
    have hp0 : p0 < S 0 := a2.1.1
    have hl0 := fp_lt (S := S) p0
    have hQ0 := fp_ow h.1 a2.1
    have hLl := (a5.2.1 _ hl0 hQ0).1
    have e155 : M1 155 (iN (fp S p0)).toNatClampNeg = iN (L (fp S p0)) := by rw [iN_ix (by omega)]; exact (a6 _ hl0).1 hQ0
    refine wk_113_5 (r1 := pm (p0 + 1)) (r2 := iN (fp S p0)) (fun _ => ct_107 h1 hnet (Or.inr ⟨p0, rfl, a2⟩)) (fun _ => by rw [pm_s]; exact ct_106 h1 (by omega)) (fun _ => iN_in hl0 (by omega)) (fun _ => ?_) (fun c1 => absurd c1 hnn)
    rw [e155]
    have hpI : ∀ c, c < 240 → (M1 155 c = iN (L (fp S p0)) ↔ I c) := by
      intro c hc
      by_cases q : ow S n c = net + 1
      · have hlc := (a5.2.1 c hc q).1
        rw [(a6 c hc).1 q, iN_eq (by omega) (by omega)]
        exact isLab_pc a5 a3 hl0 hc q
      · rw [(a6 c hc).2 q]
        exact ⟨fun x => absurd (by rw [← x]; decide) (iN_nn (a := L (fp S p0)) (by omega)), fun x => absurd (a3.2.1 c hc x) q⟩
    refine (ct_111 h1 hnet hpI).mono ?_
    rintro r M2 ⟨rfl, b1, C, hK, b2⟩
    have h2 : RD S n M2 := RD_fr h1 (fun q hq => b1 q (by rcases hq with rfl | rfl | rfl | rfl <;> decide))
    have hCl := hK.2.2.1
    refine wk_113_31 ?_
    have hlm := fp_lt (S := S) m
    have h4 := (h.1.2.2.2.2.1 m (by omega)).resolve_left hpl
    -- the pads of the missing pin
    have hlay3 : S (32 + m) / 120 = 3 → fp S m < 120 := fun c3 => by unfold fp; rw [if_neg (by omega)]; omega
    have hpadm : ∀ c, c < 240 → (pad S c = m + 1 ↔ c = fp S m ∨ (S (32 + m) / 120 = 3 ∧ c = fp S m + 120)) := by
      intro c hc
      rw [pad_iff h.1 hc]
      have hb := bt3_tab ⟨S (32 + m) / 120, by omega⟩ (by dsimp only; omega)
      have hf := fp_hp h.1 hmS hpl
      dsimp only at hb
      constructor
      · rintro ⟨-, x1, x2⟩
        by_cases c2 : S (32 + m) / 120 = 2
        · have ef : fp S m = 120 + S (32 + m) % 120 := by unfold fp; rw [if_pos c2]
          have : c / 120 = 1 := by
            have : c / 120 = 0 ∨ c / 120 = 1 := by omega
            rcases this with y | y
            · rw [y] at x1; exact absurd x1 (hb.2 c2)
            · exact y
          omega
        · have ef : fp S m = S (32 + m) % 120 := by unfold fp; rw [if_neg c2]
          have : c / 120 = 0 ∨ c / 120 = 1 := by omega
          rcases this with y | y
          · omega
          · rw [y] at x1
            exact Or.inr ⟨(hb.1 c2).mp x1, by omega⟩
      · rintro (rfl | ⟨c3, rfl⟩)
        · exact ⟨hmS, hf⟩
        · have := hlay3 c3
          refine ⟨hmS, ?_, ?_⟩
          · rw [c3, show (fp S m + 120) / 120 = 1 by omega]; decide
          · have ef : fp S m = S (32 + m) % 120 := by unfold fp; rw [if_neg (by omega)]
            omega
    have hr1 := (rchF_le C (fp S m) 9).1
    have hr2 := (rchF_le C (fp S m + 120) 9).1
    have er1 : rch C (fp S m) = rchF C (fp S m) 9 := rfl
    have er2 : rch C (fp S m + 120) = rchF C (fp S m + 120) 9 := rfl
    -- start (one more) and best after the cells below c
    let st : Nat → Nat := fun c => if c ≤ fp S m then 0 else if S (32 + m) / 120 = 3 ∧ fp S m + 120 < c ∧ rch C (fp S m + 120) < rch C (fp S m) then fp S m + 121 else if rch C (fp S m) < 1000000 then fp S m + 1 else 0
    let bs : Nat → Nat := fun c => if c ≤ fp S m then 1000000 else if S (32 + m) / 120 = 3 ∧ fp S m + 120 < c ∧ rch C (fp S m + 120) < rch C (fp S m) then rch C (fp S m + 120) else rch C (fp S m)
    have hbs : ∀ c, bs c ≤ 1000000 := by
      intro c
      show (if c ≤ fp S m then 1000000 else if S (32 + m) / 120 = 3 ∧ fp S m + 120 < c ∧ rch C (fp S m + 120) < rch C (fp S m) then rch C (fp S m + 120) else rch C (fp S m)) ≤ 1000000
      split
      · omega
      · split <;> omega
    refine ev_for 240 (Inv := fun c loc M' => M' = M2 ∧ ∃ o1 o6, loc = [some (.ref 148), o1, some (.int (iN m)), some (.int (pm (st c))), some (.int (iN (bs c))), some (.int (iN c)), o6]) ?_ ?_ 0 _ _ (Nat.zero_le _) ⟨rfl, some (.int (iN net)), none, ?_⟩
    · rintro c loc M' hc ⟨eM, o1, o6, rfl⟩ rec
      subst eM
      have hbc := hbs c
      have hrc := (rchF_le C c 9).1
      have erc : rch C c = rchF C c 9 := rfl
      have hpl16 := (pad_le h.1 c).2
      have e153 : M' 153 (iN c).toNatClampNeg = pm (pad S c) := by rw [iN_ix (by omega)]; exact h2.2.2.2.2.1 c hc
      have hgo : ∀ (x x' : Int32) (o6 : Option Value), x = pm (st (c + 1)) → x' = iN (bs (c + 1)) → gE w 113 40 [some (.ref 148), o1, some (.int (iN m)), some (.int x), some (.int x'), some (.int (iN (c + 1))), o6] [] M' (RRt S n net M) := by
        intro x x' o6 e1 e2
        subst x x'
        exact rec _ _ ⟨rfl, _, _, rfl⟩
      refine wk_113_40 (r1 := iN (rch C c)) (fun c1 => absurd ((iN_lt (by omega) (by omega)).mpr hc) c1) (fun c1 => absurd ((iN_lt (by omega) (by omega)).mpr hc) c1) (fun _ => iN_in hc (by omega)) (fun _ => ?_) (fun _ _ => ct_110 b2 hCl hc)
      rw [iN_succ, e153]
      have key : (pad S c = m + 1 ∧ rch C c < bs c → st (c + 1) = c + 1 ∧ bs (c + 1) = rch C c) ∧ (¬ (pad S c = m + 1 ∧ rch C c < bs c) → st (c + 1) = st c ∧ bs (c + 1) = bs c) := by
        have hq := hpadm c hc
        show (pad S c = m + 1 ∧ rch C c < (if c ≤ fp S m then 1000000 else if S (32 + m) / 120 = 3 ∧ fp S m + 120 < c ∧ rch C (fp S m + 120) < rch C (fp S m) then rch C (fp S m + 120) else rch C (fp S m)) → (if c + 1 ≤ fp S m then 0 else if S (32 + m) / 120 = 3 ∧ fp S m + 120 < c + 1 ∧ rch C (fp S m + 120) < rch C (fp S m) then fp S m + 121 else if rch C (fp S m) < 1000000 then fp S m + 1 else 0) = c + 1 ∧ (if c + 1 ≤ fp S m then 1000000 else if S (32 + m) / 120 = 3 ∧ fp S m + 120 < c + 1 ∧ rch C (fp S m + 120) < rch C (fp S m) then rch C (fp S m + 120) else rch C (fp S m)) = rch C c) ∧ (¬ (pad S c = m + 1 ∧ rch C c < (if c ≤ fp S m then 1000000 else if S (32 + m) / 120 = 3 ∧ fp S m + 120 < c ∧ rch C (fp S m + 120) < rch C (fp S m) then rch C (fp S m + 120) else rch C (fp S m))) → (if c + 1 ≤ fp S m then 0 else if S (32 + m) / 120 = 3 ∧ fp S m + 120 < c + 1 ∧ rch C (fp S m + 120) < rch C (fp S m) then fp S m + 121 else if rch C (fp S m) < 1000000 then fp S m + 1 else 0) = (if c ≤ fp S m then 0 else if S (32 + m) / 120 = 3 ∧ fp S m + 120 < c ∧ rch C (fp S m + 120) < rch C (fp S m) then fp S m + 121 else if rch C (fp S m) < 1000000 then fp S m + 1 else 0) ∧ (if c + 1 ≤ fp S m then 1000000 else if S (32 + m) / 120 = 3 ∧ fp S m + 120 < c + 1 ∧ rch C (fp S m + 120) < rch C (fp S m) then rch C (fp S m + 120) else rch C (fp S m)) = (if c ≤ fp S m then 1000000 else if S (32 + m) / 120 = 3 ∧ fp S m + 120 < c ∧ rch C (fp S m + 120) < rch C (fp S m) then rch C (fp S m + 120) else rch C (fp S m)))
        rw [hq]
        by_cases e1 : c = fp S m
        · rw [if_pos (show c ≤ fp S m by omega), if_neg (show ¬ c + 1 ≤ fp S m by omega), if_neg (show ¬ c + 1 ≤ fp S m by omega), if_neg (show ¬ (S (32 + m) / 120 = 3 ∧ fp S m + 120 < c + 1 ∧ rch C (fp S m + 120) < rch C (fp S m)) by omega), if_neg (show ¬ (S (32 + m) / 120 = 3 ∧ fp S m + 120 < c + 1 ∧ rch C (fp S m + 120) < rch C (fp S m)) by omega), if_pos (show c ≤ fp S m by omega), e1]
          refine ⟨fun x => ?_, fun x => ?_⟩
          · rw [if_pos x.2]; exact ⟨rfl, rfl⟩
          · have hge : ¬ rch C (fp S m) < 1000000 := fun y => x ⟨Or.inl rfl, y⟩
            rw [if_neg hge]
            exact ⟨rfl, by omega⟩
        · by_cases e2 : S (32 + m) / 120 = 3 ∧ c = fp S m + 120
          · rw [if_neg (show ¬ c ≤ fp S m by omega), if_neg (show ¬ c + 1 ≤ fp S m by omega), if_neg (show ¬ c + 1 ≤ fp S m by omega), if_neg (show ¬ c ≤ fp S m by omega), if_neg (show ¬ (S (32 + m) / 120 = 3 ∧ fp S m + 120 < c ∧ rch C (fp S m + 120) < rch C (fp S m)) by omega), if_neg (show ¬ (S (32 + m) / 120 = 3 ∧ fp S m + 120 < c ∧ rch C (fp S m + 120) < rch C (fp S m)) by omega)]
            refine ⟨fun x => ?_, fun x => ?_⟩
            · have x2 := x.2
              rw [e2.2] at x2
              rw [if_pos (show S (32 + m) / 120 = 3 ∧ fp S m + 120 < c + 1 ∧ rch C (fp S m + 120) < rch C (fp S m) from ⟨e2.1, by omega, x2⟩), if_pos (show S (32 + m) / 120 = 3 ∧ fp S m + 120 < c + 1 ∧ rch C (fp S m + 120) < rch C (fp S m) from ⟨e2.1, by omega, x2⟩), e2.2]
              exact ⟨rfl, rfl⟩
            · have hge : ¬ rch C (fp S m + 120) < rch C (fp S m) := fun y => x ⟨Or.inr e2, by rw [e2.2]; exact y⟩
              rw [if_neg (show ¬ (S (32 + m) / 120 = 3 ∧ fp S m + 120 < c + 1 ∧ rch C (fp S m + 120) < rch C (fp S m)) from fun y => hge y.2.2), if_neg (show ¬ (S (32 + m) / 120 = 3 ∧ fp S m + 120 < c + 1 ∧ rch C (fp S m + 120) < rch C (fp S m)) from fun y => hge y.2.2)]
              exact ⟨rfl, rfl⟩
          · refine ⟨fun x => absurd x.1 (fun y => y.elim e1 e2), fun _ => ?_⟩
            by_cases e3 : c ≤ fp S m
            · rw [if_pos (show c + 1 ≤ fp S m by omega), if_pos e3, if_pos (show c + 1 ≤ fp S m by omega), if_pos e3]; exact ⟨rfl, rfl⟩
            · have hiff : (S (32 + m) / 120 = 3 ∧ fp S m + 120 < c + 1 ∧ rch C (fp S m + 120) < rch C (fp S m)) ↔ (S (32 + m) / 120 = 3 ∧ fp S m + 120 < c ∧ rch C (fp S m + 120) < rch C (fp S m)) := by omega
              simp only [hiff]
              rw [if_neg (show ¬ c + 1 ≤ fp S m by omega), if_neg e3, if_neg (show ¬ c + 1 ≤ fp S m by omega), if_neg e3]; exact ⟨rfl, rfl⟩
      by_cases p : pad S c = m + 1
      · have ep : pm (pad S c) = iN m := by rw [p]; rfl
        simp only [if_pos ep]
        by_cases q : rch C c < bs c
        · obtain ⟨k1, k2⟩ := key.1 ⟨p, q⟩
          refine hgo _ _ _ ?_ ?_
          · rw [if_pos ((iN_lt (by omega) (by omega)).mpr q), k1]; rfl
          · rw [if_pos ((iN_lt (by omega) (by omega)).mpr q), k2]
        · obtain ⟨k1, k2⟩ := key.2 (fun x => q x.2)
          refine hgo _ _ _ ?_ ?_
          · rw [if_neg (fun x => q ((iN_lt (by omega) (by omega)).mp x)), k1]
          · rw [if_neg (fun x => q ((iN_lt (by omega) (by omega)).mp x)), k2]
      · have ep : ¬ pm (pad S c) = iN m := fun x => p ((pm_iN (by omega) (by omega)).mp x)
        simp only [if_neg ep]
        obtain ⟨k1, k2⟩ := key.2 (fun x => p x.1)
        have hge : ¬ iN 1000000 < iN (bs c) := fun x => by have := (iN_lt (by omega) (by omega)).mp x; omega
        refine hgo _ _ _ ?_ ?_
        · rw [if_neg hge, k1]
        · rw [if_neg hge, k2]
    · rintro loc M' ⟨eM, o1, o6, rfl⟩
      subst eM
      have hlp := pd2_lt (S := S) (C := C) (m := m)
      have hfin : bs 240 = rch C (pd2 S C m) ∧ (rch C (pd2 S C m) < 1000000 → st 240 = pd2 S C m + 1) ∧ (¬ rch C (pd2 S C m) < 1000000 → st 240 = 0) := by
        show (if 240 ≤ fp S m then 1000000 else if S (32 + m) / 120 = 3 ∧ fp S m + 120 < 240 ∧ rch C (fp S m + 120) < rch C (fp S m) then rch C (fp S m + 120) else rch C (fp S m)) = rch C (pd2 S C m) ∧ (rch C (pd2 S C m) < 1000000 → (if 240 ≤ fp S m then 0 else if S (32 + m) / 120 = 3 ∧ fp S m + 120 < 240 ∧ rch C (fp S m + 120) < rch C (fp S m) then fp S m + 121 else if rch C (fp S m) < 1000000 then fp S m + 1 else 0) = pd2 S C m + 1) ∧ (¬ rch C (pd2 S C m) < 1000000 → (if 240 ≤ fp S m then 0 else if S (32 + m) / 120 = 3 ∧ fp S m + 120 < 240 ∧ rch C (fp S m + 120) < rch C (fp S m) then fp S m + 121 else if rch C (fp S m) < 1000000 then fp S m + 1 else 0) = 0)
        rw [if_neg (show ¬ 240 ≤ fp S m by omega), if_neg (show ¬ 240 ≤ fp S m by omega)]
        unfold pd2
        by_cases c3 : S (32 + m) / 120 = 3 ∧ rch C (fp S m + 120) < rch C (fp S m)
        · have hx : S (32 + m) / 120 = 3 ∧ fp S m + 120 < 240 ∧ rch C (fp S m + 120) < rch C (fp S m) := ⟨c3.1, by have := hlay3 c3.1; omega, c3.2⟩
          rw [if_pos hx, if_pos hx, if_pos c3]
          exact ⟨rfl, fun _ => rfl, fun x => by omega⟩
        · have hx : ¬ (S (32 + m) / 120 = 3 ∧ fp S m + 120 < 240 ∧ rch C (fp S m + 120) < rch C (fp S m)) := fun x => c3 ⟨x.1, x.2.2⟩
          rw [if_neg hx, if_neg hx, if_neg c3]
          exact ⟨rfl, fun x => by rw [if_pos x], fun x => by rw [if_neg x]⟩
      have hpadp : pad S (pd2 S C m) = m + 1 := by
        refine (hpadm _ hlp).mpr ?_
        unfold pd2
        split
        · rename_i x; exact Or.inr ⟨x.1, rfl⟩
        · exact Or.inl rfl
      have hno : ∀ {α : Prop}, iN 240 < iN 240 → α := fun c1 => absurd ((iN_lt (by omega) (by omega)).mp c1) (by omega)
      rw [hfin.1]
      have hrp := (rchF_le C (pd2 S C m) 9).1
      have erp : rch C (pd2 S C m) = rchF C (pd2 S C m) 9 := rfl
      refine wk_113_40 (r1 := 0) (fun _ c2 => ?_) (fun _ c2 => ?_) (fun c1 => hno c1) (fun c1 => hno c1) (fun c1 => hno c1)
      · have hlt : rch C (pd2 S C m) < 1000000 := Classical.byContradiction fun x => c2 (by rw [hfin.2.2 x]; decide)
        rw [hfin.2.1 hlt, pm_s]
        obtain ⟨d, hd, q1, q2⟩ := rchF_hit C (pd2 S C m) 9 hlt
        have hpp := prc_pos d
        have hok : wOK C (pd2 S C m) (rch C (pd2 S C m)) := Or.inr ⟨hlt, d, hd, q1, q2⟩
        have hbar : ∀ c, c < 240 → I c ∨ fre S n c net → S (112 + c) = 0 := by
          intro c hc hx
          rcases hx with hx | hx
          · have hQ : ow S n c = net + 1 := a3.2.1 c hc hx
            apply Classical.byContradiction
            intro hb
            have := h.1.2.2.2.2.2.2.2.2.2 c hc hb
            rw [ow_z.mpr this] at hQ
            omega
          · exact hx.1
        refine (ct_112 (I := I) (F := fun c => fre S n c net) h.1 h2.2.2.1 h2.2.2.2.2.1 b2 hK ⟨fp S p0, hl0, a3.1⟩ hlp (by omega) hok (by omega) hlt hmS hbar).mono ?_
        rintro r M3 ⟨rfl, d1, d2⟩
        obtain ⟨g1, g2⟩ := Ok_wayF hK m 240 _ _ S h.1 hmS hlp hok hbar
        refine wk_113_123 ?_
        have hn' : isNet (wayF C m 240 (pd2 S C m) (rch C (pd2 S C m)) S 1) (wayF C m 240 (pd2 S C m) (rch C (pd2 S C m)) S) n := by
          rw [g2 1 (by omega)]
          exact isNet_congr hj0 g2 hn
        refine (ct_80 g1 hn' d2).mono ?_
        rintro r M4 ⟨rfl, e1, e2⟩
        refine wk_113_127 ⟨_, _, rfl, Or.inr ⟨I, ⟨p0, a2, a3⟩, Or.inr ⟨m, C, a4, hK, Or.inr ⟨hlt, rfl, rfl⟩⟩⟩, ⟨g1, h.2.1, e2⟩, hn', fr_tr (fr_sub a1 (by decide)) (fr_tr (fr_sub b1 (by decide)) (fr_tr (fr_sub d1 (by decide)) (fr_sub e1 (by decide))))⟩
      · have hge : ¬ rch C (pd2 S C m) < 1000000 := fun x => by rw [hfin.2.1 x, pm_s] at c2; exact iN_nn (a := pd2 S C m) (by omega) c2
        exact ⟨-2, S, rfl, Or.inr ⟨I, ⟨p0, a2, a3⟩, Or.inr ⟨m, C, a4, hK, Or.inl ⟨by omega, rfl, rfl⟩⟩⟩, h2, hn, fr_tr (fr_sub a1 (by decide)) (fr_sub b1 (by decide))⟩
    · show [some (Value.ref 148), some (.int (iN net)), some (.int (iN m)), some (.int (-1)), some (.int (iN 1000000)), some (.int 0), none] = _
      have e1 : st 0 = 0 := if_pos (Nat.zero_le _)
      have e2 : bs 0 = 1000000 := if_pos (Nat.zero_le _)
      rw [e1, e2]
      rfl
end RROUTE
