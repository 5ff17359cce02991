/-! The reference: costs at rest. -/
def cJ (I F : Nat → Prop) (C : Nat → Nat) : Prop := ∀ c, c < 240 → C c ≤ 1000000 ∧ (I c → C c = 0) ∧ (¬ I c → 0 < C c ∧ (¬ F c → C c = 1000000) ∧ (C c < 1000000 → ∃ d, d < 9 ∧ nx c d ≠ 0 ∧ C (nx c d - 1) + prc d ≤ C c))
theorem cJ_step {I F : Nat → Prop} {C : Nat → Nat} (h : cJ I F C) {c : Nat} (hc : c < 240) (hF : F c) (hp : 0 < C c) (hl : rch C c < C c) : cJ I F (up1 C c (rch C c)) := by
  have hI : ¬ I c := fun x => by have := (h c hc).2.1 x; omega
  have hcl := (h c hc).1
  have hr1 : rch C c < 1000000 := by omega
  obtain ⟨d, hd, hn, he⟩ := rchF_hit C c 9 hr1
  have hpp := prc_pos d
  have he' : C (nx c d - 1) + prc d = rch C c := he
  have hne : nx c d - 1 ≠ c := fun x => by rw [x] at he'; omega
  intro x hx
  by_cases k : x = c
  · subst k
    rw [up1_at]
    refine ⟨by omega, fun y => absurd y hI, fun _ => ⟨by omega, fun y => absurd hF y, fun _ => ⟨d, hd, hn, ?_⟩⟩⟩
    rw [up1_ne hne]; omega
  · rw [up1_ne k]
    refine ⟨(h x hx).1, (h x hx).2.1, fun y => ⟨((h x hx).2.2 y).1, ((h x hx).2.2 y).2.1, fun z => ?_⟩⟩
    obtain ⟨d2, q1, q2, q3⟩ := ((h x hx).2.2 y).2.2 z
    refine ⟨d2, q1, q2, ?_⟩
    have := up1_le (f := C) (e := c) (v := rch C c) (by omega) (nx x d2 - 1)
    omega
theorem cJ_cost {I F : Nat → Prop} {C : Nat → Nat} (h : cJ I F C) (hr : ∀ c, c < 240 → F c → 0 < C c → ¬ rch C c < C c) : isCost I F C := by
  refine ⟨fun c hc hI => (h c hc).2.1 hI, fun c hc hI hF => ((h c hc).2.2 hI).2.1 hF, fun c hc => (h c hc).1, fun c d hc hd hI hF hn => ?_, fun c hc hI hf => ((h c hc).2.2 hI).2.2 hf⟩
  have h1 := hr c hc hF ((h c hc).2.2 hI).1
  have h2 := (rchF_le C c 9).2 d hd hn
  have h3 : rch C c = rchF C c 9 := rfl
  omega
section RCOST
variable {w : qS} {S n : Nat → Nat} {M : qM}
theorem ct_111 (h : RD S n M) {net pl : Nat} {I : Nat → Prop} (hnet : net < 16) (hpI : ∀ c, c < 240 → (M 155 c = iN pl ↔ I c)) :
    gE w 111 0 [some (.ref 148), some (.int (iN net)), some (.int (iN pl)), none, none, none] [] M (fun r M' => r = none ∧ fr [156, 157] M M' ∧ ∃ C, isCost I (fun c => fre S n c net) C ∧ ∀ c, c < 240 → M' 157 c = iN (C c)) := by
  refine wk_111_0 ?_
  refine ev_for 240 (Inv := fun i loc M' => (fr [156, 157] M M' ∧ ∀ c, c < i → M' 156 c = bi (fre S n c net) ∧ (I c → M' 157 c = 0) ∧ (¬ I c → M' 157 c = iN 1000000)) ∧ ∃ o4 o5, loc = [some (.ref 148), some (.int (iN net)), some (.int (iN pl)), some (.int (iN i)), o4, o5]) ?_ ?_ 0 _ _ (Nat.zero_le _) ⟨⟨fr_rfl, fun p hp => absurd hp (by omega)⟩, _, _, rfl⟩
  · rintro i loc M' hi ⟨⟨a1, a2⟩, o4, o5, rfl⟩ rec
    have h1 : RD S n M' := RD_fr h (fun q hq => a1 q (by rcases hq with rfl | rfl | rfl | rfl <;> decide))
    refine wk_111_2 (r1 := bi (fre S n i net)) (fun c1 => absurd ((iN_lt (by omega) (by omega)).mpr hi) c1) (fun _ => ct_93 h1 hi hnet) (fun _ => zb_bi) (fun _ => iN_in hi (by omega)) (fun _ => ?_)
    have e : ms M' 156 (iN i).toNatClampNeg (bi (fre S n i net)) 155 (iN i).toNatClampNeg = M 155 i := by rw [ms_ne (by decide), iN_ix (by omega), a1 155 (by decide)]
    rw [e, iN_succ, iN_ix (by omega)]
    refine rec _ _ ⟨⟨fr_tr a1 (fr_tr (fr_ms (by decide)) (fr_ms (by decide))), fun c hc => ?_⟩, _, _, rfl⟩
    rw [ms_ne (by decide), ms_get, ms_get]
    by_cases x : c = i
    · subst x
      rw [if_pos ⟨rfl, rfl⟩, if_pos ⟨rfl, rfl⟩]
      refine ⟨rfl, fun y => ?_, fun y => ?_⟩
      · rw [if_pos ((hpI c hi).mpr y)]
      · rw [if_neg (fun z => y ((hpI c hi).mp z))]
    · rw [if_neg (fun y => x y.2), if_neg (fun y => x y.2), ms_ne (by decide)]
      exact a2 c (by omega)
  · rintro loc M1 ⟨⟨a1, a2⟩, o4, o5, rfl⟩
    refine wk_111_2 (r1 := 0) (fun _ => ?_) (fun c1 => absurd ((iN_lt (by omega) (by omega)).mp c1) (by omega)) (fun c1 => absurd ((iN_lt (by omega) (by omega)).mp c1) (by omega)) (fun c1 => absurd ((iN_lt (by omega) (by omega)).mp c1) (by omega)) (fun c1 => absurd ((iN_lt (by omega) (by omega)).mp c1) (by omega))
    obtain ⟨N, hN⟩ : ∃ N, N = 240 := ⟨_, rfl⟩
    have hF1 : ∀ c, c < 240 → M1 156 c = bi (fre S n c net) := fun c hc => (a2 c hc).1
    generalize hFd : (fun c => fre S n c net) = F at *
    have hFe : ∀ c, fre S n c net = F c := fun c => by rw [← hFd]
    have hC0 : ∀ c, c < 240 → M1 157 c = iN ((fun c => @ite _ (I c) (Classical.propDecidable _) 0 1000000) c) := by
      intro c hc
      dsimp only
      by_cases x : I c
      · rw [if_pos x]; exact (a2 c hc).2.1 x
      · rw [if_neg x]; exact (a2 c hc).2.2 x
    have hJ0 : cJ I F (fun c => @ite _ (I c) (Classical.propDecidable _) 0 1000000) := by
      intro c hc
      dsimp only
      by_cases x : I c
      · rw [if_pos x]; exact ⟨by omega, fun _ => rfl, fun y => absurd x y⟩
      · rw [if_neg x]; exact ⟨by omega, fun y => absurd y x, fun _ => ⟨by omega, fun _ => rfl, fun y => absurd y (by omega)⟩⟩
    refine ev_loop (Inv := fun k loc M' => ∃ C x3, (fr [156, 157] M M' ∧ M' 156 = M1 156) ∧ cJ I F C ∧ (∀ c, c < 240 → M' 157 c = iN (C c)) ∧ ((x3 = (0 : Int32) ∧ k = sm N C ∧ ∀ c, c < 240 → F c → 0 < C c → ¬ rch C c < C c) ∨ (x3 = 1 ∧ k = sm N C + 1)) ∧ ∃ o1 o2 o4 o5, loc = [some (.ref 148), o1, o2, some (.int x3), o4, o5]) ?_ (sm N (fun c => @ite _ (I c) (Classical.propDecidable _) 0 1000000) + 1) _ _ ⟨_, 1, ⟨a1, rfl⟩, hJ0, hC0, Or.inr ⟨rfl, rfl⟩, _, _, _, _, rfl⟩
    clear a1 a2 hJ0 hC0
    rintro k loc M2 ⟨C0, x3, b1, b2, b3, b4, o1, o2, o4, o5, rfl⟩ rec
    rcases b4 with ⟨rfl, -, b4⟩ | ⟨rfl, rfl⟩
    · exact wk_111_51 (fun _ => ⟨rfl, b1.1, C0, cJ_cost b2 b4, b3⟩) (fun c1 => absurd rfl c1)
    · refine wk_111_51 (fun c1 => absurd c1 (by decide)) (fun _ => ?_)
      refine ev_for 240 (Inv := fun c loc M' => ∃ C x3, (fr [156, 157] M M' ∧ M' 156 = M1 156) ∧ cJ I F C ∧ (∀ c, c < 240 → M' 157 c = iN (C c)) ∧ ((x3 = (0 : Int32) ∧ sm N C = sm N C0 ∧ ∀ c', c' < c → F c' → 0 < C c' → ¬ rch C c' < C c') ∨ (x3 = 1 ∧ sm N C < sm N C0)) ∧ ∃ o1 o2 o5, loc = [some (.ref 148), o1, o2, some (.int x3), some (.int (iN c)), o5]) ?_ ?_ 0 _ _ (Nat.zero_le _) ⟨C0, 0, b1, b2, b3, Or.inl ⟨rfl, rfl, fun c' hc' => absurd hc' (by omega)⟩, _, _, _, rfl⟩
      · clear b1 b2 b3
        rintro c loc M3 hc ⟨C, x3, d1, d2, d3, d4, o1, o2, o5, rfl⟩ rec2
        have hCl : ∀ c, c < 240 → C c ≤ 1000000 := fun c hc => (d2 c hc).1
        have hcl := hCl c hc
        have hrl := (rchF_le C c 9).1
        have hrd : rch C c = rchF C c 9 := rfl
        have e156 : M3 156 (iN c).toNatClampNeg = bi (F c) := by rw [iN_ix (by omega), d1.2, hF1 c hc, hFe c]
        have e157 : M3 157 (iN c).toNatClampNeg = iN (C c) := by rw [iN_ix (by omega), d3 c hc]
        obtain ⟨v, hv, hvi⟩ : ∃ v, (if M3 156 (iN c).toNatClampNeg = 0 then iN 1000000 else (if 0 < M3 157 (iN c).toNatClampNeg then iN (rch C c) else iN 1000000)) = iN v ∧ v ≤ 1000000 ∧ (v < C c ↔ F c ∧ 0 < C c ∧ rch C c < C c) ∧ (v < C c → v = rch C c) := by
          rw [e156, e157]
          by_cases f : F c
          · rw [bi_pos f, if_neg (by decide)]
            by_cases z : 0 < C c
            · rw [if_pos ((iN_pos (by omega)).mpr z)]
              exact ⟨rch C c, rfl, by omega, ⟨fun x => ⟨f, z, x⟩, fun x => x.2.2⟩, fun _ => rfl⟩
            · rw [if_neg (fun x => z ((iN_pos (by omega)).mp x))]
              exact ⟨1000000, rfl, by omega, ⟨fun x => by omega, fun x => absurd x.2.1 z⟩, fun x => by omega⟩
          · rw [bi_neg f, if_pos rfl]
            exact ⟨1000000, rfl, by omega, ⟨fun x => by omega, fun x => absurd x.1 f⟩, fun x => by omega⟩
        refine wk_111_60 (r1 := iN (rch C c)) (fun c1 => absurd ((iN_lt (by omega) (by omega)).mpr hc) c1) (fun _ => iN_in hc (by omega)) (fun _ c2 => ?_) (fun _ c2 => ?_) (fun _ _ _ => ct_110 d3 hCl hc)
        · rw [hv, e157] at c2
          have hge : ¬ v < C c := fun x => c2 ((iN_lt (by omega) (by omega)).mpr x)
          rw [iN_succ]
          refine rec2 _ _ ⟨C, x3, d1, d2, d3, ?_, _, _, _, rfl⟩
          rcases d4 with ⟨e1, e2, e3⟩ | d4
          · refine Or.inl ⟨e1, e2, fun c' hc' f z => ?_⟩
            by_cases y : c' = c
            · subst y; exact fun x => hge (hvi.2.1.mpr ⟨f, z, x⟩)
            · exact e3 c' (by omega) f z
          · exact Or.inr d4
        · rw [hv, e157] at c2
          have hlt : v < C c := (iN_lt (by omega) (by omega)).mp c2
          have ev := hvi.2.2 hlt
          have hcond := hvi.2.1.mp hlt
          rw [hv, iN_succ, iN_ix (by omega), ev]
          have hsm : sm N (up1 C c (rch C c)) < sm N C := sm_lt N (fun i _ => up1_le (by omega) i) ⟨c, by omega, by rw [up1_at]; omega⟩
          refine rec2 _ _ ⟨up1 C c (rch C c), 1, ⟨fr_tr d1.1 (fr_ms (by decide)), by rw [ms_rows (by decide)]; exact d1.2⟩, cJ_step d2 hc hcond.1 hcond.2.1 hcond.2.2, fun x hx => ?_, Or.inr ⟨rfl, ?_⟩, _, _, _, rfl⟩
          · rw [ms_get]
            by_cases y : x = c
            · rw [if_pos ⟨rfl, y⟩, y, up1_at]
            · rw [if_neg (fun z => y z.2), up1_ne y]; exact d3 x hx
          · rcases d4 with ⟨-, e2, -⟩ | ⟨-, e2⟩ <;> omega
      · clear b1 b2 b3
        rintro loc M3 ⟨C, x3, d1, d2, d3, d4, o1, o2, o5, rfl⟩
        have hno : ∀ {α : Prop}, iN 240 < iN 240 → α := fun c1 => absurd ((iN_lt (by omega) (by omega)).mp c1) (by omega)
        refine wk_111_60 (r1 := 0) (fun _ => ?_) (fun c1 => hno c1) (fun c1 => hno c1) (fun c1 => hno c1) (fun c1 => hno c1)
        rcases d4 with ⟨e1, e2, e3⟩ | ⟨e1, e2⟩
        · exact rec (sm N C) _ _ (by omega) ⟨C, x3, d1, d2, d3, Or.inl ⟨e1, rfl, e3⟩, _, _, _, _, rfl⟩
        · exact rec (sm N C + 1) _ _ (by omega) ⟨C, x3, d1, d2, d3, Or.inr ⟨e1, rfl⟩, _, _, _, _, rfl⟩
end RCOST
