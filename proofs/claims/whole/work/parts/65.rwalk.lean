/-! The reference: a way is walked. -/
theorem wayF_z (C : Nat → Nat) (m c : Nat) (S : Nat → Nat) : ∀ f, wayF C m f c 0 S = S
  | 0 => rfl
  | f + 1 => by rw [wayF_s, if_pos rfl]
theorem wr_lay1 {S : Nat → Nat} {M : qM} {m c : Nat} (h : Ok S) (hw : NW S M) (hc : c < 240) : NW (lay1 S m c) (ms M 149 (352 + c) (if pm (pad S c) < 0 then iN m + 1 else 0)) := by
  have hl := (pad_le h c).2
  intro i hi
  rw [ms_get, lay1_at]
  by_cases x : i = 352 + c
  · rw [if_pos ⟨rfl, x⟩]
    by_cases y : pad S c = 0
    · rw [if_pos ((pm_neg (by omega)).mpr y), if_pos ⟨x, y⟩, iN_succ]
    · rw [if_neg (fun z => y ((pm_neg (by omega)).mp z)), if_neg (fun z => y z.2), x, h.2.2.2.2.2.2.2.2.1 c hc y]; rfl
  · rw [if_neg (fun z => x z.2), if_neg (fun z => x z.1)]
    exact hw i hi
section RWALK
variable {w : qS} {M : qM}
theorem ct_112 {S C : Nat → Nat} {I F : Nat → Prop} {s m k : Nat} (hS : Ok S) (hw : NW S M) (hpd : ∀ c, c < 240 → M 153 c = pm (pad S c)) (hC : ∀ c, c < 240 → M 157 c = iN (C c)) (hK : isCost I F C) (hIe : ∃ a, a < 240 ∧ I a) (hs : s < 240) (hps : pad S s ≠ 0) (hok : wOK C s k) (hk0 : 0 < k) (hkl : k < 1000000) (hm : m < S 0) (hbar : ∀ c, c < 240 → I c ∨ F c → S (112 + c) = 0) :
    gE w 112 0 [some (.ref 148), some (.int (iN s)), some (.int (iN k)), some (.int (iN m)), none, none, none, none, none, none, none] [] M (fun r M' => r = none ∧ fr [149] M M' ∧ NW (wayF C m 240 s k S) M') := by
  have h0 := hS.1
  have hCl := hK.2.2.1
  obtain ⟨N, hN⟩ : ∃ N, N = 240 := ⟨_, rfl⟩
  have est : lay1 S m s = S := by unfold lay1; rw [if_neg hps]
  refine wk_112_0 ?_
  generalize htg : wayF C m 240 s k S = Z
  refine ev_loop (Inv := fun left loc M' => ∃ f c Sp, fr [149] M M' ∧ NW Sp M' ∧ Ok Sp ∧ (∀ i, i < 352 → Sp i = S i) ∧ c < 240 ∧ wOK C c left ∧ left < 1000000 ∧ cnt N (fun a => C a < left) ≤ f ∧ (pad S c ≠ 0 ∨ S (112 + c) = 0) ∧ wayF C m f c left (lay1 Sp m c) = Z ∧ ∃ o1 o2 o6 o7 o8 o9 o10, loc = [some (.ref 148), o1, o2, some (.int (iN m)), some (.int (iN c)), some (.int (iN left)), o6, o7, o8, o9, o10]) ?_ k _ _ ⟨240, s, S, fr_rfl, hw, hS, fun _ _ => rfl, hs, hok, hkl, by have := cnt_le (fun a => C a < k) N; omega, Or.inl hps, by rw [est]; exact htg, _, _, _, _, _, _, _, rfl⟩
  clear htg
  rintro left loc M1 ⟨f, c, Sp, a1, a2, a3, a4, a5, a6, a7, a8, a9, a10, o1, o2, o6, o7, o8, o9, o10, rfl⟩ rec
  have epad : pad Sp c = pad S c := pad_congr c (a4 0 (by omega)) (fun p hp => a4 _ (by omega))
  have hpad1 : M1 153 (iN c).toNatClampNeg = pm (pad Sp c) := by rw [iN_ix (by omega), a1 153 (by decide), hpd c a5, epad]
  have hw2 := wr_lay1 (m := m) a3 a2 a5
  have eix : iN 352 + iN c = iN (352 + c) := iN_add _ _
  by_cases z : left = 0
  · subst z
    refine wk_112_6 (fun _ => iN_in a5 (by omega)) (fun _ => by rw [eix]; exact iN_in (by omega) (by omega)) (fun _ => ?_) (fun c1 => absurd c1 (by decide)) (fun c1 => absurd c1 (by decide)) (fun c1 => absurd c1 (by decide))
    rw [hpad1, eix, iN_ix (by omega)]
    refine ⟨rfl, fr_tr a1 (fr_ms (by decide)), ?_⟩
    rw [wayF_z] at a10
    rw [← a10]
    exact hw2
  · have hpos : (0 : Int32) < iN left := (iN_pos (by omega)).mpr (by omega)
    refine wk_112_6 (fun c1 => absurd hpos c1) (fun c1 => absurd hpos c1) (fun c1 => absurd hpos c1) (fun _ => iN_in a5 (by omega)) (fun _ => by rw [eix]; exact iN_in (by omega) (by omega)) (fun _ => ?_)
    rw [hpad1, eix, iN_ix (by omega)]
    have f2 : fr [149] M (ms M1 149 (352 + c) (if pm (pad Sp c) < 0 then iN m + 1 else 0)) := fr_tr a1 (fr_ms (by decide))
    generalize hM2 : ms M1 149 (352 + c) (if pm (pad Sp c) < 0 then iN m + 1 else 0) = M2 at *
    have hC2 : ∀ c, c < 240 → M2 157 c = iN (C c) := fun c hc => by rw [f2 157 (by decide)]; exact hC c hc
    obtain ⟨t1, t2, t3, t4, t5, t6⟩ := wOK_step hK a5 a6 z
    -- the least neighbour
    refine ev_for 9 (Inv := fun d loc M' => M' = M2 ∧ ∃ x7 o9 o10, ((wst C c left d = 240) ∨ (wst C c left d < 240 ∧ ∃ pr, x7 = iN pr ∧ C (wst C c left d) + pr = left)) ∧ loc = [some (.ref 148), o1, o2, some (.int (iN m)), some (.int (iN c)), some (.int (iN left)), some (.int (iN (wst C c left d))), some (.int x7), some (.int (iN d)), o9, o10]) ?_ ?_ 0 _ _ (Nat.zero_le _) ⟨rfl, 0, _, _, Or.inl rfl, rfl⟩
    · rintro d loc M' hd ⟨eM, x7, o9, o10, b1, rfl⟩ rec2
      subst eM
      have hwl := (wst_hit (C := C) (left := left) a5 d (by omega)).1
      have hpp := prc_pos d
      have hgo : ∀ (x x' : Int32) (o9 o10 : Option Value), x = iN (wst C c left (d + 1)) → ((wst C c left (d + 1) = 240) ∨ (wst C c left (d + 1) < 240 ∧ ∃ pr, x' = iN pr ∧ C (wst C c left (d + 1)) + pr = left)) → gE w 112 50 [some (.ref 148), o1, o2, some (.int (iN m)), some (.int (iN c)), some (.int (iN left)), some (.int x), some (.int x'), some (.int (iN (d + 1))), o9, o10] [] M' (fun r M' => r = none ∧ fr [149] M M' ∧ NW Z M') := by
        intro x x' o9 o10 e1 e2
        subst x
        exact rec2 _ _ ⟨rfl, _, _, _, e2, rfl⟩
      have hnx : nx c d ≤ 240 := by
        by_cases y : nx c d = 0
        · omega
        · exact (nx_ok a5 hd y).1
      by_cases y : nx c d = 0
      · have e1 : pm (nx c d) < 0 := (pm_neg (by omega)).mpr y
        refine wk_112_50 (r1 := pm (nx c d)) (r2 := iN (prc d)) (fun c1 => absurd ((iN_lt (by omega) (by omega)).mpr hd) c1) (fun _ => ct_100 a5 hd) (fun _ => ?_) (fun _ _ => ct_109 hd) (fun _ c4 => absurd e1 c4) (fun _ c4 => absurd e1 c4)
        rw [iN_succ]
        have ew := wst_s0 (C := C) (c := c) (left := left) (d := d) (fun x => x.1 y)
        refine hgo _ _ _ _ ?_ ?_
        · rw [if_pos e1, if_pos rfl, ew]
        · rw [if_pos e1, if_pos rfl, ew]; exact b1
      · have e1 : ¬ pm (nx c d) < 0 := fun x => y ((pm_neg (by omega)).mp x)
        have hle := hCl (nx c d - 1) (by omega)
        refine wk_112_50 (r1 := pm (nx c d)) (r2 := iN (prc d)) (fun c1 => absurd ((iN_lt (by omega) (by omega)).mpr hd) c1) (fun _ => ct_100 a5 hd) (fun _ => ?_) (fun _ _ => ct_109 hd) (fun _ _ => by rw [pm_of y]; exact iN_in (by omega) (by omega)) (fun _ _ => ct_109 hd)
        rw [iN_succ]
        by_cases g : C (nx c d - 1) + prc d = left ∧ nx c d - 1 < wst C c left d
        · have ew := wst_s1 (C := C) (c := c) (left := left) (d := d) y g.1
          rw [if_pos g.2] at ew
          have emay : (if pm (nx c d) < 0 then (0 : Int32) else (if (M' 157 (pm (nx c d)).toNatClampNeg + iN (prc d)) = iN left then (if pm (nx c d) < iN (wst C c left d) then 1 else 0) else 0)) = 1 := by
            rw [if_neg e1, pm_of y, iN_ix (by omega), hC2 _ (by omega), iN_add, if_pos (by rw [g.1]), if_pos ((iN_lt (by omega) (by omega)).mpr g.2)]
          refine hgo _ _ _ _ ?_ ?_
          · rw [emay, if_neg (by decide), ew, pm_of y]
          · rw [emay, if_neg (by decide), ew]
            exact Or.inr ⟨by omega, prc d, rfl, g.1⟩
        · have ew := wst_s0 (C := C) (c := c) (left := left) (d := d) (fun x => g ⟨x.2.1, x.2.2⟩)
          have emay : (if pm (nx c d) < 0 then (0 : Int32) else (if (M' 157 (pm (nx c d)).toNatClampNeg + iN (prc d)) = iN left then (if pm (nx c d) < iN (wst C c left d) then 1 else 0) else 0)) = 0 := by
            rw [if_neg e1, pm_of y, iN_ix (by omega), hC2 _ (by omega), iN_add]
            by_cases g1 : C (nx c d - 1) + prc d = left
            · rw [if_pos (by rw [g1]), if_neg (fun x => g ⟨g1, (iN_lt (by omega) (by omega)).mp x⟩)]
            · rw [if_neg (fun x => g1 ((iN_eq (by omega) (by omega)).mp x))]
          refine hgo _ _ _ _ ?_ ?_
          · rw [emay, if_pos rfl, ew]
          · rw [emay, if_pos rfl, ew]; exact b1
    · rintro loc M' ⟨eM, x7, o9, o10, b1, rfl⟩
      subst eM
      have hno : ∀ {α : Prop}, iN 9 < iN 9 → α := fun c1 => absurd ((iN_lt (by omega) (by omega)).mp c1) (by omega)
      refine wk_112_50 (r1 := 0) (r2 := 0) (fun _ => ?_) (fun c1 => hno c1) (fun c1 => hno c1) (fun c1 => hno c1) (fun c1 => hno c1) (fun c1 => hno c1)
      obtain ⟨-, pr, rfl, b2⟩ := b1.resolve_left (by omega)
      generalize ewe : wst C c left 9 = e at *
      rw [show iN left - iN pr = iN (C e) by rw [iN_sub (by omega)]; congr 1; omega]
      -- there is fuel left
      obtain ⟨a, ha, hIa⟩ := hIe
      have hc1 : cnt N (fun a => C a < C e) < cnt N (fun a => C a < left) := cnt_lt N (fun a _ x => by omega) ⟨e, by omega, by omega, t3⟩
      have hf : f = (f - 1) + 1 := by omega
      rw [hf, wayF_s, if_neg z, ewe] at a10
      refine rec (C e) _ _ t3 ⟨f - 1, e, lay1 Sp m c, f2, hw2, ?_, fun i hi => by rw [lay1_lo hi]; exact a4 i hi, t1, t6, by omega, by omega, Or.inr (hbar e t1 t5), a10, _, _, _, _, _, _, _, rfl⟩
      rcases a9 with a9 | a9
      · have : lay1 Sp m c = Sp := by unfold lay1; rw [if_neg (by rw [epad]; exact a9)]
        rw [this]; exact a3
      · exact Ok_lay1 a3 (by rw [a4 0 (by omega)]; exact hm) a5 (by rw [a4 _ (by omega)]; exact a9)
end RWALK
