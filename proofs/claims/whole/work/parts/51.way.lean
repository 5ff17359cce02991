/-! The class: a way is laid, a net is connected. -/
theorem wayF_s (C : Nat → Nat) (m k c left : Nat) (S : Nat → Nat) : wayF C m (k + 1) c left S = if left = 0 then S else wayF C m k (wst C c left 9) (C (wst C c left 9)) (lay1 S m (wst C c left 9)) := rfl
theorem lay1_0 {S : Nat → Nat} {m c : Nat} : lay1 S m c 0 = S 0 := lay1_lo (by omega)
section BWAY
variable {w : qS} {S n : Nat → Nat} {M : qM}
theorem ct_71 {I F : Nat → Prop} {C : Nat → Nat} {s m : Nat} (h : BD S n M) (hm : m < S 0) (h1 : ∀ c, c < 240 → M 13 c = bi (I c)) (h2 : ∀ c, c < 240 → M 15 c = bi (F c)) (hC : ∀ c, c < 240 → M 16 c = iN (C c)) (hCl : ∀ c, c < 240 → C c ≤ 1000000)
    (hK : isCost I F (CRf I F C)) (hs : s < 240) (hok : wOK (CRf I F C) s (C s)) (hz : C s = 0 → I s) (hbar : ∀ c, c < 240 → I c ∨ F c → S (112 + c) = 0) :
    gE w 71 0 [some (.ref 12), some (.ref 1), some (.int (iN s)), some (.int (iN m)), none, none, none] [] M (fun r M' => r = none ∧ fr [8] M M' ∧ BD (wayF (CRf I F C) m 240 s (C s) S) n M') := by
  have h0 := h.1.1
  refine wk_71_0 ?_
  refine ev_for 240 (Inv := fun k loc M' => fr [8] M M' ∧ ∃ c S1 o2 o6, c < 240 ∧ wOK (CRf I F C) c (C c) ∧ (C c = 0 → I c) ∧ BD S1 n M' ∧ (∀ i, i < 352 → S1 i = S i) ∧ wayF (CRf I F C) m (240 - k) c (C c) S1 = wayF (CRf I F C) m 240 s (C s) S ∧ loc = [some (.ref 12), some (.ref 1), o2, some (.int (iN m)), some (.int (iN c)), some (.int (iN k)), o6]) ?_ ?_ 0 _ _ (Nat.zero_le _) ⟨fr_rfl, s, S, _, _, hs, hok, hz, h, fun _ _ => rfl, rfl, rfl⟩
  · rintro k loc M' hk ⟨a1, c, S1, o2, o6, a2, a3, a4, a5, a6, a7, rfl⟩ rec
    have h13 : ∀ c, c < 240 → M' 13 c = bi (I c) := fun c hc => by rw [a1 13 (by decide)]; exact h1 c hc
    have h15 : ∀ c, c < 240 → M' 15 c = bi (F c) := fun c hc => by rw [a1 15 (by decide)]; exact h2 c hc
    have h16 : ∀ c, c < 240 → M' 16 c = iN (C c) := fun c hc => by rw [a1 16 (by decide)]; exact hC c hc
    have e13 : M' 13 (iN c).toNatClampNeg = bi (I c) := by rw [iN_ix (by omega), h13 c a2]
    rw [show 240 - k = (240 - (k + 1)) + 1 by omega] at a7
    by_cases hI : I c
    · have hc0 : C c = 0 := by
        have := hK.1 c a2 hI
        rw [CRf_pos (Or.inl hI)] at this
        exact this
      rw [wayF_s, if_pos hc0] at a7
      have hn : ¬ M' 13 (iN c).toNatClampNeg = 0 := by rw [e13, bi_pos hI]; decide
      refine wk_71_6 (r1 := 0) (fun c1 => absurd ((iN_lt (by omega) (by omega)).mpr hk) c1) (fun _ => iN_in a2 (by omega)) (fun _ _ => ⟨rfl, a1, by rw [← a7]; exact a5⟩) (fun _ c2 => absurd c2 hn) (fun _ c2 => absurd c2 hn) (fun _ c2 => absurd c2 hn)
    · have hne : C c ≠ 0 := fun x => hI (a4 x)
      rw [wayF_s, if_neg hne] at a7
      obtain ⟨t1, t2, t3, t4, t5, t6⟩ := wOK_step hK a2 a3 hne
      generalize ew : wst (CRf I F C) c (C c) 9 = e at *
      have hCe : CRf I F C e = C e := CRf_pos t5
      rw [hCe] at a7 t6
      have hnr : ¬ wcd e = -1 := by rw [wcd_of (by omega)]; exact fun x => iN_nn (a := e) (by omega) (by rw [x]; decide)
      have h72 := ct_72 (w := w) (M := M') h13 h15 h16 hCl a2
      rw [ew] at h72
      refine wk_71_6 (r1 := wcd e) (fun c1 => absurd ((iN_lt (by omega) (by omega)).mpr hk) c1) (fun _ => iN_in a2 (by omega)) (fun _ c2 => absurd (by rw [e13]; exact bi_neg hI) c2) (fun _ _ => h72) (fun _ _ _ => ?_) (fun _ _ c3 => absurd c3 hnr)
      rw [wcd_of (by omega)]
      refine (ct_50 a5 (m := m) (c := e) (by rw [a6 0 (by omega)]; exact hm) t1 (by rw [a6 _ (by omega)]; exact hbar e t1 t5)).mono ?_
      rintro r M2 ⟨rfl, b1, b2⟩
      refine wk_71_46 ?_
      rw [iN_succ]
      refine rec _ _ ⟨fr_tr a1 b1, e, lay1 S1 m e, _, _, t1, t6, fun x => isCost_z hK t1 (by rw [hCe]; exact x), b2, fun i hi => by rw [lay1_lo hi]; exact a6 i hi, a7, rfl⟩
  · rintro loc M' ⟨a1, c, S1, o2, o6, a2, a3, a4, a5, a6, a7, rfl⟩
    have hno : ∀ {α : Prop}, iN 240 < iN 240 → α := fun c1 => absurd ((iN_lt (by omega) (by omega)).mp c1) (by omega)
    refine wk_71_6 (r1 := 0) (fun _ => ⟨rfl, a1, ?_⟩) (fun c1 => hno c1) (fun c1 => hno c1) (fun c1 => hno c1) (fun c1 => hno c1) (fun c1 => hno c1)
    rw [← a7]
    exact a5
/-- a net is connected by one way, if one of its pins is missing -/
def CN (S n : Nat → Nat) (net : Nat) (M : qM) : qR := fun r M' => ∃ v S', r = some (.int v) ∧ Rt S n net v S' ∧ BD S' n M' ∧ fr [8, 12, 13, 14, 15, 16, 19, 20, 21, 22, 23, 24] M M'
theorem ct_63 (h : BD S n M) {net : Nat} (hnet : net < 16) : gE w 63 0 [some (.ref 12), some (.ref 1), some (.int (iN net)), none, none] [] M (CN S n net M) := by
  have h0 := h.1.1
  refine wk_63_0 ((ct_64 h hnet).mono ?_)
  rintro r M1 ⟨k, hk, rfl, a1, a2⟩
  have hb1 : BD S n M1 := BD_fr h (fr_lo a1 (by decide))
  show gE w 63 6 _ [.int (pm k)] M1 _
  rcases a2 with ⟨rfl, a2⟩ | ⟨m, I, z, q, rfl, a2, a3, a4⟩
  · refine wk_63_6 (fun c1 => absurd rfl c1) (fun _ => ⟨0, S, rfl, ?_, hb1, fr_sub a1 (by decide)⟩)
    rcases a2 with ⟨-, x⟩ | ⟨I, x1, ⟨-, x2⟩ | ⟨m, x2, -⟩⟩
    · exact Or.inl ⟨x, rfl, rfl⟩
    · exact Or.inr ⟨I, x1, Or.inl ⟨x2, rfl, rfl⟩⟩
    · omega
  · rw [pm_s]
    have hmS : m < S 0 := a3.1.1.1
    have hpl : S (32 + m) ≠ 0 := a3.1.1.2.2
    refine wk_63_6 (fun _ => ?_) (fun c1 => absurd (by rw [c1]; decide) (iN_nn (a := m) (by omega)))
    refine (ct_67 hb1 hnet (by omega) a4).mono ?_
    rintro r M2 ⟨rfl, b1, b2, C, T, hd, tl, q2, D, b3, b4, b5⟩
    have hb2 : BD S n M2 := BD_fr hb1 (fr_lo b1 (by decide))
    have hlb := LB_of b4
    have hK : isCost I (fun c => fre S n c net) (CRf I (fun c => fre S n c net) C) := dInv_cost b4 b5
    obtain ⟨p0, hp0, hpc⟩ := a2
    have hnI : ∀ c, c < 240 → hp S m c → ¬ I c := by
      intro c hc hpm hI
      have hQ := ow_pad (n := n) h.1 hc hmS hpm
      rw [a3.1.1.2.1] at hQ
      apply a3.1.2
      by_cases e : c = fp S m
      · rw [← e]; exact hI
      · refine hpc.2.2.1 c (fp S m) hc (fp_lt m) hI (fp_ow h.1 a3.1.1) ?_
        have hp1 := fp_hp h.1 hmS hpl
        have e1 : c % 120 = fp S m % 120 := by have := hpm.2; have := hp1.2; omega
        have hl := fp_lt (S := S) m
        refine ⟨8, by omega, ?_⟩
        unfold nx
        rw [if_pos rfl]
        split <;> omega
    have hrch : ∀ c, c < 240 → hp S m c → rch (CRf I (fun c => fre S n c net) C) c = C c := fun c hc hpm => rch_pad b4 b5 hc (hnI c hc hpm) hpm
    have hfp := hrch _ (fp_lt m) (fp_hp h.1 hmS hpl)
    have est : (if S (32 + m) / 120 = 3 ∧ C (fp S m + 120) < C (fp S m) then fp S m + 120 else fp S m) = pd2 S (CRf I (fun c => fre S n c net) C) m := by
      unfold pd2
      by_cases c3 : S (32 + m) / 120 = 3
      · have hl : fp S m < 120 := by unfold fp; rw [if_neg (by omega)]; omega
        have hp2 : hp S m (fp S m + 120) := by
          unfold hp
          rw [c3, show (fp S m + 120) / 120 = 1 by omega]
          refine ⟨by decide, ?_⟩
          unfold fp
          rw [if_neg (by omega)]
          omega
        rw [hfp, hrch _ (by omega) hp2]
      · rw [if_neg (fun x => c3 x.1), if_neg (fun x => c3 x.1)]
    have hpd : pd2 S (CRf I (fun c => fre S n c net) C) m < 240 := pd2_lt
    have hpad : hp S m (pd2 S (CRf I (fun c => fre S n c net) C) m) := by
      unfold pd2
      split
      · rename_i c3
        have hl : fp S m < 120 := by unfold fp; rw [if_neg (by omega)]; omega
        unfold hp
        rw [c3.1, show (fp S m + 120) / 120 = 1 by omega]
        refine ⟨by decide, ?_⟩
        unfold fp
        rw [if_neg (by omega)]
        omega
      · exact fp_hp h.1 hmS hpl
    have h70 := ct_70 (w := w) hb2 hmS hpl b3.1 hlb.1
    rw [est] at h70
    generalize es : pd2 S (CRf I (fun c => fre S n c net) C) m = s at *
    have hCs := hrch s hpd hpad
    have hlC := hlb.1 s hpd
    refine wk_63_21 (r1 := iN s) h70 (iN_in hpd (by omega)) (fun c1 => ?_) (fun c1 => ?_)
    · rw [iN_ix (by omega), b3.1 s hpd] at c1
      have hlt : C s < 1000000 := by
        have : C s ≠ 1000000 := fun x => c1 (by rw [x])
        omega
      have hr1 : rch (CRf I (fun c => fre S n c net) C) s < 1000000 := by rw [hCs]; exact hlt
      have hit := rchF_hit (CRf I (fun c => fre S n c net) C) s 9 hr1
      have hok : wOK (CRf I (fun c => fre S n c net) C) s (C s) := by
        refine Or.inr ⟨hlt, ?_⟩
        rw [← hCs]
        exact hit
      have hz0 : C s = 0 → I s := by
        intro x
        obtain ⟨d, hd9, e1, e2⟩ := hit
        have := prc_pos d
        have e3 : rchF (CRf I (fun c => fre S n c net) C) s 9 = C s := hCs
        omega
      have hbar : ∀ c, c < 240 → I c ∨ fre S n c net → S (112 + c) = 0 := by
        intro c hc hx
        rcases hx with hx | hx
        · have hQ : ow S n c = net + 1 := hpc.2.1 c hc hx
          apply Classical.byContradiction
          intro hb
          have := h.1.2.2.2.2.2.2.2.2.2 c hc hb
          rw [ow_z.mpr this] at hQ
          omega
        · exact hx.1
      refine (ct_71 (I := I) (F := fun c => fre S n c net) (C := C) hb2 hmS (fun c hc => by rw [b1 13 (by decide)]; exact a4.1 c hc) b2 b3.1 hlb.1 hK hpd hok hz0 hbar).mono ?_
      rintro r M3 ⟨rfl, d1, d2⟩
      refine wk_63_52 (iN_in hpd (by omega)) ?_
      rw [iN_ix (by omega), d1 16 (by decide), b3.1 s hpd]
      refine ⟨iN (C s), _, rfl, Or.inr ⟨I, ⟨p0, hp0, hpc⟩, Or.inr ⟨m, _, a3, hK, Or.inr ?_⟩⟩, d2, fr_tr (fr_sub a1 (by decide)) (fr_tr (fr_sub b1 (by decide)) (fr_sub d1 (by decide)))⟩
      rw [es, hCs]
      exact ⟨hlt, rfl, rfl⟩
    · rw [iN_ix (by omega), b3.1 s hpd, iN_eq (by omega) (by omega)] at c1
      refine ⟨-2, S, rfl, Or.inr ⟨I, ⟨p0, hp0, hpc⟩, Or.inr ⟨m, _, a3, hK, Or.inl ?_⟩⟩, hb2, fr_tr (fr_sub a1 (by decide)) (fr_sub b1 (by decide))⟩
      rw [es, hCs]
      exact ⟨c1, rfl, rfl⟩
end BWAY
