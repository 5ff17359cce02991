/-! The reference's constructor; how class and reference stand behind the two constructors. -/
section MATCH2
variable {ca : Nat → ClassId} {h q1 q2 q q3 q4 q5 : Nat} {b1 b2 b3 c3 r3 b4 mm : Nat → Nat} {tR tD tC b : Nat} {D : va_G} {w : qS} {l : Launch}
theorem match_P {St : (Nat → Prop) → State → Heap → Prop} {H : Heap} (hP : va_P D kCl (deC ca h q1 b1 q2 q b2 q3 b3 c3 r3 q4 b4 q5 ++ moC ca mm (upd (fun _ => 0) 2 1)) H) : va_P D kCl (qw (gZ (aF (aLd h q1 b1 q2 q q3 b3 c3 r3 q4 b4 q5) b2 mm tR tD tC b) ca D St l w) M0) H := by
  rw [de_split] at hP
  intro k x hx
  have hk : k < 161 := by
    have := (List.getElem?_eq_some_iff.mp hx).1
    rw [qw_len] at this
    exact this
  rw [qw_at (Z := gZ (aF (aLd h q1 b1 q2 q q3 b3 c3 r3 q4 b4 q5) b2 mm tR tD tC b) ca D St l w) M0 hk] at hx
  cases hx
  obtain ⟨e, he, hi⟩ := mt (ca := ca) (h := h) (q1 := q1) (q2 := q2) (q := q) (q3 := q3) (q4 := q4) (q5 := q5) (b1 := b1) (b2 := b2) (b3 := b3) (c3 := c3) (r3 := r3) (b4 := b4) (mm := mm) (tR := tR) (tD := tD) (tC := tC) (b := b) (D := D) (w := w) hk
  exact hi H (hP _ _ he)
theorem match_D {St : (Nat → Prop) → State → Heap → Prop} {A : Nat → Prop} (hD : va_D A (deC ca h q1 b1 q2 q b2 q3 b3 c3 r3 q4 b4 q5 ++ moC ca mm (upd (fun _ => 0) 2 1))) : va_D A (qw (gZ (aF (aLd h q1 b1 q2 q q3 b3 c3 r3 q4 b4 q5) b2 mm tR tD tC b) ca D St l w) M0) := by
  rw [de_split] at hD
  have key : ∀ k x, (qw (gZ (aF (aLd h q1 b1 q2 q q3 b3 c3 r3 q4 b4 q5) b2 mm tR tD tC b) ca D St l w) M0)[k]? = some x → k < 161 ∧ ∃ e, (P1 ca h q1 b1 q2 q b2 q3 q4 q5 ++ (shs ca b2 17 ++ P2 ca q3 b3 c3 r3 q4 b4 q5 mm))[pos k]? = some (x.1, e) := by
    intro k x hx
    have hk : k < 161 := by
      have := (List.getElem?_eq_some_iff.mp hx).1
      rw [qw_len] at this
      exact this
    rw [qw_at (Z := gZ (aF (aLd h q1 b1 q2 q q3 b3 c3 r3 q4 b4 q5) b2 mm tR tD tC b) ca D St l w) M0 hk] at hx
    cases hx
    obtain ⟨e, he, -⟩ := mt (ca := ca) (h := h) (q1 := q1) (q2 := q2) (q := q) (q3 := q3) (q4 := q4) (q5 := q5) (b1 := b1) (b2 := b2) (b3 := b3) (c3 := c3) (r3 := r3) (b4 := b4) (mm := mm) (tR := tR) (tD := tD) (tC := tC) (b := b) (D := D) (w := w) hk
    exact ⟨hk, e, he⟩
  refine ⟨fun i j x y hi hj hxy => ?_, fun k x hx => ?_⟩
  · obtain ⟨hi1, e1, he1⟩ := key i x hi
    obtain ⟨hj1, e2, he2⟩ := key j y hj
    have := hD.1 _ _ _ _ he1 he2 hxy
    unfold pos at this
    repeat' split at this
    all_goals omega
  · obtain ⟨hk, e, he⟩ := key k x hx
    have := hD.2 _ _ he
    exact this
end MATCH2
def S00 : Nat → Nat := fun i => if i = 2 then 1 else 0
theorem S00_z {i : Nat} (h : i ≠ 2) : S00 i = 0 := by unfold S00; rw [if_neg h]
theorem S00_own (c : Nat) : own S00 c = 0 := by
  have : pad S00 c = 0 := rfl
  unfold own
  rw [if_pos this, S00_z (by omega)]
theorem S00_ok : Ok S00 := by
  refine ⟨by decide, by decide, by decide, fun p hp => by rw [S00_z (by omega)]; omega, fun p hp => Or.inl (S00_z (by omega)), fun i hi => ?_, fun c hc => ?_, fun p q c hp => ?_, fun c hc hn => ?_, fun c hc hn => ?_⟩
  · have : S00 1 = 0 := rfl
    omega
  · rw [S00_z (by omega), S00_z (by omega)]; exact ⟨by omega, by omega⟩
  · have : S00 0 = 0 := rfl
    omega
  · exact absurd (show pad S00 c = 0 from rfl) hn
  · exact absurd (S00_z (by omega)) hn
def A00 : qA := (S00, fun p => p, 0, fun _ _ => 0, 0, fun _ => 0)
theorem A00_ok : RA2 A00 := ⟨⟨S00_ok, isNet_zero S00, Nat.zero_le _, fun i hi => absurd hi (by show ¬ i < 0; omega), Nat.zero_le _, fun i hi => absurd hi (by show ¬ i < 0; omega)⟩, fun i hi => by
  show S00 i < _
  by_cases e : i = 2
  · subst e; decide
  · rw [S00_z e]; decide, fun i hi => absurd hi (by show ¬ i < 0; omega)⟩
theorem NW00 : NW S00 M0 := by
  intro i hi
  show upd (fun _ => 0) 2 1 i = iN (S00 i)
  unfold upd S00
  by_cases e : i = 2
  · rw [if_pos e, if_pos e]; rfl
  · rw [if_neg e, if_neg e]; rfl
theorem both00 {M : qM} (hf : fr [152, 153, 154] M0 M) (hB : FB S00 (fun p => p) M) : BOTH M := by
  have e : ∀ q, q ≤ 148 → M q = M0 q := fun q hq => hf q (by simp only [List.mem_cons, List.not_mem_nil, or_false]; omega)
  refine ⟨A00, A00_ok, ⟨⟨⟨⟨?_, ?_, ?_⟩, fun p hp => ?_, fun j hj => ?_, fun p hp => ?_, fun c hc => ?_⟩, fun p hp => ?_⟩, ⟨0, by omega, ?_, ?_, fun i hi => ?_⟩, ?_, fun i hi => ?_⟩, hB, ⟨?_, fun i k hi => ?_⟩, ?_, fun i hi => ?_⟩
  · rw [e 2 (by omega)]; rfl
  · rw [e 2 (by omega)]; rfl
  · rw [e 2 (by omega)]; rfl
  · exact absurd hp (by show ¬ p < 0; omega)
  · exact absurd hj (by show ¬ j < 0; omega)
  · have z : A00.1 (32 + p) = 0 := S00_z (by omega)
    rw [e 6 (by omega), e 7 (by omega), z]
    exact ⟨rfl, rfl⟩
  · rw [e 8 (by omega)]
    show fH 240 c = hv S00 c
    unfold fH hv
    rw [if_pos hc, if_pos (S00_own c), if_pos (S00_z (by omega))]
  · exact absurd hp (by show ¬ p < 0; omega)
  · rw [e 10 (by omega)]; rfl
  · rw [e 10 (by omega)]; rfl
  · exact absurd hi (by show ¬ i < 0; omega)
  · rw [e 25 (by omega)]; rfl
  · exact absurd hi (by show ¬ i < 0; omega)
  · rw [e 148 (by omega)]; rfl
  · exact absurd hi (by show ¬ i < 0; omega)
  · rw [e 148 (by omega)]; rfl
  · exact absurd hi (by show ¬ i < 0; omega)
section REFR
variable {K : iK} {ls : Array Slot} {cells slots pc : Nat} {aL b2 mm : Nat → Nat} {tR tD tC b : Nat} {w : qS}
theorem ig_ref (hx : IX K yi_7 prog_9_method_1_code 1) (hSt : STt tR tD tC b w (k_A K) (k_s K) (k_s K).heap) (hls : ls.size = 1) (hfr : 0 + 1 ≤ (k_R K).frames) (hlo : 8 + (6 + 11) + 0 ≤ (k_R K).locals) (hcs : cells + 0 ≤ (k_R K).cells) (hss : slots + 0 ≤ (k_R K).slots) (hd : decode prog_9_method_1_code pc = .ok (.invokevirtual 47, 3)) {M : qM} {post : qR} (hE : gE w 80 0 [some (.ref 148), none, none, none, none, none] [] M post) {H : Heap} {locs : List Loc}
    (hP : va_P (k_D K) kCl (qw (gZ (aF aL b2 mm tR tD tC b) (k_ca K) (k_D K) (STt tR tD tC b w) (k_l K) w) M) H) (hD : va_D (k_A K) (qw (gZ (aF aL b2 mm tR tD tC b) (k_ca K) (k_D K) (STt tR tD tC b w) (k_l K) w) M)) (hS : va_S (k_A K) (k_s K).heap H locs)
    (kk : ∀ (r : Option Value) (M1 : qM) (H1 : Heap) (locs1 : List Loc), post r M1 → va_P (k_D K) kCl (qw (gZ (aF aL b2 mm tR tD tC b) (k_ca K) (k_D K) (STt tR tD tC b w) (k_l K) w) M1) H1 → va_D (k_A K) (qw (gZ (aF aL b2 mm tR tD tC b) (k_ca K) (k_D K) (STt tR tD tC b w) (k_l K) w) M1) → va_S (k_A K) (k_s K).heap H1 locs1 →
      W (k_p K) (k_l K) (k_e K) (k_R K) (k_s K) (k_m K) (k_a K) (k_b K) (k_t K) (k_c K) H1 locs1 cells slots (k_Q K) (F0 (k_m K) (pc + 3) ls ((r.map (qv (aF aL b2 mm tR tD tC b))).toList ++ []))) :
    W (k_p K) (k_l K) (k_e K) (k_R K) (k_s K) (k_m K) (k_a K) (k_b K) (k_t K) (k_c K) H locs cells slots (k_Q K) (F0 (k_m K) pc ls [.ref (mm 0)]) := by
  generalize hZ : gZ (aF aL b2 mm tR tD tC b) (k_ca K) (k_D K) (STt tR tD tC b w) (k_l K) w = Z at hP hD kk
  have hX : qq_X Z 80 0 (qq_ent (z_mx Z) 80 [.ref 148]) [] M post := by rw [← hZ]; exact fin_X hE
  have hM := qq_met (sz := H.size) hX (by rw [← hZ]; exact gY_plain 80) (fun v hv => by
    rcases List.mem_cons.mp hv with rfl | h
    · rfl
    · cases h) (by rw [← hZ]; exact (show 1 ≤ gX 80 by decide))
  have he : (qw Z M)[148]? = some (mm 0, .inr (7, qv_F (aF aL b2 mm tR tD tC b) (M 148) [some (some 149), some (some 150), some (some 151), none, some (some 152), some (some 153), some (some 154), some (some 155), some (some 156), some (some 157), some (some 158), none, some (some 159), some (some 160)] 0)) := by
    rw [qw_at M (by rw [← hZ]; show 148 < 161; omega), ← hZ]
    rfl
  have hK := hx.2.2.2.2.2.1.1
  have hrc := va_recv hK hP (show kCl[7]? = some (kR7, kT7, 14) from rfl) he
  have hFA : ∀ q : Nat, va_A (qw Z M) H.size q → k_A K q := by
    intro q hq
    rcases hq with ⟨k, e', hk⟩ | hq
    · exact hD.2 k (q, e') hk
    · exact hx.2.2.2.2.2.2.2 q (Nat.le_trans hS.1 hq)
  have hGI : GoodIn gTs (wsV yi_7.cls 47 kR7 (gY 80) (qq_ws Z 80)) := fun x hw => by
    have hin : x ∈ gTs := by
      rcases List.mem_append.mp hw with h | h
      · rcases List.mem_cons.mp h with rfl | h
        · exact wd_542
        · rcases List.mem_cons.mp h with rfl | h
          · exact wd_544
          · rcases List.mem_cons.mp h with rfl | h
            · exact wp_16
            · rcases List.mem_cons.mp h with rfl | h
              · exact wd_8
              · cases h
      · rw [← hZ] at h
        rcases List.mem_cons.mp h with rfl | h
        · exact wd_545
        · exact h
    exact ⟨hin, gG _ hin⟩
  have hrun := va_runV (e := k_e K) (below := k_b K) (meth := k_t K) (cells := cells) (slots := slots) (locs := locs) (g := F0 (k_m K) pc ls [.ref (mm 0)]) (C := kR7) (As := []) (rest := []) (bytes := prog_9_method_2_code) (maxL := 6) (ret := none) (index := 47) (n := 0) ⟨hx.1, hx.2.1, hx.2.2.1, hx.2.2.2.1, hx.2.2.2.2.1⟩ hM (cwV 0 hx.2.2.2.2.1 (by rw [← hZ] at hGI ⊢; exact hGI) (by rw [← hZ]; rfl) (by rw [← hZ]; rfl) (by rw [← hZ]; rfl) (by rw [← hZ]; exact hy_80) (by rw [← hZ]; exact ⟨hfr, hlo⟩))
    ⟨fun av U g mk qq => by
      obtain ⟨q0, q1, qP, qK, qD, qS⟩ := qq
      refine ⟨q0, q1, qP, va_K.moved (u := U) (U := U.calling g mk av) (Vm.Alike.refl U.vm) qK, qD, ?_⟩
      rw [← hZ] at qS ⊢
      exact ST_warm (State.WarmedH.refl U) qS, hrc, fun U hU hW => ⟨by rw [← hZ]; rfl, by rw [hU], by rw [hU, ← hZ]; rw [← hZ] at hP; exact hP, by rw [← hZ]; exact va_K.moved hW.alike hK, hD.weaken (fun _ _ _ _ => trivial), by
      rw [hU]
      have := ST_narrow (ST_warm hW (ST_kept hSt hS.2.1)) hFA
      rw [← hZ] at this ⊢
      exact this⟩⟩ rfl rfl hls rfl (lv_room (Nat.zero_le _)) hd ⟨hcs, hss⟩
  rw [← hZ] at hrun
  refine qq_callW (rest := []) hrun hS (by rw [← hZ] at hFA; exact hFA) (by rw [← hZ] at hFA; exact hFA) (fun r M1 H1 locs1 hp hP1 hD1 hS1 => ?_)
  rw [← hZ] at kk hFA
  exact kk r M1 H1 locs1 hp hP1 (hD1.weaken (fun k q _ h => hFA q.1 h)) hS1
end REFR
