/-! The cells of class and reference. 0 the desk, 1 its board, 2 its sheet with arrays 3 .. 8, 9 names, 10 history, 11 its sheets, 12 router, 13 .. 16, 17 lanes, 18 its rows 19 .. 21, 22 heads, 23 tails, 24 taken, 25 tape, 26 bytes, 27 picture, 28 numbers of nets; 29 + 7 i the i-th sheet kept, with its arrays; 148 the reference, 149 .. 160 its arrays; 200 .. 202 tables, 210 the script. -/
def tb_right (j : Nat) : Int32 := [(1 : Int32), 1, 0, -1, -1, -1, 0, 1].getD j 0
def tb_down (j : Nat) : Int32 := [(0 : Int32), 1, 1, 1, 0, -1, -1, -1].getD j 0
def tb_cost (j : Nat) : Int32 := [(10 : Int32), 14, 10, 14, 10, 14, 10, 14, 30].getD j 0
def lSh (b : Nat) : qL := .inr (.inr (.inl (2, [some (some (b + 1)), some (some (b + 2)), some (some (b + 3)), some (some (b + 4)), some (some (b + 5)), some (some (b + 6)), none, none, none])))
def lAr (n : Nat) : qL := .inl (0, n)
def lBo (n : Nat) : qL := .inl (1, n)
def lOb (c : Nat) (l : List (Option (Option Nat))) : qL := .inr (.inr (.inl (c, l)))
def gL0 : List qL := [lOb 0 [some (some 1), some (some 10), some (some 12), some (some 25), some (some 28)], lOb 1 [some (some 2), some (some 9)], lSh 2, lAr 16, lAr 24, lAr 24, lAr 16, lAr 16, lAr 240, lAr 16,
  lOb 3 [some (some 11), none, none], .inr (.inl (2, 17, fun j => some (29 + 7 * j))), lOb 4 [some (some 13), some (some 14), none, some (some 15), some (some 16), some (some 17)], lBo 240, lAr 240, lBo 240, lAr 240,
  lOb 5 [some (some 18), some (some 22), some (some 23), some (some 24)], .inr (.inl (3, 3, fun j => some (19 + j))), lAr 240, lAr 240, lAr 240, lAr 3, lAr 3, lBo 240, lOb 6 [some (some 26), none, some (some 27)], lAr 400, lAr 120, lAr 16]
def gL1 : List qL := [lOb 7 [some (some 149), some (some 150), some (some 151), none, some (some 152), some (some 153), some (some 154), some (some 155), some (some 156), some (some 157), some (some 158), none, some (some 159), some (some 160)],
  lAr 592, lAr 592, lAr 9472, lAr 16, lAr 240, lAr 240, lAr 240, lBo 240, lAr 240, lAr 400, lAr 120, lAr 16]
def gLk (b j : Nat) : qL := if j = 0 then lSh b else if j = 1 then lAr 16 else if j = 2 then lAr 24 else if j = 3 then lAr 24 else if j = 4 then lAr 16 else if j = 5 then lAr 16 else lAr 240
def lTb (n : Nat) (f : Nat → Int32) : qL := .inr (.inr (.inr (n, f)))
def gL (w : qS) (k : Nat) : qL := if k < 29 then gL0.getD k (lTb 0 tb_right) else if k < 148 then gLk k ((k - 29) % 7) else if k < 161 then gL1.getD (k - 148) (lTb 0 tb_right) else if k = 200 then lTb 8 tb_right else if k = 201 then lTb 8 tb_down else if k = 202 then lTb 9 tb_cost else lTb w.1 w.2
def isSh (s : Nat) : Prop := s = 2 ∨ ∃ i, i < 17 ∧ s = 29 + 7 * i
theorem ly_k {w : qS} {i j : Nat} (hi : i < 17) (hj : j < 7) : gL w (29 + 7 * i + j) = gLk (29 + 7 * i + j) j := by
  unfold gL
  rw [if_neg (by omega), if_pos (by omega), show (29 + 7 * i + j - 29) % 7 = j by omega]
theorem ly_s0 {w : qS} {s : Nat} (h : isSh s) : gL w s = .inr (.inr (.inl (2, [some (some (s + 1)), some (some (s + 2)), some (some (s + 3)), some (some (s + 4)), some (some (s + 5)), some (some (s + 6)), none, none, none]))) := by
  rcases h with rfl | ⟨i, hi, rfl⟩
  · rfl
  · exact ly_k (j := 0) hi (by omega)
theorem ly_s1 {w : qS} {s : Nat} (h : isSh s) : gL w (s + 1) = .inl (0, 16) := by
  rcases h with rfl | ⟨i, hi, rfl⟩
  · rfl
  · exact ly_k hi (by omega)
theorem ly_s2 {w : qS} {s : Nat} (h : isSh s) : gL w (s + 2) = .inl (0, 24) := by
  rcases h with rfl | ⟨i, hi, rfl⟩
  · rfl
  · exact ly_k hi (by omega)
theorem ly_s3 {w : qS} {s : Nat} (h : isSh s) : gL w (s + 3) = .inl (0, 24) := by
  rcases h with rfl | ⟨i, hi, rfl⟩
  · rfl
  · exact ly_k hi (by omega)
theorem ly_s4 {w : qS} {s : Nat} (h : isSh s) : gL w (s + 4) = .inl (0, 16) := by
  rcases h with rfl | ⟨i, hi, rfl⟩
  · rfl
  · exact ly_k hi (by omega)
theorem ly_s5 {w : qS} {s : Nat} (h : isSh s) : gL w (s + 5) = .inl (0, 16) := by
  rcases h with rfl | ⟨i, hi, rfl⟩
  · rfl
  · exact ly_k hi (by omega)
theorem ly_s6 {w : qS} {s : Nat} (h : isSh s) : gL w (s + 6) = .inl (0, 240) := by
  rcases h with rfl | ⟨i, hi, rfl⟩
  · rfl
  · exact ly_k hi (by omega)
theorem vp_lt {i : Int32} {n : Nat} (h : vp_in i n) : i.toNatClampNeg < n := Nat.not_le.mp fun c => h (Or.inr c)
theorem ly_kept {i : Int32} (h : vp_in i 17) : isSh (29 + 7 * i.toNatClampNeg) := Or.inr ⟨_, vp_lt h, rfl⟩
theorem ly_row {w : qS} {i : Int32} (h : vp_in i 3) : gL w (19 + i.toNatClampNeg) = .inl (0, 240) := by
  have h := vp_lt h
  generalize i.toNatClampNeg = k at h
  match k, h with
  | 0, _ => rfl
  | 1, _ => rfl
  | 2, _ => rfl
theorem rc_sh {w : qS} {s : Nat} {vt : List Value} (h : isSh s) : qq_rcv (gL w) (some 2) (.ref s :: vt) := by
  unfold qq_rcv
  simp only [ly_s0 h]
