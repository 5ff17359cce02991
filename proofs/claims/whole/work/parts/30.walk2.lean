/-! Printed: the walks of the methods, from cut to cut. -/
-- BoardDeskModel.refresh()V
theorem wk_80_0 {w : qS} {M : qM} {post : qR}
    (h1 : gE w 80 2 [some (.ref 148), some (.int 0), none, none, none, none] [] M post) :
    gE w 80 0 [some (.ref 148), none, none, none, none, none] [] M post := by
  refine ev_k (pc' := 1) (pt_80_0 w) rfl ?_
  refine ev_is (pc' := 2) (loc1 := [some (.ref 148), some (.int 0), none, none, none, none]) (pt_80_1 w) rfl rfl ?_
  exact h1

theorem wk_80_2 {w : qS} {M : qM} {x1 : Int32} {o2 o3 o4 o5 : Option Value} {post : qR}
    (h1 : (c1 : ¬ x1 < (iN 16)) → gE w 80 23 [some (.ref 148), some (.int 0), o2, o3, o4, o5] [] M post)
    (b2 : (c1 : x1 < (iN 16)) → vp_in x1 16)
    (h3 : (c1 : x1 < (iN 16)) → gE w 80 2 [some (.ref 148), some (.int (x1 + 1)), o2, o3, o4, o5] [] (ms M 152 x1.toNatClampNeg x1) post) :
    gE w 80 2 [some (.ref 148), some (.int x1), o2, o3, o4, o5] [] M post := by
  refine ev_il (pc' := 3) (pt_80_2 w) rfl rfl ?_
  refine ev_k (pc' := 5) (pt_80_3 w) rfl ?_
  refine ev_cge (pc' := 8) (pt_80_5 w) rfl (fun c1 => ?_) (fun c1 => ?_)
  · refine ev_k (pc' := 22) (pt_80_21 w) rfl ?_
    refine ev_is (pc' := 23) (loc1 := [some (.ref 148), some (.int 0), o2, o3, o4, o5]) (pt_80_22 w) rfl rfl ?_
    exact (h1 c1)
  · refine ev_al (pc' := 9) (pt_80_8 w) rfl rfl ?_
    refine ev_getr (pc' := 12) (pt_80_9 w) rfl rfl rfl ?_
    refine ev_il (pc' := 13) (pt_80_12 w) rfl rfl ?_
    refine ev_il (pc' := 14) (pt_80_13 w) rfl rfl ?_
    refine ev_ias (pc' := 15) (pt_80_14 w) rfl rfl (b2 c1) ?_
    refine ev_inc (pc' := 18) (loc1 := [some (.ref 148), some (.int (x1 + 1)), o2, o3, o4, o5]) (pt_80_15 w) rfl rfl rfl ?_
    refine ev_g (pt_80_18 w) ?_
    exact (h3 c1)

theorem wk_80_23 {w : qS} {M : qM} {x1 : Int32} {o2 o3 o4 o5 : Option Value} {post : qR}
    (h1 : (c1 : ¬ x1 < (iN 16)) → gE w 80 133 [some (.ref 148), some (.int 0), o2, o3, o4, o5] [] M post)
    (h2 : (c1 : x1 < (iN 16)) → gE w 80 31 [some (.ref 148), some (.int x1), some (.int 0), o3, o4, o5] [] M post) :
    gE w 80 23 [some (.ref 148), some (.int x1), o2, o3, o4, o5] [] M post := by
  refine ev_il (pc' := 24) (pt_80_23 w) rfl rfl ?_
  refine ev_k (pc' := 26) (pt_80_24 w) rfl ?_
  refine ev_cge (pc' := 29) (pt_80_26 w) rfl (fun c1 => ?_) (fun c1 => ?_)
  · refine ev_k (pc' := 132) (pt_80_131 w) rfl ?_
    refine ev_is (pc' := 133) (loc1 := [some (.ref 148), some (.int 0), o2, o3, o4, o5]) (pt_80_132 w) rfl rfl ?_
    exact (h1 c1)
  · refine ev_k (pc' := 30) (pt_80_29 w) rfl ?_
    refine ev_is (pc' := 31) (loc1 := [some (.ref 148), some (.int x1), some (.int 0), o3, o4, o5]) (pt_80_30 w) rfl rfl ?_
    exact (h2 c1)

theorem wk_80_31 {w : qS} {M : qM} {x1 x2 : Int32} {o3 o4 o5 : Option Value} {post : qR}
    (h1 : (c1 : ¬ x2 < (M 149 1)) → gE w 80 23 [some (.ref 148), some (.int (x1 + 1)), some (.int x2), o3, o4, o5] [] M post)
    (b2 : (c1 : x2 < (M 149 1)) → vp_in ((iN 64) + ((iN 2) * x2)) 592)
    (b3 : (c1 : x2 < (M 149 1)) → vp_in (((iN 64) + ((iN 2) * x2)) + 1) 592)
    (b4 : (c1 : x2 < (M 149 1)) → vp_in (M 149 ((iN 64) + ((iN 2) * x2)).toNatClampNeg) 16)
    (b5 : (c1 : x2 < (M 149 1)) → vp_in (M 149 (((iN 64) + ((iN 2) * x2)) + 1).toNatClampNeg) 16)
    (h6 : (c1 : x2 < (M 149 1)) → gE w 80 31 [some (.ref 148), some (.int x1), some (.int (x2 + 1)), some (.int (M 149 ((iN 64) + ((iN 2) * x2)).toNatClampNeg)), some (.int (M 149 (((iN 64) + ((iN 2) * x2)) + 1).toNatClampNeg)), some (.int (if (M 152 (M 149 ((iN 64) + ((iN 2) * x2)).toNatClampNeg).toNatClampNeg) < (M 152 (M 149 (((iN 64) + ((iN 2) * x2)) + 1).toNatClampNeg).toNatClampNeg) then (M 152 (M 149 ((iN 64) + ((iN 2) * x2)).toNatClampNeg).toNatClampNeg) else (M 152 (M 149 (((iN 64) + ((iN 2) * x2)) + 1).toNatClampNeg).toNatClampNeg) : Int32))] [] (ms (ms M 152 (M 149 ((iN 64) + ((iN 2) * x2)).toNatClampNeg).toNatClampNeg (if (M 152 (M 149 ((iN 64) + ((iN 2) * x2)).toNatClampNeg).toNatClampNeg) < (M 152 (M 149 (((iN 64) + ((iN 2) * x2)) + 1).toNatClampNeg).toNatClampNeg) then (M 152 (M 149 ((iN 64) + ((iN 2) * x2)).toNatClampNeg).toNatClampNeg) else (M 152 (M 149 (((iN 64) + ((iN 2) * x2)) + 1).toNatClampNeg).toNatClampNeg) : Int32)) 152 (M 149 (((iN 64) + ((iN 2) * x2)) + 1).toNatClampNeg).toNatClampNeg (if (M 152 (M 149 ((iN 64) + ((iN 2) * x2)).toNatClampNeg).toNatClampNeg) < (M 152 (M 149 (((iN 64) + ((iN 2) * x2)) + 1).toNatClampNeg).toNatClampNeg) then (M 152 (M 149 ((iN 64) + ((iN 2) * x2)).toNatClampNeg).toNatClampNeg) else (M 152 (M 149 (((iN 64) + ((iN 2) * x2)) + 1).toNatClampNeg).toNatClampNeg) : Int32)) post) :
    gE w 80 31 [some (.ref 148), some (.int x1), some (.int x2), o3, o4, o5] [] M post := by
  refine ev_il (pc' := 32) (pt_80_31 w) rfl rfl ?_
  refine ev_al (pc' := 33) (pt_80_32 w) rfl rfl ?_
  refine ev_getr (pc' := 36) (pt_80_33 w) rfl rfl rfl ?_
  refine ev_k (pc' := 37) (pt_80_36 w) rfl ?_
  refine ev_iac (j := 1) (pc' := 38) (pt_80_37 w) rfl rfl (vp_lit (by decide +kernel)) (by decide +kernel) ?_
  refine ev_cge (pc' := 41) (pt_80_38 w) rfl (fun c1 => ?_) (fun c1 => ?_)
  · refine ev_inc (pc' := 128) (loc1 := [some (.ref 148), some (.int (x1 + 1)), some (.int x2), o3, o4, o5]) (pt_80_125 w) rfl rfl rfl ?_
    refine ev_g (pt_80_128 w) ?_
    exact (h1 c1)
  · refine ev_al (pc' := 42) (pt_80_41 w) rfl rfl ?_
    refine ev_getr (pc' := 45) (pt_80_42 w) rfl rfl rfl ?_
    refine ev_k (pc' := 47) (pt_80_45 w) rfl ?_
    refine ev_k (pc' := 48) (pt_80_47 w) rfl ?_
    refine ev_il (pc' := 49) (pt_80_48 w) rfl rfl ?_
    refine ev_b (pc' := 50) (pt_80_49 w) rfl ?_
    refine ev_b (pc' := 51) (pt_80_50 w) rfl ?_
    refine ev_ia (pc' := 52) (pt_80_51 w) rfl rfl (b2 c1) ?_
    refine ev_is (pc' := 53) (loc1 := [some (.ref 148), some (.int x1), some (.int x2), some (.int (M 149 ((iN 64) + ((iN 2) * x2)).toNatClampNeg)), o4, o5]) (pt_80_52 w) rfl rfl ?_
    refine ev_al (pc' := 54) (pt_80_53 w) rfl rfl ?_
    refine ev_getr (pc' := 57) (pt_80_54 w) rfl rfl rfl ?_
    refine ev_k (pc' := 59) (pt_80_57 w) rfl ?_
    refine ev_k (pc' := 60) (pt_80_59 w) rfl ?_
    refine ev_il (pc' := 61) (pt_80_60 w) rfl rfl ?_
    refine ev_b (pc' := 62) (pt_80_61 w) rfl ?_
    refine ev_b (pc' := 63) (pt_80_62 w) rfl ?_
    refine ev_k (pc' := 64) (pt_80_63 w) rfl ?_
    refine ev_b (pc' := 65) (pt_80_64 w) rfl ?_
    refine ev_ia (pc' := 66) (pt_80_65 w) rfl rfl (b3 c1) ?_
    refine ev_is (pc' := 68) (loc1 := [some (.ref 148), some (.int x1), some (.int x2), some (.int (M 149 ((iN 64) + ((iN 2) * x2)).toNatClampNeg)), some (.int (M 149 (((iN 64) + ((iN 2) * x2)) + 1).toNatClampNeg)), o5]) (pt_80_66 w) rfl rfl ?_
    refine ev_al (pc' := 69) (pt_80_68 w) rfl rfl ?_
    refine ev_getr (pc' := 72) (pt_80_69 w) rfl rfl rfl ?_
    refine ev_il (pc' := 73) (pt_80_72 w) rfl rfl ?_
    refine ev_ia (pc' := 74) (pt_80_73 w) rfl rfl (b4 c1) ?_
    refine ev_al (pc' := 75) (pt_80_74 w) rfl rfl ?_
    refine ev_getr (pc' := 78) (pt_80_75 w) rfl rfl rfl ?_
    refine ev_il (pc' := 80) (pt_80_78 w) rfl rfl ?_
    refine ev_ia (pc' := 81) (pt_80_80 w) rfl rfl (b5 c1) ?_
    have j1 : ∀ v1 : Int32, v1 = (if (M 152 (M 149 ((iN 64) + ((iN 2) * x2)).toNatClampNeg).toNatClampNeg) < (M 152 (M 149 (((iN 64) + ((iN 2) * x2)) + 1).toNatClampNeg).toNatClampNeg) then (M 152 (M 149 ((iN 64) + ((iN 2) * x2)).toNatClampNeg).toNatClampNeg) else (M 152 (M 149 (((iN 64) + ((iN 2) * x2)) + 1).toNatClampNeg).toNatClampNeg) : Int32) → gE w 80 100 [some (.ref 148), some (.int x1), some (.int x2), some (.int (M 149 ((iN 64) + ((iN 2) * x2)).toNatClampNeg)), some (.int (M 149 (((iN 64) + ((iN 2) * x2)) + 1).toNatClampNeg)), o5] [.int v1] M post := by
      intro v1 e2
      subst v1
      refine ev_is (pc' := 102) (loc1 := [some (.ref 148), some (.int x1), some (.int x2), some (.int (M 149 ((iN 64) + ((iN 2) * x2)).toNatClampNeg)), some (.int (M 149 (((iN 64) + ((iN 2) * x2)) + 1).toNatClampNeg)), some (.int (if (M 152 (M 149 ((iN 64) + ((iN 2) * x2)).toNatClampNeg).toNatClampNeg) < (M 152 (M 149 (((iN 64) + ((iN 2) * x2)) + 1).toNatClampNeg).toNatClampNeg) then (M 152 (M 149 ((iN 64) + ((iN 2) * x2)).toNatClampNeg).toNatClampNeg) else (M 152 (M 149 (((iN 64) + ((iN 2) * x2)) + 1).toNatClampNeg).toNatClampNeg) : Int32))]) (pt_80_100 w) rfl rfl ?_
      refine ev_al (pc' := 103) (pt_80_102 w) rfl rfl ?_
      refine ev_getr (pc' := 106) (pt_80_103 w) rfl rfl rfl ?_
      refine ev_il (pc' := 107) (pt_80_106 w) rfl rfl ?_
      refine ev_il (pc' := 109) (pt_80_107 w) rfl rfl ?_
      refine ev_ias (pc' := 110) (pt_80_109 w) rfl rfl (b4 c1) ?_
      refine ev_al (pc' := 111) (pt_80_110 w) rfl rfl ?_
      refine ev_getr (pc' := 114) (pt_80_111 w) rfl rfl rfl ?_
      refine ev_il (pc' := 116) (pt_80_114 w) rfl rfl ?_
      refine ev_il (pc' := 118) (pt_80_116 w) rfl rfl ?_
      refine ev_ias (pc' := 119) (pt_80_118 w) rfl rfl (b5 c1) ?_
      refine ev_inc (pc' := 122) (loc1 := [some (.ref 148), some (.int x1), some (.int (x2 + 1)), some (.int (M 149 ((iN 64) + ((iN 2) * x2)).toNatClampNeg)), some (.int (M 149 (((iN 64) + ((iN 2) * x2)) + 1).toNatClampNeg)), some (.int (if (M 152 (M 149 ((iN 64) + ((iN 2) * x2)).toNatClampNeg).toNatClampNeg) < (M 152 (M 149 (((iN 64) + ((iN 2) * x2)) + 1).toNatClampNeg).toNatClampNeg) then (M 152 (M 149 ((iN 64) + ((iN 2) * x2)).toNatClampNeg).toNatClampNeg) else (M 152 (M 149 (((iN 64) + ((iN 2) * x2)) + 1).toNatClampNeg).toNatClampNeg) : Int32))]) (pt_80_119 w) rfl rfl rfl ?_
      refine ev_g (pt_80_122 w) ?_
      exact (h6 c1)
    refine ev_cge (pc' := 84) (pt_80_81 w) rfl (fun c2 => ?_) (fun c2 => ?_)
    · refine ev_al (pc' := 94) (pt_80_93 w) rfl rfl ?_
      refine ev_getr (pc' := 97) (pt_80_94 w) rfl rfl rfl ?_
      refine ev_il (pc' := 99) (pt_80_97 w) rfl rfl ?_
      refine ev_ia (pc' := 100) (pt_80_99 w) rfl rfl (b5 c1) ?_
      exact j1 _ (if_neg c2).symm
    · refine ev_al (pc' := 85) (pt_80_84 w) rfl rfl ?_
      refine ev_getr (pc' := 88) (pt_80_85 w) rfl rfl rfl ?_
      refine ev_il (pc' := 89) (pt_80_88 w) rfl rfl ?_
      refine ev_ia (pc' := 90) (pt_80_89 w) rfl rfl (b4 c1) ?_
      refine ev_g (pt_80_90 w) ?_
      exact j1 _ (if_pos c2).symm

theorem wk_80_133 {w : qS} {M : qM} {x1 : Int32} {o2 o3 o4 o5 : Option Value} {post : qR}
    (h1 : (c1 : ¬ x1 < (iN 240)) → gE w 80 155 [some (.ref 148), some (.int 0), o2, o3, o4, o5] [] M post)
    (b2 : (c1 : x1 < (iN 240)) → vp_in x1 240)
    (h3 : (c1 : x1 < (iN 240)) → gE w 80 133 [some (.ref 148), some (.int (x1 + 1)), o2, o3, o4, o5] [] (ms M 153 x1.toNatClampNeg (-1)) post) :
    gE w 80 133 [some (.ref 148), some (.int x1), o2, o3, o4, o5] [] M post := by
  refine ev_il (pc' := 134) (pt_80_133 w) rfl rfl ?_
  refine ev_k (pc' := 137) (pt_80_134 w) rfl ?_
  refine ev_cge (pc' := 140) (pt_80_137 w) rfl (fun c1 => ?_) (fun c1 => ?_)
  · refine ev_k (pc' := 154) (pt_80_153 w) rfl ?_
    refine ev_is (pc' := 155) (loc1 := [some (.ref 148), some (.int 0), o2, o3, o4, o5]) (pt_80_154 w) rfl rfl ?_
    exact (h1 c1)
  · refine ev_al (pc' := 141) (pt_80_140 w) rfl rfl ?_
    refine ev_getr (pc' := 144) (pt_80_141 w) rfl rfl rfl ?_
    refine ev_il (pc' := 145) (pt_80_144 w) rfl rfl ?_
    refine ev_k (pc' := 146) (pt_80_145 w) rfl ?_
    refine ev_ias (pc' := 147) (pt_80_146 w) rfl rfl (b2 c1) ?_
    refine ev_inc (pc' := 150) (loc1 := [some (.ref 148), some (.int (x1 + 1)), o2, o3, o4, o5]) (pt_80_147 w) rfl rfl rfl ?_
    refine ev_g (pt_80_150 w) ?_
    exact (h3 c1)

theorem wk_80_155 {w : qS} {M : qM} {x1 : Int32} {o2 o3 o4 o5 : Option Value} {post : qR}
    (h1 : (c1 : ¬ x1 < (M 149 0)) → gE w 80 223 [some (.ref 148), some (.int 0), o2, o3, o4, o5] [] M post)
    (b2 : (c1 : x1 < (M 149 0)) → vp_in ((iN 32) + x1) 592)
    (h3 : (c1 : x1 < (M 149 0)) → gE w 80 177 [some (.ref 148), some (.int x1), some (.int (M 149 ((iN 32) + x1).toNatClampNeg)), some (.int 0), o4, o5] [] M post) :
    gE w 80 155 [some (.ref 148), some (.int x1), o2, o3, o4, o5] [] M post := by
  refine ev_il (pc' := 156) (pt_80_155 w) rfl rfl ?_
  refine ev_al (pc' := 157) (pt_80_156 w) rfl rfl ?_
  refine ev_getr (pc' := 160) (pt_80_157 w) rfl rfl rfl ?_
  refine ev_k (pc' := 161) (pt_80_160 w) rfl ?_
  refine ev_iac (j := 0) (pc' := 162) (pt_80_161 w) rfl rfl (vp_lit (by decide +kernel)) (by decide +kernel) ?_
  refine ev_cge (pc' := 165) (pt_80_162 w) rfl (fun c1 => ?_) (fun c1 => ?_)
  · refine ev_k (pc' := 222) (pt_80_221 w) rfl ?_
    refine ev_is (pc' := 223) (loc1 := [some (.ref 148), some (.int 0), o2, o3, o4, o5]) (pt_80_222 w) rfl rfl ?_
    exact (h1 c1)
  · refine ev_al (pc' := 166) (pt_80_165 w) rfl rfl ?_
    refine ev_getr (pc' := 169) (pt_80_166 w) rfl rfl rfl ?_
    refine ev_k (pc' := 171) (pt_80_169 w) rfl ?_
    refine ev_il (pc' := 172) (pt_80_171 w) rfl rfl ?_
    refine ev_b (pc' := 173) (pt_80_172 w) rfl ?_
    refine ev_ia (pc' := 174) (pt_80_173 w) rfl rfl (b2 c1) ?_
    refine ev_is (pc' := 175) (loc1 := [some (.ref 148), some (.int x1), some (.int (M 149 ((iN 32) + x1).toNatClampNeg)), o3, o4, o5]) (pt_80_174 w) rfl rfl ?_
    refine ev_k (pc' := 176) (pt_80_175 w) rfl ?_
    refine ev_is (pc' := 177) (loc1 := [some (.ref 148), some (.int x1), some (.int (M 149 ((iN 32) + x1).toNatClampNeg)), some (.int 0), o4, o5]) (pt_80_176 w) rfl rfl ?_
    exact (h3 c1)

theorem wk_80_177 {w : qS} {M : qM} {x1 x2 x3 : Int32} {o4 o5 : Option Value} {post : qR}
    (h1 : (c1 : ¬ x3 < (iN 2)) → gE w 80 155 [some (.ref 148), some (.int (x1 + 1)), some (.int x2), some (.int x3), o4, o5] [] M post)
    (h2 : (c1 : x3 < (iN 2)) → (c2 : ¬ (((x2 / (iN 120)) >>> (x3 &&& 31)) &&& 1) = 1) → gE w 80 177 [some (.ref 148), some (.int x1), some (.int x2), some (.int (x3 + 1)), o4, o5] [] M post)
    (b3 : (c1 : x3 < (iN 2)) → (c2 : (((x2 / (iN 120)) >>> (x3 &&& 31)) &&& 1) = 1) → vp_in (((iN 120) * x3) + (x2 - x2 / (iN 120) * (iN 120))) 240)
    (h4 : (c1 : x3 < (iN 2)) → (c2 : (((x2 / (iN 120)) >>> (x3 &&& 31)) &&& 1) = 1) → gE w 80 177 [some (.ref 148), some (.int x1), some (.int x2), some (.int (x3 + 1)), o4, o5] [] (ms M 153 (((iN 120) * x3) + (x2 - x2 / (iN 120) * (iN 120))).toNatClampNeg x1) post) :
    gE w 80 177 [some (.ref 148), some (.int x1), some (.int x2), some (.int x3), o4, o5] [] M post := by
  refine ev_il (pc' := 178) (pt_80_177 w) rfl rfl ?_
  refine ev_k (pc' := 179) (pt_80_178 w) rfl ?_
  refine ev_cge (pc' := 182) (pt_80_179 w) rfl (fun c1 => ?_) (fun c1 => ?_)
  · refine ev_inc (pc' := 218) (loc1 := [some (.ref 148), some (.int (x1 + 1)), some (.int x2), some (.int x3), o4, o5]) (pt_80_215 w) rfl rfl rfl ?_
    refine ev_g (pt_80_218 w) ?_
    exact (h1 c1)
  · refine ev_il (pc' := 183) (pt_80_182 w) rfl rfl ?_
    refine ev_k (pc' := 185) (pt_80_183 w) rfl ?_
    refine ev_d (pc' := 186) (pt_80_185 w) rfl (by decide +kernel) ?_
    refine ev_il (pc' := 187) (pt_80_186 w) rfl rfl ?_
    refine ev_b (pc' := 188) (pt_80_187 w) rfl ?_
    refine ev_k (pc' := 189) (pt_80_188 w) rfl ?_
    refine ev_b (pc' := 190) (pt_80_189 w) rfl ?_
    refine ev_k (pc' := 191) (pt_80_190 w) rfl ?_
    refine ev_cne (pc' := 194) (pt_80_191 w) rfl (fun c2 => ?_) (fun c2 => ?_)
    · refine ev_inc (pc' := 212) (loc1 := [some (.ref 148), some (.int x1), some (.int x2), some (.int (x3 + 1)), o4, o5]) (pt_80_209 w) rfl rfl rfl ?_
      refine ev_g (pt_80_212 w) ?_
      exact (h2 c1 c2)
    · refine ev_al (pc' := 195) (pt_80_194 w) rfl rfl ?_
      refine ev_getr (pc' := 198) (pt_80_195 w) rfl rfl rfl ?_
      refine ev_k (pc' := 200) (pt_80_198 w) rfl ?_
      refine ev_il (pc' := 201) (pt_80_200 w) rfl rfl ?_
      refine ev_b (pc' := 202) (pt_80_201 w) rfl ?_
      refine ev_il (pc' := 203) (pt_80_202 w) rfl rfl ?_
      refine ev_k (pc' := 205) (pt_80_203 w) rfl ?_
      refine ev_d (pc' := 206) (pt_80_205 w) rfl (by decide +kernel) ?_
      refine ev_b (pc' := 207) (pt_80_206 w) rfl ?_
      refine ev_il (pc' := 208) (pt_80_207 w) rfl rfl ?_
      refine ev_ias (pc' := 209) (pt_80_208 w) rfl rfl (b3 c1 c2) ?_
      refine ev_inc (pc' := 212) (loc1 := [some (.ref 148), some (.int x1), some (.int x2), some (.int (x3 + 1)), o4, o5]) (pt_80_209 w) rfl rfl rfl ?_
      refine ev_g (pt_80_212 w) ?_
      exact (h4 c1 c2)

theorem wk_80_223 {w : qS} {M : qM} {x1 : Int32} {o2 o3 o4 o5 : Option Value} {post : qR}
    (h1 : (c1 : ¬ x1 < (iN 240)) → post none M)
    (b2 : (c1 : x1 < (iN 240)) → vp_in x1 240)
    (h3 : (c1 : x1 < (iN 240)) → gE w 80 223 [some (.ref 148), some (.int (x1 + 1)), some (.int (if (M 153 x1.toNatClampNeg) < 0 then ((M 149 ((iN 352) + x1).toNatClampNeg) - 1) else (M 153 x1.toNatClampNeg) : Int32)), o3, o4, o5] [] (ms M 154 x1.toNatClampNeg (if (if (M 153 x1.toNatClampNeg) < 0 then ((M 149 ((iN 352) + x1).toNatClampNeg) - 1) else (M 153 x1.toNatClampNeg) : Int32) < 0 then (-1) else (M 152 (if (M 153 x1.toNatClampNeg) < 0 then ((M 149 ((iN 352) + x1).toNatClampNeg) - 1) else (M 153 x1.toNatClampNeg) : Int32).toNatClampNeg) : Int32)) post)
    (b4 : (c1 : x1 < (iN 240)) → (c2 : ¬ (if (M 153 x1.toNatClampNeg) < 0 then ((M 149 ((iN 352) + x1).toNatClampNeg) - 1) else (M 153 x1.toNatClampNeg) : Int32) < 0) → vp_in (if (M 153 x1.toNatClampNeg) < 0 then ((M 149 ((iN 352) + x1).toNatClampNeg) - 1) else (M 153 x1.toNatClampNeg) : Int32) 16)
    (b5 : (c1 : x1 < (iN 240)) → (c3 : (M 153 x1.toNatClampNeg) < 0) → vp_in ((iN 352) + x1) 592) :
    gE w 80 223 [some (.ref 148), some (.int x1), o2, o3, o4, o5] [] M post := by
  refine ev_il (pc' := 224) (pt_80_223 w) rfl rfl ?_
  refine ev_k (pc' := 227) (pt_80_224 w) rfl ?_
  refine ev_cge (pc' := 230) (pt_80_227 w) rfl (fun c1 => ?_) (fun c1 => ?_)
  · exact ev_rv (pt_80_287 w) (h1 c1)
  · refine ev_al (pc' := 231) (pt_80_230 w) rfl rfl ?_
    refine ev_getr (pc' := 234) (pt_80_231 w) rfl rfl rfl ?_
    refine ev_il (pc' := 235) (pt_80_234 w) rfl rfl ?_
    refine ev_ia (pc' := 236) (pt_80_235 w) rfl rfl (b2 c1) ?_
    have j1 : ∀ v1 : Int32, v1 = (if (M 153 x1.toNatClampNeg) < 0 then ((M 149 ((iN 352) + x1).toNatClampNeg) - 1) else (M 153 x1.toNatClampNeg) : Int32) → gE w 80 260 [some (.ref 148), some (.int x1), o2, o3, o4, o5] [.int v1] M post := by
      intro v1 e2
      subst v1
      refine ev_is (pc' := 261) (loc1 := [some (.ref 148), some (.int x1), some (.int (if (M 153 x1.toNatClampNeg) < 0 then ((M 149 ((iN 352) + x1).toNatClampNeg) - 1) else (M 153 x1.toNatClampNeg) : Int32)), o3, o4, o5]) (pt_80_260 w) rfl rfl ?_
      refine ev_al (pc' := 262) (pt_80_261 w) rfl rfl ?_
      refine ev_getr (pc' := 265) (pt_80_262 w) rfl rfl rfl ?_
      refine ev_il (pc' := 266) (pt_80_265 w) rfl rfl ?_
      refine ev_il (pc' := 267) (pt_80_266 w) rfl rfl ?_
      have j2 : ∀ v3 : Int32, v3 = (if (if (M 153 x1.toNatClampNeg) < 0 then ((M 149 ((iN 352) + x1).toNatClampNeg) - 1) else (M 153 x1.toNatClampNeg) : Int32) < 0 then (-1) else (M 152 (if (M 153 x1.toNatClampNeg) < 0 then ((M 149 ((iN 352) + x1).toNatClampNeg) - 1) else (M 153 x1.toNatClampNeg) : Int32).toNatClampNeg) : Int32) → gE w 80 280 [some (.ref 148), some (.int x1), some (.int (if (M 153 x1.toNatClampNeg) < 0 then ((M 149 ((iN 352) + x1).toNatClampNeg) - 1) else (M 153 x1.toNatClampNeg) : Int32)), o3, o4, o5] [.int v3, .int x1, .ref 154] M post := by
        intro v3 e4
        subst v3
        refine ev_ias (pc' := 281) (pt_80_280 w) rfl rfl (b2 c1) ?_
        refine ev_inc (pc' := 284) (loc1 := [some (.ref 148), some (.int (x1 + 1)), some (.int (if (M 153 x1.toNatClampNeg) < 0 then ((M 149 ((iN 352) + x1).toNatClampNeg) - 1) else (M 153 x1.toNatClampNeg) : Int32)), o3, o4, o5]) (pt_80_281 w) rfl rfl rfl ?_
        refine ev_g (pt_80_284 w) ?_
        exact (h3 c1)
      refine ev_zge (pc' := 270) (pt_80_267 w) rfl (fun c2 => ?_) (fun c2 => ?_)
      · refine ev_al (pc' := 275) (pt_80_274 w) rfl rfl ?_
        refine ev_getr (pc' := 278) (pt_80_275 w) rfl rfl rfl ?_
        refine ev_il (pc' := 279) (pt_80_278 w) rfl rfl ?_
        refine ev_ia (pc' := 280) (pt_80_279 w) rfl rfl (b4 c1 c2) ?_
        exact j2 _ (if_neg c2).symm
      · refine ev_k (pc' := 271) (pt_80_270 w) rfl ?_
        refine ev_g (pt_80_271 w) ?_
        exact j2 _ (if_pos c2).symm
    refine ev_zlt (pc' := 239) (pt_80_236 w) rfl (fun c3 => ?_) (fun c3 => ?_)
    · refine ev_al (pc' := 249) (pt_80_248 w) rfl rfl ?_
      refine ev_getr (pc' := 252) (pt_80_249 w) rfl rfl rfl ?_
      refine ev_k (pc' := 255) (pt_80_252 w) rfl ?_
      refine ev_il (pc' := 256) (pt_80_255 w) rfl rfl ?_
      refine ev_b (pc' := 257) (pt_80_256 w) rfl ?_
      refine ev_ia (pc' := 258) (pt_80_257 w) rfl rfl (b5 c1 c3) ?_
      refine ev_k (pc' := 259) (pt_80_258 w) rfl ?_
      refine ev_b (pc' := 260) (pt_80_259 w) rfl ?_
      exact j1 _ (if_pos c3).symm
    · refine ev_al (pc' := 240) (pt_80_239 w) rfl rfl ?_
      refine ev_getr (pc' := 243) (pt_80_240 w) rfl rfl rfl ?_
      refine ev_il (pc' := 244) (pt_80_243 w) rfl rfl ?_
      refine ev_ia (pc' := 245) (pt_80_244 w) rfl rfl (b2 c1) ?_
      refine ev_g (pt_80_245 w) ?_
      exact j1 _ (if_neg c3).symm

-- BoardDeskModel.begin()V
theorem wk_81_0 {w : qS} {M : qM} {post : qR}
    (h1 : gE w 81 2 [some (.ref 148), some (.int 0)] [] M post) :
    gE w 81 0 [some (.ref 148), none] [] M post := by
  refine ev_k (pc' := 1) (pt_81_0 w) rfl ?_
  refine ev_is (pc' := 2) (loc1 := [some (.ref 148), some (.int 0)]) (pt_81_1 w) rfl rfl ?_
  exact h1

theorem wk_81_2 {w : qS} {M : qM} {x1 : Int32} {post : qR}
    (h1 : (c1 : ¬ x1 < (iN 592)) → post none M)
    (b2 : (c1 : x1 < (iN 592)) → vp_in x1 592)
    (h3 : (c1 : x1 < (iN 592)) → gE w 81 2 [some (.ref 148), some (.int (x1 + 1))] [] (ms M 150 x1.toNatClampNeg (M 149 x1.toNatClampNeg)) post) :
    gE w 81 2 [some (.ref 148), some (.int x1)] [] M post := by
  refine ev_il (pc' := 3) (pt_81_2 w) rfl rfl ?_
  refine ev_k (pc' := 6) (pt_81_3 w) rfl ?_
  refine ev_cge (pc' := 9) (pt_81_6 w) rfl (fun c1 => ?_) (fun c1 => ?_)
  · exact ev_rv (pt_81_27 w) (h1 c1)
  · refine ev_al (pc' := 10) (pt_81_9 w) rfl rfl ?_
    refine ev_getr (pc' := 13) (pt_81_10 w) rfl rfl rfl ?_
    refine ev_il (pc' := 14) (pt_81_13 w) rfl rfl ?_
    refine ev_al (pc' := 15) (pt_81_14 w) rfl rfl ?_
    refine ev_getr (pc' := 18) (pt_81_15 w) rfl rfl rfl ?_
    refine ev_il (pc' := 19) (pt_81_18 w) rfl rfl ?_
    refine ev_ia (pc' := 20) (pt_81_19 w) rfl rfl (b2 c1) ?_
    refine ev_ias (pc' := 21) (pt_81_20 w) rfl rfl (b2 c1) ?_
    refine ev_inc (pc' := 24) (loc1 := [some (.ref 148), some (.int (x1 + 1))]) (pt_81_21 w) rfl rfl rfl ?_
    refine ev_g (pt_81_24 w) ?_
    exact (h3 c1)

-- BoardDeskModel.end()V
theorem wk_82_0 {w : qS} {M : qM} {post : qR}
    (h1 : gE w 82 4 [some (.ref 148), some (.int 1), some (.int 0)] [] M post) :
    gE w 82 0 [some (.ref 148), none, none] [] M post := by
  refine ev_k (pc' := 1) (pt_82_0 w) rfl ?_
  refine ev_is (pc' := 2) (loc1 := [some (.ref 148), some (.int 1), none]) (pt_82_1 w) rfl rfl ?_
  refine ev_k (pc' := 3) (pt_82_2 w) rfl ?_
  refine ev_is (pc' := 4) (loc1 := [some (.ref 148), some (.int 1), some (.int 0)]) (pt_82_3 w) rfl rfl ?_
  exact h1

theorem wk_82_4 {w : qS} {M : qM} {x1 x2 : Int32} {post : qR}
    (h1 : (c1 : ¬ x2 < (iN 592)) → (c2 : x1 = 0) → (c3 : ¬ (M 148 3) = (iN 16)) → gE w 82 99 [some (.ref 148), some (.int x1), some (.int 0)] [] M post)
    (h2 : (c1 : ¬ x2 < (iN 592)) → (c2 : x1 = 0) → (c3 : (M 148 3) = (iN 16)) → gE w 82 58 [some (.ref 148), some (.int x1), some (.int 0)] [] M post)
    (h3 : (c1 : ¬ x2 < (iN 592)) → (c2 : ¬ x1 = 0) → post none M)
    (h4 : (c1 : x2 < (iN 592)) → gE w 82 4 [some (.ref 148), some (.int (if x1 = 0 then 0 else (if (M 150 x2.toNatClampNeg) = (M 149 x2.toNatClampNeg) then 1 else 0 : Int32) : Int32)), some (.int (x2 + 1))] [] M post)
    (b5 : (c1 : x2 < (iN 592)) → (c4 : ¬ x1 = 0) → vp_in x2 592) :
    gE w 82 4 [some (.ref 148), some (.int x1), some (.int x2)] [] M post := by
  refine ev_il (pc' := 5) (pt_82_4 w) rfl rfl ?_
  refine ev_k (pc' := 8) (pt_82_5 w) rfl ?_
  refine ev_cge (pc' := 11) (pt_82_8 w) rfl (fun c1 => ?_) (fun c1 => ?_)
  · refine ev_il (pc' := 43) (pt_82_42 w) rfl rfl ?_
    refine ev_zeq (pc' := 46) (pt_82_43 w) rfl (fun c2 => ?_) (fun c2 => ?_)
    · refine ev_al (pc' := 48) (pt_82_47 w) rfl rfl ?_
      refine ev_geti (pc' := 51) (pt_82_48 w) rfl rfl rfl ?_
      refine ev_k (pc' := 53) (pt_82_51 w) rfl ?_
      refine ev_cne (pc' := 56) (pt_82_53 w) rfl (fun c3 => ?_) (fun c3 => ?_)
      · refine ev_k (pc' := 98) (pt_82_97 w) rfl ?_
        refine ev_is (pc' := 99) (loc1 := [some (.ref 148), some (.int x1), some (.int 0)]) (pt_82_98 w) rfl rfl ?_
        exact (h1 c1 c2 c3)
      · refine ev_k (pc' := 57) (pt_82_56 w) rfl ?_
        refine ev_is (pc' := 58) (loc1 := [some (.ref 148), some (.int x1), some (.int 0)]) (pt_82_57 w) rfl rfl ?_
        exact (h2 c1 c2 c3)
    · exact ev_rv (pt_82_46 w) (h3 c1 c2)
  · refine ev_il (pc' := 12) (pt_82_11 w) rfl rfl ?_
    have j1 : ∀ v1 : Int32, v1 = (if x1 = 0 then 0 else (if (M 150 x2.toNatClampNeg) = (M 149 x2.toNatClampNeg) then 1 else 0 : Int32) : Int32) → gE w 82 35 [some (.ref 148), some (.int x1), some (.int x2)] [.int v1] M post := by
      intro v1 e2
      subst v1
      refine ev_is (pc' := 36) (loc1 := [some (.ref 148), some (.int (if x1 = 0 then 0 else (if (M 150 x2.toNatClampNeg) = (M 149 x2.toNatClampNeg) then 1 else 0 : Int32) : Int32)), some (.int x2)]) (pt_82_35 w) rfl rfl ?_
      refine ev_inc (pc' := 39) (loc1 := [some (.ref 148), some (.int (if x1 = 0 then 0 else (if (M 150 x2.toNatClampNeg) = (M 149 x2.toNatClampNeg) then 1 else 0 : Int32) : Int32)), some (.int (x2 + 1))]) (pt_82_36 w) rfl rfl rfl ?_
      refine ev_g (pt_82_39 w) ?_
      exact (h4 c1)
    refine ev_zeq (pc' := 15) (pt_82_12 w) rfl (fun c4 => ?_) (fun c4 => ?_)
    · refine ev_k (pc' := 35) (pt_82_34 w) rfl ?_
      exact j1 _ (if_pos c4).symm
    · refine ev_al (pc' := 16) (pt_82_15 w) rfl rfl ?_
      refine ev_getr (pc' := 19) (pt_82_16 w) rfl rfl rfl ?_
      refine ev_il (pc' := 20) (pt_82_19 w) rfl rfl ?_
      refine ev_ia (pc' := 21) (pt_82_20 w) rfl rfl (b5 c1 c4) ?_
      refine ev_al (pc' := 22) (pt_82_21 w) rfl rfl ?_
      refine ev_getr (pc' := 25) (pt_82_22 w) rfl rfl rfl ?_
      refine ev_il (pc' := 26) (pt_82_25 w) rfl rfl ?_
      refine ev_ia (pc' := 27) (pt_82_26 w) rfl rfl (b5 c1 c4) ?_
      refine ev_cne (pc' := 30) (pt_82_27 w) rfl (fun c5 => ?_) (fun c5 => ?_)
      · refine ev_k (pc' := 35) (pt_82_34 w) rfl ?_
        exact j1 _ ((if_neg c4).trans (if_neg c5)).symm
      · refine ev_k (pc' := 31) (pt_82_30 w) rfl ?_
        refine ev_g (pt_82_31 w) ?_
        exact j1 _ ((if_neg c4).trans (if_pos c5)).symm

theorem wk_82_58 {w : qS} {M : qM} {x2 : Int32} {o1 : Option Value} {post : qR}
    (h1 : (c1 : ¬ x2 < (iN 8880)) → gE w 82 99 [some (.ref 148), o1, some (.int 0)] [] (ms M 148 3 ((M 148 3) - 1)) post)
    (b2 : (c1 : x2 < (iN 8880)) → vp_in (x2 + (iN 592)) 9472)
    (b3 : (c1 : x2 < (iN 8880)) → vp_in x2 9472)
    (h4 : (c1 : x2 < (iN 8880)) → gE w 82 58 [some (.ref 148), o1, some (.int (x2 + 1))] [] (ms M 151 x2.toNatClampNeg (M 151 (x2 + (iN 592)).toNatClampNeg)) post) :
    gE w 82 58 [some (.ref 148), o1, some (.int x2)] [] M post := by
  refine ev_il (pc' := 59) (pt_82_58 w) rfl rfl ?_
  refine ev_k (pc' := 62) (pt_82_59 w) rfl ?_
  refine ev_cge (pc' := 65) (pt_82_62 w) rfl (fun c1 => ?_) (fun c1 => ?_)
  · refine ev_al (pc' := 88) (pt_82_87 w) rfl rfl ?_
    refine ev_dup (pc' := 89) (pt_82_88 w) rfl rfl ?_
    refine ev_geti (pc' := 92) (pt_82_89 w) rfl rfl rfl ?_
    refine ev_k (pc' := 93) (pt_82_92 w) rfl ?_
    refine ev_b (pc' := 94) (pt_82_93 w) rfl ?_
    refine ev_put (pc' := 97) (pt_82_94 w) rfl rfl rfl ?_
    refine ev_k (pc' := 98) (pt_82_97 w) rfl ?_
    refine ev_is (pc' := 99) (loc1 := [some (.ref 148), o1, some (.int 0)]) (pt_82_98 w) rfl rfl ?_
    exact (h1 c1)
  · refine ev_al (pc' := 66) (pt_82_65 w) rfl rfl ?_
    refine ev_getr (pc' := 69) (pt_82_66 w) rfl rfl rfl ?_
    refine ev_il (pc' := 70) (pt_82_69 w) rfl rfl ?_
    refine ev_al (pc' := 71) (pt_82_70 w) rfl rfl ?_
    refine ev_getr (pc' := 74) (pt_82_71 w) rfl rfl rfl ?_
    refine ev_il (pc' := 75) (pt_82_74 w) rfl rfl ?_
    refine ev_k (pc' := 78) (pt_82_75 w) rfl ?_
    refine ev_b (pc' := 79) (pt_82_78 w) rfl ?_
    refine ev_ia (pc' := 80) (pt_82_79 w) rfl rfl (b2 c1) ?_
    refine ev_ias (pc' := 81) (pt_82_80 w) rfl rfl (b3 c1) ?_
    refine ev_inc (pc' := 84) (loc1 := [some (.ref 148), o1, some (.int (x2 + 1))]) (pt_82_81 w) rfl rfl rfl ?_
    refine ev_g (pt_82_84 w) ?_
    exact (h4 c1)

theorem wk_82_99 {w : qS} {M : qM} {x2 : Int32} {o1 : Option Value} {post : qR}
    (h1 : (c1 : ¬ x2 < (iN 592)) → gE w 80 0 [some (.ref 148), none, none, none, none, none] [] (ms M 148 3 ((M 148 3) + 1)) (fun r M' => gE w 82 147 [some (.ref 148), o1, some (.int x2)] (r.toList ++ []) M' post))
    (b2 : (c1 : x2 < (iN 592)) → vp_in x2 592)
    (b3 : (c1 : x2 < (iN 592)) → vp_in (((iN 592) * (M 148 3)) + x2) 9472)
    (h4 : (c1 : x2 < (iN 592)) → gE w 82 99 [some (.ref 148), o1, some (.int (x2 + 1))] [] (ms M 151 (((iN 592) * (M 148 3)) + x2).toNatClampNeg (M 150 x2.toNatClampNeg)) post) :
    gE w 82 99 [some (.ref 148), o1, some (.int x2)] [] M post := by
  refine ev_il (pc' := 100) (pt_82_99 w) rfl rfl ?_
  refine ev_k (pc' := 103) (pt_82_100 w) rfl ?_
  refine ev_cge (pc' := 106) (pt_82_103 w) rfl (fun c1 => ?_) (fun c1 => ?_)
  · refine ev_al (pc' := 134) (pt_82_133 w) rfl rfl ?_
    refine ev_dup (pc' := 135) (pt_82_134 w) rfl rfl ?_
    refine ev_geti (pc' := 138) (pt_82_135 w) rfl rfl rfl ?_
    refine ev_k (pc' := 139) (pt_82_138 w) rfl ?_
    refine ev_b (pc' := 140) (pt_82_139 w) rfl ?_
    refine ev_put (pc' := 143) (pt_82_140 w) rfl rfl rfl ?_
    refine ev_al (pc' := 144) (pt_82_143 w) rfl rfl ?_
    exact ev_cal (pc' := 147) (pt_82_144 w) (vs := [.ref 148]) (rest := []) (en := [some (.ref 148), none, none, none, none, none]) rfl rfl rfl rfl rfl rfl rfl (h1 c1)
  · refine ev_al (pc' := 107) (pt_82_106 w) rfl rfl ?_
    refine ev_getr (pc' := 110) (pt_82_107 w) rfl rfl rfl ?_
    refine ev_k (pc' := 113) (pt_82_110 w) rfl ?_
    refine ev_al (pc' := 114) (pt_82_113 w) rfl rfl ?_
    refine ev_geti (pc' := 117) (pt_82_114 w) rfl rfl rfl ?_
    refine ev_b (pc' := 118) (pt_82_117 w) rfl ?_
    refine ev_il (pc' := 119) (pt_82_118 w) rfl rfl ?_
    refine ev_b (pc' := 120) (pt_82_119 w) rfl ?_
    refine ev_al (pc' := 121) (pt_82_120 w) rfl rfl ?_
    refine ev_getr (pc' := 124) (pt_82_121 w) rfl rfl rfl ?_
    refine ev_il (pc' := 125) (pt_82_124 w) rfl rfl ?_
    refine ev_ia (pc' := 126) (pt_82_125 w) rfl rfl (b2 c1) ?_
    refine ev_ias (pc' := 127) (pt_82_126 w) rfl rfl (b3 c1) ?_
    refine ev_inc (pc' := 130) (loc1 := [some (.ref 148), o1, some (.int (x2 + 1))]) (pt_82_127 w) rfl rfl rfl ?_
    refine ev_g (pt_82_130 w) ?_
    exact (h4 c1)

theorem wk_82_147 {w : qS} {M : qM} {o0 o1 o2 : Option Value} {post : qR}
    (h1 : post none M) :
    gE w 82 147 [o0, o1, o2] [] M post := by
  exact ev_rv (pt_82_147 w) h1

-- BoardDeskModel.undo()I
theorem wk_83_0 {w : qS} {M : qM} {post : qR}
    (h1 : (c1 : ¬ (M 148 3) = 0) → gE w 83 21 [some (.ref 148), some (.int 0)] [] (ms M 148 3 ((M 148 3) - 1)) post)
    (h2 : (c1 : (M 148 3) = 0) → post (some (.int (-1))) M) :
    gE w 83 0 [some (.ref 148), none] [] M post := by
  refine ev_al (pc' := 1) (pt_83_0 w) rfl rfl ?_
  refine ev_geti (pc' := 4) (pt_83_1 w) rfl rfl rfl ?_
  refine ev_zne (pc' := 7) (pt_83_4 w) rfl (fun c1 => ?_) (fun c1 => ?_)
  · refine ev_al (pc' := 10) (pt_83_9 w) rfl rfl ?_
    refine ev_dup (pc' := 11) (pt_83_10 w) rfl rfl ?_
    refine ev_geti (pc' := 14) (pt_83_11 w) rfl rfl rfl ?_
    refine ev_k (pc' := 15) (pt_83_14 w) rfl ?_
    refine ev_b (pc' := 16) (pt_83_15 w) rfl ?_
    refine ev_put (pc' := 19) (pt_83_16 w) rfl rfl rfl ?_
    refine ev_k (pc' := 20) (pt_83_19 w) rfl ?_
    refine ev_is (pc' := 21) (loc1 := [some (.ref 148), some (.int 0)]) (pt_83_20 w) rfl rfl ?_
    exact (h1 c1)
  · refine ev_k (pc' := 8) (pt_83_7 w) rfl ?_
    exact ev_ri1 (pt_83_8 w) (h2 c1)

theorem wk_83_21 {w : qS} {M : qM} {x1 : Int32} {post : qR}
    (h1 : (c1 : ¬ x1 < (iN 592)) → gE w 80 0 [some (.ref 148), none, none, none, none, none] [] M (fun r M' => gE w 83 59 [some (.ref 148), some (.int x1)] (r.toList ++ []) M' post))
    (b2 : (c1 : x1 < (iN 592)) → vp_in (((iN 592) * (M 148 3)) + x1) 9472)
    (b3 : (c1 : x1 < (iN 592)) → vp_in x1 592)
    (h4 : (c1 : x1 < (iN 592)) → gE w 83 21 [some (.ref 148), some (.int (x1 + 1))] [] (ms M 149 x1.toNatClampNeg (M 151 (((iN 592) * (M 148 3)) + x1).toNatClampNeg)) post) :
    gE w 83 21 [some (.ref 148), some (.int x1)] [] M post := by
  refine ev_il (pc' := 22) (pt_83_21 w) rfl rfl ?_
  refine ev_k (pc' := 25) (pt_83_22 w) rfl ?_
  refine ev_cge (pc' := 28) (pt_83_25 w) rfl (fun c1 => ?_) (fun c1 => ?_)
  · refine ev_al (pc' := 56) (pt_83_55 w) rfl rfl ?_
    exact ev_cal (pc' := 59) (pt_83_56 w) (vs := [.ref 148]) (rest := []) (en := [some (.ref 148), none, none, none, none, none]) rfl rfl rfl rfl rfl rfl rfl (h1 c1)
  · refine ev_al (pc' := 29) (pt_83_28 w) rfl rfl ?_
    refine ev_getr (pc' := 32) (pt_83_29 w) rfl rfl rfl ?_
    refine ev_il (pc' := 33) (pt_83_32 w) rfl rfl ?_
    refine ev_al (pc' := 34) (pt_83_33 w) rfl rfl ?_
    refine ev_getr (pc' := 37) (pt_83_34 w) rfl rfl rfl ?_
    refine ev_k (pc' := 40) (pt_83_37 w) rfl ?_
    refine ev_al (pc' := 41) (pt_83_40 w) rfl rfl ?_
    refine ev_geti (pc' := 44) (pt_83_41 w) rfl rfl rfl ?_
    refine ev_b (pc' := 45) (pt_83_44 w) rfl ?_
    refine ev_il (pc' := 46) (pt_83_45 w) rfl rfl ?_
    refine ev_b (pc' := 47) (pt_83_46 w) rfl ?_
    refine ev_ia (pc' := 48) (pt_83_47 w) rfl rfl (b2 c1) ?_
    refine ev_ias (pc' := 49) (pt_83_48 w) rfl rfl (b3 c1) ?_
    refine ev_inc (pc' := 52) (loc1 := [some (.ref 148), some (.int (x1 + 1))]) (pt_83_49 w) rfl rfl rfl ?_
    refine ev_g (pt_83_52 w) ?_
    exact (h4 c1)

theorem wk_83_59 {w : qS} {M : qM} {o1 : Option Value} {post : qR}
    (h1 : post (some (.int (M 148 3))) M) :
    gE w 83 59 [some (.ref 148), o1] [] M post := by
  refine ev_al (pc' := 60) (pt_83_59 w) rfl rfl ?_
  refine ev_geti (pc' := 63) (pt_83_60 w) rfl rfl rfl ?_
  exact ev_ri1 (pt_83_63 w) h1

-- BoardDeskModel.isPin(I)Z
theorem wk_84_0 {w : qS} {M : qM} {x1 : Int32} {post : qR}
    (h1 : post (some (.int (if x1 < 0 then 0 else (if x1 < (M 149 0) then 1 else 0 : Int32) : Int32))) M) :
    gE w 84 0 [some (.ref 148), some (.int x1)] [] M post := by
  refine ev_il (pc' := 1) (pt_84_0 w) rfl rfl ?_
  have j1 : ∀ v1 : Int32, v1 = (if x1 < 0 then 0 else (if x1 < (M 149 0) then 1 else 0 : Int32) : Int32) → gE w 84 19 [some (.ref 148), some (.int x1)] [.int v1] M post := by
    intro v1 e2
    subst v1
    exact ev_rz (pt_84_19 w) (z1_ite z1_0 (z1_ite z1_1 z1_0)) h1
  refine ev_zlt (pc' := 4) (pt_84_1 w) rfl (fun c1 => ?_) (fun c1 => ?_)
  · refine ev_k (pc' := 19) (pt_84_18 w) rfl ?_
    exact j1 _ (if_pos c1).symm
  · refine ev_il (pc' := 5) (pt_84_4 w) rfl rfl ?_
    refine ev_al (pc' := 6) (pt_84_5 w) rfl rfl ?_
    refine ev_getr (pc' := 9) (pt_84_6 w) rfl rfl rfl ?_
    refine ev_k (pc' := 10) (pt_84_9 w) rfl ?_
    refine ev_iac (j := 0) (pc' := 11) (pt_84_10 w) rfl rfl (vp_lit (by decide +kernel)) (by decide +kernel) ?_
    refine ev_cge (pc' := 14) (pt_84_11 w) rfl (fun c2 => ?_) (fun c2 => ?_)
    · refine ev_k (pc' := 19) (pt_84_18 w) rfl ?_
      exact j1 _ ((if_neg c1).trans (if_neg c2)).symm
    · refine ev_k (pc' := 15) (pt_84_14 w) rfl ?_
      refine ev_g (pt_84_15 w) ?_
      exact j1 _ ((if_neg c1).trans (if_pos c2)).symm

-- BoardDeskModel.isCell(I)Z
theorem wk_85_0 {w : qS} {M : qM} {x0 : Int32} {post : qR}
    (h1 : post (some (.int (if x0 < 0 then 0 else (if x0 < (iN 240) then 1 else 0 : Int32) : Int32))) M) :
    gE w 85 0 [some (.int x0)] [] M post := by
  refine ev_il (pc' := 1) (pt_85_0 w) rfl rfl ?_
  have j1 : ∀ v1 : Int32, v1 = (if x0 < 0 then 0 else (if x0 < (iN 240) then 1 else 0 : Int32) : Int32) → gE w 85 16 [some (.int x0)] [.int v1] M post := by
    intro v1 e2
    subst v1
    exact ev_rz (pt_85_16 w) (z1_ite z1_0 (z1_ite z1_1 z1_0)) h1
  refine ev_zlt (pc' := 4) (pt_85_1 w) rfl (fun c1 => ?_) (fun c1 => ?_)
  · refine ev_k (pc' := 16) (pt_85_15 w) rfl ?_
    exact j1 _ (if_pos c1).symm
  · refine ev_il (pc' := 5) (pt_85_4 w) rfl rfl ?_
    refine ev_k (pc' := 8) (pt_85_5 w) rfl ?_
    refine ev_cge (pc' := 11) (pt_85_8 w) rfl (fun c2 => ?_) (fun c2 => ?_)
    · refine ev_k (pc' := 16) (pt_85_15 w) rfl ?_
      exact j1 _ ((if_neg c1).trans (if_neg c2)).symm
    · refine ev_k (pc' := 12) (pt_85_11 w) rfl ?_
      refine ev_g (pt_85_12 w) ?_
      exact j1 _ ((if_neg c1).trans (if_pos c2)).symm

-- BoardDeskModel.pin(I)I
theorem wk_86_0 {w : qS} {M : qM} {x1 : Int32} {post : qR}
    (h1 : (c1 : x1 < 0) → post (some (.int (-1))) M)
    (h2 : (c1 : ¬ x1 < 0) → (c2 : ¬ (iN 3) < x1) → (c3 : ¬ (M 149 0) = (iN 16)) → gE w 81 0 [some (.ref 148), none] [] M (fun r M' => gE w 86 29 [some (.ref 148), some (.int x1)] (r.toList ++ []) M' post))
    (h3 : (c1 : ¬ x1 < 0) → (c2 : ¬ (iN 3) < x1) → (c3 : (M 149 0) = (iN 16)) → post (some (.int (-2))) M)
    (h4 : (c1 : ¬ x1 < 0) → (c2 : (iN 3) < x1) → post (some (.int (-1))) M) :
    gE w 86 0 [some (.ref 148), some (.int x1)] [] M post := by
  refine ev_il (pc' := 1) (pt_86_0 w) rfl rfl ?_
  refine ev_zlt (pc' := 4) (pt_86_1 w) rfl (fun c1 => ?_) (fun c1 => ?_)
  · refine ev_k (pc' := 10) (pt_86_9 w) rfl ?_
    exact ev_ri1 (pt_86_10 w) (h1 c1)
  · refine ev_il (pc' := 5) (pt_86_4 w) rfl rfl ?_
    refine ev_k (pc' := 6) (pt_86_5 w) rfl ?_
    refine ev_cle (pc' := 9) (pt_86_6 w) rfl (fun c2 => ?_) (fun c2 => ?_)
    · refine ev_al (pc' := 12) (pt_86_11 w) rfl rfl ?_
      refine ev_getr (pc' := 15) (pt_86_12 w) rfl rfl rfl ?_
      refine ev_k (pc' := 16) (pt_86_15 w) rfl ?_
      refine ev_iac (j := 0) (pc' := 17) (pt_86_16 w) rfl rfl (vp_lit (by decide +kernel)) (by decide +kernel) ?_
      refine ev_k (pc' := 19) (pt_86_17 w) rfl ?_
      refine ev_cne (pc' := 22) (pt_86_19 w) rfl (fun c3 => ?_) (fun c3 => ?_)
      · refine ev_al (pc' := 26) (pt_86_25 w) rfl rfl ?_
        exact ev_cal (pc' := 29) (pt_86_26 w) (vs := [.ref 148]) (rest := []) (en := [some (.ref 148), none]) rfl rfl rfl rfl rfl rfl rfl (h2 c1 c2 c3)
      · refine ev_k (pc' := 24) (pt_86_22 w) rfl ?_
        exact ev_ri1 (pt_86_24 w) (h3 c1 c2 c3)
    · refine ev_k (pc' := 10) (pt_86_9 w) rfl ?_
      exact ev_ri1 (pt_86_10 w) (h4 c1 c2)

theorem wk_86_29 {w : qS} {M : qM} {x1 : Int32} {post : qR}
    (b1 : vp_in ((iN 16) + (M 149 0)) 592)
    (h2 : gE w 82 0 [some (.ref 148), none, none] [] (ms (ms M 149 ((iN 16) + (M 149 0)).toNatClampNeg x1) 149 0 (((ms M 149 ((iN 16) + (M 149 0)).toNatClampNeg x1) 149 0) + 1)) (fun r M' => gE w 86 58 [some (.ref 148), some (.int x1)] (r.toList ++ []) M' post)) :
    gE w 86 29 [some (.ref 148), some (.int x1)] [] M post := by
  refine ev_al (pc' := 30) (pt_86_29 w) rfl rfl ?_
  refine ev_getr (pc' := 33) (pt_86_30 w) rfl rfl rfl ?_
  refine ev_k (pc' := 35) (pt_86_33 w) rfl ?_
  refine ev_al (pc' := 36) (pt_86_35 w) rfl rfl ?_
  refine ev_getr (pc' := 39) (pt_86_36 w) rfl rfl rfl ?_
  refine ev_k (pc' := 40) (pt_86_39 w) rfl ?_
  refine ev_iac (j := 0) (pc' := 41) (pt_86_40 w) rfl rfl (vp_lit (by decide +kernel)) (by decide +kernel) ?_
  refine ev_b (pc' := 42) (pt_86_41 w) rfl ?_
  refine ev_il (pc' := 43) (pt_86_42 w) rfl rfl ?_
  refine ev_ias (pc' := 44) (pt_86_43 w) rfl rfl b1 ?_
  refine ev_al (pc' := 45) (pt_86_44 w) rfl rfl ?_
  refine ev_getr (pc' := 48) (pt_86_45 w) rfl rfl rfl ?_
  refine ev_k (pc' := 49) (pt_86_48 w) rfl ?_
  refine ev_dup2 (pc' := 50) (pt_86_49 w) rfl rfl rfl ?_
  refine ev_iac (j := 0) (pc' := 51) (pt_86_50 w) rfl rfl (vp_lit (by decide +kernel)) (by decide +kernel) ?_
  refine ev_k (pc' := 52) (pt_86_51 w) rfl ?_
  refine ev_b (pc' := 53) (pt_86_52 w) rfl ?_
  refine ev_iasc (j := 0) (pc' := 54) (pt_86_53 w) rfl rfl (vp_lit (by decide +kernel)) (by decide +kernel) ?_
  refine ev_al (pc' := 55) (pt_86_54 w) rfl rfl ?_
  exact ev_cal (pc' := 58) (pt_86_55 w) (vs := [.ref 148]) (rest := []) (en := [some (.ref 148), none, none]) rfl rfl rfl rfl rfl rfl rfl h2

theorem wk_86_58 {w : qS} {M : qM} {o1 : Option Value} {post : qR}
    (h1 : post (some (.int ((M 149 0) - 1))) M) :
    gE w 86 58 [some (.ref 148), o1] [] M post := by
  refine ev_al (pc' := 59) (pt_86_58 w) rfl rfl ?_
  refine ev_getr (pc' := 62) (pt_86_59 w) rfl rfl rfl ?_
  refine ev_k (pc' := 63) (pt_86_62 w) rfl ?_
  refine ev_iac (j := 0) (pc' := 64) (pt_86_63 w) rfl rfl (vp_lit (by decide +kernel)) (by decide +kernel) ?_
  refine ev_k (pc' := 65) (pt_86_64 w) rfl ?_
  refine ev_b (pc' := 66) (pt_86_65 w) rfl ?_
  exact ev_ri1 (pt_86_66 w) h1

-- BoardDeskModel.join(II)I
theorem wk_87_0 {w : qS} {M : qM} {x1 x2 : Int32} {r1 : Int32} {r2 : Int32} {post : qR}
    (k1 : gE w 84 0 [some (.ref 148), some (.int x1)] [] M (qv1 M r1))
    (h2 : (c1 : r1 = 0) → post (some (.int (-1))) M)
    (k3 : (c1 : ¬ r1 = 0) → gE w 84 0 [some (.ref 148), some (.int x2)] [] M (qv1 M r2))
    (h4 : (c1 : ¬ r1 = 0) → (c2 : r2 = 0) → post (some (.int (-1))) M)
    (h5 : (c1 : ¬ r1 = 0) → (c2 : ¬ r2 = 0) → (c3 : ¬ x1 = x2) → (c4 : ¬ (M 149 1) = (iN 24)) → gE w 81 0 [some (.ref 148), none] [] M (fun r M' => gE w 87 41 [some (.ref 148), some (.int x1), some (.int x2)] (r.toList ++ []) M' post))
    (h6 : (c1 : ¬ r1 = 0) → (c2 : ¬ r2 = 0) → (c3 : ¬ x1 = x2) → (c4 : (M 149 1) = (iN 24)) → post (some (.int (-2))) M)
    (h7 : (c1 : ¬ r1 = 0) → (c2 : ¬ r2 = 0) → (c3 : x1 = x2) → post (some (.int (-1))) M) :
    gE w 87 0 [some (.ref 148), some (.int x1), some (.int x2)] [] M post := by
  refine ev_al (pc' := 1) (pt_87_0 w) rfl rfl ?_
  refine ev_il (pc' := 2) (pt_87_1 w) rfl rfl ?_
  refine ev_cal1 (pc' := 5) (pt_87_2 w) (vs := [.ref 148, .int x1]) (rest := []) (en := [some (.ref 148), some (.int x1)]) rfl rfl rfl rfl rfl rfl rfl k1 ?_
  refine ev_zeq (pc' := 8) (pt_87_5 w) rfl (fun c1 => ?_) (fun c1 => ?_)
  · refine ev_k (pc' := 22) (pt_87_21 w) rfl ?_
    exact ev_ri1 (pt_87_22 w) (h2 c1)
  · refine ev_al (pc' := 9) (pt_87_8 w) rfl rfl ?_
    refine ev_il (pc' := 10) (pt_87_9 w) rfl rfl ?_
    refine ev_cal1 (pc' := 13) (pt_87_10 w) (vs := [.ref 148, .int x2]) (rest := []) (en := [some (.ref 148), some (.int x2)]) rfl rfl rfl rfl rfl rfl rfl (k3 c1) ?_
    refine ev_zeq (pc' := 16) (pt_87_13 w) rfl (fun c2 => ?_) (fun c2 => ?_)
    · refine ev_k (pc' := 22) (pt_87_21 w) rfl ?_
      exact ev_ri1 (pt_87_22 w) (h4 c1 c2)
    · refine ev_il (pc' := 17) (pt_87_16 w) rfl rfl ?_
      refine ev_il (pc' := 18) (pt_87_17 w) rfl rfl ?_
      refine ev_cne (pc' := 21) (pt_87_18 w) rfl (fun c3 => ?_) (fun c3 => ?_)
      · refine ev_al (pc' := 24) (pt_87_23 w) rfl rfl ?_
        refine ev_getr (pc' := 27) (pt_87_24 w) rfl rfl rfl ?_
        refine ev_k (pc' := 28) (pt_87_27 w) rfl ?_
        refine ev_iac (j := 1) (pc' := 29) (pt_87_28 w) rfl rfl (vp_lit (by decide +kernel)) (by decide +kernel) ?_
        refine ev_k (pc' := 31) (pt_87_29 w) rfl ?_
        refine ev_cne (pc' := 34) (pt_87_31 w) rfl (fun c4 => ?_) (fun c4 => ?_)
        · refine ev_al (pc' := 38) (pt_87_37 w) rfl rfl ?_
          exact ev_cal (pc' := 41) (pt_87_38 w) (vs := [.ref 148]) (rest := []) (en := [some (.ref 148), none]) rfl rfl rfl rfl rfl rfl rfl (h5 c1 c2 c3 c4)
        · refine ev_k (pc' := 36) (pt_87_34 w) rfl ?_
          exact ev_ri1 (pt_87_36 w) (h6 c1 c2 c3 c4)
      · refine ev_k (pc' := 22) (pt_87_21 w) rfl ?_
        exact ev_ri1 (pt_87_22 w) (h7 c1 c2 c3)

theorem wk_87_41 {w : qS} {M : qM} {x1 x2 : Int32} {post : qR}
    (b1 : vp_in ((iN 64) + ((iN 2) * (M 149 1))) 592)
    (b2 : vp_in (((iN 64) + ((iN 2) * ((ms M 149 ((iN 64) + ((iN 2) * (M 149 1))).toNatClampNeg x1) 149 1))) + 1) 592)
    (h3 : gE w 82 0 [some (.ref 148), none, none] [] (ms (ms (ms M 149 ((iN 64) + ((iN 2) * (M 149 1))).toNatClampNeg x1) 149 (((iN 64) + ((iN 2) * ((ms M 149 ((iN 64) + ((iN 2) * (M 149 1))).toNatClampNeg x1) 149 1))) + 1).toNatClampNeg x2) 149 1 (((ms (ms M 149 ((iN 64) + ((iN 2) * (M 149 1))).toNatClampNeg x1) 149 (((iN 64) + ((iN 2) * ((ms M 149 ((iN 64) + ((iN 2) * (M 149 1))).toNatClampNeg x1) 149 1))) + 1).toNatClampNeg x2) 149 1) + 1)) (fun r M' => gE w 87 91 [some (.ref 148), some (.int x1), some (.int x2)] (r.toList ++ []) M' post)) :
    gE w 87 41 [some (.ref 148), some (.int x1), some (.int x2)] [] M post := by
  refine ev_al (pc' := 42) (pt_87_41 w) rfl rfl ?_
  refine ev_getr (pc' := 45) (pt_87_42 w) rfl rfl rfl ?_
  refine ev_k (pc' := 47) (pt_87_45 w) rfl ?_
  refine ev_k (pc' := 48) (pt_87_47 w) rfl ?_
  refine ev_al (pc' := 49) (pt_87_48 w) rfl rfl ?_
  refine ev_getr (pc' := 52) (pt_87_49 w) rfl rfl rfl ?_
  refine ev_k (pc' := 53) (pt_87_52 w) rfl ?_
  refine ev_iac (j := 1) (pc' := 54) (pt_87_53 w) rfl rfl (vp_lit (by decide +kernel)) (by decide +kernel) ?_
  refine ev_b (pc' := 55) (pt_87_54 w) rfl ?_
  refine ev_b (pc' := 56) (pt_87_55 w) rfl ?_
  refine ev_il (pc' := 57) (pt_87_56 w) rfl rfl ?_
  refine ev_ias (pc' := 58) (pt_87_57 w) rfl rfl b1 ?_
  refine ev_al (pc' := 59) (pt_87_58 w) rfl rfl ?_
  refine ev_getr (pc' := 62) (pt_87_59 w) rfl rfl rfl ?_
  refine ev_k (pc' := 64) (pt_87_62 w) rfl ?_
  refine ev_k (pc' := 65) (pt_87_64 w) rfl ?_
  refine ev_al (pc' := 66) (pt_87_65 w) rfl rfl ?_
  refine ev_getr (pc' := 69) (pt_87_66 w) rfl rfl rfl ?_
  refine ev_k (pc' := 70) (pt_87_69 w) rfl ?_
  refine ev_iac (j := 1) (pc' := 71) (pt_87_70 w) rfl rfl (vp_lit (by decide +kernel)) (by decide +kernel) ?_
  refine ev_b (pc' := 72) (pt_87_71 w) rfl ?_
  refine ev_b (pc' := 73) (pt_87_72 w) rfl ?_
  refine ev_k (pc' := 74) (pt_87_73 w) rfl ?_
  refine ev_b (pc' := 75) (pt_87_74 w) rfl ?_
  refine ev_il (pc' := 76) (pt_87_75 w) rfl rfl ?_
  refine ev_ias (pc' := 77) (pt_87_76 w) rfl rfl b2 ?_
  refine ev_al (pc' := 78) (pt_87_77 w) rfl rfl ?_
  refine ev_getr (pc' := 81) (pt_87_78 w) rfl rfl rfl ?_
  refine ev_k (pc' := 82) (pt_87_81 w) rfl ?_
  refine ev_dup2 (pc' := 83) (pt_87_82 w) rfl rfl rfl ?_
  refine ev_iac (j := 1) (pc' := 84) (pt_87_83 w) rfl rfl (vp_lit (by decide +kernel)) (by decide +kernel) ?_
  refine ev_k (pc' := 85) (pt_87_84 w) rfl ?_
  refine ev_b (pc' := 86) (pt_87_85 w) rfl ?_
  refine ev_iasc (j := 1) (pc' := 87) (pt_87_86 w) rfl rfl (vp_lit (by decide +kernel)) (by decide +kernel) ?_
  refine ev_al (pc' := 88) (pt_87_87 w) rfl rfl ?_
  exact ev_cal (pc' := 91) (pt_87_88 w) (vs := [.ref 148]) (rest := []) (en := [some (.ref 148), none, none]) rfl rfl rfl rfl rfl rfl rfl h3

theorem wk_87_91 {w : qS} {M : qM} {o1 o2 : Option Value} {post : qR}
    (h1 : post (some (.int ((M 149 1) - 1))) M) :
    gE w 87 91 [some (.ref 148), o1, o2] [] M post := by
  refine ev_al (pc' := 92) (pt_87_91 w) rfl rfl ?_
  refine ev_getr (pc' := 95) (pt_87_92 w) rfl rfl rfl ?_
  refine ev_k (pc' := 96) (pt_87_95 w) rfl ?_
  refine ev_iac (j := 1) (pc' := 97) (pt_87_96 w) rfl rfl (vp_lit (by decide +kernel)) (by decide +kernel) ?_
  refine ev_k (pc' := 98) (pt_87_97 w) rfl ?_
  refine ev_b (pc' := 99) (pt_87_98 w) rfl ?_
  exact ev_ri1 (pt_87_99 w) h1

-- BoardDeskModel.part(I)I
theorem wk_88_0 {w : qS} {M : qM} {x1 : Int32} {post : qR}
    (h1 : (c1 : x1 < 0) → post (some (.int (-1))) M)
    (h2 : (c1 : ¬ x1 < 0) → (c2 : x1 < (M 149 1)) → gE w 81 0 [some (.ref 148), none] [] M (fun r M' => gE w 88 20 [some (.ref 148), some (.int x1), none] (r.toList ++ []) M' post))
    (h3 : (c1 : ¬ x1 < 0) → (c2 : ¬ x1 < (M 149 1)) → post (some (.int (-1))) M) :
    gE w 88 0 [some (.ref 148), some (.int x1), none] [] M post := by
  refine ev_il (pc' := 1) (pt_88_0 w) rfl rfl ?_
  refine ev_zlt (pc' := 4) (pt_88_1 w) rfl (fun c1 => ?_) (fun c1 => ?_)
  · refine ev_k (pc' := 15) (pt_88_14 w) rfl ?_
    exact ev_ri1 (pt_88_15 w) (h1 c1)
  · refine ev_il (pc' := 5) (pt_88_4 w) rfl rfl ?_
    refine ev_al (pc' := 6) (pt_88_5 w) rfl rfl ?_
    refine ev_getr (pc' := 9) (pt_88_6 w) rfl rfl rfl ?_
    refine ev_k (pc' := 10) (pt_88_9 w) rfl ?_
    refine ev_iac (j := 1) (pc' := 11) (pt_88_10 w) rfl rfl (vp_lit (by decide +kernel)) (by decide +kernel) ?_
    refine ev_clt (pc' := 14) (pt_88_11 w) rfl (fun c2 => ?_) (fun c2 => ?_)
    · refine ev_al (pc' := 17) (pt_88_16 w) rfl rfl ?_
      exact ev_cal (pc' := 20) (pt_88_17 w) (vs := [.ref 148]) (rest := []) (en := [some (.ref 148), none]) rfl rfl rfl rfl rfl rfl rfl (h2 c1 c2)
    · refine ev_k (pc' := 15) (pt_88_14 w) rfl ?_
      exact ev_ri1 (pt_88_15 w) (h3 c1 c2)

theorem wk_88_20 {w : qS} {M : qM} {x1 : Int32} {o2 : Option Value} {post : qR}
    (h1 : gE w 88 34 [some (.ref 148), some (.int x1), some (.int ((iN 2) * x1))] [] (ms M 149 1 ((M 149 1) - 1)) post) :
    gE w 88 20 [some (.ref 148), some (.int x1), o2] [] M post := by
  refine ev_al (pc' := 21) (pt_88_20 w) rfl rfl ?_
  refine ev_getr (pc' := 24) (pt_88_21 w) rfl rfl rfl ?_
  refine ev_k (pc' := 25) (pt_88_24 w) rfl ?_
  refine ev_dup2 (pc' := 26) (pt_88_25 w) rfl rfl rfl ?_
  refine ev_iac (j := 1) (pc' := 27) (pt_88_26 w) rfl rfl (vp_lit (by decide +kernel)) (by decide +kernel) ?_
  refine ev_k (pc' := 28) (pt_88_27 w) rfl ?_
  refine ev_b (pc' := 29) (pt_88_28 w) rfl ?_
  refine ev_iasc (j := 1) (pc' := 30) (pt_88_29 w) rfl rfl (vp_lit (by decide +kernel)) (by decide +kernel) ?_
  refine ev_k (pc' := 31) (pt_88_30 w) rfl ?_
  refine ev_il (pc' := 32) (pt_88_31 w) rfl rfl ?_
  refine ev_b (pc' := 33) (pt_88_32 w) rfl ?_
  refine ev_is (pc' := 34) (loc1 := [some (.ref 148), some (.int x1), some (.int ((iN 2) * x1))]) (pt_88_33 w) rfl rfl ?_
  exact h1

theorem wk_88_34 {w : qS} {M : qM} {x2 : Int32} {o1 : Option Value} {post : qR}
    (b1 : (c1 : ¬ x2 < ((iN 2) * (M 149 1))) → vp_in ((iN 64) + ((iN 2) * (M 149 1))) 592)
    (b2 : (c1 : ¬ x2 < ((iN 2) * (M 149 1))) → vp_in (((iN 64) + ((iN 2) * ((ms M 149 ((iN 64) + ((iN 2) * (M 149 1))).toNatClampNeg 0) 149 1))) + 1) 592)
    (h3 : (c1 : ¬ x2 < ((iN 2) * (M 149 1))) → gE w 82 0 [some (.ref 148), none, none] [] (ms (ms M 149 ((iN 64) + ((iN 2) * (M 149 1))).toNatClampNeg 0) 149 (((iN 64) + ((iN 2) * ((ms M 149 ((iN 64) + ((iN 2) * (M 149 1))).toNatClampNeg 0) 149 1))) + 1).toNatClampNeg 0) (fun r M' => gE w 88 112 [some (.ref 148), o1, some (.int x2)] (r.toList ++ []) M' post))
    (b4 : (c1 : x2 < ((iN 2) * (M 149 1))) → vp_in (((iN 64) + x2) + (iN 2)) 592)
    (b5 : (c1 : x2 < ((iN 2) * (M 149 1))) → vp_in ((iN 64) + x2) 592)
    (h6 : (c1 : x2 < ((iN 2) * (M 149 1))) → gE w 88 34 [some (.ref 148), o1, some (.int (x2 + 1))] [] (ms M 149 ((iN 64) + x2).toNatClampNeg (M 149 (((iN 64) + x2) + (iN 2)).toNatClampNeg)) post) :
    gE w 88 34 [some (.ref 148), o1, some (.int x2)] [] M post := by
  refine ev_il (pc' := 35) (pt_88_34 w) rfl rfl ?_
  refine ev_k (pc' := 36) (pt_88_35 w) rfl ?_
  refine ev_al (pc' := 37) (pt_88_36 w) rfl rfl ?_
  refine ev_getr (pc' := 40) (pt_88_37 w) rfl rfl rfl ?_
  refine ev_k (pc' := 41) (pt_88_40 w) rfl ?_
  refine ev_iac (j := 1) (pc' := 42) (pt_88_41 w) rfl rfl (vp_lit (by decide +kernel)) (by decide +kernel) ?_
  refine ev_b (pc' := 43) (pt_88_42 w) rfl ?_
  refine ev_cge (pc' := 46) (pt_88_43 w) rfl (fun c1 => ?_) (fun c1 => ?_)
  · refine ev_al (pc' := 73) (pt_88_72 w) rfl rfl ?_
    refine ev_getr (pc' := 76) (pt_88_73 w) rfl rfl rfl ?_
    refine ev_k (pc' := 78) (pt_88_76 w) rfl ?_
    refine ev_k (pc' := 79) (pt_88_78 w) rfl ?_
    refine ev_al (pc' := 80) (pt_88_79 w) rfl rfl ?_
    refine ev_getr (pc' := 83) (pt_88_80 w) rfl rfl rfl ?_
    refine ev_k (pc' := 84) (pt_88_83 w) rfl ?_
    refine ev_iac (j := 1) (pc' := 85) (pt_88_84 w) rfl rfl (vp_lit (by decide +kernel)) (by decide +kernel) ?_
    refine ev_b (pc' := 86) (pt_88_85 w) rfl ?_
    refine ev_b (pc' := 87) (pt_88_86 w) rfl ?_
    refine ev_k (pc' := 88) (pt_88_87 w) rfl ?_
    refine ev_ias (pc' := 89) (pt_88_88 w) rfl rfl (b1 c1) ?_
    refine ev_al (pc' := 90) (pt_88_89 w) rfl rfl ?_
    refine ev_getr (pc' := 93) (pt_88_90 w) rfl rfl rfl ?_
    refine ev_k (pc' := 95) (pt_88_93 w) rfl ?_
    refine ev_k (pc' := 96) (pt_88_95 w) rfl ?_
    refine ev_al (pc' := 97) (pt_88_96 w) rfl rfl ?_
    refine ev_getr (pc' := 100) (pt_88_97 w) rfl rfl rfl ?_
    refine ev_k (pc' := 101) (pt_88_100 w) rfl ?_
    refine ev_iac (j := 1) (pc' := 102) (pt_88_101 w) rfl rfl (vp_lit (by decide +kernel)) (by decide +kernel) ?_
    refine ev_b (pc' := 103) (pt_88_102 w) rfl ?_
    refine ev_b (pc' := 104) (pt_88_103 w) rfl ?_
    refine ev_k (pc' := 105) (pt_88_104 w) rfl ?_
    refine ev_b (pc' := 106) (pt_88_105 w) rfl ?_
    refine ev_k (pc' := 107) (pt_88_106 w) rfl ?_
    refine ev_ias (pc' := 108) (pt_88_107 w) rfl rfl (b2 c1) ?_
    refine ev_al (pc' := 109) (pt_88_108 w) rfl rfl ?_
    exact ev_cal (pc' := 112) (pt_88_109 w) (vs := [.ref 148]) (rest := []) (en := [some (.ref 148), none, none]) rfl rfl rfl rfl rfl rfl rfl (h3 c1)
  · refine ev_al (pc' := 47) (pt_88_46 w) rfl rfl ?_
    refine ev_getr (pc' := 50) (pt_88_47 w) rfl rfl rfl ?_
    refine ev_k (pc' := 52) (pt_88_50 w) rfl ?_
    refine ev_il (pc' := 53) (pt_88_52 w) rfl rfl ?_
    refine ev_b (pc' := 54) (pt_88_53 w) rfl ?_
    refine ev_al (pc' := 55) (pt_88_54 w) rfl rfl ?_
    refine ev_getr (pc' := 58) (pt_88_55 w) rfl rfl rfl ?_
    refine ev_k (pc' := 60) (pt_88_58 w) rfl ?_
    refine ev_il (pc' := 61) (pt_88_60 w) rfl rfl ?_
    refine ev_b (pc' := 62) (pt_88_61 w) rfl ?_
    refine ev_k (pc' := 63) (pt_88_62 w) rfl ?_
    refine ev_b (pc' := 64) (pt_88_63 w) rfl ?_
    refine ev_ia (pc' := 65) (pt_88_64 w) rfl rfl (b4 c1) ?_
    refine ev_ias (pc' := 66) (pt_88_65 w) rfl rfl (b5 c1) ?_
    refine ev_inc (pc' := 69) (loc1 := [some (.ref 148), o1, some (.int (x2 + 1))]) (pt_88_66 w) rfl rfl rfl ?_
    refine ev_g (pt_88_69 w) ?_
    exact (h6 c1)

theorem wk_88_112 {w : qS} {M : qM} {o1 o2 : Option Value} {post : qR}
    (h1 : post (some (.int (M 149 1))) M) :
    gE w 88 112 [some (.ref 148), o1, o2] [] M post := by
  refine ev_al (pc' := 113) (pt_88_112 w) rfl rfl ?_
  refine ev_getr (pc' := 116) (pt_88_113 w) rfl rfl rfl ?_
  refine ev_k (pc' := 117) (pt_88_116 w) rfl ?_
  refine ev_iac (j := 1) (pc' := 118) (pt_88_117 w) rfl rfl (vp_lit (by decide +kernel)) (by decide +kernel) ?_
  exact ev_ri1 (pt_88_118 w) h1

-- BoardDeskModel.net(I)I
theorem wk_89_0 {w : qS} {M : qM} {x1 : Int32} {r1 : Int32} {post : qR}
    (k1 : gE w 84 0 [some (.ref 148), some (.int x1)] [] M (qv1 M r1))
    (h2 : post (some (.int (if r1 = 0 then (-1) else (M 152 x1.toNatClampNeg) : Int32))) M)
    (b3 : (c1 : ¬ r1 = 0) → vp_in x1 16) :
    gE w 89 0 [some (.ref 148), some (.int x1)] [] M post := by
  refine ev_al (pc' := 1) (pt_89_0 w) rfl rfl ?_
  refine ev_il (pc' := 2) (pt_89_1 w) rfl rfl ?_
  refine ev_cal1 (pc' := 5) (pt_89_2 w) (vs := [.ref 148, .int x1]) (rest := []) (en := [some (.ref 148), some (.int x1)]) rfl rfl rfl rfl rfl rfl rfl k1 ?_
  have j1 : ∀ v1 : Int32, v1 = (if r1 = 0 then (-1) else (M 152 x1.toNatClampNeg) : Int32) → gE w 89 18 [some (.ref 148), some (.int x1)] [.int v1] M post := by
    intro v1 e2
    subst v1
    exact ev_ri1 (pt_89_18 w) h2
  refine ev_zeq (pc' := 8) (pt_89_5 w) rfl (fun c1 => ?_) (fun c1 => ?_)
  · refine ev_k (pc' := 18) (pt_89_17 w) rfl ?_
    exact j1 _ (if_pos c1).symm
  · refine ev_al (pc' := 9) (pt_89_8 w) rfl rfl ?_
    refine ev_getr (pc' := 12) (pt_89_9 w) rfl rfl rfl ?_
    refine ev_il (pc' := 13) (pt_89_12 w) rfl rfl ?_
    refine ev_ia (pc' := 14) (pt_89_13 w) rfl rfl (b3 c1) ?_
    refine ev_g (pt_89_14 w) ?_
    exact j1 _ (if_neg c1).symm

-- BoardDeskModel.count(II)I
theorem wk_90_0 {w : qS} {M : qM} {x1 x2 : Int32} {post : qR}
    (h1 : gE w 90 5 [some (.ref 148), some (.int x1), some (.int x2), some (.int 0), some (.int 0)] [] M post) :
    gE w 90 0 [some (.ref 148), some (.int x1), some (.int x2), none, none] [] M post := by
  refine ev_k (pc' := 1) (pt_90_0 w) rfl ?_
  refine ev_is (pc' := 2) (loc1 := [some (.ref 148), some (.int x1), some (.int x2), some (.int 0), none]) (pt_90_1 w) rfl rfl ?_
  refine ev_k (pc' := 3) (pt_90_2 w) rfl ?_
  refine ev_is (pc' := 5) (loc1 := [some (.ref 148), some (.int x1), some (.int x2), some (.int 0), some (.int 0)]) (pt_90_3 w) rfl rfl ?_
  exact h1

theorem wk_90_5 {w : qS} {M : qM} {x1 x2 x3 x4 : Int32} {post : qR}
    (h1 : (c1 : ¬ x4 < (M 149 0)) → post (some (.int x3)) M)
    (b2 : (c1 : x4 < (M 149 0)) → vp_in x4 16)
    (h3 : (c1 : x4 < (M 149 0)) → gE w 90 5 [some (.ref 148), some (.int x1), some (.int x2), some (.int (if (M 152 x4.toNatClampNeg) = x1 then (if (M 149 ((iN 16) + x4).toNatClampNeg) = x2 then (x3 + 1) else x3 : Int32) else x3 : Int32)), some (.int (x4 + 1))] [] M post)
    (b4 : (c1 : x4 < (M 149 0)) → (c2 : (M 152 x4.toNatClampNeg) = x1) → vp_in ((iN 16) + x4) 592) :
    gE w 90 5 [some (.ref 148), some (.int x1), some (.int x2), some (.int x3), some (.int x4)] [] M post := by
  refine ev_il (pc' := 7) (pt_90_5 w) rfl rfl ?_
  refine ev_al (pc' := 8) (pt_90_7 w) rfl rfl ?_
  refine ev_getr (pc' := 11) (pt_90_8 w) rfl rfl rfl ?_
  refine ev_k (pc' := 12) (pt_90_11 w) rfl ?_
  refine ev_iac (j := 0) (pc' := 13) (pt_90_12 w) rfl rfl (vp_lit (by decide +kernel)) (by decide +kernel) ?_
  refine ev_cge (pc' := 16) (pt_90_13 w) rfl (fun c1 => ?_) (fun c1 => ?_)
  · refine ev_il (pc' := 56) (pt_90_55 w) rfl rfl ?_
    exact ev_ri1 (pt_90_56 w) (h1 c1)
  · refine ev_al (pc' := 17) (pt_90_16 w) rfl rfl ?_
    refine ev_getr (pc' := 20) (pt_90_17 w) rfl rfl rfl ?_
    refine ev_il (pc' := 22) (pt_90_20 w) rfl rfl ?_
    refine ev_ia (pc' := 23) (pt_90_22 w) rfl rfl (b2 c1) ?_
    refine ev_il (pc' := 24) (pt_90_23 w) rfl rfl ?_
    have j1 : ∀ v1 : Int32, v1 = (if (M 152 x4.toNatClampNeg) = x1 then (if (M 149 ((iN 16) + x4).toNatClampNeg) = x2 then (x3 + 1) else x3 : Int32) else x3 : Int32) → gE w 90 48 [some (.ref 148), some (.int x1), some (.int x2), some (.int x3), some (.int x4)] [.int v1] M post := by
      intro v1 e2
      subst v1
      refine ev_is (pc' := 49) (loc1 := [some (.ref 148), some (.int x1), some (.int x2), some (.int (if (M 152 x4.toNatClampNeg) = x1 then (if (M 149 ((iN 16) + x4).toNatClampNeg) = x2 then (x3 + 1) else x3 : Int32) else x3 : Int32)), some (.int x4)]) (pt_90_48 w) rfl rfl ?_
      refine ev_inc (pc' := 52) (loc1 := [some (.ref 148), some (.int x1), some (.int x2), some (.int (if (M 152 x4.toNatClampNeg) = x1 then (if (M 149 ((iN 16) + x4).toNatClampNeg) = x2 then (x3 + 1) else x3 : Int32) else x3 : Int32)), some (.int (x4 + 1))]) (pt_90_49 w) rfl rfl rfl ?_
      refine ev_g (pt_90_52 w) ?_
      exact (h3 c1)
    refine ev_cne (pc' := 27) (pt_90_24 w) rfl (fun c2 => ?_) (fun c2 => ?_)
    · refine ev_il (pc' := 48) (pt_90_47 w) rfl rfl ?_
      exact j1 _ (if_neg c2).symm
    · refine ev_al (pc' := 28) (pt_90_27 w) rfl rfl ?_
      refine ev_getr (pc' := 31) (pt_90_28 w) rfl rfl rfl ?_
      refine ev_k (pc' := 33) (pt_90_31 w) rfl ?_
      refine ev_il (pc' := 35) (pt_90_33 w) rfl rfl ?_
      refine ev_b (pc' := 36) (pt_90_35 w) rfl ?_
      refine ev_ia (pc' := 37) (pt_90_36 w) rfl rfl (b4 c1 c2) ?_
      refine ev_il (pc' := 38) (pt_90_37 w) rfl rfl ?_
      refine ev_cne (pc' := 41) (pt_90_38 w) rfl (fun c3 => ?_) (fun c3 => ?_)
      · refine ev_il (pc' := 48) (pt_90_47 w) rfl rfl ?_
        exact j1 _ ((if_pos c2).trans (if_neg c3)).symm
      · refine ev_il (pc' := 42) (pt_90_41 w) rfl rfl ?_
        refine ev_k (pc' := 43) (pt_90_42 w) rfl ?_
        refine ev_b (pc' := 44) (pt_90_43 w) rfl ?_
        refine ev_g (pt_90_44 w) ?_
        exact j1 _ ((if_pos c2).trans (if_pos c3)).symm

-- BoardDeskModel.fault(II)I
theorem wk_91_0 {w : qS} {M : qM} {x1 x2 : Int32} {post : qR}
    (h1 : (c1 : x2 < 0) → post (some (.int (-1))) M)
    (h2 : (c1 : ¬ x2 < 0) → (c2 : ¬ 1 < x2) → gE w 91 16 [some (.ref 148), some (.int x1), some (.int x2), some (.int 0), some (.int 0), none, none, none, none] [] M post)
    (h3 : (c1 : ¬ x2 < 0) → (c2 : 1 < x2) → post (some (.int (-1))) M) :
    gE w 91 0 [some (.ref 148), some (.int x1), some (.int x2), none, none, none, none, none, none] [] M post := by
  refine ev_il (pc' := 1) (pt_91_0 w) rfl rfl ?_
  refine ev_zlt (pc' := 4) (pt_91_1 w) rfl (fun c1 => ?_) (fun c1 => ?_)
  · refine ev_k (pc' := 10) (pt_91_9 w) rfl ?_
    exact ev_ri1 (pt_91_10 w) (h1 c1)
  · refine ev_il (pc' := 5) (pt_91_4 w) rfl rfl ?_
    refine ev_k (pc' := 6) (pt_91_5 w) rfl ?_
    refine ev_cle (pc' := 9) (pt_91_6 w) rfl (fun c2 => ?_) (fun c2 => ?_)
    · refine ev_k (pc' := 12) (pt_91_11 w) rfl ?_
      refine ev_is (pc' := 13) (loc1 := [some (.ref 148), some (.int x1), some (.int x2), some (.int 0), none, none, none, none, none]) (pt_91_12 w) rfl rfl ?_
      refine ev_k (pc' := 14) (pt_91_13 w) rfl ?_
      refine ev_is (pc' := 16) (loc1 := [some (.ref 148), some (.int x1), some (.int x2), some (.int 0), some (.int 0), none, none, none, none]) (pt_91_14 w) rfl rfl ?_
      exact (h2 c1 c2)
    · refine ev_k (pc' := 10) (pt_91_9 w) rfl ?_
      exact ev_ri1 (pt_91_10 w) (h3 c1 c2)

theorem wk_91_16 {w : qS} {M : qM} {x1 x2 x3 x4 : Int32} {o5 o6 o7 o8 : Option Value} {post : qR}
    (h1 : (c1 : ¬ x4 < (M 149 0)) → post (some (.int (-1))) M)
    (h2 : (c1 : x4 < (M 149 0)) → gE w 91 30 [some (.ref 148), some (.int x1), some (.int x2), some (.int x3), some (.int x4), some (.int 1), o6, o7, o8] [] M post) :
    gE w 91 16 [some (.ref 148), some (.int x1), some (.int x2), some (.int x3), some (.int x4), o5, o6, o7, o8] [] M post := by
  refine ev_il (pc' := 18) (pt_91_16 w) rfl rfl ?_
  refine ev_al (pc' := 19) (pt_91_18 w) rfl rfl ?_
  refine ev_getr (pc' := 22) (pt_91_19 w) rfl rfl rfl ?_
  refine ev_k (pc' := 23) (pt_91_22 w) rfl ?_
  refine ev_iac (j := 0) (pc' := 24) (pt_91_23 w) rfl rfl (vp_lit (by decide +kernel)) (by decide +kernel) ?_
  refine ev_cge (pc' := 27) (pt_91_24 w) rfl (fun c1 => ?_) (fun c1 => ?_)
  · refine ev_k (pc' := 152) (pt_91_151 w) rfl ?_
    exact ev_ri1 (pt_91_152 w) (h1 c1)
  · refine ev_k (pc' := 28) (pt_91_27 w) rfl ?_
    refine ev_is (pc' := 30) (loc1 := [some (.ref 148), some (.int x1), some (.int x2), some (.int x3), some (.int x4), some (.int 1), o6, o7, o8]) (pt_91_28 w) rfl rfl ?_
    exact (h2 c1)

theorem wk_91_30 {w : qS} {M : qM} {x1 x2 x3 x4 x5 : Int32} {o6 o7 o8 : Option Value} {r1 : Int32} {r2 : Int32} {r3 : Int32} {post : qR}
    (h1 : (c1 : (iN 2) < x5) → gE w 91 16 [some (.ref 148), some (.int x1), some (.int x2), some (.int x3), some (.int (x4 + 1)), some (.int x5), o6, o7, o8] [] M post)
    (k2 : (c1 : ¬ (iN 2) < x5) → gE w 90 0 [some (.ref 148), some (.int x4), some (.int 1), none, none] [] M (qv1 M r1))
    (k3 : (c1 : ¬ (iN 2) < x5) → gE w 90 0 [some (.ref 148), some (.int x4), some (.int 0), none, none] [] M (qv1 M r2))
    (h4 : (c1 : ¬ (iN 2) < x5) → (c2 : (if x5 = 1 then (if 1 < r1 then 1 else 0 : Int32) else (if 0 < r2 then (if (r1 + r3) = 0 then 1 else 0 : Int32) else 0 : Int32) : Int32) = 0) → gE w 91 30 [some (.ref 148), some (.int x1), some (.int x2), some (.int (if (if x5 = 1 then (if 1 < r1 then 1 else 0 : Int32) else (if 0 < r2 then (if (r1 + r3) = 0 then 1 else 0 : Int32) else 0 : Int32) : Int32) = 0 then x3 else (x3 + 1) : Int32)), some (.int x4), some (.int (x5 + 1)), some (.int (if 1 < r1 then 1 else 0 : Int32)), some (.int (if 0 < r2 then (if (r1 + r3) = 0 then 1 else 0 : Int32) else 0 : Int32)), some (.int (if x5 = 1 then (if 1 < r1 then 1 else 0 : Int32) else (if 0 < r2 then (if (r1 + r3) = 0 then 1 else 0 : Int32) else 0 : Int32) : Int32))] [] M post)
    (h5 : (c1 : ¬ (iN 2) < x5) → (c2 : ¬ (if x5 = 1 then (if 1 < r1 then 1 else 0 : Int32) else (if 0 < r2 then (if (r1 + r3) = 0 then 1 else 0 : Int32) else 0 : Int32) : Int32) = 0) → (c4 : ¬ x3 = x1) → gE w 91 30 [some (.ref 148), some (.int x1), some (.int x2), some (.int (if (if x5 = 1 then (if 1 < r1 then 1 else 0 : Int32) else (if 0 < r2 then (if (r1 + r3) = 0 then 1 else 0 : Int32) else 0 : Int32) : Int32) = 0 then x3 else (x3 + 1) : Int32)), some (.int x4), some (.int (x5 + 1)), some (.int (if 1 < r1 then 1 else 0 : Int32)), some (.int (if 0 < r2 then (if (r1 + r3) = 0 then 1 else 0 : Int32) else 0 : Int32)), some (.int (if x5 = 1 then (if 1 < r1 then 1 else 0 : Int32) else (if 0 < r2 then (if (r1 + r3) = 0 then 1 else 0 : Int32) else 0 : Int32) : Int32))] [] M post)
    (h6 : (c1 : ¬ (iN 2) < x5) → (c2 : ¬ (if x5 = 1 then (if 1 < r1 then 1 else 0 : Int32) else (if 0 < r2 then (if (r1 + r3) = 0 then 1 else 0 : Int32) else 0 : Int32) : Int32) = 0) → (c4 : x3 = x1) → post (some (.int (if x2 = 0 then x5 else x4 : Int32))) M)
    (k7 : (c1 : ¬ (iN 2) < x5) → (c8 : 0 < r2) → gE w 90 0 [some (.ref 148), some (.int x4), some (.int (iN 3)), none, none] [] M (qv1 M r3)) :
    gE w 91 30 [some (.ref 148), some (.int x1), some (.int x2), some (.int x3), some (.int x4), some (.int x5), o6, o7, o8] [] M post := by
  refine ev_il (pc' := 32) (pt_91_30 w) rfl rfl ?_
  refine ev_k (pc' := 33) (pt_91_32 w) rfl ?_
  refine ev_cgt (pc' := 36) (pt_91_33 w) rfl (fun c1 => ?_) (fun c1 => ?_)
  · refine ev_inc (pc' := 148) (loc1 := [some (.ref 148), some (.int x1), some (.int x2), some (.int x3), some (.int (x4 + 1)), some (.int x5), o6, o7, o8]) (pt_91_145 w) rfl rfl rfl ?_
    refine ev_g (pt_91_148 w) ?_
    exact (h1 c1)
  · refine ev_al (pc' := 37) (pt_91_36 w) rfl rfl ?_
    refine ev_il (pc' := 39) (pt_91_37 w) rfl rfl ?_
    refine ev_k (pc' := 40) (pt_91_39 w) rfl ?_
    refine ev_cal1 (pc' := 43) (pt_91_40 w) (vs := [.ref 148, .int x4, .int 1]) (rest := []) (en := [some (.ref 148), some (.int x4), some (.int 1), none, none]) rfl rfl rfl rfl rfl rfl rfl (k2 c1) ?_
    refine ev_k (pc' := 44) (pt_91_43 w) rfl ?_
    have j1 : ∀ v1 : Int32, v1 = (if 1 < r1 then 1 else 0 : Int32) → gE w 91 52 [some (.ref 148), some (.int x1), some (.int x2), some (.int x3), some (.int x4), some (.int x5), o6, o7, o8] [.int v1] M post := by
      intro v1 e2
      subst v1
      refine ev_is (pc' := 54) (loc1 := [some (.ref 148), some (.int x1), some (.int x2), some (.int x3), some (.int x4), some (.int x5), some (.int (if 1 < r1 then 1 else 0 : Int32)), o7, o8]) (pt_91_52 w) rfl rfl ?_
      refine ev_al (pc' := 55) (pt_91_54 w) rfl rfl ?_
      refine ev_il (pc' := 57) (pt_91_55 w) rfl rfl ?_
      refine ev_k (pc' := 58) (pt_91_57 w) rfl ?_
      refine ev_cal1 (pc' := 61) (pt_91_58 w) (vs := [.ref 148, .int x4, .int 0]) (rest := []) (en := [some (.ref 148), some (.int x4), some (.int 0), none, none]) rfl rfl rfl rfl rfl rfl rfl (k3 c1) ?_
      have j2 : ∀ v3 : Int32, v3 = (if 0 < r2 then (if (r1 + r3) = 0 then 1 else 0 : Int32) else 0 : Int32) → gE w 91 87 [some (.ref 148), some (.int x1), some (.int x2), some (.int x3), some (.int x4), some (.int x5), some (.int (if 1 < r1 then 1 else 0 : Int32)), o7, o8] [.int v3] M post := by
        intro v3 e4
        subst v3
        refine ev_is (pc' := 89) (loc1 := [some (.ref 148), some (.int x1), some (.int x2), some (.int x3), some (.int x4), some (.int x5), some (.int (if 1 < r1 then 1 else 0 : Int32)), some (.int (if 0 < r2 then (if (r1 + r3) = 0 then 1 else 0 : Int32) else 0 : Int32)), o8]) (pt_91_87 w) rfl rfl ?_
        refine ev_il (pc' := 91) (pt_91_89 w) rfl rfl ?_
        refine ev_k (pc' := 92) (pt_91_91 w) rfl ?_
        have j3 : ∀ v5 : Int32, v5 = (if x5 = 1 then (if 1 < r1 then 1 else 0 : Int32) else (if 0 < r2 then (if (r1 + r3) = 0 then 1 else 0 : Int32) else 0 : Int32) : Int32) → gE w 91 102 [some (.ref 148), some (.int x1), some (.int x2), some (.int x3), some (.int x4), some (.int x5), some (.int (if 1 < r1 then 1 else 0 : Int32)), some (.int (if 0 < r2 then (if (r1 + r3) = 0 then 1 else 0 : Int32) else 0 : Int32)), o8] [.int v5] M post := by
          intro v5 e6
          subst v5
          refine ev_is (pc' := 104) (loc1 := [some (.ref 148), some (.int x1), some (.int x2), some (.int x3), some (.int x4), some (.int x5), some (.int (if 1 < r1 then 1 else 0 : Int32)), some (.int (if 0 < r2 then (if (r1 + r3) = 0 then 1 else 0 : Int32) else 0 : Int32)), some (.int (if x5 = 1 then (if 1 < r1 then 1 else 0 : Int32) else (if 0 < r2 then (if (r1 + r3) = 0 then 1 else 0 : Int32) else 0 : Int32) : Int32))]) (pt_91_102 w) rfl rfl ?_
          refine ev_il (pc' := 106) (pt_91_104 w) rfl rfl ?_
          refine ev_zeq (pc' := 109) (pt_91_106 w) rfl (fun c2 => ?_) (fun c2 => ?_)
          · refine ev_il (pc' := 128) (pt_91_126 w) rfl rfl ?_
            have j4 : ∀ v7 : Int32, v7 = (if (if x5 = 1 then (if 1 < r1 then 1 else 0 : Int32) else (if 0 < r2 then (if (r1 + r3) = 0 then 1 else 0 : Int32) else 0 : Int32) : Int32) = 0 then x3 else (x3 + 1) : Int32) → gE w 91 138 [some (.ref 148), some (.int x1), some (.int x2), some (.int x3), some (.int x4), some (.int x5), some (.int (if 1 < r1 then 1 else 0 : Int32)), some (.int (if 0 < r2 then (if (r1 + r3) = 0 then 1 else 0 : Int32) else 0 : Int32)), some (.int (if x5 = 1 then (if 1 < r1 then 1 else 0 : Int32) else (if 0 < r2 then (if (r1 + r3) = 0 then 1 else 0 : Int32) else 0 : Int32) : Int32))] [.int v7] M post := by
              intro v7 e8
              subst v7
              refine ev_is (pc' := 139) (loc1 := [some (.ref 148), some (.int x1), some (.int x2), some (.int (if (if x5 = 1 then (if 1 < r1 then 1 else 0 : Int32) else (if 0 < r2 then (if (r1 + r3) = 0 then 1 else 0 : Int32) else 0 : Int32) : Int32) = 0 then x3 else (x3 + 1) : Int32)), some (.int x4), some (.int x5), some (.int (if 1 < r1 then 1 else 0 : Int32)), some (.int (if 0 < r2 then (if (r1 + r3) = 0 then 1 else 0 : Int32) else 0 : Int32)), some (.int (if x5 = 1 then (if 1 < r1 then 1 else 0 : Int32) else (if 0 < r2 then (if (r1 + r3) = 0 then 1 else 0 : Int32) else 0 : Int32) : Int32))]) (pt_91_138 w) rfl rfl ?_
              refine ev_inc (pc' := 142) (loc1 := [some (.ref 148), some (.int x1), some (.int x2), some (.int (if (if x5 = 1 then (if 1 < r1 then 1 else 0 : Int32) else (if 0 < r2 then (if (r1 + r3) = 0 then 1 else 0 : Int32) else 0 : Int32) : Int32) = 0 then x3 else (x3 + 1) : Int32)), some (.int x4), some (.int (x5 + 1)), some (.int (if 1 < r1 then 1 else 0 : Int32)), some (.int (if 0 < r2 then (if (r1 + r3) = 0 then 1 else 0 : Int32) else 0 : Int32)), some (.int (if x5 = 1 then (if 1 < r1 then 1 else 0 : Int32) else (if 0 < r2 then (if (r1 + r3) = 0 then 1 else 0 : Int32) else 0 : Int32) : Int32))]) (pt_91_139 w) rfl rfl rfl ?_
              refine ev_g (pt_91_142 w) ?_
              exact (h4 c1 c2)
            refine ev_zeq (pc' := 131) (pt_91_128 w) rfl (fun c3 => ?_) (fun c3 => ?_)
            · refine ev_il (pc' := 138) (pt_91_137 w) rfl rfl ?_
              exact j4 _ (if_pos c3).symm
            · refine ev_il (pc' := 132) (pt_91_131 w) rfl rfl ?_
              refine ev_k (pc' := 133) (pt_91_132 w) rfl ?_
              refine ev_b (pc' := 134) (pt_91_133 w) rfl ?_
              refine ev_g (pt_91_134 w) ?_
              exact j4 _ (if_neg c3).symm
          · refine ev_il (pc' := 110) (pt_91_109 w) rfl rfl ?_
            refine ev_il (pc' := 111) (pt_91_110 w) rfl rfl ?_
            refine ev_cne (pc' := 114) (pt_91_111 w) rfl (fun c4 => ?_) (fun c4 => ?_)
            · refine ev_il (pc' := 128) (pt_91_126 w) rfl rfl ?_
              have j5 : ∀ v9 : Int32, v9 = (if (if x5 = 1 then (if 1 < r1 then 1 else 0 : Int32) else (if 0 < r2 then (if (r1 + r3) = 0 then 1 else 0 : Int32) else 0 : Int32) : Int32) = 0 then x3 else (x3 + 1) : Int32) → gE w 91 138 [some (.ref 148), some (.int x1), some (.int x2), some (.int x3), some (.int x4), some (.int x5), some (.int (if 1 < r1 then 1 else 0 : Int32)), some (.int (if 0 < r2 then (if (r1 + r3) = 0 then 1 else 0 : Int32) else 0 : Int32)), some (.int (if x5 = 1 then (if 1 < r1 then 1 else 0 : Int32) else (if 0 < r2 then (if (r1 + r3) = 0 then 1 else 0 : Int32) else 0 : Int32) : Int32))] [.int v9] M post := by
                intro v9 e10
                subst v9
                refine ev_is (pc' := 139) (loc1 := [some (.ref 148), some (.int x1), some (.int x2), some (.int (if (if x5 = 1 then (if 1 < r1 then 1 else 0 : Int32) else (if 0 < r2 then (if (r1 + r3) = 0 then 1 else 0 : Int32) else 0 : Int32) : Int32) = 0 then x3 else (x3 + 1) : Int32)), some (.int x4), some (.int x5), some (.int (if 1 < r1 then 1 else 0 : Int32)), some (.int (if 0 < r2 then (if (r1 + r3) = 0 then 1 else 0 : Int32) else 0 : Int32)), some (.int (if x5 = 1 then (if 1 < r1 then 1 else 0 : Int32) else (if 0 < r2 then (if (r1 + r3) = 0 then 1 else 0 : Int32) else 0 : Int32) : Int32))]) (pt_91_138 w) rfl rfl ?_
                refine ev_inc (pc' := 142) (loc1 := [some (.ref 148), some (.int x1), some (.int x2), some (.int (if (if x5 = 1 then (if 1 < r1 then 1 else 0 : Int32) else (if 0 < r2 then (if (r1 + r3) = 0 then 1 else 0 : Int32) else 0 : Int32) : Int32) = 0 then x3 else (x3 + 1) : Int32)), some (.int x4), some (.int (x5 + 1)), some (.int (if 1 < r1 then 1 else 0 : Int32)), some (.int (if 0 < r2 then (if (r1 + r3) = 0 then 1 else 0 : Int32) else 0 : Int32)), some (.int (if x5 = 1 then (if 1 < r1 then 1 else 0 : Int32) else (if 0 < r2 then (if (r1 + r3) = 0 then 1 else 0 : Int32) else 0 : Int32) : Int32))]) (pt_91_139 w) rfl rfl rfl ?_
                refine ev_g (pt_91_142 w) ?_
                exact (h5 c1 c2 c4)
              refine ev_zeq (pc' := 131) (pt_91_128 w) rfl (fun c5 => ?_) (fun c5 => ?_)
              · refine ev_il (pc' := 138) (pt_91_137 w) rfl rfl ?_
                exact j5 _ (if_pos c5).symm
              · refine ev_il (pc' := 132) (pt_91_131 w) rfl rfl ?_
                refine ev_k (pc' := 133) (pt_91_132 w) rfl ?_
                refine ev_b (pc' := 134) (pt_91_133 w) rfl ?_
                refine ev_g (pt_91_134 w) ?_
                exact j5 _ (if_neg c5).symm
            · refine ev_il (pc' := 115) (pt_91_114 w) rfl rfl ?_
              have j6 : ∀ v11 : Int32, v11 = (if x2 = 0 then x5 else x4 : Int32) → gE w 91 125 [some (.ref 148), some (.int x1), some (.int x2), some (.int x3), some (.int x4), some (.int x5), some (.int (if 1 < r1 then 1 else 0 : Int32)), some (.int (if 0 < r2 then (if (r1 + r3) = 0 then 1 else 0 : Int32) else 0 : Int32)), some (.int (if x5 = 1 then (if 1 < r1 then 1 else 0 : Int32) else (if 0 < r2 then (if (r1 + r3) = 0 then 1 else 0 : Int32) else 0 : Int32) : Int32))] [.int v11] M post := by
                intro v11 e12
                subst v11
                exact ev_ri1 (pt_91_125 w) (h6 c1 c2 c4)
              refine ev_zne (pc' := 118) (pt_91_115 w) rfl (fun c6 => ?_) (fun c6 => ?_)
              · refine ev_il (pc' := 125) (pt_91_123 w) rfl rfl ?_
                exact j6 _ (if_neg c6).symm
              · refine ev_il (pc' := 120) (pt_91_118 w) rfl rfl ?_
                refine ev_g (pt_91_120 w) ?_
                exact j6 _ (if_pos c6).symm
        refine ev_cne (pc' := 95) (pt_91_92 w) rfl (fun c7 => ?_) (fun c7 => ?_)
        · refine ev_il (pc' := 102) (pt_91_100 w) rfl rfl ?_
          exact j3 _ (if_neg c7).symm
        · refine ev_il (pc' := 97) (pt_91_95 w) rfl rfl ?_
          refine ev_g (pt_91_97 w) ?_
          exact j3 _ (if_pos c7).symm
      refine ev_zle (pc' := 64) (pt_91_61 w) rfl (fun c8 => ?_) (fun c8 => ?_)
      · refine ev_k (pc' := 87) (pt_91_86 w) rfl ?_
        exact j2 _ (if_neg c8).symm
      · refine ev_al (pc' := 65) (pt_91_64 w) rfl rfl ?_
        refine ev_il (pc' := 67) (pt_91_65 w) rfl rfl ?_
        refine ev_k (pc' := 68) (pt_91_67 w) rfl ?_
        refine ev_cal1 (pc' := 71) (pt_91_68 w) (vs := [.ref 148, .int x4, .int 1]) (rest := []) (en := [some (.ref 148), some (.int x4), some (.int 1), none, none]) rfl rfl rfl rfl rfl rfl rfl (k2 c1) ?_
        refine ev_al (pc' := 72) (pt_91_71 w) rfl rfl ?_
        refine ev_il (pc' := 74) (pt_91_72 w) rfl rfl ?_
        refine ev_k (pc' := 75) (pt_91_74 w) rfl ?_
        refine ev_cal1 (pc' := 78) (pt_91_75 w) (vs := [.ref 148, .int x4, .int (iN 3)]) (rest := [.int r1]) (en := [some (.ref 148), some (.int x4), some (.int (iN 3)), none, none]) rfl rfl rfl rfl rfl rfl rfl (k7 c1 c8) ?_
        refine ev_b (pc' := 79) (pt_91_78 w) rfl ?_
        refine ev_zne (pc' := 82) (pt_91_79 w) rfl (fun c9 => ?_) (fun c9 => ?_)
        · refine ev_k (pc' := 87) (pt_91_86 w) rfl ?_
          exact j2 _ ((if_pos c8).trans (if_neg c9)).symm
        · refine ev_k (pc' := 83) (pt_91_82 w) rfl ?_
          refine ev_g (pt_91_83 w) ?_
          exact j2 _ ((if_pos c8).trans (if_pos c9)).symm
    refine ev_cle (pc' := 47) (pt_91_44 w) rfl (fun c10 => ?_) (fun c10 => ?_)
    · refine ev_k (pc' := 52) (pt_91_51 w) rfl ?_
      exact j1 _ (if_neg c10).symm
    · refine ev_k (pc' := 48) (pt_91_47 w) rfl ?_
      refine ev_g (pt_91_48 w) ?_
      exact j1 _ (if_pos c10).symm

-- BoardDeskModel.isNear(IIZ)Z
theorem wk_92_0 {w : qS} {M : qM} {x1 x2 x3 : Int32} {post : qR}
    (h1 : gE w 92 27 [some (.ref 148), some (.int x1), some (.int x2), some (.int x3), some (.int (x1 - x1 / (iN 12) * (iN 12))), some (.int ((x1 - x1 / (iN 120) * (iN 120)) / (iN 12))), some (.int 0), some (.int (-(M 149 2))), none, none, none] [] M post) :
    gE w 92 0 [some (.ref 148), some (.int x1), some (.int x2), some (.int x3), none, none, none, none, none, none, none] [] M post := by
  refine ev_il (pc' := 1) (pt_92_0 w) rfl rfl ?_
  refine ev_k (pc' := 3) (pt_92_1 w) rfl ?_
  refine ev_d (pc' := 4) (pt_92_3 w) rfl (by decide +kernel) ?_
  refine ev_is (pc' := 6) (loc1 := [some (.ref 148), some (.int x1), some (.int x2), some (.int x3), some (.int (x1 - x1 / (iN 12) * (iN 12))), none, none, none, none, none, none]) (pt_92_4 w) rfl rfl ?_
  refine ev_il (pc' := 7) (pt_92_6 w) rfl rfl ?_
  refine ev_k (pc' := 9) (pt_92_7 w) rfl ?_
  refine ev_d (pc' := 10) (pt_92_9 w) rfl (by decide +kernel) ?_
  refine ev_k (pc' := 12) (pt_92_10 w) rfl ?_
  refine ev_d (pc' := 13) (pt_92_12 w) rfl (by decide +kernel) ?_
  refine ev_is (pc' := 15) (loc1 := [some (.ref 148), some (.int x1), some (.int x2), some (.int x3), some (.int (x1 - x1 / (iN 12) * (iN 12))), some (.int ((x1 - x1 / (iN 120) * (iN 120)) / (iN 12))), none, none, none, none, none]) (pt_92_13 w) rfl rfl ?_
  refine ev_k (pc' := 16) (pt_92_15 w) rfl ?_
  refine ev_is (pc' := 18) (loc1 := [some (.ref 148), some (.int x1), some (.int x2), some (.int x3), some (.int (x1 - x1 / (iN 12) * (iN 12))), some (.int ((x1 - x1 / (iN 120) * (iN 120)) / (iN 12))), some (.int 0), none, none, none, none]) (pt_92_16 w) rfl rfl ?_
  refine ev_al (pc' := 19) (pt_92_18 w) rfl rfl ?_
  refine ev_getr (pc' := 22) (pt_92_19 w) rfl rfl rfl ?_
  refine ev_k (pc' := 23) (pt_92_22 w) rfl ?_
  refine ev_iac (j := 2) (pc' := 24) (pt_92_23 w) rfl rfl (vp_lit (by decide +kernel)) (by decide +kernel) ?_
  refine ev_u (pc' := 25) (pt_92_24 w) rfl ?_
  refine ev_is (pc' := 27) (loc1 := [some (.ref 148), some (.int x1), some (.int x2), some (.int x3), some (.int (x1 - x1 / (iN 12) * (iN 12))), some (.int ((x1 - x1 / (iN 120) * (iN 120)) / (iN 12))), some (.int 0), some (.int (-(M 149 2))), none, none, none]) (pt_92_25 w) rfl rfl ?_
  exact h1

theorem wk_92_27 {w : qS} {M : qM} {x1 x2 x3 x4 x5 x6 x7 : Int32} {o8 o9 o10 : Option Value} {post : qR}
    (n1 : (c1 : (M 149 2) < x7) → x6 = 0 ∨ x6 = 1)
    (h2 : (c1 : (M 149 2) < x7) → post (some (.int x6)) M)
    (h3 : (c1 : ¬ (M 149 2) < x7) → gE w 92 47 [some (.ref 148), some (.int x1), some (.int x2), some (.int x3), some (.int x4), some (.int x5), some (.int x6), some (.int x7), some (.int (-(M 149 2))), o9, o10] [] M post) :
    gE w 92 27 [some (.ref 148), some (.int x1), some (.int x2), some (.int x3), some (.int x4), some (.int x5), some (.int x6), some (.int x7), o8, o9, o10] [] M post := by
  refine ev_il (pc' := 29) (pt_92_27 w) rfl rfl ?_
  refine ev_al (pc' := 30) (pt_92_29 w) rfl rfl ?_
  refine ev_getr (pc' := 33) (pt_92_30 w) rfl rfl rfl ?_
  refine ev_k (pc' := 34) (pt_92_33 w) rfl ?_
  refine ev_iac (j := 2) (pc' := 35) (pt_92_34 w) rfl rfl (vp_lit (by decide +kernel)) (by decide +kernel) ?_
  refine ev_cgt (pc' := 38) (pt_92_35 w) rfl (fun c1 => ?_) (fun c1 => ?_)
  · refine ev_il (pc' := 173) (pt_92_171 w) rfl rfl ?_
    exact ev_rz (pt_92_173 w) (n1 c1) (h2 c1)
  · refine ev_al (pc' := 39) (pt_92_38 w) rfl rfl ?_
    refine ev_getr (pc' := 42) (pt_92_39 w) rfl rfl rfl ?_
    refine ev_k (pc' := 43) (pt_92_42 w) rfl ?_
    refine ev_iac (j := 2) (pc' := 44) (pt_92_43 w) rfl rfl (vp_lit (by decide +kernel)) (by decide +kernel) ?_
    refine ev_u (pc' := 45) (pt_92_44 w) rfl ?_
    refine ev_is (pc' := 47) (loc1 := [some (.ref 148), some (.int x1), some (.int x2), some (.int x3), some (.int x4), some (.int x5), some (.int x6), some (.int x7), some (.int (-(M 149 2))), o9, o10]) (pt_92_45 w) rfl rfl ?_
    exact (h3 c1)

theorem wk_92_47 {w : qS} {M : qM} {x1 x2 x3 x4 x5 x6 x7 x8 : Int32} {o9 o10 : Option Value} {post : qR}
    (h1 : (c1 : (M 149 2) < x8) → gE w 92 27 [some (.ref 148), some (.int x1), some (.int x2), some (.int x3), some (.int x4), some (.int x5), some (.int x6), some (.int (x7 + 1)), some (.int x8), o9, o10] [] M post)
    (h2 : (c1 : ¬ (M 149 2) < x8) → gE w 92 47 [some (.ref 148), some (.int x1), some (.int x2), some (.int x3), some (.int x4), some (.int x5), some (.int (if x6 = 0 then (if (if (if (x4 + x8) < 0 then 0 else (if (x4 + x8) < (iN 12) then (if (x5 + x7) < 0 then 0 else (if (x5 + x7) < (iN 10) then 1 else 0 : Int32) : Int32) else 0 : Int32) : Int32) = 0 then (-1) else (M 154 ((x1 + ((iN 12) * x7)) + x8).toNatClampNeg) : Int32) < 0 then 0 else (if (if (if (x4 + x8) < 0 then 0 else (if (x4 + x8) < (iN 12) then (if (x5 + x7) < 0 then 0 else (if (x5 + x7) < (iN 10) then 1 else 0 : Int32) : Int32) else 0 : Int32) : Int32) = 0 then (-1) else (M 154 ((x1 + ((iN 12) * x7)) + x8).toNatClampNeg) : Int32) = x2 then (if 1 = x3 then 1 else 0 : Int32) else (if 0 = x3 then 1 else 0 : Int32) : Int32) : Int32) else 1 : Int32)), some (.int x7), some (.int (x8 + 1)), some (.int (if (x4 + x8) < 0 then 0 else (if (x4 + x8) < (iN 12) then (if (x5 + x7) < 0 then 0 else (if (x5 + x7) < (iN 10) then 1 else 0 : Int32) : Int32) else 0 : Int32) : Int32)), some (.int (if (if (x4 + x8) < 0 then 0 else (if (x4 + x8) < (iN 12) then (if (x5 + x7) < 0 then 0 else (if (x5 + x7) < (iN 10) then 1 else 0 : Int32) : Int32) else 0 : Int32) : Int32) = 0 then (-1) else (M 154 ((x1 + ((iN 12) * x7)) + x8).toNatClampNeg) : Int32))] [] M post)
    (b3 : (c1 : ¬ (M 149 2) < x8) → (c7 : ¬ (if (x4 + x8) < 0 then 0 else (if (x4 + x8) < (iN 12) then (if (x5 + x7) < 0 then 0 else (if (x5 + x7) < (iN 10) then 1 else 0 : Int32) : Int32) else 0 : Int32) : Int32) = 0) → vp_in ((x1 + ((iN 12) * x7)) + x8) 240) :
    gE w 92 47 [some (.ref 148), some (.int x1), some (.int x2), some (.int x3), some (.int x4), some (.int x5), some (.int x6), some (.int x7), some (.int x8), o9, o10] [] M post := by
  refine ev_il (pc' := 49) (pt_92_47 w) rfl rfl ?_
  refine ev_al (pc' := 50) (pt_92_49 w) rfl rfl ?_
  refine ev_getr (pc' := 53) (pt_92_50 w) rfl rfl rfl ?_
  refine ev_k (pc' := 54) (pt_92_53 w) rfl ?_
  refine ev_iac (j := 2) (pc' := 55) (pt_92_54 w) rfl rfl (vp_lit (by decide +kernel)) (by decide +kernel) ?_
  refine ev_cgt (pc' := 58) (pt_92_55 w) rfl (fun c1 => ?_) (fun c1 => ?_)
  · refine ev_inc (pc' := 168) (loc1 := [some (.ref 148), some (.int x1), some (.int x2), some (.int x3), some (.int x4), some (.int x5), some (.int x6), some (.int (x7 + 1)), some (.int x8), o9, o10]) (pt_92_165 w) rfl rfl rfl ?_
    refine ev_g (pt_92_168 w) ?_
    exact (h1 c1)
  · refine ev_il (pc' := 60) (pt_92_58 w) rfl rfl ?_
    refine ev_il (pc' := 62) (pt_92_60 w) rfl rfl ?_
    refine ev_b (pc' := 63) (pt_92_62 w) rfl ?_
    have j1 : ∀ v1 : Int32, v1 = (if (x4 + x8) < 0 then 0 else (if (x4 + x8) < (iN 12) then (if (x5 + x7) < 0 then 0 else (if (x5 + x7) < (iN 10) then 1 else 0 : Int32) : Int32) else 0 : Int32) : Int32) → gE w 92 99 [some (.ref 148), some (.int x1), some (.int x2), some (.int x3), some (.int x4), some (.int x5), some (.int x6), some (.int x7), some (.int x8), o9, o10] [.int v1] M post := by
      intro v1 e2
      subst v1
      refine ev_is (pc' := 101) (loc1 := [some (.ref 148), some (.int x1), some (.int x2), some (.int x3), some (.int x4), some (.int x5), some (.int x6), some (.int x7), some (.int x8), some (.int (if (x4 + x8) < 0 then 0 else (if (x4 + x8) < (iN 12) then (if (x5 + x7) < 0 then 0 else (if (x5 + x7) < (iN 10) then 1 else 0 : Int32) : Int32) else 0 : Int32) : Int32)), o10]) (pt_92_99 w) rfl rfl ?_
      refine ev_il (pc' := 103) (pt_92_101 w) rfl rfl ?_
      have j2 : ∀ v3 : Int32, v3 = (if (if (x4 + x8) < 0 then 0 else (if (x4 + x8) < (iN 12) then (if (x5 + x7) < 0 then 0 else (if (x5 + x7) < (iN 10) then 1 else 0 : Int32) : Int32) else 0 : Int32) : Int32) = 0 then (-1) else (M 154 ((x1 + ((iN 12) * x7)) + x8).toNatClampNeg) : Int32) → gE w 92 125 [some (.ref 148), some (.int x1), some (.int x2), some (.int x3), some (.int x4), some (.int x5), some (.int x6), some (.int x7), some (.int x8), some (.int (if (x4 + x8) < 0 then 0 else (if (x4 + x8) < (iN 12) then (if (x5 + x7) < 0 then 0 else (if (x5 + x7) < (iN 10) then 1 else 0 : Int32) : Int32) else 0 : Int32) : Int32)), o10] [.int v3] M post := by
        intro v3 e4
        subst v3
        refine ev_is (pc' := 127) (loc1 := [some (.ref 148), some (.int x1), some (.int x2), some (.int x3), some (.int x4), some (.int x5), some (.int x6), some (.int x7), some (.int x8), some (.int (if (x4 + x8) < 0 then 0 else (if (x4 + x8) < (iN 12) then (if (x5 + x7) < 0 then 0 else (if (x5 + x7) < (iN 10) then 1 else 0 : Int32) : Int32) else 0 : Int32) : Int32)), some (.int (if (if (x4 + x8) < 0 then 0 else (if (x4 + x8) < (iN 12) then (if (x5 + x7) < 0 then 0 else (if (x5 + x7) < (iN 10) then 1 else 0 : Int32) : Int32) else 0 : Int32) : Int32) = 0 then (-1) else (M 154 ((x1 + ((iN 12) * x7)) + x8).toNatClampNeg) : Int32))]) (pt_92_125 w) rfl rfl ?_
        refine ev_il (pc' := 129) (pt_92_127 w) rfl rfl ?_
        have j3 : ∀ v5 : Int32, v5 = (if x6 = 0 then (if (if (if (x4 + x8) < 0 then 0 else (if (x4 + x8) < (iN 12) then (if (x5 + x7) < 0 then 0 else (if (x5 + x7) < (iN 10) then 1 else 0 : Int32) : Int32) else 0 : Int32) : Int32) = 0 then (-1) else (M 154 ((x1 + ((iN 12) * x7)) + x8).toNatClampNeg) : Int32) < 0 then 0 else (if (if (if (x4 + x8) < 0 then 0 else (if (x4 + x8) < (iN 12) then (if (x5 + x7) < 0 then 0 else (if (x5 + x7) < (iN 10) then 1 else 0 : Int32) : Int32) else 0 : Int32) : Int32) = 0 then (-1) else (M 154 ((x1 + ((iN 12) * x7)) + x8).toNatClampNeg) : Int32) = x2 then (if 1 = x3 then 1 else 0 : Int32) else (if 0 = x3 then 1 else 0 : Int32) : Int32) : Int32) else 1 : Int32) → gE w 92 157 [some (.ref 148), some (.int x1), some (.int x2), some (.int x3), some (.int x4), some (.int x5), some (.int x6), some (.int x7), some (.int x8), some (.int (if (x4 + x8) < 0 then 0 else (if (x4 + x8) < (iN 12) then (if (x5 + x7) < 0 then 0 else (if (x5 + x7) < (iN 10) then 1 else 0 : Int32) : Int32) else 0 : Int32) : Int32)), some (.int (if (if (x4 + x8) < 0 then 0 else (if (x4 + x8) < (iN 12) then (if (x5 + x7) < 0 then 0 else (if (x5 + x7) < (iN 10) then 1 else 0 : Int32) : Int32) else 0 : Int32) : Int32) = 0 then (-1) else (M 154 ((x1 + ((iN 12) * x7)) + x8).toNatClampNeg) : Int32))] [.int v5] M post := by
          intro v5 e6
          subst v5
          refine ev_is (pc' := 159) (loc1 := [some (.ref 148), some (.int x1), some (.int x2), some (.int x3), some (.int x4), some (.int x5), some (.int (if x6 = 0 then (if (if (if (x4 + x8) < 0 then 0 else (if (x4 + x8) < (iN 12) then (if (x5 + x7) < 0 then 0 else (if (x5 + x7) < (iN 10) then 1 else 0 : Int32) : Int32) else 0 : Int32) : Int32) = 0 then (-1) else (M 154 ((x1 + ((iN 12) * x7)) + x8).toNatClampNeg) : Int32) < 0 then 0 else (if (if (if (x4 + x8) < 0 then 0 else (if (x4 + x8) < (iN 12) then (if (x5 + x7) < 0 then 0 else (if (x5 + x7) < (iN 10) then 1 else 0 : Int32) : Int32) else 0 : Int32) : Int32) = 0 then (-1) else (M 154 ((x1 + ((iN 12) * x7)) + x8).toNatClampNeg) : Int32) = x2 then (if 1 = x3 then 1 else 0 : Int32) else (if 0 = x3 then 1 else 0 : Int32) : Int32) : Int32) else 1 : Int32)), some (.int x7), some (.int x8), some (.int (if (x4 + x8) < 0 then 0 else (if (x4 + x8) < (iN 12) then (if (x5 + x7) < 0 then 0 else (if (x5 + x7) < (iN 10) then 1 else 0 : Int32) : Int32) else 0 : Int32) : Int32)), some (.int (if (if (x4 + x8) < 0 then 0 else (if (x4 + x8) < (iN 12) then (if (x5 + x7) < 0 then 0 else (if (x5 + x7) < (iN 10) then 1 else 0 : Int32) : Int32) else 0 : Int32) : Int32) = 0 then (-1) else (M 154 ((x1 + ((iN 12) * x7)) + x8).toNatClampNeg) : Int32))]) (pt_92_157 w) rfl rfl ?_
          refine ev_inc (pc' := 162) (loc1 := [some (.ref 148), some (.int x1), some (.int x2), some (.int x3), some (.int x4), some (.int x5), some (.int (if x6 = 0 then (if (if (if (x4 + x8) < 0 then 0 else (if (x4 + x8) < (iN 12) then (if (x5 + x7) < 0 then 0 else (if (x5 + x7) < (iN 10) then 1 else 0 : Int32) : Int32) else 0 : Int32) : Int32) = 0 then (-1) else (M 154 ((x1 + ((iN 12) * x7)) + x8).toNatClampNeg) : Int32) < 0 then 0 else (if (if (if (x4 + x8) < 0 then 0 else (if (x4 + x8) < (iN 12) then (if (x5 + x7) < 0 then 0 else (if (x5 + x7) < (iN 10) then 1 else 0 : Int32) : Int32) else 0 : Int32) : Int32) = 0 then (-1) else (M 154 ((x1 + ((iN 12) * x7)) + x8).toNatClampNeg) : Int32) = x2 then (if 1 = x3 then 1 else 0 : Int32) else (if 0 = x3 then 1 else 0 : Int32) : Int32) : Int32) else 1 : Int32)), some (.int x7), some (.int (x8 + 1)), some (.int (if (x4 + x8) < 0 then 0 else (if (x4 + x8) < (iN 12) then (if (x5 + x7) < 0 then 0 else (if (x5 + x7) < (iN 10) then 1 else 0 : Int32) : Int32) else 0 : Int32) : Int32)), some (.int (if (if (x4 + x8) < 0 then 0 else (if (x4 + x8) < (iN 12) then (if (x5 + x7) < 0 then 0 else (if (x5 + x7) < (iN 10) then 1 else 0 : Int32) : Int32) else 0 : Int32) : Int32) = 0 then (-1) else (M 154 ((x1 + ((iN 12) * x7)) + x8).toNatClampNeg) : Int32))]) (pt_92_159 w) rfl rfl rfl ?_
          refine ev_g (pt_92_162 w) ?_
          exact (h2 c1)
        refine ev_zne (pc' := 132) (pt_92_129 w) rfl (fun c2 => ?_) (fun c2 => ?_)
        · refine ev_k (pc' := 153) (pt_92_152 w) rfl ?_
          refine ev_g (pt_92_153 w) ?_
          exact j3 _ (if_neg c2).symm
        · refine ev_il (pc' := 134) (pt_92_132 w) rfl rfl ?_
          refine ev_zlt (pc' := 137) (pt_92_134 w) rfl (fun c3 => ?_) (fun c3 => ?_)
          · refine ev_k (pc' := 157) (pt_92_156 w) rfl ?_
            exact j3 _ ((if_pos c2).trans (if_pos c3)).symm
          · refine ev_il (pc' := 139) (pt_92_137 w) rfl rfl ?_
            refine ev_il (pc' := 140) (pt_92_139 w) rfl rfl ?_
            refine ev_cne (pc' := 143) (pt_92_140 w) rfl (fun c4 => ?_) (fun c4 => ?_)
            · refine ev_k (pc' := 148) (pt_92_147 w) rfl ?_
              refine ev_il (pc' := 149) (pt_92_148 w) rfl rfl ?_
              refine ev_cne (pc' := 152) (pt_92_149 w) rfl (fun c5 => ?_) (fun c5 => ?_)
              · refine ev_k (pc' := 157) (pt_92_156 w) rfl ?_
                exact j3 _ ((((if_pos c2).trans (if_neg c3)).trans (if_neg c4)).trans (if_neg c5)).symm
              · refine ev_k (pc' := 153) (pt_92_152 w) rfl ?_
                refine ev_g (pt_92_153 w) ?_
                exact j3 _ ((((if_pos c2).trans (if_neg c3)).trans (if_neg c4)).trans (if_pos c5)).symm
            · refine ev_k (pc' := 144) (pt_92_143 w) rfl ?_
              refine ev_g (pt_92_144 w) ?_
              refine ev_il (pc' := 149) (pt_92_148 w) rfl rfl ?_
              refine ev_cne (pc' := 152) (pt_92_149 w) rfl (fun c6 => ?_) (fun c6 => ?_)
              · refine ev_k (pc' := 157) (pt_92_156 w) rfl ?_
                exact j3 _ ((((if_pos c2).trans (if_neg c3)).trans (if_pos c4)).trans (if_neg c6)).symm
              · refine ev_k (pc' := 153) (pt_92_152 w) rfl ?_
                refine ev_g (pt_92_153 w) ?_
                exact j3 _ ((((if_pos c2).trans (if_neg c3)).trans (if_pos c4)).trans (if_pos c6)).symm
      refine ev_zeq (pc' := 106) (pt_92_103 w) rfl (fun c7 => ?_) (fun c7 => ?_)
      · refine ev_k (pc' := 125) (pt_92_124 w) rfl ?_
        exact j2 _ (if_pos c7).symm
      · refine ev_al (pc' := 107) (pt_92_106 w) rfl rfl ?_
        refine ev_getr (pc' := 110) (pt_92_107 w) rfl rfl rfl ?_
        refine ev_il (pc' := 111) (pt_92_110 w) rfl rfl ?_
        refine ev_k (pc' := 113) (pt_92_111 w) rfl ?_
        refine ev_il (pc' := 115) (pt_92_113 w) rfl rfl ?_
        refine ev_b (pc' := 116) (pt_92_115 w) rfl ?_
        refine ev_b (pc' := 117) (pt_92_116 w) rfl ?_
        refine ev_il (pc' := 119) (pt_92_117 w) rfl rfl ?_
        refine ev_b (pc' := 120) (pt_92_119 w) rfl ?_
        refine ev_ia (pc' := 121) (pt_92_120 w) rfl rfl (b3 c1 c7) ?_
        refine ev_g (pt_92_121 w) ?_
        exact j2 _ (if_neg c7).symm
    refine ev_zlt (pc' := 66) (pt_92_63 w) rfl (fun c8 => ?_) (fun c8 => ?_)
    · refine ev_k (pc' := 99) (pt_92_98 w) rfl ?_
      exact j1 _ (if_pos c8).symm
    · refine ev_il (pc' := 68) (pt_92_66 w) rfl rfl ?_
      refine ev_il (pc' := 70) (pt_92_68 w) rfl rfl ?_
      refine ev_b (pc' := 71) (pt_92_70 w) rfl ?_
      refine ev_k (pc' := 73) (pt_92_71 w) rfl ?_
      refine ev_cge (pc' := 76) (pt_92_73 w) rfl (fun c9 => ?_) (fun c9 => ?_)
      · refine ev_k (pc' := 99) (pt_92_98 w) rfl ?_
        exact j1 _ ((if_neg c8).trans (if_neg c9)).symm
      · refine ev_il (pc' := 78) (pt_92_76 w) rfl rfl ?_
        refine ev_il (pc' := 80) (pt_92_78 w) rfl rfl ?_
        refine ev_b (pc' := 81) (pt_92_80 w) rfl ?_
        refine ev_zlt (pc' := 84) (pt_92_81 w) rfl (fun c10 => ?_) (fun c10 => ?_)
        · refine ev_k (pc' := 99) (pt_92_98 w) rfl ?_
          exact j1 _ (((if_neg c8).trans (if_pos c9)).trans (if_pos c10)).symm
        · refine ev_il (pc' := 86) (pt_92_84 w) rfl rfl ?_
          refine ev_il (pc' := 88) (pt_92_86 w) rfl rfl ?_
          refine ev_b (pc' := 89) (pt_92_88 w) rfl ?_
          refine ev_k (pc' := 91) (pt_92_89 w) rfl ?_
          refine ev_cge (pc' := 94) (pt_92_91 w) rfl (fun c11 => ?_) (fun c11 => ?_)
          · refine ev_k (pc' := 99) (pt_92_98 w) rfl ?_
            exact j1 _ ((((if_neg c8).trans (if_pos c9)).trans (if_neg c10)).trans (if_neg c11)).symm
          · refine ev_k (pc' := 95) (pt_92_94 w) rfl ?_
            refine ev_g (pt_92_95 w) ?_
            exact j1 _ ((((if_neg c8).trans (if_pos c9)).trans (if_neg c10)).trans (if_pos c11)).symm

-- BoardDeskModel.isFree(II)Z
theorem wk_93_0 {w : qS} {M : qM} {x1 x2 : Int32} {r1 : Int32} {post : qR}
    (b1 : vp_in ((iN 112) + x1) 592)
    (h2 : post (some (.int (if (M 149 ((iN 112) + x1).toNatClampNeg) = 0 then (if r1 = 0 then 1 else 0 : Int32) else 0 : Int32))) M)
    (k3 : (c1 : (M 149 ((iN 112) + x1).toNatClampNeg) = 0) → gE w 92 0 [some (.ref 148), some (.int x1), some (.int x2), some (.int 0), none, none, none, none, none, none, none] [] M (qv1 M r1)) :
    gE w 93 0 [some (.ref 148), some (.int x1), some (.int x2)] [] M post := by
  refine ev_al (pc' := 1) (pt_93_0 w) rfl rfl ?_
  refine ev_getr (pc' := 4) (pt_93_1 w) rfl rfl rfl ?_
  refine ev_k (pc' := 6) (pt_93_4 w) rfl ?_
  refine ev_il (pc' := 7) (pt_93_6 w) rfl rfl ?_
  refine ev_b (pc' := 8) (pt_93_7 w) rfl ?_
  refine ev_ia (pc' := 9) (pt_93_8 w) rfl rfl b1 ?_
  have j1 : ∀ v1 : Int32, v1 = (if (M 149 ((iN 112) + x1).toNatClampNeg) = 0 then (if r1 = 0 then 1 else 0 : Int32) else 0 : Int32) → gE w 93 27 [some (.ref 148), some (.int x1), some (.int x2)] [.int v1] M post := by
    intro v1 e2
    subst v1
    exact ev_rz (pt_93_27 w) (z1_ite (z1_ite z1_1 z1_0) z1_0) h2
  refine ev_zne (pc' := 12) (pt_93_9 w) rfl (fun c1 => ?_) (fun c1 => ?_)
  · refine ev_k (pc' := 27) (pt_93_26 w) rfl ?_
    exact j1 _ (if_neg c1).symm
  · refine ev_al (pc' := 13) (pt_93_12 w) rfl rfl ?_
    refine ev_il (pc' := 14) (pt_93_13 w) rfl rfl ?_
    refine ev_il (pc' := 15) (pt_93_14 w) rfl rfl ?_
    refine ev_k (pc' := 16) (pt_93_15 w) rfl ?_
    refine ev_cal1 (pc' := 19) (pt_93_16 w) (vs := [.ref 148, .int x1, .int x2, .int 0]) (rest := []) (en := [some (.ref 148), some (.int x1), some (.int x2), some (.int 0), none, none, none, none, none, none, none]) rfl rfl rfl rfl rfl rfl rfl (k3 c1) ?_
    refine ev_zne (pc' := 22) (pt_93_19 w) rfl (fun c2 => ?_) (fun c2 => ?_)
    · refine ev_k (pc' := 27) (pt_93_26 w) rfl ?_
      exact j1 _ ((if_pos c1).trans (if_neg c2)).symm
    · refine ev_k (pc' := 23) (pt_93_22 w) rfl ?_
      refine ev_g (pt_93_23 w) ?_
      exact j1 _ ((if_pos c1).trans (if_pos c2)).symm

-- BoardDeskModel.place(IIII)Z
theorem wk_94_0 {w : qS} {M : qM} {x1 x2 x3 x4 : Int32} {r1 : Int32} {post : qR}
    (k1 : gE w 84 0 [some (.ref 148), some (.int x1)] [] M (qv1 M r1))
    (h2 : (c1 : r1 = 0) → post (some (.int 0)) M)
    (h3 : (c1 : ¬ r1 = 0) → (c2 : x2 < 0) → post (some (.int 0)) M)
    (h4 : (c1 : ¬ r1 = 0) → (c2 : ¬ x2 < 0) → (c3 : (iN 11) < x2) → post (some (.int 0)) M)
    (h5 : (c1 : ¬ r1 = 0) → (c2 : ¬ x2 < 0) → (c3 : ¬ (iN 11) < x2) → (c4 : x3 < 0) → post (some (.int 0)) M)
    (h6 : (c1 : ¬ r1 = 0) → (c2 : ¬ x2 < 0) → (c3 : ¬ (iN 11) < x2) → (c4 : ¬ x3 < 0) → (c5 : (iN 9) < x3) → post (some (.int 0)) M)
    (h7 : (c1 : ¬ r1 = 0) → (c2 : ¬ x2 < 0) → (c3 : ¬ (iN 11) < x2) → (c4 : ¬ x3 < 0) → (c5 : ¬ (iN 9) < x3) → (c6 : x4 < 1) → post (some (.int 0)) M)
    (h8 : (c1 : ¬ r1 = 0) → (c2 : ¬ x2 < 0) → (c3 : ¬ (iN 11) < x2) → (c4 : ¬ x3 < 0) → (c5 : ¬ (iN 9) < x3) → (c6 : ¬ x4 < 1) → (c7 : (iN 3) < x4) → post (some (.int 0)) M)
    (b9 : (c1 : ¬ r1 = 0) → (c2 : ¬ x2 < 0) → (c3 : ¬ (iN 11) < x2) → (c4 : ¬ x3 < 0) → (c5 : ¬ (iN 9) < x3) → (c6 : ¬ x4 < 1) → (c7 : ¬ (iN 3) < x4) → vp_in ((iN 32) + x1) 592)
    (h10 : (c1 : ¬ r1 = 0) → (c2 : ¬ x2 < 0) → (c3 : ¬ (iN 11) < x2) → (c4 : ¬ x3 < 0) → (c5 : ¬ (iN 9) < x3) → (c6 : ¬ x4 < 1) → (c7 : ¬ (iN 3) < x4) → (c8 : ¬ 0 < (M 149 ((iN 32) + x1).toNatClampNeg)) → gE w 94 60 [some (.ref 148), some (.int x1), some (.int x2), some (.int x3), some (.int x4), some (.int 1), some (.int 0), none] [] M post)
    (h11 : (c1 : ¬ r1 = 0) → (c2 : ¬ x2 < 0) → (c3 : ¬ (iN 11) < x2) → (c4 : ¬ x3 < 0) → (c5 : ¬ (iN 9) < x3) → (c6 : ¬ x4 < 1) → (c7 : ¬ (iN 3) < x4) → (c8 : 0 < (M 149 ((iN 32) + x1).toNatClampNeg)) → post (some (.int 0)) M) :
    gE w 94 0 [some (.ref 148), some (.int x1), some (.int x2), some (.int x3), some (.int x4), none, none, none] [] M post := by
  refine ev_al (pc' := 1) (pt_94_0 w) rfl rfl ?_
  refine ev_il (pc' := 2) (pt_94_1 w) rfl rfl ?_
  refine ev_cal1 (pc' := 5) (pt_94_2 w) (vs := [.ref 148, .int x1]) (rest := []) (en := [some (.ref 148), some (.int x1)]) rfl rfl rfl rfl rfl rfl rfl k1 ?_
  refine ev_zeq (pc' := 8) (pt_94_5 w) rfl (fun c1 => ?_) (fun c1 => ?_)
  · refine ev_k (pc' := 53) (pt_94_52 w) rfl ?_
    exact ev_rz (pt_94_53 w) z1_0 (h2 c1)
  · refine ev_il (pc' := 9) (pt_94_8 w) rfl rfl ?_
    refine ev_zlt (pc' := 12) (pt_94_9 w) rfl (fun c2 => ?_) (fun c2 => ?_)
    · refine ev_k (pc' := 53) (pt_94_52 w) rfl ?_
      exact ev_rz (pt_94_53 w) z1_0 (h3 c1 c2)
    · refine ev_il (pc' := 13) (pt_94_12 w) rfl rfl ?_
      refine ev_k (pc' := 15) (pt_94_13 w) rfl ?_
      refine ev_cgt (pc' := 18) (pt_94_15 w) rfl (fun c3 => ?_) (fun c3 => ?_)
      · refine ev_k (pc' := 53) (pt_94_52 w) rfl ?_
        exact ev_rz (pt_94_53 w) z1_0 (h4 c1 c2 c3)
      · refine ev_il (pc' := 19) (pt_94_18 w) rfl rfl ?_
        refine ev_zlt (pc' := 22) (pt_94_19 w) rfl (fun c4 => ?_) (fun c4 => ?_)
        · refine ev_k (pc' := 53) (pt_94_52 w) rfl ?_
          exact ev_rz (pt_94_53 w) z1_0 (h5 c1 c2 c3 c4)
        · refine ev_il (pc' := 23) (pt_94_22 w) rfl rfl ?_
          refine ev_k (pc' := 25) (pt_94_23 w) rfl ?_
          refine ev_cgt (pc' := 28) (pt_94_25 w) rfl (fun c5 => ?_) (fun c5 => ?_)
          · refine ev_k (pc' := 53) (pt_94_52 w) rfl ?_
            exact ev_rz (pt_94_53 w) z1_0 (h6 c1 c2 c3 c4 c5)
          · refine ev_il (pc' := 30) (pt_94_28 w) rfl rfl ?_
            refine ev_k (pc' := 31) (pt_94_30 w) rfl ?_
            refine ev_clt (pc' := 34) (pt_94_31 w) rfl (fun c6 => ?_) (fun c6 => ?_)
            · refine ev_k (pc' := 53) (pt_94_52 w) rfl ?_
              exact ev_rz (pt_94_53 w) z1_0 (h7 c1 c2 c3 c4 c5 c6)
            · refine ev_il (pc' := 36) (pt_94_34 w) rfl rfl ?_
              refine ev_k (pc' := 37) (pt_94_36 w) rfl ?_
              refine ev_cgt (pc' := 40) (pt_94_37 w) rfl (fun c7 => ?_) (fun c7 => ?_)
              · refine ev_k (pc' := 53) (pt_94_52 w) rfl ?_
                exact ev_rz (pt_94_53 w) z1_0 (h8 c1 c2 c3 c4 c5 c6 c7)
              · refine ev_al (pc' := 41) (pt_94_40 w) rfl rfl ?_
                refine ev_getr (pc' := 44) (pt_94_41 w) rfl rfl rfl ?_
                refine ev_k (pc' := 46) (pt_94_44 w) rfl ?_
                refine ev_il (pc' := 47) (pt_94_46 w) rfl rfl ?_
                refine ev_b (pc' := 48) (pt_94_47 w) rfl ?_
                refine ev_ia (pc' := 49) (pt_94_48 w) rfl rfl (b9 c1 c2 c3 c4 c5 c6 c7) ?_
                refine ev_zle (pc' := 52) (pt_94_49 w) rfl (fun c8 => ?_) (fun c8 => ?_)
                · refine ev_k (pc' := 55) (pt_94_54 w) rfl ?_
                  refine ev_is (pc' := 57) (loc1 := [some (.ref 148), some (.int x1), some (.int x2), some (.int x3), some (.int x4), some (.int 1), none, none]) (pt_94_55 w) rfl rfl ?_
                  refine ev_k (pc' := 58) (pt_94_57 w) rfl ?_
                  refine ev_is (pc' := 60) (loc1 := [some (.ref 148), some (.int x1), some (.int x2), some (.int x3), some (.int x4), some (.int 1), some (.int 0), none]) (pt_94_58 w) rfl rfl ?_
                  exact (h10 c1 c2 c3 c4 c5 c6 c7 c8)
                · refine ev_k (pc' := 53) (pt_94_52 w) rfl ?_
                  exact ev_rz (pt_94_53 w) z1_0 (h11 c1 c2 c3 c4 c5 c6 c7 c8)

theorem wk_94_60 {w : qS} {M : qM} {x1 x2 x3 x4 x5 x6 : Int32} {o7 : Option Value} {r1 : Int32} {post : qR}
    (h1 : (c1 : ¬ x6 < (iN 2)) → (c2 : ¬ x5 = 0) → gE w 81 0 [some (.ref 148), none] [] M (fun r M' => gE w 94 158 [some (.ref 148), some (.int x1), some (.int x2), some (.int x3), some (.int x4), some (.int x5), some (.int x6), o7] (r.toList ++ []) M' post))
    (h2 : (c1 : ¬ x6 < (iN 2)) → (c2 : x5 = 0) → post (some (.int 0)) M)
    (h3 : (c1 : x6 < (iN 2)) → gE w 94 60 [some (.ref 148), some (.int x1), some (.int x2), some (.int x3), some (.int x4), some (.int (if x5 = 0 then 0 else (if ((x4 >>> (x6 &&& 31)) &&& 1) = 0 then 1 else (if (M 153 ((((iN 120) * x6) + ((iN 12) * x3)) + x2).toNatClampNeg) < 0 then (if (M 149 ((iN 352) + ((((iN 120) * x6) + ((iN 12) * x3)) + x2)).toNatClampNeg) = 0 then (if r1 = 0 then 0 else 1 : Int32) else 0 : Int32) else 0 : Int32) : Int32) : Int32)), some (.int (x6 + 1)), some (.int ((((iN 120) * x6) + ((iN 12) * x3)) + x2))] [] M post)
    (b4 : (c1 : x6 < (iN 2)) → (c3 : ¬ x5 = 0) → (c4 : ¬ ((x4 >>> (x6 &&& 31)) &&& 1) = 0) → vp_in ((((iN 120) * x6) + ((iN 12) * x3)) + x2) 240)
    (b5 : (c1 : x6 < (iN 2)) → (c3 : ¬ x5 = 0) → (c4 : ¬ ((x4 >>> (x6 &&& 31)) &&& 1) = 0) → (c5 : (M 153 ((((iN 120) * x6) + ((iN 12) * x3)) + x2).toNatClampNeg) < 0) → vp_in ((iN 352) + ((((iN 120) * x6) + ((iN 12) * x3)) + x2)) 592)
    (b6 : (c1 : x6 < (iN 2)) → (c3 : ¬ x5 = 0) → (c4 : ¬ ((x4 >>> (x6 &&& 31)) &&& 1) = 0) → (c5 : (M 153 ((((iN 120) * x6) + ((iN 12) * x3)) + x2).toNatClampNeg) < 0) → (c6 : (M 149 ((iN 352) + ((((iN 120) * x6) + ((iN 12) * x3)) + x2)).toNatClampNeg) = 0) → vp_in x1 16)
    (k7 : (c1 : x6 < (iN 2)) → (c3 : ¬ x5 = 0) → (c4 : ¬ ((x4 >>> (x6 &&& 31)) &&& 1) = 0) → (c5 : (M 153 ((((iN 120) * x6) + ((iN 12) * x3)) + x2).toNatClampNeg) < 0) → (c6 : (M 149 ((iN 352) + ((((iN 120) * x6) + ((iN 12) * x3)) + x2)).toNatClampNeg) = 0) → gE w 93 0 [some (.ref 148), some (.int ((((iN 120) * x6) + ((iN 12) * x3)) + x2)), some (.int (M 152 x1.toNatClampNeg))] [] M (qv1 M r1)) :
    gE w 94 60 [some (.ref 148), some (.int x1), some (.int x2), some (.int x3), some (.int x4), some (.int x5), some (.int x6), o7] [] M post := by
  refine ev_il (pc' := 62) (pt_94_60 w) rfl rfl ?_
  refine ev_k (pc' := 63) (pt_94_62 w) rfl ?_
  refine ev_cge (pc' := 66) (pt_94_63 w) rfl (fun c1 => ?_) (fun c1 => ?_)
  · refine ev_il (pc' := 149) (pt_94_147 w) rfl rfl ?_
    refine ev_zne (pc' := 152) (pt_94_149 w) rfl (fun c2 => ?_) (fun c2 => ?_)
    · refine ev_al (pc' := 155) (pt_94_154 w) rfl rfl ?_
      exact ev_cal (pc' := 158) (pt_94_155 w) (vs := [.ref 148]) (rest := []) (en := [some (.ref 148), none]) rfl rfl rfl rfl rfl rfl rfl (h1 c1 c2)
    · refine ev_k (pc' := 153) (pt_94_152 w) rfl ?_
      exact ev_rz (pt_94_153 w) z1_0 (h2 c1 c2)
  · refine ev_k (pc' := 68) (pt_94_66 w) rfl ?_
    refine ev_il (pc' := 70) (pt_94_68 w) rfl rfl ?_
    refine ev_b (pc' := 71) (pt_94_70 w) rfl ?_
    refine ev_k (pc' := 73) (pt_94_71 w) rfl ?_
    refine ev_il (pc' := 74) (pt_94_73 w) rfl rfl ?_
    refine ev_b (pc' := 75) (pt_94_74 w) rfl ?_
    refine ev_b (pc' := 76) (pt_94_75 w) rfl ?_
    refine ev_il (pc' := 77) (pt_94_76 w) rfl rfl ?_
    refine ev_b (pc' := 78) (pt_94_77 w) rfl ?_
    refine ev_is (pc' := 80) (loc1 := [some (.ref 148), some (.int x1), some (.int x2), some (.int x3), some (.int x4), some (.int x5), some (.int x6), some (.int ((((iN 120) * x6) + ((iN 12) * x3)) + x2))]) (pt_94_78 w) rfl rfl ?_
    refine ev_il (pc' := 82) (pt_94_80 w) rfl rfl ?_
    have j1 : ∀ v1 : Int32, v1 = (if x5 = 0 then 0 else (if ((x4 >>> (x6 &&& 31)) &&& 1) = 0 then 1 else (if (M 153 ((((iN 120) * x6) + ((iN 12) * x3)) + x2).toNatClampNeg) < 0 then (if (M 149 ((iN 352) + ((((iN 120) * x6) + ((iN 12) * x3)) + x2)).toNatClampNeg) = 0 then (if r1 = 0 then 0 else 1 : Int32) else 0 : Int32) else 0 : Int32) : Int32) : Int32) → gE w 94 139 [some (.ref 148), some (.int x1), some (.int x2), some (.int x3), some (.int x4), some (.int x5), some (.int x6), some (.int ((((iN 120) * x6) + ((iN 12) * x3)) + x2))] [.int v1] M post := by
      intro v1 e2
      subst v1
      refine ev_is (pc' := 141) (loc1 := [some (.ref 148), some (.int x1), some (.int x2), some (.int x3), some (.int x4), some (.int (if x5 = 0 then 0 else (if ((x4 >>> (x6 &&& 31)) &&& 1) = 0 then 1 else (if (M 153 ((((iN 120) * x6) + ((iN 12) * x3)) + x2).toNatClampNeg) < 0 then (if (M 149 ((iN 352) + ((((iN 120) * x6) + ((iN 12) * x3)) + x2)).toNatClampNeg) = 0 then (if r1 = 0 then 0 else 1 : Int32) else 0 : Int32) else 0 : Int32) : Int32) : Int32)), some (.int x6), some (.int ((((iN 120) * x6) + ((iN 12) * x3)) + x2))]) (pt_94_139 w) rfl rfl ?_
      refine ev_inc (pc' := 144) (loc1 := [some (.ref 148), some (.int x1), some (.int x2), some (.int x3), some (.int x4), some (.int (if x5 = 0 then 0 else (if ((x4 >>> (x6 &&& 31)) &&& 1) = 0 then 1 else (if (M 153 ((((iN 120) * x6) + ((iN 12) * x3)) + x2).toNatClampNeg) < 0 then (if (M 149 ((iN 352) + ((((iN 120) * x6) + ((iN 12) * x3)) + x2)).toNatClampNeg) = 0 then (if r1 = 0 then 0 else 1 : Int32) else 0 : Int32) else 0 : Int32) : Int32) : Int32)), some (.int (x6 + 1)), some (.int ((((iN 120) * x6) + ((iN 12) * x3)) + x2))]) (pt_94_141 w) rfl rfl rfl ?_
      refine ev_g (pt_94_144 w) ?_
      exact (h3 c1)
    refine ev_zeq (pc' := 85) (pt_94_82 w) rfl (fun c3 => ?_) (fun c3 => ?_)
    · refine ev_k (pc' := 139) (pt_94_138 w) rfl ?_
      exact j1 _ (if_pos c3).symm
    · refine ev_il (pc' := 87) (pt_94_85 w) rfl rfl ?_
      refine ev_il (pc' := 89) (pt_94_87 w) rfl rfl ?_
      refine ev_b (pc' := 90) (pt_94_89 w) rfl ?_
      refine ev_k (pc' := 91) (pt_94_90 w) rfl ?_
      refine ev_b (pc' := 92) (pt_94_91 w) rfl ?_
      refine ev_zeq (pc' := 95) (pt_94_92 w) rfl (fun c4 => ?_) (fun c4 => ?_)
      · refine ev_k (pc' := 135) (pt_94_134 w) rfl ?_
        refine ev_g (pt_94_135 w) ?_
        exact j1 _ ((if_neg c3).trans (if_pos c4)).symm
      · refine ev_al (pc' := 96) (pt_94_95 w) rfl rfl ?_
        refine ev_getr (pc' := 99) (pt_94_96 w) rfl rfl rfl ?_
        refine ev_il (pc' := 101) (pt_94_99 w) rfl rfl ?_
        refine ev_ia (pc' := 102) (pt_94_101 w) rfl rfl (b4 c1 c3 c4) ?_
        refine ev_zge (pc' := 105) (pt_94_102 w) rfl (fun c5 => ?_) (fun c5 => ?_)
        · refine ev_k (pc' := 139) (pt_94_138 w) rfl ?_
          exact j1 _ (((if_neg c3).trans (if_neg c4)).trans (if_neg c5)).symm
        · refine ev_al (pc' := 106) (pt_94_105 w) rfl rfl ?_
          refine ev_getr (pc' := 109) (pt_94_106 w) rfl rfl rfl ?_
          refine ev_k (pc' := 112) (pt_94_109 w) rfl ?_
          refine ev_il (pc' := 114) (pt_94_112 w) rfl rfl ?_
          refine ev_b (pc' := 115) (pt_94_114 w) rfl ?_
          refine ev_ia (pc' := 116) (pt_94_115 w) rfl rfl (b5 c1 c3 c4 c5) ?_
          refine ev_zne (pc' := 119) (pt_94_116 w) rfl (fun c6 => ?_) (fun c6 => ?_)
          · refine ev_k (pc' := 139) (pt_94_138 w) rfl ?_
            exact j1 _ ((((if_neg c3).trans (if_neg c4)).trans (if_pos c5)).trans (if_neg c6)).symm
          · refine ev_al (pc' := 120) (pt_94_119 w) rfl rfl ?_
            refine ev_il (pc' := 122) (pt_94_120 w) rfl rfl ?_
            refine ev_al (pc' := 123) (pt_94_122 w) rfl rfl ?_
            refine ev_getr (pc' := 126) (pt_94_123 w) rfl rfl rfl ?_
            refine ev_il (pc' := 127) (pt_94_126 w) rfl rfl ?_
            refine ev_ia (pc' := 128) (pt_94_127 w) rfl rfl (b6 c1 c3 c4 c5 c6) ?_
            refine ev_cal1 (pc' := 131) (pt_94_128 w) (vs := [.ref 148, .int ((((iN 120) * x6) + ((iN 12) * x3)) + x2), .int (M 152 x1.toNatClampNeg)]) (rest := []) (en := [some (.ref 148), some (.int ((((iN 120) * x6) + ((iN 12) * x3)) + x2)), some (.int (M 152 x1.toNatClampNeg))]) rfl rfl rfl rfl rfl rfl rfl (k7 c1 c3 c4 c5 c6) ?_
            refine ev_zeq (pc' := 134) (pt_94_131 w) rfl (fun c7 => ?_) (fun c7 => ?_)
            · refine ev_k (pc' := 139) (pt_94_138 w) rfl ?_
              exact j1 _ (((((if_neg c3).trans (if_neg c4)).trans (if_pos c5)).trans (if_pos c6)).trans (if_pos c7)).symm
            · refine ev_k (pc' := 135) (pt_94_134 w) rfl ?_
              refine ev_g (pt_94_135 w) ?_
              exact j1 _ (((((if_neg c3).trans (if_neg c4)).trans (if_pos c5)).trans (if_pos c6)).trans (if_neg c7)).symm

theorem wk_94_158 {w : qS} {M : qM} {x1 x2 x3 x4 : Int32} {o5 o6 o7 : Option Value} {post : qR}
    (b1 : vp_in ((iN 32) + x1) 592)
    (h2 : gE w 82 0 [some (.ref 148), none, none] [] (ms M 149 ((iN 32) + x1).toNatClampNeg ((((iN 120) * x4) + ((iN 12) * x3)) + x2)) (fun r M' => gE w 94 183 [some (.ref 148), some (.int x1), some (.int x2), some (.int x3), some (.int x4), o5, o6, o7] (r.toList ++ []) M' post)) :
    gE w 94 158 [some (.ref 148), some (.int x1), some (.int x2), some (.int x3), some (.int x4), o5, o6, o7] [] M post := by
  refine ev_al (pc' := 159) (pt_94_158 w) rfl rfl ?_
  refine ev_getr (pc' := 162) (pt_94_159 w) rfl rfl rfl ?_
  refine ev_k (pc' := 164) (pt_94_162 w) rfl ?_
  refine ev_il (pc' := 165) (pt_94_164 w) rfl rfl ?_
  refine ev_b (pc' := 166) (pt_94_165 w) rfl ?_
  refine ev_k (pc' := 168) (pt_94_166 w) rfl ?_
  refine ev_il (pc' := 170) (pt_94_168 w) rfl rfl ?_
  refine ev_b (pc' := 171) (pt_94_170 w) rfl ?_
  refine ev_k (pc' := 173) (pt_94_171 w) rfl ?_
  refine ev_il (pc' := 174) (pt_94_173 w) rfl rfl ?_
  refine ev_b (pc' := 175) (pt_94_174 w) rfl ?_
  refine ev_b (pc' := 176) (pt_94_175 w) rfl ?_
  refine ev_il (pc' := 177) (pt_94_176 w) rfl rfl ?_
  refine ev_b (pc' := 178) (pt_94_177 w) rfl ?_
  refine ev_ias (pc' := 179) (pt_94_178 w) rfl rfl b1 ?_
  refine ev_al (pc' := 180) (pt_94_179 w) rfl rfl ?_
  exact ev_cal (pc' := 183) (pt_94_180 w) (vs := [.ref 148]) (rest := []) (en := [some (.ref 148), none, none]) rfl rfl rfl rfl rfl rfl rfl h2

theorem wk_94_183 {w : qS} {M : qM} {o0 o1 o2 o3 o4 o5 o6 o7 : Option Value} {post : qR}
    (h1 : post (some (.int 1)) M) :
    gE w 94 183 [o0, o1, o2, o3, o4, o5, o6, o7] [] M post := by
  refine ev_k (pc' := 184) (pt_94_183 w) rfl ?_
  exact ev_rz (pt_94_184 w) z1_1 h1

-- BoardDeskModel.lift(I)Z
theorem wk_95_0 {w : qS} {M : qM} {x1 : Int32} {r1 : Int32} {post : qR}
    (k1 : gE w 84 0 [some (.ref 148), some (.int x1)] [] M (qv1 M r1))
    (h2 : (c1 : r1 = 0) → post (some (.int 0)) M)
    (b3 : (c1 : ¬ r1 = 0) → vp_in ((iN 32) + x1) 592)
    (h4 : (c1 : ¬ r1 = 0) → (c2 : ¬ (M 149 ((iN 32) + x1).toNatClampNeg) = 0) → gE w 81 0 [some (.ref 148), none] [] M (fun r M' => gE w 95 26 [some (.ref 148), some (.int x1)] (r.toList ++ []) M' post))
    (h5 : (c1 : ¬ r1 = 0) → (c2 : (M 149 ((iN 32) + x1).toNatClampNeg) = 0) → post (some (.int 0)) M) :
    gE w 95 0 [some (.ref 148), some (.int x1)] [] M post := by
  refine ev_al (pc' := 1) (pt_95_0 w) rfl rfl ?_
  refine ev_il (pc' := 2) (pt_95_1 w) rfl rfl ?_
  refine ev_cal1 (pc' := 5) (pt_95_2 w) (vs := [.ref 148, .int x1]) (rest := []) (en := [some (.ref 148), some (.int x1)]) rfl rfl rfl rfl rfl rfl rfl k1 ?_
  refine ev_zeq (pc' := 8) (pt_95_5 w) rfl (fun c1 => ?_) (fun c1 => ?_)
  · refine ev_k (pc' := 21) (pt_95_20 w) rfl ?_
    exact ev_rz (pt_95_21 w) z1_0 (h2 c1)
  · refine ev_al (pc' := 9) (pt_95_8 w) rfl rfl ?_
    refine ev_getr (pc' := 12) (pt_95_9 w) rfl rfl rfl ?_
    refine ev_k (pc' := 14) (pt_95_12 w) rfl ?_
    refine ev_il (pc' := 15) (pt_95_14 w) rfl rfl ?_
    refine ev_b (pc' := 16) (pt_95_15 w) rfl ?_
    refine ev_ia (pc' := 17) (pt_95_16 w) rfl rfl (b3 c1) ?_
    refine ev_zne (pc' := 20) (pt_95_17 w) rfl (fun c2 => ?_) (fun c2 => ?_)
    · refine ev_al (pc' := 23) (pt_95_22 w) rfl rfl ?_
      exact ev_cal (pc' := 26) (pt_95_23 w) (vs := [.ref 148]) (rest := []) (en := [some (.ref 148), none]) rfl rfl rfl rfl rfl rfl rfl (h4 c1 c2)
    · refine ev_k (pc' := 21) (pt_95_20 w) rfl ?_
      exact ev_rz (pt_95_21 w) z1_0 (h5 c1 c2)

theorem wk_95_26 {w : qS} {M : qM} {x1 : Int32} {post : qR}
    (b1 : vp_in ((iN 32) + x1) 592)
    (h2 : gE w 82 0 [some (.ref 148), none, none] [] (ms M 149 ((iN 32) + x1).toNatClampNeg 0) (fun r M' => gE w 95 40 [some (.ref 148), some (.int x1)] (r.toList ++ []) M' post)) :
    gE w 95 26 [some (.ref 148), some (.int x1)] [] M post := by
  refine ev_al (pc' := 27) (pt_95_26 w) rfl rfl ?_
  refine ev_getr (pc' := 30) (pt_95_27 w) rfl rfl rfl ?_
  refine ev_k (pc' := 32) (pt_95_30 w) rfl ?_
  refine ev_il (pc' := 33) (pt_95_32 w) rfl rfl ?_
  refine ev_b (pc' := 34) (pt_95_33 w) rfl ?_
  refine ev_k (pc' := 35) (pt_95_34 w) rfl ?_
  refine ev_ias (pc' := 36) (pt_95_35 w) rfl rfl b1 ?_
  refine ev_al (pc' := 37) (pt_95_36 w) rfl rfl ?_
  exact ev_cal (pc' := 40) (pt_95_37 w) (vs := [.ref 148]) (rest := []) (en := [some (.ref 148), none, none]) rfl rfl rfl rfl rfl rfl rfl h2

theorem wk_95_40 {w : qS} {M : qM} {o0 o1 : Option Value} {post : qR}
    (h1 : post (some (.int 1)) M) :
    gE w 95 40 [o0, o1] [] M post := by
  refine ev_k (pc' := 41) (pt_95_40 w) rfl ?_
  exact ev_rz (pt_95_41 w) z1_1 h1

-- BoardDeskModel.rule(I)I
theorem wk_96_0 {w : qS} {M : qM} {x1 : Int32} {post : qR}
    (h1 : (c1 : x1 < 1) → post (some (.int (-1))) M)
    (h2 : (c1 : ¬ x1 < 1) → (c2 : ¬ (iN 2) < x1) → gE w 81 0 [some (.ref 148), none] [] M (fun r M' => gE w 96 23 [some (.ref 148), some (.int x1), some (.int (M 149 2))] (r.toList ++ []) M' post))
    (h3 : (c1 : ¬ x1 < 1) → (c2 : (iN 2) < x1) → post (some (.int (-1))) M) :
    gE w 96 0 [some (.ref 148), some (.int x1), none] [] M post := by
  refine ev_il (pc' := 1) (pt_96_0 w) rfl rfl ?_
  refine ev_k (pc' := 2) (pt_96_1 w) rfl ?_
  refine ev_clt (pc' := 5) (pt_96_2 w) rfl (fun c1 => ?_) (fun c1 => ?_)
  · refine ev_k (pc' := 11) (pt_96_10 w) rfl ?_
    exact ev_ri1 (pt_96_11 w) (h1 c1)
  · refine ev_il (pc' := 6) (pt_96_5 w) rfl rfl ?_
    refine ev_k (pc' := 7) (pt_96_6 w) rfl ?_
    refine ev_cle (pc' := 10) (pt_96_7 w) rfl (fun c2 => ?_) (fun c2 => ?_)
    · refine ev_al (pc' := 13) (pt_96_12 w) rfl rfl ?_
      refine ev_getr (pc' := 16) (pt_96_13 w) rfl rfl rfl ?_
      refine ev_k (pc' := 17) (pt_96_16 w) rfl ?_
      refine ev_iac (j := 2) (pc' := 18) (pt_96_17 w) rfl rfl (vp_lit (by decide +kernel)) (by decide +kernel) ?_
      refine ev_is (pc' := 19) (loc1 := [some (.ref 148), some (.int x1), some (.int (M 149 2))]) (pt_96_18 w) rfl rfl ?_
      refine ev_al (pc' := 20) (pt_96_19 w) rfl rfl ?_
      exact ev_cal (pc' := 23) (pt_96_20 w) (vs := [.ref 148]) (rest := []) (en := [some (.ref 148), none]) rfl rfl rfl rfl rfl rfl rfl (h2 c1 c2)
    · refine ev_k (pc' := 11) (pt_96_10 w) rfl ?_
      exact ev_ri1 (pt_96_11 w) (h3 c1 c2)

theorem wk_96_23 {w : qS} {M : qM} {x1 x2 : Int32} {post : qR}
    (h1 : gE w 82 0 [some (.ref 148), none, none] [] (ms M 149 2 x1) (fun r M' => gE w 96 34 [some (.ref 148), some (.int x1), some (.int x2)] (r.toList ++ []) M' post)) :
    gE w 96 23 [some (.ref 148), some (.int x1), some (.int x2)] [] M post := by
  refine ev_al (pc' := 24) (pt_96_23 w) rfl rfl ?_
  refine ev_getr (pc' := 27) (pt_96_24 w) rfl rfl rfl ?_
  refine ev_k (pc' := 28) (pt_96_27 w) rfl ?_
  refine ev_il (pc' := 29) (pt_96_28 w) rfl rfl ?_
  refine ev_iasc (j := 2) (pc' := 30) (pt_96_29 w) rfl rfl (vp_lit (by decide +kernel)) (by decide +kernel) ?_
  refine ev_al (pc' := 31) (pt_96_30 w) rfl rfl ?_
  exact ev_cal (pc' := 34) (pt_96_31 w) (vs := [.ref 148]) (rest := []) (en := [some (.ref 148), none, none]) rfl rfl rfl rfl rfl rfl rfl h1

theorem wk_96_34 {w : qS} {M : qM} {x2 : Int32} {o0 o1 : Option Value} {post : qR}
    (h1 : post (some (.int x2)) M) :
    gE w 96 34 [o0, o1, some (.int x2)] [] M post := by
  refine ev_il (pc' := 35) (pt_96_34 w) rfl rfl ?_
  exact ev_ri1 (pt_96_35 w) h1

-- BoardDeskModel.bar(IZ)Z
theorem wk_97_0 {w : qS} {M : qM} {x1 x2 : Int32} {r1 : Int32} {post : qR}
    (k1 : gE w 85 0 [some (.int x1)] [] M (qv1 M r1))
    (h2 : (c1 : r1 = 0) → post (some (.int 0)) M)
    (h3 : (c1 : ¬ r1 = 0) → (c2 : x2 = 0) → gE w 81 0 [some (.ref 148), none] [] M (fun r M' => gE w 97 26 [some (.ref 148), some (.int x1), some (.int x2)] (r.toList ++ []) M' post))
    (b4 : (c1 : ¬ r1 = 0) → (c2 : ¬ x2 = 0) → vp_in x1 240)
    (h5 : (c1 : ¬ r1 = 0) → (c2 : ¬ x2 = 0) → (c3 : (M 154 x1.toNatClampNeg) < 0) → gE w 81 0 [some (.ref 148), none] [] M (fun r M' => gE w 97 26 [some (.ref 148), some (.int x1), some (.int x2)] (r.toList ++ []) M' post))
    (h6 : (c1 : ¬ r1 = 0) → (c2 : ¬ x2 = 0) → (c3 : ¬ (M 154 x1.toNatClampNeg) < 0) → post (some (.int 0)) M) :
    gE w 97 0 [some (.ref 148), some (.int x1), some (.int x2)] [] M post := by
  refine ev_il (pc' := 1) (pt_97_0 w) rfl rfl ?_
  refine ev_cal1 (pc' := 4) (pt_97_1 w) (vs := [.int x1]) (rest := []) (en := [some (.int x1)]) rfl rfl rfl rfl trivial rfl rfl k1 ?_
  refine ev_zeq (pc' := 7) (pt_97_4 w) rfl (fun c1 => ?_) (fun c1 => ?_)
  · refine ev_k (pc' := 21) (pt_97_20 w) rfl ?_
    exact ev_rz (pt_97_21 w) z1_0 (h2 c1)
  · refine ev_il (pc' := 8) (pt_97_7 w) rfl rfl ?_
    refine ev_zeq (pc' := 11) (pt_97_8 w) rfl (fun c2 => ?_) (fun c2 => ?_)
    · refine ev_al (pc' := 23) (pt_97_22 w) rfl rfl ?_
      exact ev_cal (pc' := 26) (pt_97_23 w) (vs := [.ref 148]) (rest := []) (en := [some (.ref 148), none]) rfl rfl rfl rfl rfl rfl rfl (h3 c1 c2)
    · refine ev_al (pc' := 12) (pt_97_11 w) rfl rfl ?_
      refine ev_getr (pc' := 15) (pt_97_12 w) rfl rfl rfl ?_
      refine ev_il (pc' := 16) (pt_97_15 w) rfl rfl ?_
      refine ev_ia (pc' := 17) (pt_97_16 w) rfl rfl (b4 c1 c2) ?_
      refine ev_zlt (pc' := 20) (pt_97_17 w) rfl (fun c3 => ?_) (fun c3 => ?_)
      · refine ev_al (pc' := 23) (pt_97_22 w) rfl rfl ?_
        exact ev_cal (pc' := 26) (pt_97_23 w) (vs := [.ref 148]) (rest := []) (en := [some (.ref 148), none]) rfl rfl rfl rfl rfl rfl rfl (h5 c1 c2 c3)
      · refine ev_k (pc' := 21) (pt_97_20 w) rfl ?_
        exact ev_rz (pt_97_21 w) z1_0 (h6 c1 c2 c3)

theorem wk_97_26 {w : qS} {M : qM} {x1 x2 : Int32} {post : qR}
    (b1 : vp_in ((iN 112) + x1) 592)
    (h2 : gE w 82 0 [some (.ref 148), none, none] [] (ms M 149 ((iN 112) + x1).toNatClampNeg (if x2 = 0 then 0 else 1 : Int32)) (fun r M' => gE w 97 48 [some (.ref 148), some (.int x1), some (.int x2)] (r.toList ++ []) M' post)) :
    gE w 97 26 [some (.ref 148), some (.int x1), some (.int x2)] [] M post := by
  refine ev_al (pc' := 27) (pt_97_26 w) rfl rfl ?_
  refine ev_getr (pc' := 30) (pt_97_27 w) rfl rfl rfl ?_
  refine ev_k (pc' := 32) (pt_97_30 w) rfl ?_
  refine ev_il (pc' := 33) (pt_97_32 w) rfl rfl ?_
  refine ev_b (pc' := 34) (pt_97_33 w) rfl ?_
  refine ev_il (pc' := 35) (pt_97_34 w) rfl rfl ?_
  have j1 : ∀ v1 : Int32, v1 = (if x2 = 0 then 0 else 1 : Int32) → gE w 97 43 [some (.ref 148), some (.int x1), some (.int x2)] [.int v1, .int ((iN 112) + x1), .ref 149] M post := by
    intro v1 e2
    subst v1
    refine ev_ias (pc' := 44) (pt_97_43 w) rfl rfl b1 ?_
    refine ev_al (pc' := 45) (pt_97_44 w) rfl rfl ?_
    exact ev_cal (pc' := 48) (pt_97_45 w) (vs := [.ref 148]) (rest := []) (en := [some (.ref 148), none, none]) rfl rfl rfl rfl rfl rfl rfl h2
  refine ev_zeq (pc' := 38) (pt_97_35 w) rfl (fun c1 => ?_) (fun c1 => ?_)
  · refine ev_k (pc' := 43) (pt_97_42 w) rfl ?_
    exact j1 _ (if_pos c1).symm
  · refine ev_k (pc' := 39) (pt_97_38 w) rfl ?_
    refine ev_g (pt_97_39 w) ?_
    exact j1 _ (if_neg c1).symm

theorem wk_97_48 {w : qS} {M : qM} {x2 : Int32} {o0 o1 : Option Value} {post : qR}
    (n1 : x2 = 0 ∨ x2 = 1)
    (h2 : post (some (.int x2)) M) :
    gE w 97 48 [o0, o1, some (.int x2)] [] M post := by
  refine ev_il (pc' := 49) (pt_97_48 w) rfl rfl ?_
  exact ev_rz (pt_97_49 w) n1 h2

-- BoardDeskModel.across(I)I
theorem wk_98_0 {w : qS} {M : qM} {x0 : Int32} {post : qR}
    (h1 : post (some (.int (if x0 = 0 then 1 else (if x0 = 1 then 1 else (if x0 = (iN 7) then 1 else (if (iN 2) < x0 then (if x0 < (iN 6) then (-1) else 0 : Int32) else 0 : Int32) : Int32) : Int32) : Int32))) M) :
    gE w 98 0 [some (.int x0)] [] M post := by
  refine ev_il (pc' := 1) (pt_98_0 w) rfl rfl ?_
  have j1 : ∀ v1 : Int32, v1 = (if x0 = 0 then 1 else (if x0 = 1 then 1 else (if x0 = (iN 7) then 1 else (if (iN 2) < x0 then (if x0 < (iN 6) then (-1) else 0 : Int32) else 0 : Int32) : Int32) : Int32) : Int32) → gE w 98 35 [some (.int x0)] [.int v1] M post := by
    intro v1 e2
    subst v1
    exact ev_ri1 (pt_98_35 w) h1
  refine ev_zeq (pc' := 4) (pt_98_1 w) rfl (fun c1 => ?_) (fun c1 => ?_)
  · refine ev_k (pc' := 16) (pt_98_15 w) rfl ?_
    refine ev_g (pt_98_16 w) ?_
    exact j1 _ (if_pos c1).symm
  · refine ev_il (pc' := 5) (pt_98_4 w) rfl rfl ?_
    refine ev_k (pc' := 6) (pt_98_5 w) rfl ?_
    refine ev_ceq (pc' := 9) (pt_98_6 w) rfl (fun c2 => ?_) (fun c2 => ?_)
    · refine ev_k (pc' := 16) (pt_98_15 w) rfl ?_
      refine ev_g (pt_98_16 w) ?_
      exact j1 _ ((if_neg c1).trans (if_pos c2)).symm
    · refine ev_il (pc' := 10) (pt_98_9 w) rfl rfl ?_
      refine ev_k (pc' := 12) (pt_98_10 w) rfl ?_
      refine ev_cne (pc' := 15) (pt_98_12 w) rfl (fun c3 => ?_) (fun c3 => ?_)
      · refine ev_il (pc' := 20) (pt_98_19 w) rfl rfl ?_
        refine ev_k (pc' := 21) (pt_98_20 w) rfl ?_
        refine ev_cle (pc' := 24) (pt_98_21 w) rfl (fun c4 => ?_) (fun c4 => ?_)
        · refine ev_k (pc' := 35) (pt_98_34 w) rfl ?_
          exact j1 _ ((((if_neg c1).trans (if_neg c2)).trans (if_neg c3)).trans (if_neg c4)).symm
        · refine ev_il (pc' := 25) (pt_98_24 w) rfl rfl ?_
          refine ev_k (pc' := 27) (pt_98_25 w) rfl ?_
          refine ev_cge (pc' := 30) (pt_98_27 w) rfl (fun c5 => ?_) (fun c5 => ?_)
          · refine ev_k (pc' := 35) (pt_98_34 w) rfl ?_
            exact j1 _ (((((if_neg c1).trans (if_neg c2)).trans (if_neg c3)).trans (if_pos c4)).trans (if_neg c5)).symm
          · refine ev_k (pc' := 31) (pt_98_30 w) rfl ?_
            refine ev_g (pt_98_31 w) ?_
            exact j1 _ (((((if_neg c1).trans (if_neg c2)).trans (if_neg c3)).trans (if_pos c4)).trans (if_pos c5)).symm
      · refine ev_k (pc' := 16) (pt_98_15 w) rfl ?_
        refine ev_g (pt_98_16 w) ?_
        exact j1 _ (((if_neg c1).trans (if_neg c2)).trans (if_pos c3)).symm

-- BoardDeskModel.down(I)I
theorem wk_99_0 {w : qS} {M : qM} {x0 : Int32} {post : qR}
    (h1 : post (some (.int (if 0 < x0 then (if x0 < (iN 4) then 1 else (if (iN 4) < x0 then (if x0 < (iN 8) then (-1) else 0 : Int32) else 0 : Int32) : Int32) else (if (iN 4) < x0 then (if x0 < (iN 8) then (-1) else 0 : Int32) else 0 : Int32) : Int32))) M) :
    gE w 99 0 [some (.int x0)] [] M post := by
  refine ev_il (pc' := 1) (pt_99_0 w) rfl rfl ?_
  have j1 : ∀ v1 : Int32, v1 = (if 0 < x0 then (if x0 < (iN 4) then 1 else (if (iN 4) < x0 then (if x0 < (iN 8) then (-1) else 0 : Int32) else 0 : Int32) : Int32) else (if (iN 4) < x0 then (if x0 < (iN 8) then (-1) else 0 : Int32) else 0 : Int32) : Int32) → gE w 99 29 [some (.int x0)] [.int v1] M post := by
    intro v1 e2
    subst v1
    exact ev_ri1 (pt_99_29 w) h1
  refine ev_zle (pc' := 4) (pt_99_1 w) rfl (fun c1 => ?_) (fun c1 => ?_)
  · refine ev_il (pc' := 14) (pt_99_13 w) rfl rfl ?_
    refine ev_k (pc' := 15) (pt_99_14 w) rfl ?_
    refine ev_cle (pc' := 18) (pt_99_15 w) rfl (fun c2 => ?_) (fun c2 => ?_)
    · refine ev_k (pc' := 29) (pt_99_28 w) rfl ?_
      exact j1 _ ((if_neg c1).trans (if_neg c2)).symm
    · refine ev_il (pc' := 19) (pt_99_18 w) rfl rfl ?_
      refine ev_k (pc' := 21) (pt_99_19 w) rfl ?_
      refine ev_cge (pc' := 24) (pt_99_21 w) rfl (fun c3 => ?_) (fun c3 => ?_)
      · refine ev_k (pc' := 29) (pt_99_28 w) rfl ?_
        exact j1 _ (((if_neg c1).trans (if_pos c2)).trans (if_neg c3)).symm
      · refine ev_k (pc' := 25) (pt_99_24 w) rfl ?_
        refine ev_g (pt_99_25 w) ?_
        exact j1 _ (((if_neg c1).trans (if_pos c2)).trans (if_pos c3)).symm
  · refine ev_il (pc' := 5) (pt_99_4 w) rfl rfl ?_
    refine ev_k (pc' := 6) (pt_99_5 w) rfl ?_
    refine ev_cge (pc' := 9) (pt_99_6 w) rfl (fun c4 => ?_) (fun c4 => ?_)
    · refine ev_il (pc' := 14) (pt_99_13 w) rfl rfl ?_
      refine ev_k (pc' := 15) (pt_99_14 w) rfl ?_
      refine ev_cle (pc' := 18) (pt_99_15 w) rfl (fun c5 => ?_) (fun c5 => ?_)
      · refine ev_k (pc' := 29) (pt_99_28 w) rfl ?_
        exact j1 _ (((if_pos c1).trans (if_neg c4)).trans (if_neg c5)).symm
      · refine ev_il (pc' := 19) (pt_99_18 w) rfl rfl ?_
        refine ev_k (pc' := 21) (pt_99_19 w) rfl ?_
        refine ev_cge (pc' := 24) (pt_99_21 w) rfl (fun c6 => ?_) (fun c6 => ?_)
        · refine ev_k (pc' := 29) (pt_99_28 w) rfl ?_
          exact j1 _ ((((if_pos c1).trans (if_neg c4)).trans (if_pos c5)).trans (if_neg c6)).symm
        · refine ev_k (pc' := 25) (pt_99_24 w) rfl ?_
          refine ev_g (pt_99_25 w) ?_
          exact j1 _ ((((if_pos c1).trans (if_neg c4)).trans (if_pos c5)).trans (if_pos c6)).symm
    · refine ev_k (pc' := 10) (pt_99_9 w) rfl ?_
      refine ev_g (pt_99_10 w) ?_
      exact j1 _ ((if_pos c1).trans (if_pos c4)).symm

-- BoardDeskModel.next(II)I
theorem wk_100_0 {w : qS} {M : qM} {x0 x1 : Int32} {r1 : Int32} {r2 : Int32} {post : qR}
    (k1 : (c1 : ¬ x1 = (iN 8)) → gE w 98 0 [some (.int x1)] [] M (qv1 M r1))
    (k2 : (c1 : ¬ x1 = (iN 8)) → gE w 99 0 [some (.int x1)] [] M (qv1 M r2))
    (h3 : (c1 : ¬ x1 = (iN 8)) → post (some (.int (if ((x0 - x0 / (iN 12) * (iN 12)) + r1) < 0 then (-1) else (if (iN 11) < ((x0 - x0 / (iN 12) * (iN 12)) + r1) then (-1) else (if (((x0 - x0 / (iN 120) * (iN 120)) / (iN 12)) + r2) < 0 then (-1) else (if (iN 9) < (((x0 - x0 / (iN 120) * (iN 120)) / (iN 12)) + r2) then (-1) else ((x0 + ((iN 12) * r2)) + r1) : Int32) : Int32) : Int32) : Int32))) M)
    (h4 : (c1 : x1 = (iN 8)) → post (some (.int (if x0 < (iN 120) then (x0 + (iN 120)) else (x0 - (iN 120)) : Int32))) M) :
    gE w 100 0 [some (.int x0), some (.int x1), none, none] [] M post := by
  refine ev_il (pc' := 1) (pt_100_0 w) rfl rfl ?_
  refine ev_k (pc' := 3) (pt_100_1 w) rfl ?_
  refine ev_cne (pc' := 6) (pt_100_3 w) rfl (fun c1 => ?_) (fun c1 => ?_)
  · refine ev_il (pc' := 25) (pt_100_24 w) rfl rfl ?_
    refine ev_k (pc' := 27) (pt_100_25 w) rfl ?_
    refine ev_d (pc' := 28) (pt_100_27 w) rfl (by decide +kernel) ?_
    refine ev_il (pc' := 29) (pt_100_28 w) rfl rfl ?_
    refine ev_cal1 (pc' := 32) (pt_100_29 w) (vs := [.int x1]) (rest := [.int (x0 - x0 / (iN 12) * (iN 12))]) (en := [some (.int x1)]) rfl rfl rfl rfl trivial rfl rfl (k1 c1) ?_
    refine ev_b (pc' := 33) (pt_100_32 w) rfl ?_
    refine ev_is (pc' := 34) (loc1 := [some (.int x0), some (.int x1), some (.int ((x0 - x0 / (iN 12) * (iN 12)) + r1)), none]) (pt_100_33 w) rfl rfl ?_
    refine ev_il (pc' := 35) (pt_100_34 w) rfl rfl ?_
    refine ev_k (pc' := 37) (pt_100_35 w) rfl ?_
    refine ev_d (pc' := 38) (pt_100_37 w) rfl (by decide +kernel) ?_
    refine ev_k (pc' := 40) (pt_100_38 w) rfl ?_
    refine ev_d (pc' := 41) (pt_100_40 w) rfl (by decide +kernel) ?_
    refine ev_il (pc' := 42) (pt_100_41 w) rfl rfl ?_
    refine ev_cal1 (pc' := 45) (pt_100_42 w) (vs := [.int x1]) (rest := [.int ((x0 - x0 / (iN 120) * (iN 120)) / (iN 12))]) (en := [some (.int x1)]) rfl rfl rfl rfl trivial rfl rfl (k2 c1) ?_
    refine ev_b (pc' := 46) (pt_100_45 w) rfl ?_
    refine ev_is (pc' := 47) (loc1 := [some (.int x0), some (.int x1), some (.int ((x0 - x0 / (iN 12) * (iN 12)) + r1)), some (.int (((x0 - x0 / (iN 120) * (iN 120)) / (iN 12)) + r2))]) (pt_100_46 w) rfl rfl ?_
    refine ev_il (pc' := 48) (pt_100_47 w) rfl rfl ?_
    have j1 : ∀ v1 : Int32, v1 = (if ((x0 - x0 / (iN 12) * (iN 12)) + r1) < 0 then (-1) else (if (iN 11) < ((x0 - x0 / (iN 12) * (iN 12)) + r1) then (-1) else (if (((x0 - x0 / (iN 120) * (iN 120)) / (iN 12)) + r2) < 0 then (-1) else (if (iN 9) < (((x0 - x0 / (iN 120) * (iN 120)) / (iN 12)) + r2) then (-1) else ((x0 + ((iN 12) * r2)) + r1) : Int32) : Int32) : Int32) : Int32) → gE w 100 85 [some (.int x0), some (.int x1), some (.int ((x0 - x0 / (iN 12) * (iN 12)) + r1)), some (.int (((x0 - x0 / (iN 120) * (iN 120)) / (iN 12)) + r2))] [.int v1] M post := by
      intro v1 e2
      subst v1
      exact ev_ri1 (pt_100_85 w) (h3 c1)
    refine ev_zlt (pc' := 51) (pt_100_48 w) rfl (fun c2 => ?_) (fun c2 => ?_)
    · refine ev_k (pc' := 68) (pt_100_67 w) rfl ?_
      refine ev_g (pt_100_68 w) ?_
      exact j1 _ (if_pos c2).symm
    · refine ev_il (pc' := 52) (pt_100_51 w) rfl rfl ?_
      refine ev_k (pc' := 54) (pt_100_52 w) rfl ?_
      refine ev_cgt (pc' := 57) (pt_100_54 w) rfl (fun c3 => ?_) (fun c3 => ?_)
      · refine ev_k (pc' := 68) (pt_100_67 w) rfl ?_
        refine ev_g (pt_100_68 w) ?_
        exact j1 _ ((if_neg c2).trans (if_pos c3)).symm
      · refine ev_il (pc' := 58) (pt_100_57 w) rfl rfl ?_
        refine ev_zlt (pc' := 61) (pt_100_58 w) rfl (fun c4 => ?_) (fun c4 => ?_)
        · refine ev_k (pc' := 68) (pt_100_67 w) rfl ?_
          refine ev_g (pt_100_68 w) ?_
          exact j1 _ (((if_neg c2).trans (if_neg c3)).trans (if_pos c4)).symm
        · refine ev_il (pc' := 62) (pt_100_61 w) rfl rfl ?_
          refine ev_k (pc' := 64) (pt_100_62 w) rfl ?_
          refine ev_cle (pc' := 67) (pt_100_64 w) rfl (fun c5 => ?_) (fun c5 => ?_)
          · refine ev_il (pc' := 72) (pt_100_71 w) rfl rfl ?_
            refine ev_k (pc' := 74) (pt_100_72 w) rfl ?_
            refine ev_il (pc' := 75) (pt_100_74 w) rfl rfl ?_
            refine ev_cal1 (pc' := 78) (pt_100_75 w) (vs := [.int x1]) (rest := [.int (iN 12), .int x0]) (en := [some (.int x1)]) rfl rfl rfl rfl trivial rfl rfl (k2 c1) ?_
            refine ev_b (pc' := 79) (pt_100_78 w) rfl ?_
            refine ev_b (pc' := 80) (pt_100_79 w) rfl ?_
            refine ev_il (pc' := 81) (pt_100_80 w) rfl rfl ?_
            refine ev_cal1 (pc' := 84) (pt_100_81 w) (vs := [.int x1]) (rest := [.int (x0 + ((iN 12) * r2))]) (en := [some (.int x1)]) rfl rfl rfl rfl trivial rfl rfl (k1 c1) ?_
            refine ev_b (pc' := 85) (pt_100_84 w) rfl ?_
            exact j1 _ ((((if_neg c2).trans (if_neg c3)).trans (if_neg c4)).trans (if_neg c5)).symm
          · refine ev_k (pc' := 68) (pt_100_67 w) rfl ?_
            refine ev_g (pt_100_68 w) ?_
            exact j1 _ ((((if_neg c2).trans (if_neg c3)).trans (if_neg c4)).trans (if_pos c5)).symm
  · refine ev_il (pc' := 7) (pt_100_6 w) rfl rfl ?_
    refine ev_k (pc' := 9) (pt_100_7 w) rfl ?_
    have j2 : ∀ v3 : Int32, v3 = (if x0 < (iN 120) then (x0 + (iN 120)) else (x0 - (iN 120)) : Int32) → gE w 100 23 [some (.int x0), some (.int x1), none, none] [.int v3] M post := by
      intro v3 e4
      subst v3
      exact ev_ri1 (pt_100_23 w) (h4 c1)
    refine ev_cge (pc' := 12) (pt_100_9 w) rfl (fun c6 => ?_) (fun c6 => ?_)
    · refine ev_il (pc' := 20) (pt_100_19 w) rfl rfl ?_
      refine ev_k (pc' := 22) (pt_100_20 w) rfl ?_
      refine ev_b (pc' := 23) (pt_100_22 w) rfl ?_
      exact j2 _ (if_neg c6).symm
    · refine ev_il (pc' := 13) (pt_100_12 w) rfl rfl ?_
      refine ev_k (pc' := 15) (pt_100_13 w) rfl ?_
      refine ev_b (pc' := 16) (pt_100_15 w) rfl ?_
      refine ev_g (pt_100_16 w) ?_
      exact j2 _ (if_pos c6).symm

-- BoardDeskModel.track(IIII)I
theorem wk_101_0 {w : qS} {M : qM} {x1 x2 x3 x4 : Int32} {r1 : Int32} {r2 : Int32} {post : qR}
    (k1 : gE w 84 0 [some (.ref 148), some (.int x1)] [] M (qv1 M r1))
    (h2 : (c1 : r1 = 0) → post (some (.int (-1))) M)
    (k3 : (c1 : ¬ r1 = 0) → gE w 85 0 [some (.int x2)] [] M (qv1 M r2))
    (h4 : (c1 : ¬ r1 = 0) → (c2 : r2 = 0) → post (some (.int (-1))) M)
    (h5 : (c1 : ¬ r1 = 0) → (c2 : ¬ r2 = 0) → (c3 : x3 < 0) → post (some (.int (-1))) M)
    (h6 : (c1 : ¬ r1 = 0) → (c2 : ¬ r2 = 0) → (c3 : ¬ x3 < 0) → (c4 : (iN 8) < x3) → post (some (.int (-1))) M)
    (h7 : (c1 : ¬ r1 = 0) → (c2 : ¬ r2 = 0) → (c3 : ¬ x3 < 0) → (c4 : ¬ (iN 8) < x3) → (c5 : x4 < 0) → post (some (.int (-1))) M)
    (h8 : (c1 : ¬ r1 = 0) → (c2 : ¬ r2 = 0) → (c3 : ¬ x3 < 0) → (c4 : ¬ (iN 8) < x3) → (c5 : ¬ x4 < 0) → (c6 : ¬ (if x3 = (iN 8) then 1 else (iN 11) : Int32) < x4) → gE w 101 55 [some (.ref 148), some (.int x1), some (.int x2), some (.int x3), some (.int x4), some (.int x2), some (.int 0), none] [] M post)
    (h9 : (c1 : ¬ r1 = 0) → (c2 : ¬ r2 = 0) → (c3 : ¬ x3 < 0) → (c4 : ¬ (iN 8) < x3) → (c5 : ¬ x4 < 0) → (c6 : (if x3 = (iN 8) then 1 else (iN 11) : Int32) < x4) → post (some (.int (-1))) M) :
    gE w 101 0 [some (.ref 148), some (.int x1), some (.int x2), some (.int x3), some (.int x4), none, none, none] [] M post := by
  refine ev_al (pc' := 1) (pt_101_0 w) rfl rfl ?_
  refine ev_il (pc' := 2) (pt_101_1 w) rfl rfl ?_
  refine ev_cal1 (pc' := 5) (pt_101_2 w) (vs := [.ref 148, .int x1]) (rest := []) (en := [some (.ref 148), some (.int x1)]) rfl rfl rfl rfl rfl rfl rfl k1 ?_
  refine ev_zeq (pc' := 8) (pt_101_5 w) rfl (fun c1 => ?_) (fun c1 => ?_)
  · refine ev_k (pc' := 48) (pt_101_47 w) rfl ?_
    exact ev_ri1 (pt_101_48 w) (h2 c1)
  · refine ev_il (pc' := 9) (pt_101_8 w) rfl rfl ?_
    refine ev_cal1 (pc' := 12) (pt_101_9 w) (vs := [.int x2]) (rest := []) (en := [some (.int x2)]) rfl rfl rfl rfl trivial rfl rfl (k3 c1) ?_
    refine ev_zeq (pc' := 15) (pt_101_12 w) rfl (fun c2 => ?_) (fun c2 => ?_)
    · refine ev_k (pc' := 48) (pt_101_47 w) rfl ?_
      exact ev_ri1 (pt_101_48 w) (h4 c1 c2)
    · refine ev_il (pc' := 16) (pt_101_15 w) rfl rfl ?_
      refine ev_zlt (pc' := 19) (pt_101_16 w) rfl (fun c3 => ?_) (fun c3 => ?_)
      · refine ev_k (pc' := 48) (pt_101_47 w) rfl ?_
        exact ev_ri1 (pt_101_48 w) (h5 c1 c2 c3)
      · refine ev_il (pc' := 20) (pt_101_19 w) rfl rfl ?_
        refine ev_k (pc' := 22) (pt_101_20 w) rfl ?_
        refine ev_cgt (pc' := 25) (pt_101_22 w) rfl (fun c4 => ?_) (fun c4 => ?_)
        · refine ev_k (pc' := 48) (pt_101_47 w) rfl ?_
          exact ev_ri1 (pt_101_48 w) (h6 c1 c2 c3 c4)
        · refine ev_il (pc' := 27) (pt_101_25 w) rfl rfl ?_
          refine ev_zlt (pc' := 30) (pt_101_27 w) rfl (fun c5 => ?_) (fun c5 => ?_)
          · refine ev_k (pc' := 48) (pt_101_47 w) rfl ?_
            exact ev_ri1 (pt_101_48 w) (h7 c1 c2 c3 c4 c5)
          · refine ev_il (pc' := 32) (pt_101_30 w) rfl rfl ?_
            refine ev_il (pc' := 33) (pt_101_32 w) rfl rfl ?_
            refine ev_k (pc' := 35) (pt_101_33 w) rfl ?_
            have j1 : ∀ v1 : Int32, v1 = (if x3 = (iN 8) then 1 else (iN 11) : Int32) → gE w 101 44 [some (.ref 148), some (.int x1), some (.int x2), some (.int x3), some (.int x4), none, none, none] [.int v1, .int x4] M post := by
              intro v1 e2
              subst v1
              refine ev_cle (pc' := 47) (pt_101_44 w) rfl (fun c6 => ?_) (fun c6 => ?_)
              · refine ev_il (pc' := 50) (pt_101_49 w) rfl rfl ?_
                refine ev_is (pc' := 52) (loc1 := [some (.ref 148), some (.int x1), some (.int x2), some (.int x3), some (.int x4), some (.int x2), none, none]) (pt_101_50 w) rfl rfl ?_
                refine ev_k (pc' := 53) (pt_101_52 w) rfl ?_
                refine ev_is (pc' := 55) (loc1 := [some (.ref 148), some (.int x1), some (.int x2), some (.int x3), some (.int x4), some (.int x2), some (.int 0), none]) (pt_101_53 w) rfl rfl ?_
                exact (h8 c1 c2 c3 c4 c5 c6)
              · refine ev_k (pc' := 48) (pt_101_47 w) rfl ?_
                exact ev_ri1 (pt_101_48 w) (h9 c1 c2 c3 c4 c5 c6)
            refine ev_cne (pc' := 38) (pt_101_35 w) rfl (fun c7 => ?_) (fun c7 => ?_)
            · refine ev_k (pc' := 44) (pt_101_42 w) rfl ?_
              exact j1 _ (if_neg c7).symm
            · refine ev_k (pc' := 39) (pt_101_38 w) rfl ?_
              refine ev_g (pt_101_39 w) ?_
              exact j1 _ (if_pos c7).symm

theorem wk_101_55 {w : qS} {M : qM} {x1 x2 x3 x4 x5 x6 : Int32} {o7 : Option Value} {r1 : Int32} {r2 : Int32} {post : qR}
    (h1 : (c1 : x4 < x6) → gE w 81 0 [some (.ref 148), none] [] M (fun r M' => gE w 101 102 [some (.ref 148), some (.int x1), some (.int x2), some (.int x3), some (.int x4), some (.int x5), some (.int x6), o7] (r.toList ++ []) M' post))
    (h2 : (c1 : ¬ x4 < x6) → (c2 : x5 < 0) → post (some (.int (-1))) M)
    (b3 : (c1 : ¬ x4 < x6) → (c2 : ¬ x5 < 0) → vp_in x1 16)
    (k4 : (c1 : ¬ x4 < x6) → (c2 : ¬ x5 < 0) → gE w 93 0 [some (.ref 148), some (.int x5), some (.int (M 152 x1.toNatClampNeg))] [] M (qv1 M r1))
    (k5 : (c1 : ¬ x4 < x6) → (c2 : ¬ x5 < 0) → (c3 : ¬ r1 = 0) → gE w 100 0 [some (.int x5), some (.int x3), none, none] [] M (qv1 M r2))
    (h6 : (c1 : ¬ x4 < x6) → (c2 : ¬ x5 < 0) → (c3 : ¬ r1 = 0) → gE w 101 55 [some (.ref 148), some (.int x1), some (.int x2), some (.int x3), some (.int x4), some (.int r2), some (.int (x6 + 1)), o7] [] M post)
    (h7 : (c1 : ¬ x4 < x6) → (c2 : ¬ x5 < 0) → (c3 : r1 = 0) → post (some (.int (-1))) M) :
    gE w 101 55 [some (.ref 148), some (.int x1), some (.int x2), some (.int x3), some (.int x4), some (.int x5), some (.int x6), o7] [] M post := by
  refine ev_il (pc' := 57) (pt_101_55 w) rfl rfl ?_
  refine ev_il (pc' := 59) (pt_101_57 w) rfl rfl ?_
  refine ev_cgt (pc' := 62) (pt_101_59 w) rfl (fun c1 => ?_) (fun c1 => ?_)
  · refine ev_al (pc' := 99) (pt_101_98 w) rfl rfl ?_
    exact ev_cal (pc' := 102) (pt_101_99 w) (vs := [.ref 148]) (rest := []) (en := [some (.ref 148), none]) rfl rfl rfl rfl rfl rfl rfl (h1 c1)
  · refine ev_il (pc' := 64) (pt_101_62 w) rfl rfl ?_
    refine ev_zlt (pc' := 67) (pt_101_64 w) rfl (fun c2 => ?_) (fun c2 => ?_)
    · refine ev_k (pc' := 83) (pt_101_82 w) rfl ?_
      exact ev_ri1 (pt_101_83 w) (h2 c1 c2)
    · refine ev_al (pc' := 68) (pt_101_67 w) rfl rfl ?_
      refine ev_il (pc' := 70) (pt_101_68 w) rfl rfl ?_
      refine ev_al (pc' := 71) (pt_101_70 w) rfl rfl ?_
      refine ev_getr (pc' := 74) (pt_101_71 w) rfl rfl rfl ?_
      refine ev_il (pc' := 75) (pt_101_74 w) rfl rfl ?_
      refine ev_ia (pc' := 76) (pt_101_75 w) rfl rfl (b3 c1 c2) ?_
      refine ev_cal1 (pc' := 79) (pt_101_76 w) (vs := [.ref 148, .int x5, .int (M 152 x1.toNatClampNeg)]) (rest := []) (en := [some (.ref 148), some (.int x5), some (.int (M 152 x1.toNatClampNeg))]) rfl rfl rfl rfl rfl rfl rfl (k4 c1 c2) ?_
      refine ev_zne (pc' := 82) (pt_101_79 w) rfl (fun c3 => ?_) (fun c3 => ?_)
      · refine ev_il (pc' := 86) (pt_101_84 w) rfl rfl ?_
        refine ev_il (pc' := 87) (pt_101_86 w) rfl rfl ?_
        refine ev_cal1 (pc' := 90) (pt_101_87 w) (vs := [.int x5, .int x3]) (rest := []) (en := [some (.int x5), some (.int x3), none, none]) rfl rfl rfl rfl trivial rfl rfl (k5 c1 c2 c3) ?_
        refine ev_is (pc' := 92) (loc1 := [some (.ref 148), some (.int x1), some (.int x2), some (.int x3), some (.int x4), some (.int r2), some (.int x6), o7]) (pt_101_90 w) rfl rfl ?_
        refine ev_inc (pc' := 95) (loc1 := [some (.ref 148), some (.int x1), some (.int x2), some (.int x3), some (.int x4), some (.int r2), some (.int (x6 + 1)), o7]) (pt_101_92 w) rfl rfl rfl ?_
        refine ev_g (pt_101_95 w) ?_
        exact (h6 c1 c2 c3)
      · refine ev_k (pc' := 83) (pt_101_82 w) rfl ?_
        exact ev_ri1 (pt_101_83 w) (h7 c1 c2 c3)

theorem wk_101_102 {w : qS} {M : qM} {x1 x2 x3 x4 : Int32} {o5 o6 o7 : Option Value} {post : qR}
    (h1 : gE w 101 111 [some (.ref 148), some (.int x1), some (.int x2), some (.int x3), some (.int x4), some (.int x2), some (.int 0), some (.int 0)] [] M post) :
    gE w 101 102 [some (.ref 148), some (.int x1), some (.int x2), some (.int x3), some (.int x4), o5, o6, o7] [] M post := by
  refine ev_k (pc' := 103) (pt_101_102 w) rfl ?_
  refine ev_is (pc' := 105) (loc1 := [some (.ref 148), some (.int x1), some (.int x2), some (.int x3), some (.int x4), o5, some (.int 0), o7]) (pt_101_103 w) rfl rfl ?_
  refine ev_il (pc' := 106) (pt_101_105 w) rfl rfl ?_
  refine ev_is (pc' := 108) (loc1 := [some (.ref 148), some (.int x1), some (.int x2), some (.int x3), some (.int x4), some (.int x2), some (.int 0), o7]) (pt_101_106 w) rfl rfl ?_
  refine ev_k (pc' := 109) (pt_101_108 w) rfl ?_
  refine ev_is (pc' := 111) (loc1 := [some (.ref 148), some (.int x1), some (.int x2), some (.int x3), some (.int x4), some (.int x2), some (.int 0), some (.int 0)]) (pt_101_109 w) rfl rfl ?_
  exact h1

theorem wk_101_111 {w : qS} {M : qM} {x1 x3 x4 x5 x6 x7 : Int32} {o2 : Option Value} {r1 : Int32} {post : qR}
    (h1 : (c1 : x4 < x7) → gE w 82 0 [some (.ref 148), none, none] [] M (fun r M' => gE w 101 199 [some (.ref 148), some (.int x1), o2, some (.int x3), some (.int x4), some (.int x5), some (.int x6), some (.int x7)] (r.toList ++ []) M' post))
    (b2 : (c1 : ¬ x4 < x7) → vp_in x5 240)
    (b3 : (c1 : ¬ x4 < x7) → vp_in ((iN 352) + x5) 592)
    (k4 : (c1 : ¬ x4 < x7) → gE w 100 0 [some (.int x5), some (.int x3), none, none] [] (ms M 149 ((iN 352) + x5).toNatClampNeg (if (M 153 x5.toNatClampNeg) < 0 then (x1 + 1) else 0 : Int32)) (qv1 (ms M 149 ((iN 352) + x5).toNatClampNeg (if (M 153 x5.toNatClampNeg) < 0 then (x1 + 1) else 0 : Int32)) r1))
    (h5 : (c1 : ¬ x4 < x7) → gE w 101 111 [some (.ref 148), some (.int x1), o2, some (.int x3), some (.int x4), some (.int r1), some (.int (if (M 153 x5.toNatClampNeg) < 0 then (if (M 149 ((iN 352) + x5).toNatClampNeg) = 0 then (x6 + 1) else x6 : Int32) else x6 : Int32)), some (.int (x7 + 1))] [] (ms M 149 ((iN 352) + x5).toNatClampNeg (if (M 153 x5.toNatClampNeg) < 0 then (x1 + 1) else 0 : Int32)) post) :
    gE w 101 111 [some (.ref 148), some (.int x1), o2, some (.int x3), some (.int x4), some (.int x5), some (.int x6), some (.int x7)] [] M post := by
  refine ev_il (pc' := 113) (pt_101_111 w) rfl rfl ?_
  refine ev_il (pc' := 115) (pt_101_113 w) rfl rfl ?_
  refine ev_cgt (pc' := 118) (pt_101_115 w) rfl (fun c1 => ?_) (fun c1 => ?_)
  · refine ev_al (pc' := 196) (pt_101_195 w) rfl rfl ?_
    exact ev_cal (pc' := 199) (pt_101_196 w) (vs := [.ref 148]) (rest := []) (en := [some (.ref 148), none, none]) rfl rfl rfl rfl rfl rfl rfl (h1 c1)
  · refine ev_al (pc' := 119) (pt_101_118 w) rfl rfl ?_
    refine ev_getr (pc' := 122) (pt_101_119 w) rfl rfl rfl ?_
    refine ev_il (pc' := 124) (pt_101_122 w) rfl rfl ?_
    refine ev_ia (pc' := 125) (pt_101_124 w) rfl rfl (b2 c1) ?_
    have j1 : ∀ v1 : Int32, v1 = (if (M 153 x5.toNatClampNeg) < 0 then (if (M 149 ((iN 352) + x5).toNatClampNeg) = 0 then (x6 + 1) else x6 : Int32) else x6 : Int32) → gE w 101 151 [some (.ref 148), some (.int x1), o2, some (.int x3), some (.int x4), some (.int x5), some (.int x6), some (.int x7)] [.int v1] M post := by
      intro v1 e2
      subst v1
      refine ev_is (pc' := 153) (loc1 := [some (.ref 148), some (.int x1), o2, some (.int x3), some (.int x4), some (.int x5), some (.int (if (M 153 x5.toNatClampNeg) < 0 then (if (M 149 ((iN 352) + x5).toNatClampNeg) = 0 then (x6 + 1) else x6 : Int32) else x6 : Int32)), some (.int x7)]) (pt_101_151 w) rfl rfl ?_
      refine ev_al (pc' := 154) (pt_101_153 w) rfl rfl ?_
      refine ev_getr (pc' := 157) (pt_101_154 w) rfl rfl rfl ?_
      refine ev_k (pc' := 160) (pt_101_157 w) rfl ?_
      refine ev_il (pc' := 162) (pt_101_160 w) rfl rfl ?_
      refine ev_b (pc' := 163) (pt_101_162 w) rfl ?_
      refine ev_al (pc' := 164) (pt_101_163 w) rfl rfl ?_
      refine ev_getr (pc' := 167) (pt_101_164 w) rfl rfl rfl ?_
      refine ev_il (pc' := 169) (pt_101_167 w) rfl rfl ?_
      refine ev_ia (pc' := 170) (pt_101_169 w) rfl rfl (b2 c1) ?_
      have j2 : ∀ v3 : Int32, v3 = (if (M 153 x5.toNatClampNeg) < 0 then (x1 + 1) else 0 : Int32) → gE w 101 180 [some (.ref 148), some (.int x1), o2, some (.int x3), some (.int x4), some (.int x5), some (.int (if (M 153 x5.toNatClampNeg) < 0 then (if (M 149 ((iN 352) + x5).toNatClampNeg) = 0 then (x6 + 1) else x6 : Int32) else x6 : Int32)), some (.int x7)] [.int v3, .int ((iN 352) + x5), .ref 149] M post := by
        intro v3 e4
        subst v3
        refine ev_ias (pc' := 181) (pt_101_180 w) rfl rfl (b3 c1) ?_
        refine ev_il (pc' := 183) (pt_101_181 w) rfl rfl ?_
        refine ev_il (pc' := 184) (pt_101_183 w) rfl rfl ?_
        refine ev_cal1 (pc' := 187) (pt_101_184 w) (vs := [.int x5, .int x3]) (rest := []) (en := [some (.int x5), some (.int x3), none, none]) rfl rfl rfl rfl trivial rfl rfl (k4 c1) ?_
        refine ev_is (pc' := 189) (loc1 := [some (.ref 148), some (.int x1), o2, some (.int x3), some (.int x4), some (.int r1), some (.int (if (M 153 x5.toNatClampNeg) < 0 then (if (M 149 ((iN 352) + x5).toNatClampNeg) = 0 then (x6 + 1) else x6 : Int32) else x6 : Int32)), some (.int x7)]) (pt_101_187 w) rfl rfl ?_
        refine ev_inc (pc' := 192) (loc1 := [some (.ref 148), some (.int x1), o2, some (.int x3), some (.int x4), some (.int r1), some (.int (if (M 153 x5.toNatClampNeg) < 0 then (if (M 149 ((iN 352) + x5).toNatClampNeg) = 0 then (x6 + 1) else x6 : Int32) else x6 : Int32)), some (.int (x7 + 1))]) (pt_101_189 w) rfl rfl rfl ?_
        refine ev_g (pt_101_192 w) ?_
        exact (h5 c1)
      refine ev_zge (pc' := 173) (pt_101_170 w) rfl (fun c2 => ?_) (fun c2 => ?_)
      · refine ev_k (pc' := 180) (pt_101_179 w) rfl ?_
        exact j2 _ (if_neg c2).symm
      · refine ev_il (pc' := 174) (pt_101_173 w) rfl rfl ?_
        refine ev_k (pc' := 175) (pt_101_174 w) rfl ?_
        refine ev_b (pc' := 176) (pt_101_175 w) rfl ?_
        refine ev_g (pt_101_176 w) ?_
        exact j2 _ (if_pos c2).symm
    refine ev_zge (pc' := 128) (pt_101_125 w) rfl (fun c3 => ?_) (fun c3 => ?_)
    · refine ev_il (pc' := 151) (pt_101_149 w) rfl rfl ?_
      exact j1 _ (if_neg c3).symm
    · refine ev_al (pc' := 129) (pt_101_128 w) rfl rfl ?_
      refine ev_getr (pc' := 132) (pt_101_129 w) rfl rfl rfl ?_
      refine ev_k (pc' := 135) (pt_101_132 w) rfl ?_
      refine ev_il (pc' := 137) (pt_101_135 w) rfl rfl ?_
      refine ev_b (pc' := 138) (pt_101_137 w) rfl ?_
      refine ev_ia (pc' := 139) (pt_101_138 w) rfl rfl (b3 c1) ?_
      refine ev_zne (pc' := 142) (pt_101_139 w) rfl (fun c4 => ?_) (fun c4 => ?_)
      · refine ev_il (pc' := 151) (pt_101_149 w) rfl rfl ?_
        exact j1 _ ((if_pos c3).trans (if_neg c4)).symm
      · refine ev_il (pc' := 144) (pt_101_142 w) rfl rfl ?_
        refine ev_k (pc' := 145) (pt_101_144 w) rfl ?_
        refine ev_b (pc' := 146) (pt_101_145 w) rfl ?_
        refine ev_g (pt_101_146 w) ?_
        exact j1 _ ((if_pos c3).trans (if_pos c4)).symm

theorem wk_101_199 {w : qS} {M : qM} {x6 : Int32} {o0 o1 o2 o3 o4 o5 o7 : Option Value} {post : qR}
    (h1 : post (some (.int x6)) M) :
    gE w 101 199 [o0, o1, o2, o3, o4, o5, some (.int x6), o7] [] M post := by
  refine ev_il (pc' := 201) (pt_101_199 w) rfl rfl ?_
  exact ev_ri1 (pt_101_201 w) h1

-- BoardDeskModel.erase(I)Z
theorem wk_102_0 {w : qS} {M : qM} {x1 : Int32} {r1 : Int32} {post : qR}
    (k1 : gE w 85 0 [some (.int x1)] [] M (qv1 M r1))
    (h2 : (c1 : r1 = 0) → post (some (.int 0)) M)
    (b3 : (c1 : ¬ r1 = 0) → vp_in ((iN 352) + x1) 592)
    (h4 : (c1 : ¬ r1 = 0) → (c2 : ¬ (M 149 ((iN 352) + x1).toNatClampNeg) = 0) → gE w 81 0 [some (.ref 148), none] [] M (fun r M' => gE w 102 26 [some (.ref 148), some (.int x1)] (r.toList ++ []) M' post))
    (h5 : (c1 : ¬ r1 = 0) → (c2 : (M 149 ((iN 352) + x1).toNatClampNeg) = 0) → post (some (.int 0)) M) :
    gE w 102 0 [some (.ref 148), some (.int x1)] [] M post := by
  refine ev_il (pc' := 1) (pt_102_0 w) rfl rfl ?_
  refine ev_cal1 (pc' := 4) (pt_102_1 w) (vs := [.int x1]) (rest := []) (en := [some (.int x1)]) rfl rfl rfl rfl trivial rfl rfl k1 ?_
  refine ev_zeq (pc' := 7) (pt_102_4 w) rfl (fun c1 => ?_) (fun c1 => ?_)
  · refine ev_k (pc' := 21) (pt_102_20 w) rfl ?_
    exact ev_rz (pt_102_21 w) z1_0 (h2 c1)
  · refine ev_al (pc' := 8) (pt_102_7 w) rfl rfl ?_
    refine ev_getr (pc' := 11) (pt_102_8 w) rfl rfl rfl ?_
    refine ev_k (pc' := 14) (pt_102_11 w) rfl ?_
    refine ev_il (pc' := 15) (pt_102_14 w) rfl rfl ?_
    refine ev_b (pc' := 16) (pt_102_15 w) rfl ?_
    refine ev_ia (pc' := 17) (pt_102_16 w) rfl rfl (b3 c1) ?_
    refine ev_zne (pc' := 20) (pt_102_17 w) rfl (fun c2 => ?_) (fun c2 => ?_)
    · refine ev_al (pc' := 23) (pt_102_22 w) rfl rfl ?_
      exact ev_cal (pc' := 26) (pt_102_23 w) (vs := [.ref 148]) (rest := []) (en := [some (.ref 148), none]) rfl rfl rfl rfl rfl rfl rfl (h4 c1 c2)
    · refine ev_k (pc' := 21) (pt_102_20 w) rfl ?_
      exact ev_rz (pt_102_21 w) z1_0 (h5 c1 c2)

theorem wk_102_26 {w : qS} {M : qM} {x1 : Int32} {post : qR}
    (b1 : vp_in ((iN 352) + x1) 592)
    (h2 : gE w 82 0 [some (.ref 148), none, none] [] (ms M 149 ((iN 352) + x1).toNatClampNeg 0) (fun r M' => gE w 102 41 [some (.ref 148), some (.int x1)] (r.toList ++ []) M' post)) :
    gE w 102 26 [some (.ref 148), some (.int x1)] [] M post := by
  refine ev_al (pc' := 27) (pt_102_26 w) rfl rfl ?_
  refine ev_getr (pc' := 30) (pt_102_27 w) rfl rfl rfl ?_
  refine ev_k (pc' := 33) (pt_102_30 w) rfl ?_
  refine ev_il (pc' := 34) (pt_102_33 w) rfl rfl ?_
  refine ev_b (pc' := 35) (pt_102_34 w) rfl ?_
  refine ev_k (pc' := 36) (pt_102_35 w) rfl ?_
  refine ev_ias (pc' := 37) (pt_102_36 w) rfl rfl b1 ?_
  refine ev_al (pc' := 38) (pt_102_37 w) rfl rfl ?_
  exact ev_cal (pc' := 41) (pt_102_38 w) (vs := [.ref 148]) (rest := []) (en := [some (.ref 148), none, none]) rfl rfl rfl rfl rfl rfl rfl h2

theorem wk_102_41 {w : qS} {M : qM} {o0 o1 : Option Value} {post : qR}
    (h1 : post (some (.int 1)) M) :
    gE w 102 41 [o0, o1] [] M post := by
  refine ev_k (pc' := 42) (pt_102_41 w) rfl ?_
  exact ev_rz (pt_102_42 w) z1_1 h1

-- BoardDeskModel.copper(I)I
theorem wk_103_0 {w : qS} {M : qM} {x1 : Int32} {r1 : Int32} {post : qR}
    (k1 : gE w 85 0 [some (.int x1)] [] M (qv1 M r1))
    (h2 : post (some (.int (if r1 = 0 then (-1) else (M 154 x1.toNatClampNeg) : Int32))) M)
    (b3 : (c1 : ¬ r1 = 0) → vp_in x1 240) :
    gE w 103 0 [some (.ref 148), some (.int x1)] [] M post := by
  refine ev_il (pc' := 1) (pt_103_0 w) rfl rfl ?_
  refine ev_cal1 (pc' := 4) (pt_103_1 w) (vs := [.int x1]) (rest := []) (en := [some (.int x1)]) rfl rfl rfl rfl trivial rfl rfl k1 ?_
  have j1 : ∀ v1 : Int32, v1 = (if r1 = 0 then (-1) else (M 154 x1.toNatClampNeg) : Int32) → gE w 103 17 [some (.ref 148), some (.int x1)] [.int v1] M post := by
    intro v1 e2
    subst v1
    exact ev_ri1 (pt_103_17 w) h2
  refine ev_zeq (pc' := 7) (pt_103_4 w) rfl (fun c1 => ?_) (fun c1 => ?_)
  · refine ev_k (pc' := 17) (pt_103_16 w) rfl ?_
    exact j1 _ (if_pos c1).symm
  · refine ev_al (pc' := 8) (pt_103_7 w) rfl rfl ?_
    refine ev_getr (pc' := 11) (pt_103_8 w) rfl rfl rfl ?_
    refine ev_il (pc' := 12) (pt_103_11 w) rfl rfl ?_
    refine ev_ia (pc' := 13) (pt_103_12 w) rfl rfl (b3 c1) ?_
    refine ev_g (pt_103_13 w) ?_
    exact j1 _ (if_neg c1).symm

-- BoardDeskModel.rip(I)I
theorem wk_104_0 {w : qS} {M : qM} {x1 : Int32} {r1 : Int32} {post : qR}
    (k1 : gE w 84 0 [some (.ref 148), some (.int x1)] [] M (qv1 M r1))
    (h2 : (c1 : ¬ r1 = 0) → gE w 81 0 [some (.ref 148), none] [] M (fun r M' => gE w 104 14 [some (.ref 148), some (.int x1), none, none, none] (r.toList ++ []) M' post))
    (h3 : (c1 : r1 = 0) → post (some (.int (-1))) M) :
    gE w 104 0 [some (.ref 148), some (.int x1), none, none, none] [] M post := by
  refine ev_al (pc' := 1) (pt_104_0 w) rfl rfl ?_
  refine ev_il (pc' := 2) (pt_104_1 w) rfl rfl ?_
  refine ev_cal1 (pc' := 5) (pt_104_2 w) (vs := [.ref 148, .int x1]) (rest := []) (en := [some (.ref 148), some (.int x1)]) rfl rfl rfl rfl rfl rfl rfl k1 ?_
  refine ev_zne (pc' := 8) (pt_104_5 w) rfl (fun c1 => ?_) (fun c1 => ?_)
  · refine ev_al (pc' := 11) (pt_104_10 w) rfl rfl ?_
    exact ev_cal (pc' := 14) (pt_104_11 w) (vs := [.ref 148]) (rest := []) (en := [some (.ref 148), none]) rfl rfl rfl rfl rfl rfl rfl (h2 c1)
  · refine ev_k (pc' := 9) (pt_104_8 w) rfl ?_
    exact ev_ri1 (pt_104_9 w) (h3 c1)

theorem wk_104_14 {w : qS} {M : qM} {x1 : Int32} {o2 o3 o4 : Option Value} {post : qR}
    (h1 : gE w 104 18 [some (.ref 148), some (.int x1), some (.int 0), some (.int 0), o4] [] M post) :
    gE w 104 14 [some (.ref 148), some (.int x1), o2, o3, o4] [] M post := by
  refine ev_k (pc' := 15) (pt_104_14 w) rfl ?_
  refine ev_is (pc' := 16) (loc1 := [some (.ref 148), some (.int x1), some (.int 0), o3, o4]) (pt_104_15 w) rfl rfl ?_
  refine ev_k (pc' := 17) (pt_104_16 w) rfl ?_
  refine ev_is (pc' := 18) (loc1 := [some (.ref 148), some (.int x1), some (.int 0), some (.int 0), o4]) (pt_104_17 w) rfl rfl ?_
  exact h1

theorem wk_104_18 {w : qS} {M : qM} {x1 x2 x3 : Int32} {o4 : Option Value} {post : qR}
    (h1 : (c1 : ¬ x3 < (iN 240)) → gE w 82 0 [some (.ref 148), none, none] [] M (fun r M' => gE w 104 112 [some (.ref 148), some (.int x1), some (.int x2), some (.int x3), o4] (r.toList ++ []) M' post))
    (b2 : (c1 : x3 < (iN 240)) → vp_in ((iN 352) + x3) 592)
    (h3 : (c1 : x3 < (iN 240)) → gE w 104 18 [some (.ref 148), some (.int x1), some (.int (if (if 0 < (M 149 ((iN 352) + x3).toNatClampNeg) then (if (M 154 x3.toNatClampNeg) = (M 152 x1.toNatClampNeg) then 1 else 0 : Int32) else 0 : Int32) = 0 then x2 else (x2 + 1) : Int32)), some (.int (x3 + 1)), some (.int (if 0 < (M 149 ((iN 352) + x3).toNatClampNeg) then (if (M 154 x3.toNatClampNeg) = (M 152 x1.toNatClampNeg) then 1 else 0 : Int32) else 0 : Int32))] [] (ms M 149 ((iN 352) + x3).toNatClampNeg (if (if 0 < (M 149 ((iN 352) + x3).toNatClampNeg) then (if (M 154 x3.toNatClampNeg) = (M 152 x1.toNatClampNeg) then 1 else 0 : Int32) else 0 : Int32) = 0 then (M 149 ((iN 352) + x3).toNatClampNeg) else 0 : Int32)) post)
    (b4 : (c1 : x3 < (iN 240)) → (c4 : 0 < (M 149 ((iN 352) + x3).toNatClampNeg)) → vp_in x3 240)
    (b5 : (c1 : x3 < (iN 240)) → (c4 : 0 < (M 149 ((iN 352) + x3).toNatClampNeg)) → vp_in x1 16) :
    gE w 104 18 [some (.ref 148), some (.int x1), some (.int x2), some (.int x3), o4] [] M post := by
  refine ev_il (pc' := 19) (pt_104_18 w) rfl rfl ?_
  refine ev_k (pc' := 22) (pt_104_19 w) rfl ?_
  refine ev_cge (pc' := 25) (pt_104_22 w) rfl (fun c1 => ?_) (fun c1 => ?_)
  · refine ev_al (pc' := 109) (pt_104_108 w) rfl rfl ?_
    exact ev_cal (pc' := 112) (pt_104_109 w) (vs := [.ref 148]) (rest := []) (en := [some (.ref 148), none, none]) rfl rfl rfl rfl rfl rfl rfl (h1 c1)
  · refine ev_al (pc' := 26) (pt_104_25 w) rfl rfl ?_
    refine ev_getr (pc' := 29) (pt_104_26 w) rfl rfl rfl ?_
    refine ev_k (pc' := 32) (pt_104_29 w) rfl ?_
    refine ev_il (pc' := 33) (pt_104_32 w) rfl rfl ?_
    refine ev_b (pc' := 34) (pt_104_33 w) rfl ?_
    refine ev_ia (pc' := 35) (pt_104_34 w) rfl rfl (b2 c1) ?_
    have j1 : ∀ v1 : Int32, v1 = (if 0 < (M 149 ((iN 352) + x3).toNatClampNeg) then (if (M 154 x3.toNatClampNeg) = (M 152 x1.toNatClampNeg) then 1 else 0 : Int32) else 0 : Int32) → gE w 104 58 [some (.ref 148), some (.int x1), some (.int x2), some (.int x3), o4] [.int v1] M post := by
      intro v1 e2
      subst v1
      refine ev_is (pc' := 60) (loc1 := [some (.ref 148), some (.int x1), some (.int x2), some (.int x3), some (.int (if 0 < (M 149 ((iN 352) + x3).toNatClampNeg) then (if (M 154 x3.toNatClampNeg) = (M 152 x1.toNatClampNeg) then 1 else 0 : Int32) else 0 : Int32))]) (pt_104_58 w) rfl rfl ?_
      refine ev_al (pc' := 61) (pt_104_60 w) rfl rfl ?_
      refine ev_getr (pc' := 64) (pt_104_61 w) rfl rfl rfl ?_
      refine ev_k (pc' := 67) (pt_104_64 w) rfl ?_
      refine ev_il (pc' := 68) (pt_104_67 w) rfl rfl ?_
      refine ev_b (pc' := 69) (pt_104_68 w) rfl ?_
      refine ev_il (pc' := 71) (pt_104_69 w) rfl rfl ?_
      have j2 : ∀ v3 : Int32, v3 = (if (if 0 < (M 149 ((iN 352) + x3).toNatClampNeg) then (if (M 154 x3.toNatClampNeg) = (M 152 x1.toNatClampNeg) then 1 else 0 : Int32) else 0 : Int32) = 0 then (M 149 ((iN 352) + x3).toNatClampNeg) else 0 : Int32) → gE w 104 88 [some (.ref 148), some (.int x1), some (.int x2), some (.int x3), some (.int (if 0 < (M 149 ((iN 352) + x3).toNatClampNeg) then (if (M 154 x3.toNatClampNeg) = (M 152 x1.toNatClampNeg) then 1 else 0 : Int32) else 0 : Int32))] [.int v3, .int ((iN 352) + x3), .ref 149] M post := by
        intro v3 e4
        subst v3
        refine ev_ias (pc' := 89) (pt_104_88 w) rfl rfl (b2 c1) ?_
        refine ev_il (pc' := 91) (pt_104_89 w) rfl rfl ?_
        have j3 : ∀ v5 : Int32, v5 = (if (if 0 < (M 149 ((iN 352) + x3).toNatClampNeg) then (if (M 154 x3.toNatClampNeg) = (M 152 x1.toNatClampNeg) then 1 else 0 : Int32) else 0 : Int32) = 0 then x2 else (x2 + 1) : Int32) → gE w 104 101 [some (.ref 148), some (.int x1), some (.int x2), some (.int x3), some (.int (if 0 < (M 149 ((iN 352) + x3).toNatClampNeg) then (if (M 154 x3.toNatClampNeg) = (M 152 x1.toNatClampNeg) then 1 else 0 : Int32) else 0 : Int32))] [.int v5] (ms M 149 ((iN 352) + x3).toNatClampNeg (if (if 0 < (M 149 ((iN 352) + x3).toNatClampNeg) then (if (M 154 x3.toNatClampNeg) = (M 152 x1.toNatClampNeg) then 1 else 0 : Int32) else 0 : Int32) = 0 then (M 149 ((iN 352) + x3).toNatClampNeg) else 0 : Int32)) post := by
          intro v5 e6
          subst v5
          refine ev_is (pc' := 102) (loc1 := [some (.ref 148), some (.int x1), some (.int (if (if 0 < (M 149 ((iN 352) + x3).toNatClampNeg) then (if (M 154 x3.toNatClampNeg) = (M 152 x1.toNatClampNeg) then 1 else 0 : Int32) else 0 : Int32) = 0 then x2 else (x2 + 1) : Int32)), some (.int x3), some (.int (if 0 < (M 149 ((iN 352) + x3).toNatClampNeg) then (if (M 154 x3.toNatClampNeg) = (M 152 x1.toNatClampNeg) then 1 else 0 : Int32) else 0 : Int32))]) (pt_104_101 w) rfl rfl ?_
          refine ev_inc (pc' := 105) (loc1 := [some (.ref 148), some (.int x1), some (.int (if (if 0 < (M 149 ((iN 352) + x3).toNatClampNeg) then (if (M 154 x3.toNatClampNeg) = (M 152 x1.toNatClampNeg) then 1 else 0 : Int32) else 0 : Int32) = 0 then x2 else (x2 + 1) : Int32)), some (.int (x3 + 1)), some (.int (if 0 < (M 149 ((iN 352) + x3).toNatClampNeg) then (if (M 154 x3.toNatClampNeg) = (M 152 x1.toNatClampNeg) then 1 else 0 : Int32) else 0 : Int32))]) (pt_104_102 w) rfl rfl rfl ?_
          refine ev_g (pt_104_105 w) ?_
          exact (h3 c1)
        refine ev_zeq (pc' := 94) (pt_104_91 w) rfl (fun c2 => ?_) (fun c2 => ?_)
        · refine ev_il (pc' := 101) (pt_104_100 w) rfl rfl ?_
          exact j3 _ (if_pos c2).symm
        · refine ev_il (pc' := 95) (pt_104_94 w) rfl rfl ?_
          refine ev_k (pc' := 96) (pt_104_95 w) rfl ?_
          refine ev_b (pc' := 97) (pt_104_96 w) rfl ?_
          refine ev_g (pt_104_97 w) ?_
          exact j3 _ (if_neg c2).symm
      refine ev_zeq (pc' := 74) (pt_104_71 w) rfl (fun c3 => ?_) (fun c3 => ?_)
      · refine ev_al (pc' := 79) (pt_104_78 w) rfl rfl ?_
        refine ev_getr (pc' := 82) (pt_104_79 w) rfl rfl rfl ?_
        refine ev_k (pc' := 85) (pt_104_82 w) rfl ?_
        refine ev_il (pc' := 86) (pt_104_85 w) rfl rfl ?_
        refine ev_b (pc' := 87) (pt_104_86 w) rfl ?_
        refine ev_ia (pc' := 88) (pt_104_87 w) rfl rfl (b2 c1) ?_
        exact j2 _ (if_pos c3).symm
      · refine ev_k (pc' := 75) (pt_104_74 w) rfl ?_
        refine ev_g (pt_104_75 w) ?_
        exact j2 _ (if_neg c3).symm
    refine ev_zle (pc' := 38) (pt_104_35 w) rfl (fun c4 => ?_) (fun c4 => ?_)
    · refine ev_k (pc' := 58) (pt_104_57 w) rfl ?_
      exact j1 _ (if_neg c4).symm
    · refine ev_al (pc' := 39) (pt_104_38 w) rfl rfl ?_
      refine ev_getr (pc' := 42) (pt_104_39 w) rfl rfl rfl ?_
      refine ev_il (pc' := 43) (pt_104_42 w) rfl rfl ?_
      refine ev_ia (pc' := 44) (pt_104_43 w) rfl rfl (b4 c1 c4) ?_
      refine ev_al (pc' := 45) (pt_104_44 w) rfl rfl ?_
      refine ev_getr (pc' := 48) (pt_104_45 w) rfl rfl rfl ?_
      refine ev_il (pc' := 49) (pt_104_48 w) rfl rfl ?_
      refine ev_ia (pc' := 50) (pt_104_49 w) rfl rfl (b5 c1 c4) ?_
      refine ev_cne (pc' := 53) (pt_104_50 w) rfl (fun c5 => ?_) (fun c5 => ?_)
      · refine ev_k (pc' := 58) (pt_104_57 w) rfl ?_
        exact j1 _ ((if_pos c4).trans (if_neg c5)).symm
      · refine ev_k (pc' := 54) (pt_104_53 w) rfl ?_
        refine ev_g (pt_104_54 w) ?_
        exact j1 _ ((if_pos c4).trans (if_pos c5)).symm

theorem wk_104_112 {w : qS} {M : qM} {x2 : Int32} {o0 o1 o3 o4 : Option Value} {post : qR}
    (h1 : post (some (.int x2)) M) :
    gE w 104 112 [o0, o1, some (.int x2), o3, o4] [] M post := by
  refine ev_il (pc' := 113) (pt_104_112 w) rfl rfl ?_
  exact ev_ri1 (pt_104_113 w) h1

-- BoardDeskModel.layPieces(I)V
theorem wk_105_0 {w : qS} {M : qM} {x1 : Int32} {post : qR}
    (h1 : gE w 105 2 [some (.ref 148), some (.int x1), some (.int 0), none, none, none] [] M post) :
    gE w 105 0 [some (.ref 148), some (.int x1), none, none, none, none] [] M post := by
  refine ev_k (pc' := 1) (pt_105_0 w) rfl ?_
  refine ev_is (pc' := 2) (loc1 := [some (.ref 148), some (.int x1), some (.int 0), none, none, none]) (pt_105_1 w) rfl rfl ?_
  exact h1

theorem wk_105_2 {w : qS} {M : qM} {x1 x2 : Int32} {o3 o4 o5 : Option Value} {post : qR}
    (h1 : (c1 : ¬ x2 < (iN 240)) → gE w 105 38 [some (.ref 148), some (.int x1), some (.int 1), o3, o4, o5] [] M post)
    (b2 : (c1 : x2 < (iN 240)) → vp_in x2 240)
    (h3 : (c1 : x2 < (iN 240)) → gE w 105 2 [some (.ref 148), some (.int x1), some (.int (x2 + 1)), o3, o4, o5] [] (ms M 155 x2.toNatClampNeg (if (M 154 x2.toNatClampNeg) = x1 then x2 else (-1) : Int32)) post) :
    gE w 105 2 [some (.ref 148), some (.int x1), some (.int x2), o3, o4, o5] [] M post := by
  refine ev_il (pc' := 3) (pt_105_2 w) rfl rfl ?_
  refine ev_k (pc' := 6) (pt_105_3 w) rfl ?_
  refine ev_cge (pc' := 9) (pt_105_6 w) rfl (fun c1 => ?_) (fun c1 => ?_)
  · refine ev_k (pc' := 37) (pt_105_36 w) rfl ?_
    refine ev_is (pc' := 38) (loc1 := [some (.ref 148), some (.int x1), some (.int 1), o3, o4, o5]) (pt_105_37 w) rfl rfl ?_
    exact (h1 c1)
  · refine ev_al (pc' := 10) (pt_105_9 w) rfl rfl ?_
    refine ev_getr (pc' := 13) (pt_105_10 w) rfl rfl rfl ?_
    refine ev_il (pc' := 14) (pt_105_13 w) rfl rfl ?_
    refine ev_al (pc' := 15) (pt_105_14 w) rfl rfl ?_
    refine ev_getr (pc' := 18) (pt_105_15 w) rfl rfl rfl ?_
    refine ev_il (pc' := 19) (pt_105_18 w) rfl rfl ?_
    refine ev_ia (pc' := 20) (pt_105_19 w) rfl rfl (b2 c1) ?_
    refine ev_il (pc' := 21) (pt_105_20 w) rfl rfl ?_
    have j1 : ∀ v1 : Int32, v1 = (if (M 154 x2.toNatClampNeg) = x1 then x2 else (-1) : Int32) → gE w 105 29 [some (.ref 148), some (.int x1), some (.int x2), o3, o4, o5] [.int v1, .int x2, .ref 155] M post := by
      intro v1 e2
      subst v1
      refine ev_ias (pc' := 30) (pt_105_29 w) rfl rfl (b2 c1) ?_
      refine ev_inc (pc' := 33) (loc1 := [some (.ref 148), some (.int x1), some (.int (x2 + 1)), o3, o4, o5]) (pt_105_30 w) rfl rfl rfl ?_
      refine ev_g (pt_105_33 w) ?_
      exact (h3 c1)
    refine ev_cne (pc' := 24) (pt_105_21 w) rfl (fun c2 => ?_) (fun c2 => ?_)
    · refine ev_k (pc' := 29) (pt_105_28 w) rfl ?_
      exact j1 _ (if_neg c2).symm
    · refine ev_il (pc' := 25) (pt_105_24 w) rfl rfl ?_
      refine ev_g (pt_105_25 w) ?_
      exact j1 _ (if_pos c2).symm

theorem wk_105_38 {w : qS} {M : qM} {x2 : Int32} {o1 o3 o4 o5 : Option Value} {post : qR}
    (h1 : (c1 : x2 = 0) → post none M)
    (h2 : (c1 : ¬ x2 = 0) → gE w 105 46 [some (.ref 148), o1, some (.int 0), some (.int 0), o4, o5] [] M post) :
    gE w 105 38 [some (.ref 148), o1, some (.int x2), o3, o4, o5] [] M post := by
  refine ev_il (pc' := 39) (pt_105_38 w) rfl rfl ?_
  refine ev_zeq (pc' := 42) (pt_105_39 w) rfl (fun c1 => ?_) (fun c1 => ?_)
  · exact ev_rv (pt_105_131 w) (h1 c1)
  · refine ev_k (pc' := 43) (pt_105_42 w) rfl ?_
    refine ev_is (pc' := 44) (loc1 := [some (.ref 148), o1, some (.int 0), o3, o4, o5]) (pt_105_43 w) rfl rfl ?_
    refine ev_k (pc' := 45) (pt_105_44 w) rfl ?_
    refine ev_is (pc' := 46) (loc1 := [some (.ref 148), o1, some (.int 0), some (.int 0), o4, o5]) (pt_105_45 w) rfl rfl ?_
    exact (h2 c1)

theorem wk_105_46 {w : qS} {M : qM} {x2 x3 : Int32} {o1 o4 o5 : Option Value} {post : qR}
    (h1 : (c1 : ¬ x3 < (iN 240)) → gE w 105 38 [some (.ref 148), o1, some (.int x2), some (.int x3), o4, o5] [] M post)
    (h2 : (c1 : x3 < (iN 240)) → gE w 105 56 [some (.ref 148), o1, some (.int x2), some (.int x3), some (.int 0), o5] [] M post) :
    gE w 105 46 [some (.ref 148), o1, some (.int x2), some (.int x3), o4, o5] [] M post := by
  refine ev_il (pc' := 47) (pt_105_46 w) rfl rfl ?_
  refine ev_k (pc' := 50) (pt_105_47 w) rfl ?_
  refine ev_cge (pc' := 53) (pt_105_50 w) rfl (fun c1 => ?_) (fun c1 => ?_)
  · refine ev_g (pt_105_128 w) ?_
    exact (h1 c1)
  · refine ev_k (pc' := 54) (pt_105_53 w) rfl ?_
    refine ev_is (pc' := 56) (loc1 := [some (.ref 148), o1, some (.int x2), some (.int x3), some (.int 0), o5]) (pt_105_54 w) rfl rfl ?_
    exact (h2 c1)

theorem wk_105_56 {w : qS} {M : qM} {x2 x3 x4 : Int32} {o1 o5 : Option Value} {r1 : Int32} {post : qR}
    (h1 : (c1 : ¬ x4 < (iN 9)) → gE w 105 46 [some (.ref 148), o1, some (.int x2), some (.int (x3 + 1)), some (.int x4), o5] [] M post)
    (b2 : (c1 : x4 < (iN 9)) → vp_in x3 240)
    (h3 : (c1 : x4 < (iN 9)) → (c2 : (M 155 x3.toNatClampNeg) < 0) → gE w 105 46 [some (.ref 148), o1, some (.int x2), some (.int (x3 + 1)), some (.int x4), o5] [] M post)
    (k4 : (c1 : x4 < (iN 9)) → (c2 : ¬ (M 155 x3.toNatClampNeg) < 0) → gE w 100 0 [some (.int x3), some (.int x4), none, none] [] M (qv1 M r1))
    (h5 : (c1 : x4 < (iN 9)) → (c2 : ¬ (M 155 x3.toNatClampNeg) < 0) → (c3 : r1 < 0) → gE w 105 56 [some (.ref 148), o1, some (.int x2), some (.int x3), some (.int (x4 + 1)), some (.int r1)] [] M post)
    (b6 : (c1 : x4 < (iN 9)) → (c2 : ¬ (M 155 x3.toNatClampNeg) < 0) → (c3 : ¬ r1 < 0) → vp_in r1 240)
    (h7 : (c1 : x4 < (iN 9)) → (c2 : ¬ (M 155 x3.toNatClampNeg) < 0) → (c3 : ¬ r1 < 0) → (c4 : ¬ (M 155 x3.toNatClampNeg) < (M 155 r1.toNatClampNeg)) → gE w 105 56 [some (.ref 148), o1, some (.int x2), some (.int x3), some (.int (x4 + 1)), some (.int r1)] [] M post)
    (h8 : (c1 : x4 < (iN 9)) → (c2 : ¬ (M 155 x3.toNatClampNeg) < 0) → (c3 : ¬ r1 < 0) → (c4 : (M 155 x3.toNatClampNeg) < (M 155 r1.toNatClampNeg)) → gE w 105 56 [some (.ref 148), o1, some (.int 1), some (.int x3), some (.int (x4 + 1)), some (.int r1)] [] (ms M 155 r1.toNatClampNeg (M 155 x3.toNatClampNeg)) post) :
    gE w 105 56 [some (.ref 148), o1, some (.int x2), some (.int x3), some (.int x4), o5] [] M post := by
  refine ev_il (pc' := 58) (pt_105_56 w) rfl rfl ?_
  refine ev_k (pc' := 60) (pt_105_58 w) rfl ?_
  refine ev_cge (pc' := 63) (pt_105_60 w) rfl (fun c1 => ?_) (fun c1 => ?_)
  · refine ev_inc (pc' := 125) (loc1 := [some (.ref 148), o1, some (.int x2), some (.int (x3 + 1)), some (.int x4), o5]) (pt_105_122 w) rfl rfl rfl ?_
    refine ev_g (pt_105_125 w) ?_
    exact (h1 c1)
  · refine ev_al (pc' := 64) (pt_105_63 w) rfl rfl ?_
    refine ev_getr (pc' := 67) (pt_105_64 w) rfl rfl rfl ?_
    refine ev_il (pc' := 68) (pt_105_67 w) rfl rfl ?_
    refine ev_ia (pc' := 69) (pt_105_68 w) rfl rfl (b2 c1) ?_
    refine ev_zlt (pc' := 72) (pt_105_69 w) rfl (fun c2 => ?_) (fun c2 => ?_)
    · refine ev_inc (pc' := 125) (loc1 := [some (.ref 148), o1, some (.int x2), some (.int (x3 + 1)), some (.int x4), o5]) (pt_105_122 w) rfl rfl rfl ?_
      refine ev_g (pt_105_125 w) ?_
      exact (h3 c1 c2)
    · refine ev_il (pc' := 73) (pt_105_72 w) rfl rfl ?_
      refine ev_il (pc' := 75) (pt_105_73 w) rfl rfl ?_
      refine ev_cal1 (pc' := 78) (pt_105_75 w) (vs := [.int x3, .int x4]) (rest := []) (en := [some (.int x3), some (.int x4), none, none]) rfl rfl rfl rfl trivial rfl rfl (k4 c1 c2) ?_
      refine ev_is (pc' := 80) (loc1 := [some (.ref 148), o1, some (.int x2), some (.int x3), some (.int x4), some (.int r1)]) (pt_105_78 w) rfl rfl ?_
      refine ev_il (pc' := 82) (pt_105_80 w) rfl rfl ?_
      refine ev_zlt (pc' := 85) (pt_105_82 w) rfl (fun c3 => ?_) (fun c3 => ?_)
      · refine ev_inc (pc' := 119) (loc1 := [some (.ref 148), o1, some (.int x2), some (.int x3), some (.int (x4 + 1)), some (.int r1)]) (pt_105_116 w) rfl rfl rfl ?_
        refine ev_g (pt_105_119 w) ?_
        exact (h5 c1 c2 c3)
      · refine ev_al (pc' := 86) (pt_105_85 w) rfl rfl ?_
        refine ev_getr (pc' := 89) (pt_105_86 w) rfl rfl rfl ?_
        refine ev_il (pc' := 91) (pt_105_89 w) rfl rfl ?_
        refine ev_ia (pc' := 92) (pt_105_91 w) rfl rfl (b6 c1 c2 c3) ?_
        refine ev_al (pc' := 93) (pt_105_92 w) rfl rfl ?_
        refine ev_getr (pc' := 96) (pt_105_93 w) rfl rfl rfl ?_
        refine ev_il (pc' := 97) (pt_105_96 w) rfl rfl ?_
        refine ev_ia (pc' := 98) (pt_105_97 w) rfl rfl (b2 c1) ?_
        refine ev_cle (pc' := 101) (pt_105_98 w) rfl (fun c4 => ?_) (fun c4 => ?_)
        · refine ev_inc (pc' := 119) (loc1 := [some (.ref 148), o1, some (.int x2), some (.int x3), some (.int (x4 + 1)), some (.int r1)]) (pt_105_116 w) rfl rfl rfl ?_
          refine ev_g (pt_105_119 w) ?_
          exact (h7 c1 c2 c3 c4)
        · refine ev_al (pc' := 102) (pt_105_101 w) rfl rfl ?_
          refine ev_getr (pc' := 105) (pt_105_102 w) rfl rfl rfl ?_
          refine ev_il (pc' := 107) (pt_105_105 w) rfl rfl ?_
          refine ev_al (pc' := 108) (pt_105_107 w) rfl rfl ?_
          refine ev_getr (pc' := 111) (pt_105_108 w) rfl rfl rfl ?_
          refine ev_il (pc' := 112) (pt_105_111 w) rfl rfl ?_
          refine ev_ia (pc' := 113) (pt_105_112 w) rfl rfl (b2 c1) ?_
          refine ev_ias (pc' := 114) (pt_105_113 w) rfl rfl (b6 c1 c2 c3) ?_
          refine ev_k (pc' := 115) (pt_105_114 w) rfl ?_
          refine ev_is (pc' := 116) (loc1 := [some (.ref 148), o1, some (.int 1), some (.int x3), some (.int x4), some (.int r1)]) (pt_105_115 w) rfl rfl ?_
          refine ev_inc (pc' := 119) (loc1 := [some (.ref 148), o1, some (.int 1), some (.int x3), some (.int (x4 + 1)), some (.int r1)]) (pt_105_116 w) rfl rfl rfl ?_
          refine ev_g (pt_105_119 w) ?_
          exact (h8 c1 c2 c3 c4)

-- BoardDeskModel.padOf(I)I
theorem wk_106_0 {w : qS} {M : qM} {x1 : Int32} {post : qR}
    (b1 : vp_in ((iN 32) + x1) 592)
    (h2 : post (some (.int (if ((M 149 ((iN 32) + x1).toNatClampNeg) / (iN 120)) = (iN 2) then ((iN 120) + ((M 149 ((iN 32) + x1).toNatClampNeg) - (M 149 ((iN 32) + x1).toNatClampNeg) / (iN 120) * (iN 120))) else ((M 149 ((iN 32) + x1).toNatClampNeg) - (M 149 ((iN 32) + x1).toNatClampNeg) / (iN 120) * (iN 120)) : Int32))) M) :
    gE w 106 0 [some (.ref 148), some (.int x1), none] [] M post := by
  refine ev_al (pc' := 1) (pt_106_0 w) rfl rfl ?_
  refine ev_getr (pc' := 4) (pt_106_1 w) rfl rfl rfl ?_
  refine ev_k (pc' := 6) (pt_106_4 w) rfl ?_
  refine ev_il (pc' := 7) (pt_106_6 w) rfl rfl ?_
  refine ev_b (pc' := 8) (pt_106_7 w) rfl ?_
  refine ev_ia (pc' := 9) (pt_106_8 w) rfl rfl b1 ?_
  refine ev_is (pc' := 10) (loc1 := [some (.ref 148), some (.int x1), some (.int (M 149 ((iN 32) + x1).toNatClampNeg))]) (pt_106_9 w) rfl rfl ?_
  refine ev_il (pc' := 11) (pt_106_10 w) rfl rfl ?_
  refine ev_k (pc' := 13) (pt_106_11 w) rfl ?_
  refine ev_d (pc' := 14) (pt_106_13 w) rfl (by decide +kernel) ?_
  refine ev_k (pc' := 15) (pt_106_14 w) rfl ?_
  have j1 : ∀ v1 : Int32, v1 = (if ((M 149 ((iN 32) + x1).toNatClampNeg) / (iN 120)) = (iN 2) then ((iN 120) + ((M 149 ((iN 32) + x1).toNatClampNeg) - (M 149 ((iN 32) + x1).toNatClampNeg) / (iN 120) * (iN 120))) else ((M 149 ((iN 32) + x1).toNatClampNeg) - (M 149 ((iN 32) + x1).toNatClampNeg) / (iN 120) * (iN 120)) : Int32) → gE w 106 32 [some (.ref 148), some (.int x1), some (.int (M 149 ((iN 32) + x1).toNatClampNeg))] [.int v1] M post := by
    intro v1 e2
    subst v1
    exact ev_ri1 (pt_106_32 w) h2
  refine ev_cne (pc' := 18) (pt_106_15 w) rfl (fun c1 => ?_) (fun c1 => ?_)
  · refine ev_il (pc' := 29) (pt_106_28 w) rfl rfl ?_
    refine ev_k (pc' := 31) (pt_106_29 w) rfl ?_
    refine ev_d (pc' := 32) (pt_106_31 w) rfl (by decide +kernel) ?_
    exact j1 _ (if_neg c1).symm
  · refine ev_k (pc' := 20) (pt_106_18 w) rfl ?_
    refine ev_il (pc' := 21) (pt_106_20 w) rfl rfl ?_
    refine ev_k (pc' := 23) (pt_106_21 w) rfl ?_
    refine ev_d (pc' := 24) (pt_106_23 w) rfl (by decide +kernel) ?_
    refine ev_b (pc' := 25) (pt_106_24 w) rfl ?_
    refine ev_g (pt_106_25 w) ?_
    exact j1 _ (if_pos c1).symm

-- BoardDeskModel.firstOf(I)I
theorem wk_107_0 {w : qS} {M : qM} {x1 : Int32} {post : qR}
    (h1 : gE w 107 11 [some (.ref 148), some (.int x1), some (.int (-1)), some (.int ((M 149 0) - 1))] [] M post) :
    gE w 107 0 [some (.ref 148), some (.int x1), none, none] [] M post := by
  refine ev_k (pc' := 1) (pt_107_0 w) rfl ?_
  refine ev_is (pc' := 2) (loc1 := [some (.ref 148), some (.int x1), some (.int (-1)), none]) (pt_107_1 w) rfl rfl ?_
  refine ev_al (pc' := 3) (pt_107_2 w) rfl rfl ?_
  refine ev_getr (pc' := 6) (pt_107_3 w) rfl rfl rfl ?_
  refine ev_k (pc' := 7) (pt_107_6 w) rfl ?_
  refine ev_iac (j := 0) (pc' := 8) (pt_107_7 w) rfl rfl (vp_lit (by decide +kernel)) (by decide +kernel) ?_
  refine ev_k (pc' := 9) (pt_107_8 w) rfl ?_
  refine ev_b (pc' := 10) (pt_107_9 w) rfl ?_
  refine ev_is (pc' := 11) (loc1 := [some (.ref 148), some (.int x1), some (.int (-1)), some (.int ((M 149 0) - 1))]) (pt_107_10 w) rfl rfl ?_
  exact h1

theorem wk_107_11 {w : qS} {M : qM} {x1 x2 x3 : Int32} {post : qR}
    (h1 : (c1 : x3 < 0) → post (some (.int x2)) M)
    (b2 : (c1 : ¬ x3 < 0) → vp_in x3 16)
    (h3 : (c1 : ¬ x3 < 0) → gE w 107 11 [some (.ref 148), some (.int x1), some (.int (if (M 152 x3.toNatClampNeg) = x1 then (if 0 < (M 149 ((iN 32) + x3).toNatClampNeg) then x3 else x2 : Int32) else x2 : Int32)), some (.int (x3 + (-1)))] [] M post)
    (b4 : (c1 : ¬ x3 < 0) → (c2 : (M 152 x3.toNatClampNeg) = x1) → vp_in ((iN 32) + x3) 592) :
    gE w 107 11 [some (.ref 148), some (.int x1), some (.int x2), some (.int x3)] [] M post := by
  refine ev_il (pc' := 12) (pt_107_11 w) rfl rfl ?_
  refine ev_zlt (pc' := 15) (pt_107_12 w) rfl (fun c1 => ?_) (fun c1 => ?_)
  · refine ev_il (pc' := 50) (pt_107_49 w) rfl rfl ?_
    exact ev_ri1 (pt_107_50 w) (h1 c1)
  · refine ev_al (pc' := 16) (pt_107_15 w) rfl rfl ?_
    refine ev_getr (pc' := 19) (pt_107_16 w) rfl rfl rfl ?_
    refine ev_il (pc' := 20) (pt_107_19 w) rfl rfl ?_
    refine ev_ia (pc' := 21) (pt_107_20 w) rfl rfl (b2 c1) ?_
    refine ev_il (pc' := 22) (pt_107_21 w) rfl rfl ?_
    have j1 : ∀ v1 : Int32, v1 = (if (M 152 x3.toNatClampNeg) = x1 then (if 0 < (M 149 ((iN 32) + x3).toNatClampNeg) then x3 else x2 : Int32) else x2 : Int32) → gE w 107 42 [some (.ref 148), some (.int x1), some (.int x2), some (.int x3)] [.int v1] M post := by
      intro v1 e2
      subst v1
      refine ev_is (pc' := 43) (loc1 := [some (.ref 148), some (.int x1), some (.int (if (M 152 x3.toNatClampNeg) = x1 then (if 0 < (M 149 ((iN 32) + x3).toNatClampNeg) then x3 else x2 : Int32) else x2 : Int32)), some (.int x3)]) (pt_107_42 w) rfl rfl ?_
      refine ev_inc (pc' := 46) (loc1 := [some (.ref 148), some (.int x1), some (.int (if (M 152 x3.toNatClampNeg) = x1 then (if 0 < (M 149 ((iN 32) + x3).toNatClampNeg) then x3 else x2 : Int32) else x2 : Int32)), some (.int (x3 + (-1)))]) (pt_107_43 w) rfl rfl rfl ?_
      refine ev_g (pt_107_46 w) ?_
      exact (h3 c1)
    refine ev_cne (pc' := 25) (pt_107_22 w) rfl (fun c2 => ?_) (fun c2 => ?_)
    · refine ev_il (pc' := 42) (pt_107_41 w) rfl rfl ?_
      exact j1 _ (if_neg c2).symm
    · refine ev_al (pc' := 26) (pt_107_25 w) rfl rfl ?_
      refine ev_getr (pc' := 29) (pt_107_26 w) rfl rfl rfl ?_
      refine ev_k (pc' := 31) (pt_107_29 w) rfl ?_
      refine ev_il (pc' := 32) (pt_107_31 w) rfl rfl ?_
      refine ev_b (pc' := 33) (pt_107_32 w) rfl ?_
      refine ev_ia (pc' := 34) (pt_107_33 w) rfl rfl (b4 c1 c2) ?_
      refine ev_zle (pc' := 37) (pt_107_34 w) rfl (fun c3 => ?_) (fun c3 => ?_)
      · refine ev_il (pc' := 42) (pt_107_41 w) rfl rfl ?_
        exact j1 _ ((if_pos c2).trans (if_neg c3)).symm
      · refine ev_il (pc' := 38) (pt_107_37 w) rfl rfl ?_
        refine ev_g (pt_107_38 w) ?_
        exact j1 _ ((if_pos c2).trans (if_pos c3)).symm

-- BoardDeskModel.missing(I)I
theorem wk_108_0 {w : qS} {M : qM} {x1 : Int32} {r1 : Int32} {post : qR}
    (k1 : gE w 107 0 [some (.ref 148), some (.int x1), none, none] [] M (qv1 M r1))
    (h2 : (c1 : ¬ r1 < 0) → gE w 105 0 [some (.ref 148), some (.int x1), none, none, none, none] [] M (fun r M' => gE w 108 17 [some (.ref 148), some (.int x1), some (.int r1), none, none, none] (r.toList ++ []) M' post))
    (h3 : (c1 : r1 < 0) → post (some (.int (-1))) M) :
    gE w 108 0 [some (.ref 148), some (.int x1), none, none, none, none] [] M post := by
  refine ev_al (pc' := 1) (pt_108_0 w) rfl rfl ?_
  refine ev_il (pc' := 2) (pt_108_1 w) rfl rfl ?_
  refine ev_cal1 (pc' := 5) (pt_108_2 w) (vs := [.ref 148, .int x1]) (rest := []) (en := [some (.ref 148), some (.int x1), none, none]) rfl rfl rfl rfl rfl rfl rfl k1 ?_
  refine ev_is (pc' := 6) (loc1 := [some (.ref 148), some (.int x1), some (.int r1), none, none, none]) (pt_108_5 w) rfl rfl ?_
  refine ev_il (pc' := 7) (pt_108_6 w) rfl rfl ?_
  refine ev_zge (pc' := 10) (pt_108_7 w) rfl (fun c1 => ?_) (fun c1 => ?_)
  · refine ev_al (pc' := 13) (pt_108_12 w) rfl rfl ?_
    refine ev_il (pc' := 14) (pt_108_13 w) rfl rfl ?_
    exact ev_cal (pc' := 17) (pt_108_14 w) (vs := [.ref 148, .int x1]) (rest := []) (en := [some (.ref 148), some (.int x1), none, none, none, none]) rfl rfl rfl rfl rfl rfl rfl (h2 c1)
  · refine ev_k (pc' := 11) (pt_108_10 w) rfl ?_
    exact ev_ri1 (pt_108_11 w) (h3 c1)

theorem wk_108_17 {w : qS} {M : qM} {x1 x2 : Int32} {o3 o4 o5 : Option Value} {post : qR}
    (h1 : gE w 108 29 [some (.ref 148), some (.int x1), some (.int x2), some (.int (-1)), some (.int ((M 149 0) - 1)), o5] [] M post) :
    gE w 108 17 [some (.ref 148), some (.int x1), some (.int x2), o3, o4, o5] [] M post := by
  refine ev_k (pc' := 18) (pt_108_17 w) rfl ?_
  refine ev_is (pc' := 19) (loc1 := [some (.ref 148), some (.int x1), some (.int x2), some (.int (-1)), o4, o5]) (pt_108_18 w) rfl rfl ?_
  refine ev_al (pc' := 20) (pt_108_19 w) rfl rfl ?_
  refine ev_getr (pc' := 23) (pt_108_20 w) rfl rfl rfl ?_
  refine ev_k (pc' := 24) (pt_108_23 w) rfl ?_
  refine ev_iac (j := 0) (pc' := 25) (pt_108_24 w) rfl rfl (vp_lit (by decide +kernel)) (by decide +kernel) ?_
  refine ev_k (pc' := 26) (pt_108_25 w) rfl ?_
  refine ev_b (pc' := 27) (pt_108_26 w) rfl ?_
  refine ev_is (pc' := 29) (loc1 := [some (.ref 148), some (.int x1), some (.int x2), some (.int (-1)), some (.int ((M 149 0) - 1)), o5]) (pt_108_27 w) rfl rfl ?_
  exact h1

theorem wk_108_29 {w : qS} {M : qM} {x1 x2 x3 x4 : Int32} {o5 : Option Value} {r1 : Int32} {r2 : Int32} {post : qR}
    (h1 : (c1 : ¬ x2 < x4) → post (some (.int x3)) M)
    (b2 : (c1 : x2 < x4) → vp_in x4 16)
    (h3 : (c1 : x2 < x4) → gE w 108 29 [some (.ref 148), some (.int x1), some (.int x2), some (.int (if (if (M 152 x4.toNatClampNeg) = x1 then (if 0 < (M 149 ((iN 32) + x4).toNatClampNeg) then (if (M 155 r1.toNatClampNeg) = (M 155 r2.toNatClampNeg) then 0 else 1 : Int32) else 0 : Int32) else 0 : Int32) = 0 then x3 else x4 : Int32)), some (.int (x4 + (-1))), some (.int (if (M 152 x4.toNatClampNeg) = x1 then (if 0 < (M 149 ((iN 32) + x4).toNatClampNeg) then (if (M 155 r1.toNatClampNeg) = (M 155 r2.toNatClampNeg) then 0 else 1 : Int32) else 0 : Int32) else 0 : Int32))] [] M post)
    (b4 : (c1 : x2 < x4) → (c3 : (M 152 x4.toNatClampNeg) = x1) → vp_in ((iN 32) + x4) 592)
    (k5 : (c1 : x2 < x4) → (c3 : (M 152 x4.toNatClampNeg) = x1) → (c4 : 0 < (M 149 ((iN 32) + x4).toNatClampNeg)) → gE w 106 0 [some (.ref 148), some (.int x4), none] [] M (qv1 M r1))
    (b6 : (c1 : x2 < x4) → (c3 : (M 152 x4.toNatClampNeg) = x1) → (c4 : 0 < (M 149 ((iN 32) + x4).toNatClampNeg)) → vp_in r1 240)
    (k7 : (c1 : x2 < x4) → (c3 : (M 152 x4.toNatClampNeg) = x1) → (c4 : 0 < (M 149 ((iN 32) + x4).toNatClampNeg)) → gE w 106 0 [some (.ref 148), some (.int x2), none] [] M (qv1 M r2))
    (b8 : (c1 : x2 < x4) → (c3 : (M 152 x4.toNatClampNeg) = x1) → (c4 : 0 < (M 149 ((iN 32) + x4).toNatClampNeg)) → vp_in r2 240) :
    gE w 108 29 [some (.ref 148), some (.int x1), some (.int x2), some (.int x3), some (.int x4), o5] [] M post := by
  refine ev_il (pc' := 31) (pt_108_29 w) rfl rfl ?_
  refine ev_il (pc' := 32) (pt_108_31 w) rfl rfl ?_
  refine ev_cle (pc' := 35) (pt_108_32 w) rfl (fun c1 => ?_) (fun c1 => ?_)
  · refine ev_il (pc' := 109) (pt_108_108 w) rfl rfl ?_
    exact ev_ri1 (pt_108_109 w) (h1 c1)
  · refine ev_al (pc' := 36) (pt_108_35 w) rfl rfl ?_
    refine ev_getr (pc' := 39) (pt_108_36 w) rfl rfl rfl ?_
    refine ev_il (pc' := 41) (pt_108_39 w) rfl rfl ?_
    refine ev_ia (pc' := 42) (pt_108_41 w) rfl rfl (b2 c1) ?_
    refine ev_il (pc' := 43) (pt_108_42 w) rfl rfl ?_
    have j1 : ∀ v1 : Int32, v1 = (if (M 152 x4.toNatClampNeg) = x1 then (if 0 < (M 149 ((iN 32) + x4).toNatClampNeg) then (if (M 155 r1.toNatClampNeg) = (M 155 r2.toNatClampNeg) then 0 else 1 : Int32) else 0 : Int32) else 0 : Int32) → gE w 108 88 [some (.ref 148), some (.int x1), some (.int x2), some (.int x3), some (.int x4), o5] [.int v1] M post := by
      intro v1 e2
      subst v1
      refine ev_is (pc' := 90) (loc1 := [some (.ref 148), some (.int x1), some (.int x2), some (.int x3), some (.int x4), some (.int (if (M 152 x4.toNatClampNeg) = x1 then (if 0 < (M 149 ((iN 32) + x4).toNatClampNeg) then (if (M 155 r1.toNatClampNeg) = (M 155 r2.toNatClampNeg) then 0 else 1 : Int32) else 0 : Int32) else 0 : Int32))]) (pt_108_88 w) rfl rfl ?_
      refine ev_il (pc' := 92) (pt_108_90 w) rfl rfl ?_
      have j2 : ∀ v3 : Int32, v3 = (if (if (M 152 x4.toNatClampNeg) = x1 then (if 0 < (M 149 ((iN 32) + x4).toNatClampNeg) then (if (M 155 r1.toNatClampNeg) = (M 155 r2.toNatClampNeg) then 0 else 1 : Int32) else 0 : Int32) else 0 : Int32) = 0 then x3 else x4 : Int32) → gE w 108 101 [some (.ref 148), some (.int x1), some (.int x2), some (.int x3), some (.int x4), some (.int (if (M 152 x4.toNatClampNeg) = x1 then (if 0 < (M 149 ((iN 32) + x4).toNatClampNeg) then (if (M 155 r1.toNatClampNeg) = (M 155 r2.toNatClampNeg) then 0 else 1 : Int32) else 0 : Int32) else 0 : Int32))] [.int v3] M post := by
        intro v3 e4
        subst v3
        refine ev_is (pc' := 102) (loc1 := [some (.ref 148), some (.int x1), some (.int x2), some (.int (if (if (M 152 x4.toNatClampNeg) = x1 then (if 0 < (M 149 ((iN 32) + x4).toNatClampNeg) then (if (M 155 r1.toNatClampNeg) = (M 155 r2.toNatClampNeg) then 0 else 1 : Int32) else 0 : Int32) else 0 : Int32) = 0 then x3 else x4 : Int32)), some (.int x4), some (.int (if (M 152 x4.toNatClampNeg) = x1 then (if 0 < (M 149 ((iN 32) + x4).toNatClampNeg) then (if (M 155 r1.toNatClampNeg) = (M 155 r2.toNatClampNeg) then 0 else 1 : Int32) else 0 : Int32) else 0 : Int32))]) (pt_108_101 w) rfl rfl ?_
        refine ev_inc (pc' := 105) (loc1 := [some (.ref 148), some (.int x1), some (.int x2), some (.int (if (if (M 152 x4.toNatClampNeg) = x1 then (if 0 < (M 149 ((iN 32) + x4).toNatClampNeg) then (if (M 155 r1.toNatClampNeg) = (M 155 r2.toNatClampNeg) then 0 else 1 : Int32) else 0 : Int32) else 0 : Int32) = 0 then x3 else x4 : Int32)), some (.int (x4 + (-1))), some (.int (if (M 152 x4.toNatClampNeg) = x1 then (if 0 < (M 149 ((iN 32) + x4).toNatClampNeg) then (if (M 155 r1.toNatClampNeg) = (M 155 r2.toNatClampNeg) then 0 else 1 : Int32) else 0 : Int32) else 0 : Int32))]) (pt_108_102 w) rfl rfl rfl ?_
        refine ev_g (pt_108_105 w) ?_
        exact (h3 c1)
      refine ev_zeq (pc' := 95) (pt_108_92 w) rfl (fun c2 => ?_) (fun c2 => ?_)
      · refine ev_il (pc' := 101) (pt_108_100 w) rfl rfl ?_
        exact j2 _ (if_pos c2).symm
      · refine ev_il (pc' := 97) (pt_108_95 w) rfl rfl ?_
        refine ev_g (pt_108_97 w) ?_
        exact j2 _ (if_neg c2).symm
    refine ev_cne (pc' := 46) (pt_108_43 w) rfl (fun c3 => ?_) (fun c3 => ?_)
    · refine ev_k (pc' := 88) (pt_108_87 w) rfl ?_
      exact j1 _ (if_neg c3).symm
    · refine ev_al (pc' := 47) (pt_108_46 w) rfl rfl ?_
      refine ev_getr (pc' := 50) (pt_108_47 w) rfl rfl rfl ?_
      refine ev_k (pc' := 52) (pt_108_50 w) rfl ?_
      refine ev_il (pc' := 54) (pt_108_52 w) rfl rfl ?_
      refine ev_b (pc' := 55) (pt_108_54 w) rfl ?_
      refine ev_ia (pc' := 56) (pt_108_55 w) rfl rfl (b4 c1 c3) ?_
      refine ev_zle (pc' := 59) (pt_108_56 w) rfl (fun c4 => ?_) (fun c4 => ?_)
      · refine ev_k (pc' := 88) (pt_108_87 w) rfl ?_
        exact j1 _ ((if_pos c3).trans (if_neg c4)).symm
      · refine ev_al (pc' := 60) (pt_108_59 w) rfl rfl ?_
        refine ev_getr (pc' := 63) (pt_108_60 w) rfl rfl rfl ?_
        refine ev_al (pc' := 64) (pt_108_63 w) rfl rfl ?_
        refine ev_il (pc' := 66) (pt_108_64 w) rfl rfl ?_
        refine ev_cal1 (pc' := 69) (pt_108_66 w) (vs := [.ref 148, .int x4]) (rest := [.ref 155]) (en := [some (.ref 148), some (.int x4), none]) rfl rfl rfl rfl rfl rfl rfl (k5 c1 c3 c4) ?_
        refine ev_ia (pc' := 70) (pt_108_69 w) rfl rfl (b6 c1 c3 c4) ?_
        refine ev_al (pc' := 71) (pt_108_70 w) rfl rfl ?_
        refine ev_getr (pc' := 74) (pt_108_71 w) rfl rfl rfl ?_
        refine ev_al (pc' := 75) (pt_108_74 w) rfl rfl ?_
        refine ev_il (pc' := 76) (pt_108_75 w) rfl rfl ?_
        refine ev_cal1 (pc' := 79) (pt_108_76 w) (vs := [.ref 148, .int x2]) (rest := [.ref 155, .int (M 155 r1.toNatClampNeg)]) (en := [some (.ref 148), some (.int x2), none]) rfl rfl rfl rfl rfl rfl rfl (k7 c1 c3 c4) ?_
        refine ev_ia (pc' := 80) (pt_108_79 w) rfl rfl (b8 c1 c3 c4) ?_
        refine ev_ceq (pc' := 83) (pt_108_80 w) rfl (fun c5 => ?_) (fun c5 => ?_)
        · refine ev_k (pc' := 88) (pt_108_87 w) rfl ?_
          exact j1 _ (((if_pos c3).trans (if_pos c4)).trans (if_pos c5)).symm
        · refine ev_k (pc' := 84) (pt_108_83 w) rfl ?_
          refine ev_g (pt_108_84 w) ?_
          exact j1 _ (((if_pos c3).trans (if_pos c4)).trans (if_neg c5)).symm

-- BoardDeskModel.price(I)I
theorem wk_109_0 {w : qS} {M : qM} {x0 : Int32} {post : qR}
    (h1 : post (some (.int (if x0 = (iN 8) then (iN 30) else (if (x0 - x0 / (iN 2) * (iN 2)) = 0 then (iN 10) else (iN 14) : Int32) : Int32))) M) :
    gE w 109 0 [some (.int x0)] [] M post := by
  refine ev_il (pc' := 1) (pt_109_0 w) rfl rfl ?_
  refine ev_k (pc' := 3) (pt_109_1 w) rfl ?_
  have j1 : ∀ v1 : Int32, v1 = (if x0 = (iN 8) then (iN 30) else (if (x0 - x0 / (iN 2) * (iN 2)) = 0 then (iN 10) else (iN 14) : Int32) : Int32) → gE w 109 24 [some (.int x0)] [.int v1] M post := by
    intro v1 e2
    subst v1
    exact ev_ri1 (pt_109_24 w) h1
  refine ev_cne (pc' := 6) (pt_109_3 w) rfl (fun c1 => ?_) (fun c1 => ?_)
  · refine ev_il (pc' := 12) (pt_109_11 w) rfl rfl ?_
    refine ev_k (pc' := 13) (pt_109_12 w) rfl ?_
    refine ev_d (pc' := 14) (pt_109_13 w) rfl (by decide +kernel) ?_
    refine ev_zne (pc' := 17) (pt_109_14 w) rfl (fun c2 => ?_) (fun c2 => ?_)
    · refine ev_k (pc' := 24) (pt_109_22 w) rfl ?_
      exact j1 _ ((if_neg c1).trans (if_neg c2)).symm
    · refine ev_k (pc' := 19) (pt_109_17 w) rfl ?_
      refine ev_g (pt_109_19 w) ?_
      exact j1 _ ((if_neg c1).trans (if_pos c2)).symm
  · refine ev_k (pc' := 8) (pt_109_6 w) rfl ?_
    refine ev_g (pt_109_8 w) ?_
    exact j1 _ (if_pos c1).symm

-- BoardDeskModel.reach(I)I
theorem wk_110_0 {w : qS} {M : qM} {x1 : Int32} {post : qR}
    (h1 : gE w 110 5 [some (.ref 148), some (.int x1), some (.int (iN 1000000)), some (.int 0), none, none] [] M post) :
    gE w 110 0 [some (.ref 148), some (.int x1), none, none, none, none] [] M post := by
  refine ev_k (pc' := 2) (pt_110_0 w) rfl ?_
  refine ev_is (pc' := 3) (loc1 := [some (.ref 148), some (.int x1), some (.int (iN 1000000)), none, none, none]) (pt_110_2 w) rfl rfl ?_
  refine ev_k (pc' := 4) (pt_110_3 w) rfl ?_
  refine ev_is (pc' := 5) (loc1 := [some (.ref 148), some (.int x1), some (.int (iN 1000000)), some (.int 0), none, none]) (pt_110_4 w) rfl rfl ?_
  exact h1

theorem wk_110_5 {w : qS} {M : qM} {x1 x2 x3 : Int32} {o4 o5 : Option Value} {r1 : Int32} {r2 : Int32} {post : qR}
    (h1 : (c1 : ¬ x3 < (iN 9)) → post (some (.int x2)) M)
    (k2 : (c1 : x3 < (iN 9)) → gE w 100 0 [some (.int x1), some (.int x3), none, none] [] M (qv1 M r1))
    (h3 : (c1 : x3 < (iN 9)) → gE w 110 5 [some (.ref 148), some (.int x1), some (.int (if (if r1 < 0 then (iN 1000000) else ((M 157 r1.toNatClampNeg) + r2) : Int32) < x2 then (if r1 < 0 then (iN 1000000) else ((M 157 r1.toNatClampNeg) + r2) : Int32) else x2 : Int32)), some (.int (x3 + 1)), some (.int r1), some (.int (if r1 < 0 then (iN 1000000) else ((M 157 r1.toNatClampNeg) + r2) : Int32))] [] M post)
    (b4 : (c1 : x3 < (iN 9)) → (c3 : ¬ r1 < 0) → vp_in r1 240)
    (k5 : (c1 : x3 < (iN 9)) → (c3 : ¬ r1 < 0) → gE w 109 0 [some (.int x3)] [] M (qv1 M r2)) :
    gE w 110 5 [some (.ref 148), some (.int x1), some (.int x2), some (.int x3), o4, o5] [] M post := by
  refine ev_il (pc' := 6) (pt_110_5 w) rfl rfl ?_
  refine ev_k (pc' := 8) (pt_110_6 w) rfl ?_
  refine ev_cge (pc' := 11) (pt_110_8 w) rfl (fun c1 => ?_) (fun c1 => ?_)
  · refine ev_il (pc' := 62) (pt_110_61 w) rfl rfl ?_
    exact ev_ri1 (pt_110_62 w) (h1 c1)
  · refine ev_il (pc' := 12) (pt_110_11 w) rfl rfl ?_
    refine ev_il (pc' := 13) (pt_110_12 w) rfl rfl ?_
    refine ev_cal1 (pc' := 16) (pt_110_13 w) (vs := [.int x1, .int x3]) (rest := []) (en := [some (.int x1), some (.int x3), none, none]) rfl rfl rfl rfl trivial rfl rfl (k2 c1) ?_
    refine ev_is (pc' := 18) (loc1 := [some (.ref 148), some (.int x1), some (.int x2), some (.int x3), some (.int r1), o5]) (pt_110_16 w) rfl rfl ?_
    refine ev_il (pc' := 20) (pt_110_18 w) rfl rfl ?_
    have j1 : ∀ v1 : Int32, v1 = (if r1 < 0 then (iN 1000000) else ((M 157 r1.toNatClampNeg) + r2) : Int32) → gE w 110 40 [some (.ref 148), some (.int x1), some (.int x2), some (.int x3), some (.int r1), o5] [.int v1] M post := by
      intro v1 e2
      subst v1
      refine ev_is (pc' := 42) (loc1 := [some (.ref 148), some (.int x1), some (.int x2), some (.int x3), some (.int r1), some (.int (if r1 < 0 then (iN 1000000) else ((M 157 r1.toNatClampNeg) + r2) : Int32))]) (pt_110_40 w) rfl rfl ?_
      refine ev_il (pc' := 44) (pt_110_42 w) rfl rfl ?_
      refine ev_il (pc' := 45) (pt_110_44 w) rfl rfl ?_
      have j2 : ∀ v3 : Int32, v3 = (if (if r1 < 0 then (iN 1000000) else ((M 157 r1.toNatClampNeg) + r2) : Int32) < x2 then (if r1 < 0 then (iN 1000000) else ((M 157 r1.toNatClampNeg) + r2) : Int32) else x2 : Int32) → gE w 110 54 [some (.ref 148), some (.int x1), some (.int x2), some (.int x3), some (.int r1), some (.int (if r1 < 0 then (iN 1000000) else ((M 157 r1.toNatClampNeg) + r2) : Int32))] [.int v3] M post := by
        intro v3 e4
        subst v3
        refine ev_is (pc' := 55) (loc1 := [some (.ref 148), some (.int x1), some (.int (if (if r1 < 0 then (iN 1000000) else ((M 157 r1.toNatClampNeg) + r2) : Int32) < x2 then (if r1 < 0 then (iN 1000000) else ((M 157 r1.toNatClampNeg) + r2) : Int32) else x2 : Int32)), some (.int x3), some (.int r1), some (.int (if r1 < 0 then (iN 1000000) else ((M 157 r1.toNatClampNeg) + r2) : Int32))]) (pt_110_54 w) rfl rfl ?_
        refine ev_inc (pc' := 58) (loc1 := [some (.ref 148), some (.int x1), some (.int (if (if r1 < 0 then (iN 1000000) else ((M 157 r1.toNatClampNeg) + r2) : Int32) < x2 then (if r1 < 0 then (iN 1000000) else ((M 157 r1.toNatClampNeg) + r2) : Int32) else x2 : Int32)), some (.int (x3 + 1)), some (.int r1), some (.int (if r1 < 0 then (iN 1000000) else ((M 157 r1.toNatClampNeg) + r2) : Int32))]) (pt_110_55 w) rfl rfl rfl ?_
        refine ev_g (pt_110_58 w) ?_
        exact (h3 c1)
      refine ev_cge (pc' := 48) (pt_110_45 w) rfl (fun c2 => ?_) (fun c2 => ?_)
      · refine ev_il (pc' := 54) (pt_110_53 w) rfl rfl ?_
        exact j2 _ (if_neg c2).symm
      · refine ev_il (pc' := 50) (pt_110_48 w) rfl rfl ?_
        refine ev_g (pt_110_50 w) ?_
        exact j2 _ (if_pos c2).symm
    refine ev_zge (pc' := 23) (pt_110_20 w) rfl (fun c3 => ?_) (fun c3 => ?_)
    · refine ev_al (pc' := 29) (pt_110_28 w) rfl rfl ?_
      refine ev_getr (pc' := 32) (pt_110_29 w) rfl rfl rfl ?_
      refine ev_il (pc' := 34) (pt_110_32 w) rfl rfl ?_
      refine ev_ia (pc' := 35) (pt_110_34 w) rfl rfl (b4 c1 c3) ?_
      refine ev_il (pc' := 36) (pt_110_35 w) rfl rfl ?_
      refine ev_cal1 (pc' := 39) (pt_110_36 w) (vs := [.int x3]) (rest := [.int (M 157 r1.toNatClampNeg)]) (en := [some (.int x3)]) rfl rfl rfl rfl trivial rfl rfl (k5 c1 c3) ?_
      refine ev_b (pc' := 40) (pt_110_39 w) rfl ?_
      exact j1 _ (if_neg c3).symm
    · refine ev_k (pc' := 25) (pt_110_23 w) rfl ?_
      refine ev_g (pt_110_25 w) ?_
      exact j1 _ (if_pos c3).symm

-- BoardDeskModel.layCosts(II)V
theorem wk_111_0 {w : qS} {M : qM} {x1 x2 : Int32} {post : qR}
    (h1 : gE w 111 2 [some (.ref 148), some (.int x1), some (.int x2), some (.int 0), none, none] [] M post) :
    gE w 111 0 [some (.ref 148), some (.int x1), some (.int x2), none, none, none] [] M post := by
  refine ev_k (pc' := 1) (pt_111_0 w) rfl ?_
  refine ev_is (pc' := 2) (loc1 := [some (.ref 148), some (.int x1), some (.int x2), some (.int 0), none, none]) (pt_111_1 w) rfl rfl ?_
  exact h1

theorem wk_111_2 {w : qS} {M : qM} {x1 x2 x3 : Int32} {o4 o5 : Option Value} {r1 : Int32} {post : qR}
    (h1 : (c1 : ¬ x3 < (iN 240)) → gE w 111 51 [some (.ref 148), some (.int x1), some (.int x2), some (.int 1), o4, o5] [] M post)
    (k2 : (c1 : x3 < (iN 240)) → gE w 93 0 [some (.ref 148), some (.int x3), some (.int x1)] [] M (qv1 M r1))
    (n3 : (c1 : x3 < (iN 240)) → vp_nar .boolean r1 = r1)
    (b4 : (c1 : x3 < (iN 240)) → vp_in x3 240)
    (h5 : (c1 : x3 < (iN 240)) → gE w 111 2 [some (.ref 148), some (.int x1), some (.int x2), some (.int (x3 + 1)), o4, o5] [] (ms (ms M 156 x3.toNatClampNeg r1) 157 x3.toNatClampNeg (if ((ms M 156 x3.toNatClampNeg r1) 155 x3.toNatClampNeg) = x2 then 0 else (iN 1000000) : Int32)) post) :
    gE w 111 2 [some (.ref 148), some (.int x1), some (.int x2), some (.int x3), o4, o5] [] M post := by
  refine ev_il (pc' := 3) (pt_111_2 w) rfl rfl ?_
  refine ev_k (pc' := 6) (pt_111_3 w) rfl ?_
  refine ev_cge (pc' := 9) (pt_111_6 w) rfl (fun c1 => ?_) (fun c1 => ?_)
  · refine ev_k (pc' := 50) (pt_111_49 w) rfl ?_
    refine ev_is (pc' := 51) (loc1 := [some (.ref 148), some (.int x1), some (.int x2), some (.int 1), o4, o5]) (pt_111_50 w) rfl rfl ?_
    exact (h1 c1)
  · refine ev_al (pc' := 10) (pt_111_9 w) rfl rfl ?_
    refine ev_getr (pc' := 13) (pt_111_10 w) rfl rfl rfl ?_
    refine ev_il (pc' := 14) (pt_111_13 w) rfl rfl ?_
    refine ev_al (pc' := 15) (pt_111_14 w) rfl rfl ?_
    refine ev_il (pc' := 16) (pt_111_15 w) rfl rfl ?_
    refine ev_il (pc' := 17) (pt_111_16 w) rfl rfl ?_
    refine ev_cal1 (pc' := 20) (pt_111_17 w) (vs := [.ref 148, .int x3, .int x1]) (rest := [.int x3, .ref 156]) (en := [some (.ref 148), some (.int x3), some (.int x1)]) rfl rfl rfl rfl rfl rfl rfl (k2 c1) ?_
    refine ev_zasb (pc' := 21) (pt_111_20 w) rfl rfl (b4 c1) (n3 c1) ?_
    refine ev_al (pc' := 22) (pt_111_21 w) rfl rfl ?_
    refine ev_getr (pc' := 25) (pt_111_22 w) rfl rfl rfl ?_
    refine ev_il (pc' := 26) (pt_111_25 w) rfl rfl ?_
    refine ev_al (pc' := 27) (pt_111_26 w) rfl rfl ?_
    refine ev_getr (pc' := 30) (pt_111_27 w) rfl rfl rfl ?_
    refine ev_il (pc' := 31) (pt_111_30 w) rfl rfl ?_
    refine ev_ia (pc' := 32) (pt_111_31 w) rfl rfl (b4 c1) ?_
    refine ev_il (pc' := 33) (pt_111_32 w) rfl rfl ?_
    have j1 : ∀ v1 : Int32, v1 = (if ((ms M 156 x3.toNatClampNeg r1) 155 x3.toNatClampNeg) = x2 then 0 else (iN 1000000) : Int32) → gE w 111 42 [some (.ref 148), some (.int x1), some (.int x2), some (.int x3), o4, o5] [.int v1, .int x3, .ref 157] (ms M 156 x3.toNatClampNeg r1) post := by
      intro v1 e2
      subst v1
      refine ev_ias (pc' := 43) (pt_111_42 w) rfl rfl (b4 c1) ?_
      refine ev_inc (pc' := 46) (loc1 := [some (.ref 148), some (.int x1), some (.int x2), some (.int (x3 + 1)), o4, o5]) (pt_111_43 w) rfl rfl rfl ?_
      refine ev_g (pt_111_46 w) ?_
      exact (h5 c1)
    refine ev_cne (pc' := 36) (pt_111_33 w) rfl (fun c2 => ?_) (fun c2 => ?_)
    · refine ev_k (pc' := 42) (pt_111_40 w) rfl ?_
      exact j1 _ (if_neg c2).symm
    · refine ev_k (pc' := 37) (pt_111_36 w) rfl ?_
      refine ev_g (pt_111_37 w) ?_
      exact j1 _ (if_pos c2).symm

theorem wk_111_51 {w : qS} {M : qM} {x3 : Int32} {o1 o2 o4 o5 : Option Value} {post : qR}
    (h1 : (c1 : x3 = 0) → post none M)
    (h2 : (c1 : ¬ x3 = 0) → gE w 111 60 [some (.ref 148), o1, o2, some (.int 0), some (.int 0), o5] [] M post) :
    gE w 111 51 [some (.ref 148), o1, o2, some (.int x3), o4, o5] [] M post := by
  refine ev_il (pc' := 52) (pt_111_51 w) rfl rfl ?_
  refine ev_zeq (pc' := 55) (pt_111_52 w) rfl (fun c1 => ?_) (fun c1 => ?_)
  · exact ev_rv (pt_111_133 w) (h1 c1)
  · refine ev_k (pc' := 56) (pt_111_55 w) rfl ?_
    refine ev_is (pc' := 57) (loc1 := [some (.ref 148), o1, o2, some (.int 0), o4, o5]) (pt_111_56 w) rfl rfl ?_
    refine ev_k (pc' := 58) (pt_111_57 w) rfl ?_
    refine ev_is (pc' := 60) (loc1 := [some (.ref 148), o1, o2, some (.int 0), some (.int 0), o5]) (pt_111_58 w) rfl rfl ?_
    exact (h2 c1)

theorem wk_111_60 {w : qS} {M : qM} {x3 x4 : Int32} {o1 o2 o5 : Option Value} {r1 : Int32} {post : qR}
    (h1 : (c1 : ¬ x4 < (iN 240)) → gE w 111 51 [some (.ref 148), o1, o2, some (.int x3), some (.int x4), o5] [] M post)
    (b2 : (c1 : x4 < (iN 240)) → vp_in x4 240)
    (h3 : (c1 : x4 < (iN 240)) → (c2 : ¬ (if (M 156 x4.toNatClampNeg) = 0 then (iN 1000000) else (if 0 < (M 157 x4.toNatClampNeg) then r1 else (iN 1000000) : Int32) : Int32) < (M 157 x4.toNatClampNeg)) → gE w 111 60 [some (.ref 148), o1, o2, some (.int x3), some (.int (x4 + 1)), some (.int (if (M 156 x4.toNatClampNeg) = 0 then (iN 1000000) else (if 0 < (M 157 x4.toNatClampNeg) then r1 else (iN 1000000) : Int32) : Int32))] [] M post)
    (h4 : (c1 : x4 < (iN 240)) → (c2 : (if (M 156 x4.toNatClampNeg) = 0 then (iN 1000000) else (if 0 < (M 157 x4.toNatClampNeg) then r1 else (iN 1000000) : Int32) : Int32) < (M 157 x4.toNatClampNeg)) → gE w 111 60 [some (.ref 148), o1, o2, some (.int 1), some (.int (x4 + 1)), some (.int (if (M 156 x4.toNatClampNeg) = 0 then (iN 1000000) else (if 0 < (M 157 x4.toNatClampNeg) then r1 else (iN 1000000) : Int32) : Int32))] [] (ms M 157 x4.toNatClampNeg (if (M 156 x4.toNatClampNeg) = 0 then (iN 1000000) else (if 0 < (M 157 x4.toNatClampNeg) then r1 else (iN 1000000) : Int32) : Int32)) post)
    (k5 : (c1 : x4 < (iN 240)) → (c3 : ¬ (M 156 x4.toNatClampNeg) = 0) → (c4 : 0 < (M 157 x4.toNatClampNeg)) → gE w 110 0 [some (.ref 148), some (.int x4), none, none, none, none] [] M (qv1 M r1)) :
    gE w 111 60 [some (.ref 148), o1, o2, some (.int x3), some (.int x4), o5] [] M post := by
  refine ev_il (pc' := 62) (pt_111_60 w) rfl rfl ?_
  refine ev_k (pc' := 65) (pt_111_62 w) rfl ?_
  refine ev_cge (pc' := 68) (pt_111_65 w) rfl (fun c1 => ?_) (fun c1 => ?_)
  · refine ev_g (pt_111_130 w) ?_
    exact (h1 c1)
  · refine ev_al (pc' := 69) (pt_111_68 w) rfl rfl ?_
    refine ev_getr (pc' := 72) (pt_111_69 w) rfl rfl rfl ?_
    refine ev_il (pc' := 74) (pt_111_72 w) rfl rfl ?_
    refine ev_za (pc' := 75) (pt_111_74 w) rfl rfl (b2 c1) ?_
    have j1 : ∀ v1 : Int32, v1 = (if (M 156 x4.toNatClampNeg) = 0 then (iN 1000000) else (if 0 < (M 157 x4.toNatClampNeg) then r1 else (iN 1000000) : Int32) : Int32) → gE w 111 99 [some (.ref 148), o1, o2, some (.int x3), some (.int x4), o5] [.int v1] M post := by
      intro v1 e2
      subst v1
      refine ev_is (pc' := 101) (loc1 := [some (.ref 148), o1, o2, some (.int x3), some (.int x4), some (.int (if (M 156 x4.toNatClampNeg) = 0 then (iN 1000000) else (if 0 < (M 157 x4.toNatClampNeg) then r1 else (iN 1000000) : Int32) : Int32))]) (pt_111_99 w) rfl rfl ?_
      refine ev_il (pc' := 103) (pt_111_101 w) rfl rfl ?_
      refine ev_al (pc' := 104) (pt_111_103 w) rfl rfl ?_
      refine ev_getr (pc' := 107) (pt_111_104 w) rfl rfl rfl ?_
      refine ev_il (pc' := 109) (pt_111_107 w) rfl rfl ?_
      refine ev_ia (pc' := 110) (pt_111_109 w) rfl rfl (b2 c1) ?_
      refine ev_cge (pc' := 113) (pt_111_110 w) rfl (fun c2 => ?_) (fun c2 => ?_)
      · refine ev_inc (pc' := 127) (loc1 := [some (.ref 148), o1, o2, some (.int x3), some (.int (x4 + 1)), some (.int (if (M 156 x4.toNatClampNeg) = 0 then (iN 1000000) else (if 0 < (M 157 x4.toNatClampNeg) then r1 else (iN 1000000) : Int32) : Int32))]) (pt_111_124 w) rfl rfl rfl ?_
        refine ev_g (pt_111_127 w) ?_
        exact (h3 c1 c2)
      · refine ev_al (pc' := 114) (pt_111_113 w) rfl rfl ?_
        refine ev_getr (pc' := 117) (pt_111_114 w) rfl rfl rfl ?_
        refine ev_il (pc' := 119) (pt_111_117 w) rfl rfl ?_
        refine ev_il (pc' := 121) (pt_111_119 w) rfl rfl ?_
        refine ev_ias (pc' := 122) (pt_111_121 w) rfl rfl (b2 c1) ?_
        refine ev_k (pc' := 123) (pt_111_122 w) rfl ?_
        refine ev_is (pc' := 124) (loc1 := [some (.ref 148), o1, o2, some (.int 1), some (.int x4), some (.int (if (M 156 x4.toNatClampNeg) = 0 then (iN 1000000) else (if 0 < (M 157 x4.toNatClampNeg) then r1 else (iN 1000000) : Int32) : Int32))]) (pt_111_123 w) rfl rfl ?_
        refine ev_inc (pc' := 127) (loc1 := [some (.ref 148), o1, o2, some (.int 1), some (.int (x4 + 1)), some (.int (if (M 156 x4.toNatClampNeg) = 0 then (iN 1000000) else (if 0 < (M 157 x4.toNatClampNeg) then r1 else (iN 1000000) : Int32) : Int32))]) (pt_111_124 w) rfl rfl rfl ?_
        refine ev_g (pt_111_127 w) ?_
        exact (h4 c1 c2)
    refine ev_zeq (pc' := 78) (pt_111_75 w) rfl (fun c3 => ?_) (fun c3 => ?_)
    · refine ev_k (pc' := 99) (pt_111_97 w) rfl ?_
      exact j1 _ (if_pos c3).symm
    · refine ev_al (pc' := 79) (pt_111_78 w) rfl rfl ?_
      refine ev_getr (pc' := 82) (pt_111_79 w) rfl rfl rfl ?_
      refine ev_il (pc' := 84) (pt_111_82 w) rfl rfl ?_
      refine ev_ia (pc' := 85) (pt_111_84 w) rfl rfl (b2 c1) ?_
      refine ev_zle (pc' := 88) (pt_111_85 w) rfl (fun c4 => ?_) (fun c4 => ?_)
      · refine ev_k (pc' := 99) (pt_111_97 w) rfl ?_
        exact j1 _ ((if_neg c3).trans (if_neg c4)).symm
      · refine ev_al (pc' := 89) (pt_111_88 w) rfl rfl ?_
        refine ev_il (pc' := 91) (pt_111_89 w) rfl rfl ?_
        refine ev_cal1 (pc' := 94) (pt_111_91 w) (vs := [.ref 148, .int x4]) (rest := []) (en := [some (.ref 148), some (.int x4), none, none, none, none]) rfl rfl rfl rfl rfl rfl rfl (k5 c1 c3 c4) ?_
        refine ev_g (pt_111_94 w) ?_
        exact j1 _ ((if_neg c3).trans (if_pos c4)).symm

-- BoardDeskModel.walk(III)V
theorem wk_112_0 {w : qS} {M : qM} {x1 x2 x3 : Int32} {post : qR}
    (h1 : gE w 112 6 [some (.ref 148), some (.int x1), some (.int x2), some (.int x3), some (.int x1), some (.int x2), none, none, none, none, none] [] M post) :
    gE w 112 0 [some (.ref 148), some (.int x1), some (.int x2), some (.int x3), none, none, none, none, none, none, none] [] M post := by
  refine ev_il (pc' := 1) (pt_112_0 w) rfl rfl ?_
  refine ev_is (pc' := 3) (loc1 := [some (.ref 148), some (.int x1), some (.int x2), some (.int x3), some (.int x1), none, none, none, none, none, none]) (pt_112_1 w) rfl rfl ?_
  refine ev_il (pc' := 4) (pt_112_3 w) rfl rfl ?_
  refine ev_is (pc' := 6) (loc1 := [some (.ref 148), some (.int x1), some (.int x2), some (.int x3), some (.int x1), some (.int x2), none, none, none, none, none]) (pt_112_4 w) rfl rfl ?_
  exact h1

theorem wk_112_6 {w : qS} {M : qM} {x3 x4 x5 : Int32} {o1 o2 o6 o7 o8 o9 o10 : Option Value} {post : qR}
    (b1 : (c1 : ¬ 0 < x5) → vp_in x4 240)
    (b2 : (c1 : ¬ 0 < x5) → vp_in ((iN 352) + x4) 592)
    (h3 : (c1 : ¬ 0 < x5) → post none (ms M 149 ((iN 352) + x4).toNatClampNeg (if (M 153 x4.toNatClampNeg) < 0 then (x3 + 1) else 0 : Int32)))
    (b4 : (c1 : 0 < x5) → vp_in x4 240)
    (b5 : (c1 : 0 < x5) → vp_in ((iN 352) + x4) 592)
    (h6 : (c1 : 0 < x5) → gE w 112 50 [some (.ref 148), o1, o2, some (.int x3), some (.int x4), some (.int x5), some (.int (iN 240)), some (.int 0), some (.int 0), o9, o10] [] (ms M 149 ((iN 352) + x4).toNatClampNeg (if (M 153 x4.toNatClampNeg) < 0 then (x3 + 1) else 0 : Int32)) post) :
    gE w 112 6 [some (.ref 148), o1, o2, some (.int x3), some (.int x4), some (.int x5), o6, o7, o8, o9, o10] [] M post := by
  refine ev_il (pc' := 8) (pt_112_6 w) rfl rfl ?_
  refine ev_zle (pc' := 11) (pt_112_8 w) rfl (fun c1 => ?_) (fun c1 => ?_)
  · refine ev_al (pc' := 155) (pt_112_154 w) rfl rfl ?_
    refine ev_getr (pc' := 158) (pt_112_155 w) rfl rfl rfl ?_
    refine ev_k (pc' := 161) (pt_112_158 w) rfl ?_
    refine ev_il (pc' := 163) (pt_112_161 w) rfl rfl ?_
    refine ev_b (pc' := 164) (pt_112_163 w) rfl ?_
    refine ev_al (pc' := 165) (pt_112_164 w) rfl rfl ?_
    refine ev_getr (pc' := 168) (pt_112_165 w) rfl rfl rfl ?_
    refine ev_il (pc' := 170) (pt_112_168 w) rfl rfl ?_
    refine ev_ia (pc' := 171) (pt_112_170 w) rfl rfl (b1 c1) ?_
    have j1 : ∀ v1 : Int32, v1 = (if (M 153 x4.toNatClampNeg) < 0 then (x3 + 1) else 0 : Int32) → gE w 112 181 [some (.ref 148), o1, o2, some (.int x3), some (.int x4), some (.int x5), o6, o7, o8, o9, o10] [.int v1, .int ((iN 352) + x4), .ref 149] M post := by
      intro v1 e2
      subst v1
      refine ev_ias (pc' := 182) (pt_112_181 w) rfl rfl (b2 c1) ?_
      exact ev_rv (pt_112_182 w) (h3 c1)
    refine ev_zge (pc' := 174) (pt_112_171 w) rfl (fun c2 => ?_) (fun c2 => ?_)
    · refine ev_k (pc' := 181) (pt_112_180 w) rfl ?_
      exact j1 _ (if_neg c2).symm
    · refine ev_il (pc' := 175) (pt_112_174 w) rfl rfl ?_
      refine ev_k (pc' := 176) (pt_112_175 w) rfl ?_
      refine ev_b (pc' := 177) (pt_112_176 w) rfl ?_
      refine ev_g (pt_112_177 w) ?_
      exact j1 _ (if_pos c2).symm
  · refine ev_al (pc' := 12) (pt_112_11 w) rfl rfl ?_
    refine ev_getr (pc' := 15) (pt_112_12 w) rfl rfl rfl ?_
    refine ev_k (pc' := 18) (pt_112_15 w) rfl ?_
    refine ev_il (pc' := 20) (pt_112_18 w) rfl rfl ?_
    refine ev_b (pc' := 21) (pt_112_20 w) rfl ?_
    refine ev_al (pc' := 22) (pt_112_21 w) rfl rfl ?_
    refine ev_getr (pc' := 25) (pt_112_22 w) rfl rfl rfl ?_
    refine ev_il (pc' := 27) (pt_112_25 w) rfl rfl ?_
    refine ev_ia (pc' := 28) (pt_112_27 w) rfl rfl (b4 c1) ?_
    have j2 : ∀ v3 : Int32, v3 = (if (M 153 x4.toNatClampNeg) < 0 then (x3 + 1) else 0 : Int32) → gE w 112 38 [some (.ref 148), o1, o2, some (.int x3), some (.int x4), some (.int x5), o6, o7, o8, o9, o10] [.int v3, .int ((iN 352) + x4), .ref 149] M post := by
      intro v3 e4
      subst v3
      refine ev_ias (pc' := 39) (pt_112_38 w) rfl rfl (b5 c1) ?_
      refine ev_k (pc' := 42) (pt_112_39 w) rfl ?_
      refine ev_is (pc' := 44) (loc1 := [some (.ref 148), o1, o2, some (.int x3), some (.int x4), some (.int x5), some (.int (iN 240)), o7, o8, o9, o10]) (pt_112_42 w) rfl rfl ?_
      refine ev_k (pc' := 45) (pt_112_44 w) rfl ?_
      refine ev_is (pc' := 47) (loc1 := [some (.ref 148), o1, o2, some (.int x3), some (.int x4), some (.int x5), some (.int (iN 240)), some (.int 0), o8, o9, o10]) (pt_112_45 w) rfl rfl ?_
      refine ev_k (pc' := 48) (pt_112_47 w) rfl ?_
      refine ev_is (pc' := 50) (loc1 := [some (.ref 148), o1, o2, some (.int x3), some (.int x4), some (.int x5), some (.int (iN 240)), some (.int 0), some (.int 0), o9, o10]) (pt_112_48 w) rfl rfl ?_
      exact (h6 c1)
    refine ev_zge (pc' := 31) (pt_112_28 w) rfl (fun c3 => ?_) (fun c3 => ?_)
    · refine ev_k (pc' := 38) (pt_112_37 w) rfl ?_
      exact j2 _ (if_neg c3).symm
    · refine ev_il (pc' := 32) (pt_112_31 w) rfl rfl ?_
      refine ev_k (pc' := 33) (pt_112_32 w) rfl ?_
      refine ev_b (pc' := 34) (pt_112_33 w) rfl ?_
      refine ev_g (pt_112_34 w) ?_
      exact j2 _ (if_pos c3).symm

theorem wk_112_50 {w : qS} {M : qM} {x3 x4 x5 x6 x7 x8 : Int32} {o1 o2 o9 o10 : Option Value} {r1 : Int32} {r2 : Int32} {post : qR}
    (h1 : (c1 : ¬ x8 < (iN 9)) → gE w 112 6 [some (.ref 148), o1, o2, some (.int x3), some (.int x6), some (.int (x5 - x7)), some (.int x6), some (.int x7), some (.int x8), o9, o10] [] M post)
    (k2 : (c1 : x8 < (iN 9)) → gE w 100 0 [some (.int x4), some (.int x8), none, none] [] M (qv1 M r1))
    (h3 : (c1 : x8 < (iN 9)) → gE w 112 50 [some (.ref 148), o1, o2, some (.int x3), some (.int x4), some (.int x5), some (.int (if (if r1 < 0 then 0 else (if ((M 157 r1.toNatClampNeg) + r2) = x5 then (if r1 < x6 then 1 else 0 : Int32) else 0 : Int32) : Int32) = 0 then x6 else r1 : Int32)), some (.int (if (if r1 < 0 then 0 else (if ((M 157 r1.toNatClampNeg) + r2) = x5 then (if r1 < x6 then 1 else 0 : Int32) else 0 : Int32) : Int32) = 0 then x7 else r2 : Int32)), some (.int (x8 + 1)), some (.int r1), some (.int (if r1 < 0 then 0 else (if ((M 157 r1.toNatClampNeg) + r2) = x5 then (if r1 < x6 then 1 else 0 : Int32) else 0 : Int32) : Int32))] [] M post)
    (k4 : (c1 : x8 < (iN 9)) → (c3 : ¬ (if r1 < 0 then 0 else (if ((M 157 r1.toNatClampNeg) + r2) = x5 then (if r1 < x6 then 1 else 0 : Int32) else 0 : Int32) : Int32) = 0) → gE w 109 0 [some (.int x8)] [] M (qv1 M r2))
    (b5 : (c1 : x8 < (iN 9)) → (c4 : ¬ r1 < 0) → vp_in r1 240)
    (k6 : (c1 : x8 < (iN 9)) → (c4 : ¬ r1 < 0) → gE w 109 0 [some (.int x8)] [] M (qv1 M r2)) :
    gE w 112 50 [some (.ref 148), o1, o2, some (.int x3), some (.int x4), some (.int x5), some (.int x6), some (.int x7), some (.int x8), o9, o10] [] M post := by
  refine ev_il (pc' := 52) (pt_112_50 w) rfl rfl ?_
  refine ev_k (pc' := 54) (pt_112_52 w) rfl ?_
  refine ev_cge (pc' := 57) (pt_112_54 w) rfl (fun c1 => ?_) (fun c1 => ?_)
  · refine ev_il (pc' := 142) (pt_112_140 w) rfl rfl ?_
    refine ev_il (pc' := 144) (pt_112_142 w) rfl rfl ?_
    refine ev_b (pc' := 145) (pt_112_144 w) rfl ?_
    refine ev_is (pc' := 147) (loc1 := [some (.ref 148), o1, o2, some (.int x3), some (.int x4), some (.int (x5 - x7)), some (.int x6), some (.int x7), some (.int x8), o9, o10]) (pt_112_145 w) rfl rfl ?_
    refine ev_il (pc' := 149) (pt_112_147 w) rfl rfl ?_
    refine ev_is (pc' := 151) (loc1 := [some (.ref 148), o1, o2, some (.int x3), some (.int x6), some (.int (x5 - x7)), some (.int x6), some (.int x7), some (.int x8), o9, o10]) (pt_112_149 w) rfl rfl ?_
    refine ev_g (pt_112_151 w) ?_
    exact (h1 c1)
  · refine ev_il (pc' := 59) (pt_112_57 w) rfl rfl ?_
    refine ev_il (pc' := 61) (pt_112_59 w) rfl rfl ?_
    refine ev_cal1 (pc' := 64) (pt_112_61 w) (vs := [.int x4, .int x8]) (rest := []) (en := [some (.int x4), some (.int x8), none, none]) rfl rfl rfl rfl trivial rfl rfl (k2 c1) ?_
    refine ev_is (pc' := 66) (loc1 := [some (.ref 148), o1, o2, some (.int x3), some (.int x4), some (.int x5), some (.int x6), some (.int x7), some (.int x8), some (.int r1), o10]) (pt_112_64 w) rfl rfl ?_
    refine ev_il (pc' := 68) (pt_112_66 w) rfl rfl ?_
    have j1 : ∀ v1 : Int32, v1 = (if r1 < 0 then 0 else (if ((M 157 r1.toNatClampNeg) + r2) = x5 then (if r1 < x6 then 1 else 0 : Int32) else 0 : Int32) : Int32) → gE w 112 101 [some (.ref 148), o1, o2, some (.int x3), some (.int x4), some (.int x5), some (.int x6), some (.int x7), some (.int x8), some (.int r1), o10] [.int v1] M post := by
      intro v1 e2
      subst v1
      refine ev_is (pc' := 103) (loc1 := [some (.ref 148), o1, o2, some (.int x3), some (.int x4), some (.int x5), some (.int x6), some (.int x7), some (.int x8), some (.int r1), some (.int (if r1 < 0 then 0 else (if ((M 157 r1.toNatClampNeg) + r2) = x5 then (if r1 < x6 then 1 else 0 : Int32) else 0 : Int32) : Int32))]) (pt_112_101 w) rfl rfl ?_
      refine ev_il (pc' := 105) (pt_112_103 w) rfl rfl ?_
      have j2 : ∀ v3 : Int32, v3 = (if (if r1 < 0 then 0 else (if ((M 157 r1.toNatClampNeg) + r2) = x5 then (if r1 < x6 then 1 else 0 : Int32) else 0 : Int32) : Int32) = 0 then x7 else r2 : Int32) → gE w 112 118 [some (.ref 148), o1, o2, some (.int x3), some (.int x4), some (.int x5), some (.int x6), some (.int x7), some (.int x8), some (.int r1), some (.int (if r1 < 0 then 0 else (if ((M 157 r1.toNatClampNeg) + r2) = x5 then (if r1 < x6 then 1 else 0 : Int32) else 0 : Int32) : Int32))] [.int v3] M post := by
        intro v3 e4
        subst v3
        refine ev_is (pc' := 120) (loc1 := [some (.ref 148), o1, o2, some (.int x3), some (.int x4), some (.int x5), some (.int x6), some (.int (if (if r1 < 0 then 0 else (if ((M 157 r1.toNatClampNeg) + r2) = x5 then (if r1 < x6 then 1 else 0 : Int32) else 0 : Int32) : Int32) = 0 then x7 else r2 : Int32)), some (.int x8), some (.int r1), some (.int (if r1 < 0 then 0 else (if ((M 157 r1.toNatClampNeg) + r2) = x5 then (if r1 < x6 then 1 else 0 : Int32) else 0 : Int32) : Int32))]) (pt_112_118 w) rfl rfl ?_
        refine ev_il (pc' := 122) (pt_112_120 w) rfl rfl ?_
        have j3 : ∀ v5 : Int32, v5 = (if (if r1 < 0 then 0 else (if ((M 157 r1.toNatClampNeg) + r2) = x5 then (if r1 < x6 then 1 else 0 : Int32) else 0 : Int32) : Int32) = 0 then x6 else r1 : Int32) → gE w 112 132 [some (.ref 148), o1, o2, some (.int x3), some (.int x4), some (.int x5), some (.int x6), some (.int (if (if r1 < 0 then 0 else (if ((M 157 r1.toNatClampNeg) + r2) = x5 then (if r1 < x6 then 1 else 0 : Int32) else 0 : Int32) : Int32) = 0 then x7 else r2 : Int32)), some (.int x8), some (.int r1), some (.int (if r1 < 0 then 0 else (if ((M 157 r1.toNatClampNeg) + r2) = x5 then (if r1 < x6 then 1 else 0 : Int32) else 0 : Int32) : Int32))] [.int v5] M post := by
          intro v5 e6
          subst v5
          refine ev_is (pc' := 134) (loc1 := [some (.ref 148), o1, o2, some (.int x3), some (.int x4), some (.int x5), some (.int (if (if r1 < 0 then 0 else (if ((M 157 r1.toNatClampNeg) + r2) = x5 then (if r1 < x6 then 1 else 0 : Int32) else 0 : Int32) : Int32) = 0 then x6 else r1 : Int32)), some (.int (if (if r1 < 0 then 0 else (if ((M 157 r1.toNatClampNeg) + r2) = x5 then (if r1 < x6 then 1 else 0 : Int32) else 0 : Int32) : Int32) = 0 then x7 else r2 : Int32)), some (.int x8), some (.int r1), some (.int (if r1 < 0 then 0 else (if ((M 157 r1.toNatClampNeg) + r2) = x5 then (if r1 < x6 then 1 else 0 : Int32) else 0 : Int32) : Int32))]) (pt_112_132 w) rfl rfl ?_
          refine ev_inc (pc' := 137) (loc1 := [some (.ref 148), o1, o2, some (.int x3), some (.int x4), some (.int x5), some (.int (if (if r1 < 0 then 0 else (if ((M 157 r1.toNatClampNeg) + r2) = x5 then (if r1 < x6 then 1 else 0 : Int32) else 0 : Int32) : Int32) = 0 then x6 else r1 : Int32)), some (.int (if (if r1 < 0 then 0 else (if ((M 157 r1.toNatClampNeg) + r2) = x5 then (if r1 < x6 then 1 else 0 : Int32) else 0 : Int32) : Int32) = 0 then x7 else r2 : Int32)), some (.int (x8 + 1)), some (.int r1), some (.int (if r1 < 0 then 0 else (if ((M 157 r1.toNatClampNeg) + r2) = x5 then (if r1 < x6 then 1 else 0 : Int32) else 0 : Int32) : Int32))]) (pt_112_134 w) rfl rfl rfl ?_
          refine ev_g (pt_112_137 w) ?_
          exact (h3 c1)
        refine ev_zeq (pc' := 125) (pt_112_122 w) rfl (fun c2 => ?_) (fun c2 => ?_)
        · refine ev_il (pc' := 132) (pt_112_130 w) rfl rfl ?_
          exact j3 _ (if_pos c2).symm
        · refine ev_il (pc' := 127) (pt_112_125 w) rfl rfl ?_
          refine ev_g (pt_112_127 w) ?_
          exact j3 _ (if_neg c2).symm
      refine ev_zeq (pc' := 108) (pt_112_105 w) rfl (fun c3 => ?_) (fun c3 => ?_)
      · refine ev_il (pc' := 118) (pt_112_116 w) rfl rfl ?_
        exact j2 _ (if_pos c3).symm
      · refine ev_il (pc' := 110) (pt_112_108 w) rfl rfl ?_
        refine ev_cal1 (pc' := 113) (pt_112_110 w) (vs := [.int x8]) (rest := []) (en := [some (.int x8)]) rfl rfl rfl rfl trivial rfl rfl (k4 c1 c3) ?_
        refine ev_g (pt_112_113 w) ?_
        exact j2 _ (if_neg c3).symm
    refine ev_zlt (pc' := 71) (pt_112_68 w) rfl (fun c4 => ?_) (fun c4 => ?_)
    · refine ev_k (pc' := 101) (pt_112_100 w) rfl ?_
      exact j1 _ (if_pos c4).symm
    · refine ev_al (pc' := 72) (pt_112_71 w) rfl rfl ?_
      refine ev_getr (pc' := 75) (pt_112_72 w) rfl rfl rfl ?_
      refine ev_il (pc' := 77) (pt_112_75 w) rfl rfl ?_
      refine ev_ia (pc' := 78) (pt_112_77 w) rfl rfl (b5 c1 c4) ?_
      refine ev_il (pc' := 80) (pt_112_78 w) rfl rfl ?_
      refine ev_cal1 (pc' := 83) (pt_112_80 w) (vs := [.int x8]) (rest := [.int (M 157 r1.toNatClampNeg)]) (en := [some (.int x8)]) rfl rfl rfl rfl trivial rfl rfl (k6 c1 c4) ?_
      refine ev_b (pc' := 84) (pt_112_83 w) rfl ?_
      refine ev_il (pc' := 86) (pt_112_84 w) rfl rfl ?_
      refine ev_cne (pc' := 89) (pt_112_86 w) rfl (fun c5 => ?_) (fun c5 => ?_)
      · refine ev_k (pc' := 101) (pt_112_100 w) rfl ?_
        exact j1 _ ((if_neg c4).trans (if_neg c5)).symm
      · refine ev_il (pc' := 91) (pt_112_89 w) rfl rfl ?_
        refine ev_il (pc' := 93) (pt_112_91 w) rfl rfl ?_
        refine ev_cge (pc' := 96) (pt_112_93 w) rfl (fun c6 => ?_) (fun c6 => ?_)
        · refine ev_k (pc' := 101) (pt_112_100 w) rfl ?_
          exact j1 _ (((if_neg c4).trans (if_pos c5)).trans (if_neg c6)).symm
        · refine ev_k (pc' := 97) (pt_112_96 w) rfl ?_
          refine ev_g (pt_112_97 w) ?_
          exact j1 _ (((if_neg c4).trans (if_pos c5)).trans (if_pos c6)).symm

-- BoardDeskModel.routeNet(I)I
theorem wk_113_0 {w : qS} {M : qM} {x1 : Int32} {post : qR}
    (h1 : gE w 108 0 [some (.ref 148), some (.int x1), none, none, none, none] [] M (fun r M' => gE w 113 5 [some (.ref 148), some (.int x1), none, none, none, none, none] (r.toList ++ []) M' post)) :
    gE w 113 0 [some (.ref 148), some (.int x1), none, none, none, none, none] [] M post := by
  refine ev_al (pc' := 1) (pt_113_0 w) rfl rfl ?_
  refine ev_il (pc' := 2) (pt_113_1 w) rfl rfl ?_
  exact ev_cal (pc' := 5) (pt_113_2 w) (vs := [.ref 148, .int x1]) (rest := []) (en := [some (.ref 148), some (.int x1), none, none, none, none]) rfl rfl rfl rfl rfl rfl rfl h1

theorem wk_113_5 {w : qS} {M : qM} {x1 s0 : Int32} {o2 o3 o4 o5 o6 : Option Value} {r1 : Int32} {r2 : Int32} {post : qR}
    (k1 : (c1 : ¬ s0 < 0) → gE w 107 0 [some (.ref 148), some (.int x1), none, none] [] M (qv1 M r1))
    (k2 : (c1 : ¬ s0 < 0) → gE w 106 0 [some (.ref 148), some (.int r1), none] [] M (qv1 M r2))
    (b3 : (c1 : ¬ s0 < 0) → vp_in r2 240)
    (h4 : (c1 : ¬ s0 < 0) → gE w 111 0 [some (.ref 148), some (.int x1), some (.int (M 155 r2.toNatClampNeg)), none, none, none] [] M (fun r M' => gE w 113 31 [some (.ref 148), some (.int x1), some (.int s0), o3, o4, o5, o6] (r.toList ++ []) M' post))
    (h5 : (c1 : s0 < 0) → post (some (.int 0)) M) :
    gE w 113 5 [some (.ref 148), some (.int x1), o2, o3, o4, o5, o6] [.int s0] M post := by
  refine ev_is (pc' := 6) (loc1 := [some (.ref 148), some (.int x1), some (.int s0), o3, o4, o5, o6]) (pt_113_5 w) rfl rfl ?_
  refine ev_il (pc' := 7) (pt_113_6 w) rfl rfl ?_
  refine ev_zge (pc' := 10) (pt_113_7 w) rfl (fun c1 => ?_) (fun c1 => ?_)
  · refine ev_al (pc' := 13) (pt_113_12 w) rfl rfl ?_
    refine ev_il (pc' := 14) (pt_113_13 w) rfl rfl ?_
    refine ev_al (pc' := 15) (pt_113_14 w) rfl rfl ?_
    refine ev_getr (pc' := 18) (pt_113_15 w) rfl rfl rfl ?_
    refine ev_al (pc' := 19) (pt_113_18 w) rfl rfl ?_
    refine ev_al (pc' := 20) (pt_113_19 w) rfl rfl ?_
    refine ev_il (pc' := 21) (pt_113_20 w) rfl rfl ?_
    refine ev_cal1 (pc' := 24) (pt_113_21 w) (vs := [.ref 148, .int x1]) (rest := [.ref 148, .ref 155, .int x1, .ref 148]) (en := [some (.ref 148), some (.int x1), none, none]) rfl rfl rfl rfl rfl rfl rfl (k1 c1) ?_
    refine ev_cal1 (pc' := 27) (pt_113_24 w) (vs := [.ref 148, .int r1]) (rest := [.ref 155, .int x1, .ref 148]) (en := [some (.ref 148), some (.int r1), none]) rfl rfl rfl rfl rfl rfl rfl (k2 c1) ?_
    refine ev_ia (pc' := 28) (pt_113_27 w) rfl rfl (b3 c1) ?_
    exact ev_cal (pc' := 31) (pt_113_28 w) (vs := [.ref 148, .int x1, .int (M 155 r2.toNatClampNeg)]) (rest := []) (en := [some (.ref 148), some (.int x1), some (.int (M 155 r2.toNatClampNeg)), none, none, none]) rfl rfl rfl rfl rfl rfl rfl (h4 c1)
  · refine ev_k (pc' := 11) (pt_113_10 w) rfl ?_
    exact ev_ri1 (pt_113_11 w) (h5 c1)

theorem wk_113_31 {w : qS} {M : qM} {x2 : Int32} {o1 o3 o4 o5 o6 : Option Value} {post : qR}
    (h1 : gE w 113 40 [some (.ref 148), o1, some (.int x2), some (.int (-1)), some (.int (iN 1000000)), some (.int 0), o6] [] M post) :
    gE w 113 31 [some (.ref 148), o1, some (.int x2), o3, o4, o5, o6] [] M post := by
  refine ev_k (pc' := 32) (pt_113_31 w) rfl ?_
  refine ev_is (pc' := 33) (loc1 := [some (.ref 148), o1, some (.int x2), some (.int (-1)), o4, o5, o6]) (pt_113_32 w) rfl rfl ?_
  refine ev_k (pc' := 35) (pt_113_33 w) rfl ?_
  refine ev_is (pc' := 37) (loc1 := [some (.ref 148), o1, some (.int x2), some (.int (-1)), some (.int (iN 1000000)), o5, o6]) (pt_113_35 w) rfl rfl ?_
  refine ev_k (pc' := 38) (pt_113_37 w) rfl ?_
  refine ev_is (pc' := 40) (loc1 := [some (.ref 148), o1, some (.int x2), some (.int (-1)), some (.int (iN 1000000)), some (.int 0), o6]) (pt_113_38 w) rfl rfl ?_
  exact h1

theorem wk_113_40 {w : qS} {M : qM} {x2 x3 x4 x5 : Int32} {o1 o6 : Option Value} {r1 : Int32} {post : qR}
    (h1 : (c1 : ¬ x5 < (iN 240)) → (c2 : ¬ x3 < 0) → gE w 112 0 [some (.ref 148), some (.int x3), some (.int x4), some (.int x2), none, none, none, none, none, none, none] [] M (fun r M' => gE w 113 123 [some (.ref 148), o1, some (.int x2), some (.int x3), some (.int x4), some (.int x5), o6] (r.toList ++ []) M' post))
    (h2 : (c1 : ¬ x5 < (iN 240)) → (c2 : x3 < 0) → post (some (.int (-2))) M)
    (b3 : (c1 : x5 < (iN 240)) → vp_in x5 240)
    (h4 : (c1 : x5 < (iN 240)) → gE w 113 40 [some (.ref 148), o1, some (.int x2), some (.int (if (if (M 153 x5.toNatClampNeg) = x2 then r1 else (iN 1000000) : Int32) < x4 then x5 else x3 : Int32)), some (.int (if (if (M 153 x5.toNatClampNeg) = x2 then r1 else (iN 1000000) : Int32) < x4 then (if (M 153 x5.toNatClampNeg) = x2 then r1 else (iN 1000000) : Int32) else x4 : Int32)), some (.int (x5 + 1)), some (.int (if (M 153 x5.toNatClampNeg) = x2 then r1 else (iN 1000000) : Int32))] [] M post)
    (k5 : (c1 : x5 < (iN 240)) → (c5 : (M 153 x5.toNatClampNeg) = x2) → gE w 110 0 [some (.ref 148), some (.int x5), none, none, none, none] [] M (qv1 M r1)) :
    gE w 113 40 [some (.ref 148), o1, some (.int x2), some (.int x3), some (.int x4), some (.int x5), o6] [] M post := by
  refine ev_il (pc' := 42) (pt_113_40 w) rfl rfl ?_
  refine ev_k (pc' := 45) (pt_113_42 w) rfl ?_
  refine ev_cge (pc' := 48) (pt_113_45 w) rfl (fun c1 => ?_) (fun c1 => ?_)
  · refine ev_il (pc' := 109) (pt_113_108 w) rfl rfl ?_
    refine ev_zge (pc' := 112) (pt_113_109 w) rfl (fun c2 => ?_) (fun c2 => ?_)
    · refine ev_al (pc' := 116) (pt_113_115 w) rfl rfl ?_
      refine ev_il (pc' := 117) (pt_113_116 w) rfl rfl ?_
      refine ev_il (pc' := 119) (pt_113_117 w) rfl rfl ?_
      refine ev_il (pc' := 120) (pt_113_119 w) rfl rfl ?_
      exact ev_cal (pc' := 123) (pt_113_120 w) (vs := [.ref 148, .int x3, .int x4, .int x2]) (rest := []) (en := [some (.ref 148), some (.int x3), some (.int x4), some (.int x2), none, none, none, none, none, none, none]) rfl rfl rfl rfl rfl rfl rfl (h1 c1 c2)
    · refine ev_k (pc' := 114) (pt_113_112 w) rfl ?_
      exact ev_ri1 (pt_113_114 w) (h2 c1 c2)
  · refine ev_al (pc' := 49) (pt_113_48 w) rfl rfl ?_
    refine ev_getr (pc' := 52) (pt_113_49 w) rfl rfl rfl ?_
    refine ev_il (pc' := 54) (pt_113_52 w) rfl rfl ?_
    refine ev_ia (pc' := 55) (pt_113_54 w) rfl rfl (b3 c1) ?_
    refine ev_il (pc' := 56) (pt_113_55 w) rfl rfl ?_
    have j1 : ∀ v1 : Int32, v1 = (if (M 153 x5.toNatClampNeg) = x2 then r1 else (iN 1000000) : Int32) → gE w 113 70 [some (.ref 148), o1, some (.int x2), some (.int x3), some (.int x4), some (.int x5), o6] [.int v1] M post := by
      intro v1 e2
      subst v1
      refine ev_is (pc' := 72) (loc1 := [some (.ref 148), o1, some (.int x2), some (.int x3), some (.int x4), some (.int x5), some (.int (if (M 153 x5.toNatClampNeg) = x2 then r1 else (iN 1000000) : Int32))]) (pt_113_70 w) rfl rfl ?_
      refine ev_il (pc' := 74) (pt_113_72 w) rfl rfl ?_
      refine ev_il (pc' := 76) (pt_113_74 w) rfl rfl ?_
      have j2 : ∀ v3 : Int32, v3 = (if (if (M 153 x5.toNatClampNeg) = x2 then r1 else (iN 1000000) : Int32) < x4 then x5 else x3 : Int32) → gE w 113 85 [some (.ref 148), o1, some (.int x2), some (.int x3), some (.int x4), some (.int x5), some (.int (if (M 153 x5.toNatClampNeg) = x2 then r1 else (iN 1000000) : Int32))] [.int v3] M post := by
        intro v3 e4
        subst v3
        refine ev_is (pc' := 86) (loc1 := [some (.ref 148), o1, some (.int x2), some (.int (if (if (M 153 x5.toNatClampNeg) = x2 then r1 else (iN 1000000) : Int32) < x4 then x5 else x3 : Int32)), some (.int x4), some (.int x5), some (.int (if (M 153 x5.toNatClampNeg) = x2 then r1 else (iN 1000000) : Int32))]) (pt_113_85 w) rfl rfl ?_
        refine ev_il (pc' := 88) (pt_113_86 w) rfl rfl ?_
        refine ev_il (pc' := 90) (pt_113_88 w) rfl rfl ?_
        have j3 : ∀ v5 : Int32, v5 = (if (if (M 153 x5.toNatClampNeg) = x2 then r1 else (iN 1000000) : Int32) < x4 then (if (M 153 x5.toNatClampNeg) = x2 then r1 else (iN 1000000) : Int32) else x4 : Int32) → gE w 113 100 [some (.ref 148), o1, some (.int x2), some (.int (if (if (M 153 x5.toNatClampNeg) = x2 then r1 else (iN 1000000) : Int32) < x4 then x5 else x3 : Int32)), some (.int x4), some (.int x5), some (.int (if (M 153 x5.toNatClampNeg) = x2 then r1 else (iN 1000000) : Int32))] [.int v5] M post := by
          intro v5 e6
          subst v5
          refine ev_is (pc' := 102) (loc1 := [some (.ref 148), o1, some (.int x2), some (.int (if (if (M 153 x5.toNatClampNeg) = x2 then r1 else (iN 1000000) : Int32) < x4 then x5 else x3 : Int32)), some (.int (if (if (M 153 x5.toNatClampNeg) = x2 then r1 else (iN 1000000) : Int32) < x4 then (if (M 153 x5.toNatClampNeg) = x2 then r1 else (iN 1000000) : Int32) else x4 : Int32)), some (.int x5), some (.int (if (M 153 x5.toNatClampNeg) = x2 then r1 else (iN 1000000) : Int32))]) (pt_113_100 w) rfl rfl ?_
          refine ev_inc (pc' := 105) (loc1 := [some (.ref 148), o1, some (.int x2), some (.int (if (if (M 153 x5.toNatClampNeg) = x2 then r1 else (iN 1000000) : Int32) < x4 then x5 else x3 : Int32)), some (.int (if (if (M 153 x5.toNatClampNeg) = x2 then r1 else (iN 1000000) : Int32) < x4 then (if (M 153 x5.toNatClampNeg) = x2 then r1 else (iN 1000000) : Int32) else x4 : Int32)), some (.int (x5 + 1)), some (.int (if (M 153 x5.toNatClampNeg) = x2 then r1 else (iN 1000000) : Int32))]) (pt_113_102 w) rfl rfl rfl ?_
          refine ev_g (pt_113_105 w) ?_
          exact (h4 c1)
        refine ev_cge (pc' := 93) (pt_113_90 w) rfl (fun c3 => ?_) (fun c3 => ?_)
        · refine ev_il (pc' := 100) (pt_113_98 w) rfl rfl ?_
          exact j3 _ (if_neg c3).symm
        · refine ev_il (pc' := 95) (pt_113_93 w) rfl rfl ?_
          refine ev_g (pt_113_95 w) ?_
          exact j3 _ (if_pos c3).symm
      refine ev_cge (pc' := 79) (pt_113_76 w) rfl (fun c4 => ?_) (fun c4 => ?_)
      · refine ev_il (pc' := 85) (pt_113_84 w) rfl rfl ?_
        exact j2 _ (if_neg c4).symm
      · refine ev_il (pc' := 81) (pt_113_79 w) rfl rfl ?_
        refine ev_g (pt_113_81 w) ?_
        exact j2 _ (if_pos c4).symm
    refine ev_cne (pc' := 59) (pt_113_56 w) rfl (fun c5 => ?_) (fun c5 => ?_)
    · refine ev_k (pc' := 70) (pt_113_68 w) rfl ?_
      exact j1 _ (if_neg c5).symm
    · refine ev_al (pc' := 60) (pt_113_59 w) rfl rfl ?_
      refine ev_il (pc' := 62) (pt_113_60 w) rfl rfl ?_
      refine ev_cal1 (pc' := 65) (pt_113_62 w) (vs := [.ref 148, .int x5]) (rest := []) (en := [some (.ref 148), some (.int x5), none, none, none, none]) rfl rfl rfl rfl rfl rfl rfl (k5 c1 c5) ?_
      refine ev_g (pt_113_65 w) ?_
      exact j1 _ (if_pos c5).symm

theorem wk_113_123 {w : qS} {M : qM} {x4 : Int32} {o1 o2 o3 o5 o6 : Option Value} {post : qR}
    (h1 : gE w 80 0 [some (.ref 148), none, none, none, none, none] [] M (fun r M' => gE w 113 127 [some (.ref 148), o1, o2, o3, some (.int x4), o5, o6] (r.toList ++ []) M' post)) :
    gE w 113 123 [some (.ref 148), o1, o2, o3, some (.int x4), o5, o6] [] M post := by
  refine ev_al (pc' := 124) (pt_113_123 w) rfl rfl ?_
  exact ev_cal (pc' := 127) (pt_113_124 w) (vs := [.ref 148]) (rest := []) (en := [some (.ref 148), none, none, none, none, none]) rfl rfl rfl rfl rfl rfl rfl h1

theorem wk_113_127 {w : qS} {M : qM} {x4 : Int32} {o0 o1 o2 o3 o5 o6 : Option Value} {post : qR}
    (h1 : post (some (.int x4)) M) :
    gE w 113 127 [o0, o1, o2, o3, some (.int x4), o5, o6] [] M post := by
  refine ev_il (pc' := 129) (pt_113_127 w) rfl rfl ?_
  exact ev_ri1 (pt_113_129 w) h1

-- BoardDeskModel.route(I)I
theorem wk_114_0 {w : qS} {M : qM} {x1 : Int32} {r1 : Int32} {post : qR}
    (k1 : gE w 84 0 [some (.ref 148), some (.int x1)] [] M (qv1 M r1))
    (h2 : (c1 : ¬ r1 = 0) → gE w 81 0 [some (.ref 148), none] [] M (fun r M' => gE w 114 14 [some (.ref 148), some (.int x1), none] (r.toList ++ []) M' post))
    (h3 : (c1 : r1 = 0) → post (some (.int (-1))) M) :
    gE w 114 0 [some (.ref 148), some (.int x1), none] [] M post := by
  refine ev_al (pc' := 1) (pt_114_0 w) rfl rfl ?_
  refine ev_il (pc' := 2) (pt_114_1 w) rfl rfl ?_
  refine ev_cal1 (pc' := 5) (pt_114_2 w) (vs := [.ref 148, .int x1]) (rest := []) (en := [some (.ref 148), some (.int x1)]) rfl rfl rfl rfl rfl rfl rfl k1 ?_
  refine ev_zne (pc' := 8) (pt_114_5 w) rfl (fun c1 => ?_) (fun c1 => ?_)
  · refine ev_al (pc' := 11) (pt_114_10 w) rfl rfl ?_
    exact ev_cal (pc' := 14) (pt_114_11 w) (vs := [.ref 148]) (rest := []) (en := [some (.ref 148), none]) rfl rfl rfl rfl rfl rfl rfl (h2 c1)
  · refine ev_k (pc' := 9) (pt_114_8 w) rfl ?_
    exact ev_ri1 (pt_114_9 w) (h3 c1)

theorem wk_114_14 {w : qS} {M : qM} {x1 : Int32} {o2 : Option Value} {post : qR}
    (b1 : vp_in x1 16)
    (h2 : gE w 113 0 [some (.ref 148), some (.int (M 152 x1.toNatClampNeg)), none, none, none, none, none] [] M (fun r M' => gE w 114 24 [some (.ref 148), some (.int x1), o2] (r.toList ++ []) M' post)) :
    gE w 114 14 [some (.ref 148), some (.int x1), o2] [] M post := by
  refine ev_al (pc' := 15) (pt_114_14 w) rfl rfl ?_
  refine ev_al (pc' := 16) (pt_114_15 w) rfl rfl ?_
  refine ev_getr (pc' := 19) (pt_114_16 w) rfl rfl rfl ?_
  refine ev_il (pc' := 20) (pt_114_19 w) rfl rfl ?_
  refine ev_ia (pc' := 21) (pt_114_20 w) rfl rfl b1 ?_
  exact ev_cal (pc' := 24) (pt_114_21 w) (vs := [.ref 148, .int (M 152 x1.toNatClampNeg)]) (rest := []) (en := [some (.ref 148), some (.int (M 152 x1.toNatClampNeg)), none, none, none, none, none]) rfl rfl rfl rfl rfl rfl rfl h2

theorem wk_114_24 {w : qS} {M : qM} {s0 : Int32} {o1 o2 : Option Value} {post : qR}
    (h1 : gE w 82 0 [some (.ref 148), none, none] [] M (fun r M' => gE w 114 29 [some (.ref 148), o1, some (.int s0)] (r.toList ++ []) M' post)) :
    gE w 114 24 [some (.ref 148), o1, o2] [.int s0] M post := by
  refine ev_is (pc' := 25) (loc1 := [some (.ref 148), o1, some (.int s0)]) (pt_114_24 w) rfl rfl ?_
  refine ev_al (pc' := 26) (pt_114_25 w) rfl rfl ?_
  exact ev_cal (pc' := 29) (pt_114_26 w) (vs := [.ref 148]) (rest := []) (en := [some (.ref 148), none, none]) rfl rfl rfl rfl rfl rfl rfl h1

theorem wk_114_29 {w : qS} {M : qM} {x2 : Int32} {o0 o1 : Option Value} {post : qR}
    (h1 : post (some (.int x2)) M) :
    gE w 114 29 [o0, o1, some (.int x2)] [] M post := by
  refine ev_il (pc' := 30) (pt_114_29 w) rfl rfl ?_
  exact ev_ri1 (pt_114_30 w) h1

-- BoardDeskModel.span(I)I
theorem wk_115_0 {w : qS} {M : qM} {x1 : Int32} {post : qR}
    (h1 : gE w 115 18 [some (.ref 148), some (.int x1), some (.int 0), some (.int (iN 20)), some (.int (-1)), some (.int (iN 20)), some (.int (-1)), some (.int 0), none, none, none] [] M post) :
    gE w 115 0 [some (.ref 148), some (.int x1), none, none, none, none, none, none, none, none, none] [] M post := by
  refine ev_k (pc' := 1) (pt_115_0 w) rfl ?_
  refine ev_is (pc' := 2) (loc1 := [some (.ref 148), some (.int x1), some (.int 0), none, none, none, none, none, none, none, none]) (pt_115_1 w) rfl rfl ?_
  refine ev_k (pc' := 4) (pt_115_2 w) rfl ?_
  refine ev_is (pc' := 5) (loc1 := [some (.ref 148), some (.int x1), some (.int 0), some (.int (iN 20)), none, none, none, none, none, none, none]) (pt_115_4 w) rfl rfl ?_
  refine ev_k (pc' := 6) (pt_115_5 w) rfl ?_
  refine ev_is (pc' := 8) (loc1 := [some (.ref 148), some (.int x1), some (.int 0), some (.int (iN 20)), some (.int (-1)), none, none, none, none, none, none]) (pt_115_6 w) rfl rfl ?_
  refine ev_k (pc' := 10) (pt_115_8 w) rfl ?_
  refine ev_is (pc' := 12) (loc1 := [some (.ref 148), some (.int x1), some (.int 0), some (.int (iN 20)), some (.int (-1)), some (.int (iN 20)), none, none, none, none, none]) (pt_115_10 w) rfl rfl ?_
  refine ev_k (pc' := 13) (pt_115_12 w) rfl ?_
  refine ev_is (pc' := 15) (loc1 := [some (.ref 148), some (.int x1), some (.int 0), some (.int (iN 20)), some (.int (-1)), some (.int (iN 20)), some (.int (-1)), none, none, none, none]) (pt_115_13 w) rfl rfl ?_
  refine ev_k (pc' := 16) (pt_115_15 w) rfl ?_
  refine ev_is (pc' := 18) (loc1 := [some (.ref 148), some (.int x1), some (.int 0), some (.int (iN 20)), some (.int (-1)), some (.int (iN 20)), some (.int (-1)), some (.int 0), none, none, none]) (pt_115_16 w) rfl rfl ?_
  exact h1

theorem wk_115_18 {w : qS} {M : qM} {x1 x2 x3 x4 x5 x6 x7 : Int32} {o8 o9 o10 : Option Value} {post : qR}
    (h1 : (c1 : ¬ x7 < (M 149 0)) → post (some (.int (if x2 < (iN 2) then (-1) else (((x4 - x3) + x6) - x5) : Int32))) M)
    (b2 : (c1 : x7 < (M 149 0)) → vp_in ((iN 32) + x7) 592)
    (b3 : (c1 : x7 < (M 149 0)) → vp_in x7 16)
    (h4 : (c1 : x7 < (M 149 0)) → ∀ o13 : Option Value, ∀ o14 : Option Value, gE w 115 18 [some (.ref 148), some (.int x1), some (.int (if (M 152 x7.toNatClampNeg) = x1 then (if 0 < (M 149 ((iN 32) + x7).toNatClampNeg) then (x2 + 1) else x2 : Int32) else x2 : Int32)), some (.int (if (M 152 x7.toNatClampNeg) = x1 then (if 0 < (M 149 ((iN 32) + x7).toNatClampNeg) then (if ((M 149 ((iN 32) + x7).toNatClampNeg) - (M 149 ((iN 32) + x7).toNatClampNeg) / (iN 12) * (iN 12)) < x3 then ((M 149 ((iN 32) + x7).toNatClampNeg) - (M 149 ((iN 32) + x7).toNatClampNeg) / (iN 12) * (iN 12)) else x3 : Int32) else x3 : Int32) else x3 : Int32)), some (.int (if (M 152 x7.toNatClampNeg) = x1 then (if 0 < (M 149 ((iN 32) + x7).toNatClampNeg) then (if x4 < ((M 149 ((iN 32) + x7).toNatClampNeg) - (M 149 ((iN 32) + x7).toNatClampNeg) / (iN 12) * (iN 12)) then ((M 149 ((iN 32) + x7).toNatClampNeg) - (M 149 ((iN 32) + x7).toNatClampNeg) / (iN 12) * (iN 12)) else x4 : Int32) else x4 : Int32) else x4 : Int32)), some (.int (if (M 152 x7.toNatClampNeg) = x1 then (if 0 < (M 149 ((iN 32) + x7).toNatClampNeg) then (if (((M 149 ((iN 32) + x7).toNatClampNeg) - (M 149 ((iN 32) + x7).toNatClampNeg) / (iN 120) * (iN 120)) / (iN 12)) < x5 then (((M 149 ((iN 32) + x7).toNatClampNeg) - (M 149 ((iN 32) + x7).toNatClampNeg) / (iN 120) * (iN 120)) / (iN 12)) else x5 : Int32) else x5 : Int32) else x5 : Int32)), some (.int (if (M 152 x7.toNatClampNeg) = x1 then (if 0 < (M 149 ((iN 32) + x7).toNatClampNeg) then (if x6 < (((M 149 ((iN 32) + x7).toNatClampNeg) - (M 149 ((iN 32) + x7).toNatClampNeg) / (iN 120) * (iN 120)) / (iN 12)) then (((M 149 ((iN 32) + x7).toNatClampNeg) - (M 149 ((iN 32) + x7).toNatClampNeg) / (iN 120) * (iN 120)) / (iN 12)) else x6 : Int32) else x6 : Int32) else x6 : Int32)), some (.int (x7 + 1)), some (.int (M 149 ((iN 32) + x7).toNatClampNeg)), o13, o14] [] M post) :
    gE w 115 18 [some (.ref 148), some (.int x1), some (.int x2), some (.int x3), some (.int x4), some (.int x5), some (.int x6), some (.int x7), o8, o9, o10] [] M post := by
  refine ev_il (pc' := 20) (pt_115_18 w) rfl rfl ?_
  refine ev_al (pc' := 21) (pt_115_20 w) rfl rfl ?_
  refine ev_getr (pc' := 24) (pt_115_21 w) rfl rfl rfl ?_
  refine ev_k (pc' := 25) (pt_115_24 w) rfl ?_
  refine ev_iac (j := 0) (pc' := 26) (pt_115_25 w) rfl rfl (vp_lit (by decide +kernel)) (by decide +kernel) ?_
  refine ev_cge (pc' := 29) (pt_115_26 w) rfl (fun c1 => ?_) (fun c1 => ?_)
  · refine ev_il (pc' := 145) (pt_115_144 w) rfl rfl ?_
    refine ev_k (pc' := 146) (pt_115_145 w) rfl ?_
    have j1 : ∀ v1 : Int32, v1 = (if x2 < (iN 2) then (-1) else (((x4 - x3) + x6) - x5) : Int32) → gE w 115 163 [some (.ref 148), some (.int x1), some (.int x2), some (.int x3), some (.int x4), some (.int x5), some (.int x6), some (.int x7), o8, o9, o10] [.int v1] M post := by
      intro v1 e2
      subst v1
      exact ev_ri1 (pt_115_163 w) (h1 c1)
    refine ev_cge (pc' := 149) (pt_115_146 w) rfl (fun c2 => ?_) (fun c2 => ?_)
    · refine ev_il (pc' := 155) (pt_115_153 w) rfl rfl ?_
      refine ev_il (pc' := 156) (pt_115_155 w) rfl rfl ?_
      refine ev_b (pc' := 157) (pt_115_156 w) rfl ?_
      refine ev_il (pc' := 159) (pt_115_157 w) rfl rfl ?_
      refine ev_b (pc' := 160) (pt_115_159 w) rfl ?_
      refine ev_il (pc' := 162) (pt_115_160 w) rfl rfl ?_
      refine ev_b (pc' := 163) (pt_115_162 w) rfl ?_
      exact j1 _ (if_neg c2).symm
    · refine ev_k (pc' := 150) (pt_115_149 w) rfl ?_
      refine ev_g (pt_115_150 w) ?_
      exact j1 _ (if_pos c2).symm
  · refine ev_al (pc' := 30) (pt_115_29 w) rfl rfl ?_
    refine ev_getr (pc' := 33) (pt_115_30 w) rfl rfl rfl ?_
    refine ev_k (pc' := 35) (pt_115_33 w) rfl ?_
    refine ev_il (pc' := 37) (pt_115_35 w) rfl rfl ?_
    refine ev_b (pc' := 38) (pt_115_37 w) rfl ?_
    refine ev_ia (pc' := 39) (pt_115_38 w) rfl rfl (b2 c1) ?_
    refine ev_is (pc' := 41) (loc1 := [some (.ref 148), some (.int x1), some (.int x2), some (.int x3), some (.int x4), some (.int x5), some (.int x6), some (.int x7), some (.int (M 149 ((iN 32) + x7).toNatClampNeg)), o9, o10]) (pt_115_39 w) rfl rfl ?_
    refine ev_al (pc' := 42) (pt_115_41 w) rfl rfl ?_
    refine ev_getr (pc' := 45) (pt_115_42 w) rfl rfl rfl ?_
    refine ev_il (pc' := 47) (pt_115_45 w) rfl rfl ?_
    refine ev_ia (pc' := 48) (pt_115_47 w) rfl rfl (b3 c1) ?_
    refine ev_il (pc' := 49) (pt_115_48 w) rfl rfl ?_
    have j2 : ∀ v3 : Int32, v3 = (if (M 152 x7.toNatClampNeg) = x1 then (if 0 < (M 149 ((iN 32) + x7).toNatClampNeg) then (x2 + 1) else x2 : Int32) else x2 : Int32) → ∀ v5 : Int32, v5 = (if (M 152 x7.toNatClampNeg) = x1 then (if 0 < (M 149 ((iN 32) + x7).toNatClampNeg) then (if ((M 149 ((iN 32) + x7).toNatClampNeg) - (M 149 ((iN 32) + x7).toNatClampNeg) / (iN 12) * (iN 12)) < x3 then ((M 149 ((iN 32) + x7).toNatClampNeg) - (M 149 ((iN 32) + x7).toNatClampNeg) / (iN 12) * (iN 12)) else x3 : Int32) else x3 : Int32) else x3 : Int32) → ∀ v7 : Int32, v7 = (if (M 152 x7.toNatClampNeg) = x1 then (if 0 < (M 149 ((iN 32) + x7).toNatClampNeg) then (if x4 < ((M 149 ((iN 32) + x7).toNatClampNeg) - (M 149 ((iN 32) + x7).toNatClampNeg) / (iN 12) * (iN 12)) then ((M 149 ((iN 32) + x7).toNatClampNeg) - (M 149 ((iN 32) + x7).toNatClampNeg) / (iN 12) * (iN 12)) else x4 : Int32) else x4 : Int32) else x4 : Int32) → ∀ v9 : Int32, v9 = (if (M 152 x7.toNatClampNeg) = x1 then (if 0 < (M 149 ((iN 32) + x7).toNatClampNeg) then (if (((M 149 ((iN 32) + x7).toNatClampNeg) - (M 149 ((iN 32) + x7).toNatClampNeg) / (iN 120) * (iN 120)) / (iN 12)) < x5 then (((M 149 ((iN 32) + x7).toNatClampNeg) - (M 149 ((iN 32) + x7).toNatClampNeg) / (iN 120) * (iN 120)) / (iN 12)) else x5 : Int32) else x5 : Int32) else x5 : Int32) → ∀ v11 : Int32, v11 = (if (M 152 x7.toNatClampNeg) = x1 then (if 0 < (M 149 ((iN 32) + x7).toNatClampNeg) then (if x6 < (((M 149 ((iN 32) + x7).toNatClampNeg) - (M 149 ((iN 32) + x7).toNatClampNeg) / (iN 120) * (iN 120)) / (iN 12)) then (((M 149 ((iN 32) + x7).toNatClampNeg) - (M 149 ((iN 32) + x7).toNatClampNeg) / (iN 120) * (iN 120)) / (iN 12)) else x6 : Int32) else x6 : Int32) else x6 : Int32) → ∀ o13 : Option Value, ∀ o14 : Option Value, gE w 115 138 [some (.ref 148), some (.int x1), some (.int v3), some (.int v5), some (.int v7), some (.int v9), some (.int v11), some (.int x7), some (.int (M 149 ((iN 32) + x7).toNatClampNeg)), o13, o14] [] M post := by
      intro v3 e4 v5 e6 v7 e8 v9 e10 v11 e12 o13 o14
      subst v3
      subst v5
      subst v7
      subst v9
      subst v11
      refine ev_inc (pc' := 141) (loc1 := [some (.ref 148), some (.int x1), some (.int (if (M 152 x7.toNatClampNeg) = x1 then (if 0 < (M 149 ((iN 32) + x7).toNatClampNeg) then (x2 + 1) else x2 : Int32) else x2 : Int32)), some (.int (if (M 152 x7.toNatClampNeg) = x1 then (if 0 < (M 149 ((iN 32) + x7).toNatClampNeg) then (if ((M 149 ((iN 32) + x7).toNatClampNeg) - (M 149 ((iN 32) + x7).toNatClampNeg) / (iN 12) * (iN 12)) < x3 then ((M 149 ((iN 32) + x7).toNatClampNeg) - (M 149 ((iN 32) + x7).toNatClampNeg) / (iN 12) * (iN 12)) else x3 : Int32) else x3 : Int32) else x3 : Int32)), some (.int (if (M 152 x7.toNatClampNeg) = x1 then (if 0 < (M 149 ((iN 32) + x7).toNatClampNeg) then (if x4 < ((M 149 ((iN 32) + x7).toNatClampNeg) - (M 149 ((iN 32) + x7).toNatClampNeg) / (iN 12) * (iN 12)) then ((M 149 ((iN 32) + x7).toNatClampNeg) - (M 149 ((iN 32) + x7).toNatClampNeg) / (iN 12) * (iN 12)) else x4 : Int32) else x4 : Int32) else x4 : Int32)), some (.int (if (M 152 x7.toNatClampNeg) = x1 then (if 0 < (M 149 ((iN 32) + x7).toNatClampNeg) then (if (((M 149 ((iN 32) + x7).toNatClampNeg) - (M 149 ((iN 32) + x7).toNatClampNeg) / (iN 120) * (iN 120)) / (iN 12)) < x5 then (((M 149 ((iN 32) + x7).toNatClampNeg) - (M 149 ((iN 32) + x7).toNatClampNeg) / (iN 120) * (iN 120)) / (iN 12)) else x5 : Int32) else x5 : Int32) else x5 : Int32)), some (.int (if (M 152 x7.toNatClampNeg) = x1 then (if 0 < (M 149 ((iN 32) + x7).toNatClampNeg) then (if x6 < (((M 149 ((iN 32) + x7).toNatClampNeg) - (M 149 ((iN 32) + x7).toNatClampNeg) / (iN 120) * (iN 120)) / (iN 12)) then (((M 149 ((iN 32) + x7).toNatClampNeg) - (M 149 ((iN 32) + x7).toNatClampNeg) / (iN 120) * (iN 120)) / (iN 12)) else x6 : Int32) else x6 : Int32) else x6 : Int32)), some (.int (x7 + 1)), some (.int (M 149 ((iN 32) + x7).toNatClampNeg)), o13, o14]) (pt_115_138 w) rfl rfl rfl ?_
      refine ev_g (pt_115_141 w) ?_
      exact (h4 c1 o13 o14)
    refine ev_cne (pc' := 52) (pt_115_49 w) rfl (fun c3 => ?_) (fun c3 => ?_)
    · exact j2 _ (if_neg c3).symm _ (if_neg c3).symm _ (if_neg c3).symm _ (if_neg c3).symm _ (if_neg c3).symm _ _
    · refine ev_il (pc' := 54) (pt_115_52 w) rfl rfl ?_
      refine ev_zle (pc' := 57) (pt_115_54 w) rfl (fun c4 => ?_) (fun c4 => ?_)
      · exact j2 _ ((if_pos c3).trans (if_neg c4)).symm _ ((if_pos c3).trans (if_neg c4)).symm _ ((if_pos c3).trans (if_neg c4)).symm _ ((if_pos c3).trans (if_neg c4)).symm _ ((if_pos c3).trans (if_neg c4)).symm _ _
      · refine ev_il (pc' := 59) (pt_115_57 w) rfl rfl ?_
        refine ev_k (pc' := 61) (pt_115_59 w) rfl ?_
        refine ev_d (pc' := 62) (pt_115_61 w) rfl (by decide +kernel) ?_
        refine ev_is (pc' := 64) (loc1 := [some (.ref 148), some (.int x1), some (.int x2), some (.int x3), some (.int x4), some (.int x5), some (.int x6), some (.int x7), some (.int (M 149 ((iN 32) + x7).toNatClampNeg)), some (.int ((M 149 ((iN 32) + x7).toNatClampNeg) - (M 149 ((iN 32) + x7).toNatClampNeg) / (iN 12) * (iN 12))), o10]) (pt_115_62 w) rfl rfl ?_
        refine ev_il (pc' := 66) (pt_115_64 w) rfl rfl ?_
        refine ev_k (pc' := 68) (pt_115_66 w) rfl ?_
        refine ev_d (pc' := 69) (pt_115_68 w) rfl (by decide +kernel) ?_
        refine ev_k (pc' := 71) (pt_115_69 w) rfl ?_
        refine ev_d (pc' := 72) (pt_115_71 w) rfl (by decide +kernel) ?_
        refine ev_is (pc' := 74) (loc1 := [some (.ref 148), some (.int x1), some (.int x2), some (.int x3), some (.int x4), some (.int x5), some (.int x6), some (.int x7), some (.int (M 149 ((iN 32) + x7).toNatClampNeg)), some (.int ((M 149 ((iN 32) + x7).toNatClampNeg) - (M 149 ((iN 32) + x7).toNatClampNeg) / (iN 12) * (iN 12))), some (.int (((M 149 ((iN 32) + x7).toNatClampNeg) - (M 149 ((iN 32) + x7).toNatClampNeg) / (iN 120) * (iN 120)) / (iN 12)))]) (pt_115_72 w) rfl rfl ?_
        refine ev_inc (pc' := 77) (loc1 := [some (.ref 148), some (.int x1), some (.int (x2 + 1)), some (.int x3), some (.int x4), some (.int x5), some (.int x6), some (.int x7), some (.int (M 149 ((iN 32) + x7).toNatClampNeg)), some (.int ((M 149 ((iN 32) + x7).toNatClampNeg) - (M 149 ((iN 32) + x7).toNatClampNeg) / (iN 12) * (iN 12))), some (.int (((M 149 ((iN 32) + x7).toNatClampNeg) - (M 149 ((iN 32) + x7).toNatClampNeg) / (iN 120) * (iN 120)) / (iN 12)))]) (pt_115_74 w) rfl rfl rfl ?_
        refine ev_il (pc' := 79) (pt_115_77 w) rfl rfl ?_
        refine ev_il (pc' := 80) (pt_115_79 w) rfl rfl ?_
        refine ev_cge (pc' := 83) (pt_115_80 w) rfl (fun c5 => ?_) (fun c5 => ?_)
        · refine ev_il (pc' := 89) (pt_115_88 w) rfl rfl ?_
          refine ev_is (pc' := 90) (loc1 := [some (.ref 148), some (.int x1), some (.int (x2 + 1)), some (.int x3), some (.int x4), some (.int x5), some (.int x6), some (.int x7), some (.int (M 149 ((iN 32) + x7).toNatClampNeg)), some (.int ((M 149 ((iN 32) + x7).toNatClampNeg) - (M 149 ((iN 32) + x7).toNatClampNeg) / (iN 12) * (iN 12))), some (.int (((M 149 ((iN 32) + x7).toNatClampNeg) - (M 149 ((iN 32) + x7).toNatClampNeg) / (iN 120) * (iN 120)) / (iN 12)))]) (pt_115_89 w) rfl rfl ?_
          refine ev_il (pc' := 92) (pt_115_90 w) rfl rfl ?_
          refine ev_il (pc' := 94) (pt_115_92 w) rfl rfl ?_
          refine ev_cle (pc' := 97) (pt_115_94 w) rfl (fun c6 => ?_) (fun c6 => ?_)
          · refine ev_il (pc' := 104) (pt_115_102 w) rfl rfl ?_
            refine ev_is (pc' := 106) (loc1 := [some (.ref 148), some (.int x1), some (.int (x2 + 1)), some (.int x3), some (.int x4), some (.int x5), some (.int x6), some (.int x7), some (.int (M 149 ((iN 32) + x7).toNatClampNeg)), some (.int ((M 149 ((iN 32) + x7).toNatClampNeg) - (M 149 ((iN 32) + x7).toNatClampNeg) / (iN 12) * (iN 12))), some (.int (((M 149 ((iN 32) + x7).toNatClampNeg) - (M 149 ((iN 32) + x7).toNatClampNeg) / (iN 120) * (iN 120)) / (iN 12)))]) (pt_115_104 w) rfl rfl ?_
            refine ev_il (pc' := 108) (pt_115_106 w) rfl rfl ?_
            refine ev_il (pc' := 110) (pt_115_108 w) rfl rfl ?_
            refine ev_cge (pc' := 113) (pt_115_110 w) rfl (fun c7 => ?_) (fun c7 => ?_)
            · refine ev_il (pc' := 120) (pt_115_118 w) rfl rfl ?_
              refine ev_is (pc' := 122) (loc1 := [some (.ref 148), some (.int x1), some (.int (x2 + 1)), some (.int x3), some (.int x4), some (.int x5), some (.int x6), some (.int x7), some (.int (M 149 ((iN 32) + x7).toNatClampNeg)), some (.int ((M 149 ((iN 32) + x7).toNatClampNeg) - (M 149 ((iN 32) + x7).toNatClampNeg) / (iN 12) * (iN 12))), some (.int (((M 149 ((iN 32) + x7).toNatClampNeg) - (M 149 ((iN 32) + x7).toNatClampNeg) / (iN 120) * (iN 120)) / (iN 12)))]) (pt_115_120 w) rfl rfl ?_
              refine ev_il (pc' := 124) (pt_115_122 w) rfl rfl ?_
              refine ev_il (pc' := 126) (pt_115_124 w) rfl rfl ?_
              refine ev_cle (pc' := 129) (pt_115_126 w) rfl (fun c8 => ?_) (fun c8 => ?_)
              · refine ev_il (pc' := 136) (pt_115_134 w) rfl rfl ?_
                refine ev_is (pc' := 138) (loc1 := [some (.ref 148), some (.int x1), some (.int (x2 + 1)), some (.int x3), some (.int x4), some (.int x5), some (.int x6), some (.int x7), some (.int (M 149 ((iN 32) + x7).toNatClampNeg)), some (.int ((M 149 ((iN 32) + x7).toNatClampNeg) - (M 149 ((iN 32) + x7).toNatClampNeg) / (iN 12) * (iN 12))), some (.int (((M 149 ((iN 32) + x7).toNatClampNeg) - (M 149 ((iN 32) + x7).toNatClampNeg) / (iN 120) * (iN 120)) / (iN 12)))]) (pt_115_136 w) rfl rfl ?_
                exact j2 _ ((if_pos c3).trans (if_pos c4)).symm _ (((if_pos c3).trans (if_pos c4)).trans (if_neg c5)).symm _ (((if_pos c3).trans (if_pos c4)).trans (if_neg c6)).symm _ (((if_pos c3).trans (if_pos c4)).trans (if_neg c7)).symm _ (((if_pos c3).trans (if_pos c4)).trans (if_neg c8)).symm _ _
              · refine ev_il (pc' := 131) (pt_115_129 w) rfl rfl ?_
                refine ev_g (pt_115_131 w) ?_
                refine ev_is (pc' := 138) (loc1 := [some (.ref 148), some (.int x1), some (.int (x2 + 1)), some (.int x3), some (.int x4), some (.int x5), some (.int (((M 149 ((iN 32) + x7).toNatClampNeg) - (M 149 ((iN 32) + x7).toNatClampNeg) / (iN 120) * (iN 120)) / (iN 12))), some (.int x7), some (.int (M 149 ((iN 32) + x7).toNatClampNeg)), some (.int ((M 149 ((iN 32) + x7).toNatClampNeg) - (M 149 ((iN 32) + x7).toNatClampNeg) / (iN 12) * (iN 12))), some (.int (((M 149 ((iN 32) + x7).toNatClampNeg) - (M 149 ((iN 32) + x7).toNatClampNeg) / (iN 120) * (iN 120)) / (iN 12)))]) (pt_115_136 w) rfl rfl ?_
                exact j2 _ ((if_pos c3).trans (if_pos c4)).symm _ (((if_pos c3).trans (if_pos c4)).trans (if_neg c5)).symm _ (((if_pos c3).trans (if_pos c4)).trans (if_neg c6)).symm _ (((if_pos c3).trans (if_pos c4)).trans (if_neg c7)).symm _ (((if_pos c3).trans (if_pos c4)).trans (if_pos c8)).symm _ _
            · refine ev_il (pc' := 115) (pt_115_113 w) rfl rfl ?_
              refine ev_g (pt_115_115 w) ?_
              refine ev_is (pc' := 122) (loc1 := [some (.ref 148), some (.int x1), some (.int (x2 + 1)), some (.int x3), some (.int x4), some (.int (((M 149 ((iN 32) + x7).toNatClampNeg) - (M 149 ((iN 32) + x7).toNatClampNeg) / (iN 120) * (iN 120)) / (iN 12))), some (.int x6), some (.int x7), some (.int (M 149 ((iN 32) + x7).toNatClampNeg)), some (.int ((M 149 ((iN 32) + x7).toNatClampNeg) - (M 149 ((iN 32) + x7).toNatClampNeg) / (iN 12) * (iN 12))), some (.int (((M 149 ((iN 32) + x7).toNatClampNeg) - (M 149 ((iN 32) + x7).toNatClampNeg) / (iN 120) * (iN 120)) / (iN 12)))]) (pt_115_120 w) rfl rfl ?_
              refine ev_il (pc' := 124) (pt_115_122 w) rfl rfl ?_
              refine ev_il (pc' := 126) (pt_115_124 w) rfl rfl ?_
              refine ev_cle (pc' := 129) (pt_115_126 w) rfl (fun c9 => ?_) (fun c9 => ?_)
              · refine ev_il (pc' := 136) (pt_115_134 w) rfl rfl ?_
                refine ev_is (pc' := 138) (loc1 := [some (.ref 148), some (.int x1), some (.int (x2 + 1)), some (.int x3), some (.int x4), some (.int (((M 149 ((iN 32) + x7).toNatClampNeg) - (M 149 ((iN 32) + x7).toNatClampNeg) / (iN 120) * (iN 120)) / (iN 12))), some (.int x6), some (.int x7), some (.int (M 149 ((iN 32) + x7).toNatClampNeg)), some (.int ((M 149 ((iN 32) + x7).toNatClampNeg) - (M 149 ((iN 32) + x7).toNatClampNeg) / (iN 12) * (iN 12))), some (.int (((M 149 ((iN 32) + x7).toNatClampNeg) - (M 149 ((iN 32) + x7).toNatClampNeg) / (iN 120) * (iN 120)) / (iN 12)))]) (pt_115_136 w) rfl rfl ?_
                exact j2 _ ((if_pos c3).trans (if_pos c4)).symm _ (((if_pos c3).trans (if_pos c4)).trans (if_neg c5)).symm _ (((if_pos c3).trans (if_pos c4)).trans (if_neg c6)).symm _ (((if_pos c3).trans (if_pos c4)).trans (if_pos c7)).symm _ (((if_pos c3).trans (if_pos c4)).trans (if_neg c9)).symm _ _
              · refine ev_il (pc' := 131) (pt_115_129 w) rfl rfl ?_
                refine ev_g (pt_115_131 w) ?_
                refine ev_is (pc' := 138) (loc1 := [some (.ref 148), some (.int x1), some (.int (x2 + 1)), some (.int x3), some (.int x4), some (.int (((M 149 ((iN 32) + x7).toNatClampNeg) - (M 149 ((iN 32) + x7).toNatClampNeg) / (iN 120) * (iN 120)) / (iN 12))), some (.int (((M 149 ((iN 32) + x7).toNatClampNeg) - (M 149 ((iN 32) + x7).toNatClampNeg) / (iN 120) * (iN 120)) / (iN 12))), some (.int x7), some (.int (M 149 ((iN 32) + x7).toNatClampNeg)), some (.int ((M 149 ((iN 32) + x7).toNatClampNeg) - (M 149 ((iN 32) + x7).toNatClampNeg) / (iN 12) * (iN 12))), some (.int (((M 149 ((iN 32) + x7).toNatClampNeg) - (M 149 ((iN 32) + x7).toNatClampNeg) / (iN 120) * (iN 120)) / (iN 12)))]) (pt_115_136 w) rfl rfl ?_
                exact j2 _ ((if_pos c3).trans (if_pos c4)).symm _ (((if_pos c3).trans (if_pos c4)).trans (if_neg c5)).symm _ (((if_pos c3).trans (if_pos c4)).trans (if_neg c6)).symm _ (((if_pos c3).trans (if_pos c4)).trans (if_pos c7)).symm _ (((if_pos c3).trans (if_pos c4)).trans (if_pos c9)).symm _ _
          · refine ev_il (pc' := 99) (pt_115_97 w) rfl rfl ?_
            refine ev_g (pt_115_99 w) ?_
            refine ev_is (pc' := 106) (loc1 := [some (.ref 148), some (.int x1), some (.int (x2 + 1)), some (.int x3), some (.int ((M 149 ((iN 32) + x7).toNatClampNeg) - (M 149 ((iN 32) + x7).toNatClampNeg) / (iN 12) * (iN 12))), some (.int x5), some (.int x6), some (.int x7), some (.int (M 149 ((iN 32) + x7).toNatClampNeg)), some (.int ((M 149 ((iN 32) + x7).toNatClampNeg) - (M 149 ((iN 32) + x7).toNatClampNeg) / (iN 12) * (iN 12))), some (.int (((M 149 ((iN 32) + x7).toNatClampNeg) - (M 149 ((iN 32) + x7).toNatClampNeg) / (iN 120) * (iN 120)) / (iN 12)))]) (pt_115_104 w) rfl rfl ?_
            refine ev_il (pc' := 108) (pt_115_106 w) rfl rfl ?_
            refine ev_il (pc' := 110) (pt_115_108 w) rfl rfl ?_
            refine ev_cge (pc' := 113) (pt_115_110 w) rfl (fun c10 => ?_) (fun c10 => ?_)
            · refine ev_il (pc' := 120) (pt_115_118 w) rfl rfl ?_
              refine ev_is (pc' := 122) (loc1 := [some (.ref 148), some (.int x1), some (.int (x2 + 1)), some (.int x3), some (.int ((M 149 ((iN 32) + x7).toNatClampNeg) - (M 149 ((iN 32) + x7).toNatClampNeg) / (iN 12) * (iN 12))), some (.int x5), some (.int x6), some (.int x7), some (.int (M 149 ((iN 32) + x7).toNatClampNeg)), some (.int ((M 149 ((iN 32) + x7).toNatClampNeg) - (M 149 ((iN 32) + x7).toNatClampNeg) / (iN 12) * (iN 12))), some (.int (((M 149 ((iN 32) + x7).toNatClampNeg) - (M 149 ((iN 32) + x7).toNatClampNeg) / (iN 120) * (iN 120)) / (iN 12)))]) (pt_115_120 w) rfl rfl ?_
              refine ev_il (pc' := 124) (pt_115_122 w) rfl rfl ?_
              refine ev_il (pc' := 126) (pt_115_124 w) rfl rfl ?_
              refine ev_cle (pc' := 129) (pt_115_126 w) rfl (fun c11 => ?_) (fun c11 => ?_)
              · refine ev_il (pc' := 136) (pt_115_134 w) rfl rfl ?_
                refine ev_is (pc' := 138) (loc1 := [some (.ref 148), some (.int x1), some (.int (x2 + 1)), some (.int x3), some (.int ((M 149 ((iN 32) + x7).toNatClampNeg) - (M 149 ((iN 32) + x7).toNatClampNeg) / (iN 12) * (iN 12))), some (.int x5), some (.int x6), some (.int x7), some (.int (M 149 ((iN 32) + x7).toNatClampNeg)), some (.int ((M 149 ((iN 32) + x7).toNatClampNeg) - (M 149 ((iN 32) + x7).toNatClampNeg) / (iN 12) * (iN 12))), some (.int (((M 149 ((iN 32) + x7).toNatClampNeg) - (M 149 ((iN 32) + x7).toNatClampNeg) / (iN 120) * (iN 120)) / (iN 12)))]) (pt_115_136 w) rfl rfl ?_
                exact j2 _ ((if_pos c3).trans (if_pos c4)).symm _ (((if_pos c3).trans (if_pos c4)).trans (if_neg c5)).symm _ (((if_pos c3).trans (if_pos c4)).trans (if_pos c6)).symm _ (((if_pos c3).trans (if_pos c4)).trans (if_neg c10)).symm _ (((if_pos c3).trans (if_pos c4)).trans (if_neg c11)).symm _ _
              · refine ev_il (pc' := 131) (pt_115_129 w) rfl rfl ?_
                refine ev_g (pt_115_131 w) ?_
                refine ev_is (pc' := 138) (loc1 := [some (.ref 148), some (.int x1), some (.int (x2 + 1)), some (.int x3), some (.int ((M 149 ((iN 32) + x7).toNatClampNeg) - (M 149 ((iN 32) + x7).toNatClampNeg) / (iN 12) * (iN 12))), some (.int x5), some (.int (((M 149 ((iN 32) + x7).toNatClampNeg) - (M 149 ((iN 32) + x7).toNatClampNeg) / (iN 120) * (iN 120)) / (iN 12))), some (.int x7), some (.int (M 149 ((iN 32) + x7).toNatClampNeg)), some (.int ((M 149 ((iN 32) + x7).toNatClampNeg) - (M 149 ((iN 32) + x7).toNatClampNeg) / (iN 12) * (iN 12))), some (.int (((M 149 ((iN 32) + x7).toNatClampNeg) - (M 149 ((iN 32) + x7).toNatClampNeg) / (iN 120) * (iN 120)) / (iN 12)))]) (pt_115_136 w) rfl rfl ?_
                exact j2 _ ((if_pos c3).trans (if_pos c4)).symm _ (((if_pos c3).trans (if_pos c4)).trans (if_neg c5)).symm _ (((if_pos c3).trans (if_pos c4)).trans (if_pos c6)).symm _ (((if_pos c3).trans (if_pos c4)).trans (if_neg c10)).symm _ (((if_pos c3).trans (if_pos c4)).trans (if_pos c11)).symm _ _
            · refine ev_il (pc' := 115) (pt_115_113 w) rfl rfl ?_
              refine ev_g (pt_115_115 w) ?_
              refine ev_is (pc' := 122) (loc1 := [some (.ref 148), some (.int x1), some (.int (x2 + 1)), some (.int x3), some (.int ((M 149 ((iN 32) + x7).toNatClampNeg) - (M 149 ((iN 32) + x7).toNatClampNeg) / (iN 12) * (iN 12))), some (.int (((M 149 ((iN 32) + x7).toNatClampNeg) - (M 149 ((iN 32) + x7).toNatClampNeg) / (iN 120) * (iN 120)) / (iN 12))), some (.int x6), some (.int x7), some (.int (M 149 ((iN 32) + x7).toNatClampNeg)), some (.int ((M 149 ((iN 32) + x7).toNatClampNeg) - (M 149 ((iN 32) + x7).toNatClampNeg) / (iN 12) * (iN 12))), some (.int (((M 149 ((iN 32) + x7).toNatClampNeg) - (M 149 ((iN 32) + x7).toNatClampNeg) / (iN 120) * (iN 120)) / (iN 12)))]) (pt_115_120 w) rfl rfl ?_
              refine ev_il (pc' := 124) (pt_115_122 w) rfl rfl ?_
              refine ev_il (pc' := 126) (pt_115_124 w) rfl rfl ?_
              refine ev_cle (pc' := 129) (pt_115_126 w) rfl (fun c12 => ?_) (fun c12 => ?_)
              · refine ev_il (pc' := 136) (pt_115_134 w) rfl rfl ?_
                refine ev_is (pc' := 138) (loc1 := [some (.ref 148), some (.int x1), some (.int (x2 + 1)), some (.int x3), some (.int ((M 149 ((iN 32) + x7).toNatClampNeg) - (M 149 ((iN 32) + x7).toNatClampNeg) / (iN 12) * (iN 12))), some (.int (((M 149 ((iN 32) + x7).toNatClampNeg) - (M 149 ((iN 32) + x7).toNatClampNeg) / (iN 120) * (iN 120)) / (iN 12))), some (.int x6), some (.int x7), some (.int (M 149 ((iN 32) + x7).toNatClampNeg)), some (.int ((M 149 ((iN 32) + x7).toNatClampNeg) - (M 149 ((iN 32) + x7).toNatClampNeg) / (iN 12) * (iN 12))), some (.int (((M 149 ((iN 32) + x7).toNatClampNeg) - (M 149 ((iN 32) + x7).toNatClampNeg) / (iN 120) * (iN 120)) / (iN 12)))]) (pt_115_136 w) rfl rfl ?_
                exact j2 _ ((if_pos c3).trans (if_pos c4)).symm _ (((if_pos c3).trans (if_pos c4)).trans (if_neg c5)).symm _ (((if_pos c3).trans (if_pos c4)).trans (if_pos c6)).symm _ (((if_pos c3).trans (if_pos c4)).trans (if_pos c10)).symm _ (((if_pos c3).trans (if_pos c4)).trans (if_neg c12)).symm _ _
              · refine ev_il (pc' := 131) (pt_115_129 w) rfl rfl ?_
                refine ev_g (pt_115_131 w) ?_
                refine ev_is (pc' := 138) (loc1 := [some (.ref 148), some (.int x1), some (.int (x2 + 1)), some (.int x3), some (.int ((M 149 ((iN 32) + x7).toNatClampNeg) - (M 149 ((iN 32) + x7).toNatClampNeg) / (iN 12) * (iN 12))), some (.int (((M 149 ((iN 32) + x7).toNatClampNeg) - (M 149 ((iN 32) + x7).toNatClampNeg) / (iN 120) * (iN 120)) / (iN 12))), some (.int (((M 149 ((iN 32) + x7).toNatClampNeg) - (M 149 ((iN 32) + x7).toNatClampNeg) / (iN 120) * (iN 120)) / (iN 12))), some (.int x7), some (.int (M 149 ((iN 32) + x7).toNatClampNeg)), some (.int ((M 149 ((iN 32) + x7).toNatClampNeg) - (M 149 ((iN 32) + x7).toNatClampNeg) / (iN 12) * (iN 12))), some (.int (((M 149 ((iN 32) + x7).toNatClampNeg) - (M 149 ((iN 32) + x7).toNatClampNeg) / (iN 120) * (iN 120)) / (iN 12)))]) (pt_115_136 w) rfl rfl ?_
                exact j2 _ ((if_pos c3).trans (if_pos c4)).symm _ (((if_pos c3).trans (if_pos c4)).trans (if_neg c5)).symm _ (((if_pos c3).trans (if_pos c4)).trans (if_pos c6)).symm _ (((if_pos c3).trans (if_pos c4)).trans (if_pos c10)).symm _ (((if_pos c3).trans (if_pos c4)).trans (if_pos c12)).symm _ _
        · refine ev_il (pc' := 85) (pt_115_83 w) rfl rfl ?_
          refine ev_g (pt_115_85 w) ?_
          refine ev_is (pc' := 90) (loc1 := [some (.ref 148), some (.int x1), some (.int (x2 + 1)), some (.int ((M 149 ((iN 32) + x7).toNatClampNeg) - (M 149 ((iN 32) + x7).toNatClampNeg) / (iN 12) * (iN 12))), some (.int x4), some (.int x5), some (.int x6), some (.int x7), some (.int (M 149 ((iN 32) + x7).toNatClampNeg)), some (.int ((M 149 ((iN 32) + x7).toNatClampNeg) - (M 149 ((iN 32) + x7).toNatClampNeg) / (iN 12) * (iN 12))), some (.int (((M 149 ((iN 32) + x7).toNatClampNeg) - (M 149 ((iN 32) + x7).toNatClampNeg) / (iN 120) * (iN 120)) / (iN 12)))]) (pt_115_89 w) rfl rfl ?_
          refine ev_il (pc' := 92) (pt_115_90 w) rfl rfl ?_
          refine ev_il (pc' := 94) (pt_115_92 w) rfl rfl ?_
          refine ev_cle (pc' := 97) (pt_115_94 w) rfl (fun c13 => ?_) (fun c13 => ?_)
          · refine ev_il (pc' := 104) (pt_115_102 w) rfl rfl ?_
            refine ev_is (pc' := 106) (loc1 := [some (.ref 148), some (.int x1), some (.int (x2 + 1)), some (.int ((M 149 ((iN 32) + x7).toNatClampNeg) - (M 149 ((iN 32) + x7).toNatClampNeg) / (iN 12) * (iN 12))), some (.int x4), some (.int x5), some (.int x6), some (.int x7), some (.int (M 149 ((iN 32) + x7).toNatClampNeg)), some (.int ((M 149 ((iN 32) + x7).toNatClampNeg) - (M 149 ((iN 32) + x7).toNatClampNeg) / (iN 12) * (iN 12))), some (.int (((M 149 ((iN 32) + x7).toNatClampNeg) - (M 149 ((iN 32) + x7).toNatClampNeg) / (iN 120) * (iN 120)) / (iN 12)))]) (pt_115_104 w) rfl rfl ?_
            refine ev_il (pc' := 108) (pt_115_106 w) rfl rfl ?_
            refine ev_il (pc' := 110) (pt_115_108 w) rfl rfl ?_
            refine ev_cge (pc' := 113) (pt_115_110 w) rfl (fun c14 => ?_) (fun c14 => ?_)
            · refine ev_il (pc' := 120) (pt_115_118 w) rfl rfl ?_
              refine ev_is (pc' := 122) (loc1 := [some (.ref 148), some (.int x1), some (.int (x2 + 1)), some (.int ((M 149 ((iN 32) + x7).toNatClampNeg) - (M 149 ((iN 32) + x7).toNatClampNeg) / (iN 12) * (iN 12))), some (.int x4), some (.int x5), some (.int x6), some (.int x7), some (.int (M 149 ((iN 32) + x7).toNatClampNeg)), some (.int ((M 149 ((iN 32) + x7).toNatClampNeg) - (M 149 ((iN 32) + x7).toNatClampNeg) / (iN 12) * (iN 12))), some (.int (((M 149 ((iN 32) + x7).toNatClampNeg) - (M 149 ((iN 32) + x7).toNatClampNeg) / (iN 120) * (iN 120)) / (iN 12)))]) (pt_115_120 w) rfl rfl ?_
              refine ev_il (pc' := 124) (pt_115_122 w) rfl rfl ?_
              refine ev_il (pc' := 126) (pt_115_124 w) rfl rfl ?_
              refine ev_cle (pc' := 129) (pt_115_126 w) rfl (fun c15 => ?_) (fun c15 => ?_)
              · refine ev_il (pc' := 136) (pt_115_134 w) rfl rfl ?_
                refine ev_is (pc' := 138) (loc1 := [some (.ref 148), some (.int x1), some (.int (x2 + 1)), some (.int ((M 149 ((iN 32) + x7).toNatClampNeg) - (M 149 ((iN 32) + x7).toNatClampNeg) / (iN 12) * (iN 12))), some (.int x4), some (.int x5), some (.int x6), some (.int x7), some (.int (M 149 ((iN 32) + x7).toNatClampNeg)), some (.int ((M 149 ((iN 32) + x7).toNatClampNeg) - (M 149 ((iN 32) + x7).toNatClampNeg) / (iN 12) * (iN 12))), some (.int (((M 149 ((iN 32) + x7).toNatClampNeg) - (M 149 ((iN 32) + x7).toNatClampNeg) / (iN 120) * (iN 120)) / (iN 12)))]) (pt_115_136 w) rfl rfl ?_
                exact j2 _ ((if_pos c3).trans (if_pos c4)).symm _ (((if_pos c3).trans (if_pos c4)).trans (if_pos c5)).symm _ (((if_pos c3).trans (if_pos c4)).trans (if_neg c13)).symm _ (((if_pos c3).trans (if_pos c4)).trans (if_neg c14)).symm _ (((if_pos c3).trans (if_pos c4)).trans (if_neg c15)).symm _ _
              · refine ev_il (pc' := 131) (pt_115_129 w) rfl rfl ?_
                refine ev_g (pt_115_131 w) ?_
                refine ev_is (pc' := 138) (loc1 := [some (.ref 148), some (.int x1), some (.int (x2 + 1)), some (.int ((M 149 ((iN 32) + x7).toNatClampNeg) - (M 149 ((iN 32) + x7).toNatClampNeg) / (iN 12) * (iN 12))), some (.int x4), some (.int x5), some (.int (((M 149 ((iN 32) + x7).toNatClampNeg) - (M 149 ((iN 32) + x7).toNatClampNeg) / (iN 120) * (iN 120)) / (iN 12))), some (.int x7), some (.int (M 149 ((iN 32) + x7).toNatClampNeg)), some (.int ((M 149 ((iN 32) + x7).toNatClampNeg) - (M 149 ((iN 32) + x7).toNatClampNeg) / (iN 12) * (iN 12))), some (.int (((M 149 ((iN 32) + x7).toNatClampNeg) - (M 149 ((iN 32) + x7).toNatClampNeg) / (iN 120) * (iN 120)) / (iN 12)))]) (pt_115_136 w) rfl rfl ?_
                exact j2 _ ((if_pos c3).trans (if_pos c4)).symm _ (((if_pos c3).trans (if_pos c4)).trans (if_pos c5)).symm _ (((if_pos c3).trans (if_pos c4)).trans (if_neg c13)).symm _ (((if_pos c3).trans (if_pos c4)).trans (if_neg c14)).symm _ (((if_pos c3).trans (if_pos c4)).trans (if_pos c15)).symm _ _
            · refine ev_il (pc' := 115) (pt_115_113 w) rfl rfl ?_
              refine ev_g (pt_115_115 w) ?_
              refine ev_is (pc' := 122) (loc1 := [some (.ref 148), some (.int x1), some (.int (x2 + 1)), some (.int ((M 149 ((iN 32) + x7).toNatClampNeg) - (M 149 ((iN 32) + x7).toNatClampNeg) / (iN 12) * (iN 12))), some (.int x4), some (.int (((M 149 ((iN 32) + x7).toNatClampNeg) - (M 149 ((iN 32) + x7).toNatClampNeg) / (iN 120) * (iN 120)) / (iN 12))), some (.int x6), some (.int x7), some (.int (M 149 ((iN 32) + x7).toNatClampNeg)), some (.int ((M 149 ((iN 32) + x7).toNatClampNeg) - (M 149 ((iN 32) + x7).toNatClampNeg) / (iN 12) * (iN 12))), some (.int (((M 149 ((iN 32) + x7).toNatClampNeg) - (M 149 ((iN 32) + x7).toNatClampNeg) / (iN 120) * (iN 120)) / (iN 12)))]) (pt_115_120 w) rfl rfl ?_
              refine ev_il (pc' := 124) (pt_115_122 w) rfl rfl ?_
              refine ev_il (pc' := 126) (pt_115_124 w) rfl rfl ?_
              refine ev_cle (pc' := 129) (pt_115_126 w) rfl (fun c16 => ?_) (fun c16 => ?_)
              · refine ev_il (pc' := 136) (pt_115_134 w) rfl rfl ?_
                refine ev_is (pc' := 138) (loc1 := [some (.ref 148), some (.int x1), some (.int (x2 + 1)), some (.int ((M 149 ((iN 32) + x7).toNatClampNeg) - (M 149 ((iN 32) + x7).toNatClampNeg) / (iN 12) * (iN 12))), some (.int x4), some (.int (((M 149 ((iN 32) + x7).toNatClampNeg) - (M 149 ((iN 32) + x7).toNatClampNeg) / (iN 120) * (iN 120)) / (iN 12))), some (.int x6), some (.int x7), some (.int (M 149 ((iN 32) + x7).toNatClampNeg)), some (.int ((M 149 ((iN 32) + x7).toNatClampNeg) - (M 149 ((iN 32) + x7).toNatClampNeg) / (iN 12) * (iN 12))), some (.int (((M 149 ((iN 32) + x7).toNatClampNeg) - (M 149 ((iN 32) + x7).toNatClampNeg) / (iN 120) * (iN 120)) / (iN 12)))]) (pt_115_136 w) rfl rfl ?_
                exact j2 _ ((if_pos c3).trans (if_pos c4)).symm _ (((if_pos c3).trans (if_pos c4)).trans (if_pos c5)).symm _ (((if_pos c3).trans (if_pos c4)).trans (if_neg c13)).symm _ (((if_pos c3).trans (if_pos c4)).trans (if_pos c14)).symm _ (((if_pos c3).trans (if_pos c4)).trans (if_neg c16)).symm _ _
              · refine ev_il (pc' := 131) (pt_115_129 w) rfl rfl ?_
                refine ev_g (pt_115_131 w) ?_
                refine ev_is (pc' := 138) (loc1 := [some (.ref 148), some (.int x1), some (.int (x2 + 1)), some (.int ((M 149 ((iN 32) + x7).toNatClampNeg) - (M 149 ((iN 32) + x7).toNatClampNeg) / (iN 12) * (iN 12))), some (.int x4), some (.int (((M 149 ((iN 32) + x7).toNatClampNeg) - (M 149 ((iN 32) + x7).toNatClampNeg) / (iN 120) * (iN 120)) / (iN 12))), some (.int (((M 149 ((iN 32) + x7).toNatClampNeg) - (M 149 ((iN 32) + x7).toNatClampNeg) / (iN 120) * (iN 120)) / (iN 12))), some (.int x7), some (.int (M 149 ((iN 32) + x7).toNatClampNeg)), some (.int ((M 149 ((iN 32) + x7).toNatClampNeg) - (M 149 ((iN 32) + x7).toNatClampNeg) / (iN 12) * (iN 12))), some (.int (((M 149 ((iN 32) + x7).toNatClampNeg) - (M 149 ((iN 32) + x7).toNatClampNeg) / (iN 120) * (iN 120)) / (iN 12)))]) (pt_115_136 w) rfl rfl ?_
                exact j2 _ ((if_pos c3).trans (if_pos c4)).symm _ (((if_pos c3).trans (if_pos c4)).trans (if_pos c5)).symm _ (((if_pos c3).trans (if_pos c4)).trans (if_neg c13)).symm _ (((if_pos c3).trans (if_pos c4)).trans (if_pos c14)).symm _ (((if_pos c3).trans (if_pos c4)).trans (if_pos c16)).symm _ _
          · refine ev_il (pc' := 99) (pt_115_97 w) rfl rfl ?_
            refine ev_g (pt_115_99 w) ?_
            refine ev_is (pc' := 106) (loc1 := [some (.ref 148), some (.int x1), some (.int (x2 + 1)), some (.int ((M 149 ((iN 32) + x7).toNatClampNeg) - (M 149 ((iN 32) + x7).toNatClampNeg) / (iN 12) * (iN 12))), some (.int ((M 149 ((iN 32) + x7).toNatClampNeg) - (M 149 ((iN 32) + x7).toNatClampNeg) / (iN 12) * (iN 12))), some (.int x5), some (.int x6), some (.int x7), some (.int (M 149 ((iN 32) + x7).toNatClampNeg)), some (.int ((M 149 ((iN 32) + x7).toNatClampNeg) - (M 149 ((iN 32) + x7).toNatClampNeg) / (iN 12) * (iN 12))), some (.int (((M 149 ((iN 32) + x7).toNatClampNeg) - (M 149 ((iN 32) + x7).toNatClampNeg) / (iN 120) * (iN 120)) / (iN 12)))]) (pt_115_104 w) rfl rfl ?_
            refine ev_il (pc' := 108) (pt_115_106 w) rfl rfl ?_
            refine ev_il (pc' := 110) (pt_115_108 w) rfl rfl ?_
            refine ev_cge (pc' := 113) (pt_115_110 w) rfl (fun c17 => ?_) (fun c17 => ?_)
            · refine ev_il (pc' := 120) (pt_115_118 w) rfl rfl ?_
              refine ev_is (pc' := 122) (loc1 := [some (.ref 148), some (.int x1), some (.int (x2 + 1)), some (.int ((M 149 ((iN 32) + x7).toNatClampNeg) - (M 149 ((iN 32) + x7).toNatClampNeg) / (iN 12) * (iN 12))), some (.int ((M 149 ((iN 32) + x7).toNatClampNeg) - (M 149 ((iN 32) + x7).toNatClampNeg) / (iN 12) * (iN 12))), some (.int x5), some (.int x6), some (.int x7), some (.int (M 149 ((iN 32) + x7).toNatClampNeg)), some (.int ((M 149 ((iN 32) + x7).toNatClampNeg) - (M 149 ((iN 32) + x7).toNatClampNeg) / (iN 12) * (iN 12))), some (.int (((M 149 ((iN 32) + x7).toNatClampNeg) - (M 149 ((iN 32) + x7).toNatClampNeg) / (iN 120) * (iN 120)) / (iN 12)))]) (pt_115_120 w) rfl rfl ?_
              refine ev_il (pc' := 124) (pt_115_122 w) rfl rfl ?_
              refine ev_il (pc' := 126) (pt_115_124 w) rfl rfl ?_
              refine ev_cle (pc' := 129) (pt_115_126 w) rfl (fun c18 => ?_) (fun c18 => ?_)
              · refine ev_il (pc' := 136) (pt_115_134 w) rfl rfl ?_
                refine ev_is (pc' := 138) (loc1 := [some (.ref 148), some (.int x1), some (.int (x2 + 1)), some (.int ((M 149 ((iN 32) + x7).toNatClampNeg) - (M 149 ((iN 32) + x7).toNatClampNeg) / (iN 12) * (iN 12))), some (.int ((M 149 ((iN 32) + x7).toNatClampNeg) - (M 149 ((iN 32) + x7).toNatClampNeg) / (iN 12) * (iN 12))), some (.int x5), some (.int x6), some (.int x7), some (.int (M 149 ((iN 32) + x7).toNatClampNeg)), some (.int ((M 149 ((iN 32) + x7).toNatClampNeg) - (M 149 ((iN 32) + x7).toNatClampNeg) / (iN 12) * (iN 12))), some (.int (((M 149 ((iN 32) + x7).toNatClampNeg) - (M 149 ((iN 32) + x7).toNatClampNeg) / (iN 120) * (iN 120)) / (iN 12)))]) (pt_115_136 w) rfl rfl ?_
                exact j2 _ ((if_pos c3).trans (if_pos c4)).symm _ (((if_pos c3).trans (if_pos c4)).trans (if_pos c5)).symm _ (((if_pos c3).trans (if_pos c4)).trans (if_pos c13)).symm _ (((if_pos c3).trans (if_pos c4)).trans (if_neg c17)).symm _ (((if_pos c3).trans (if_pos c4)).trans (if_neg c18)).symm _ _
              · refine ev_il (pc' := 131) (pt_115_129 w) rfl rfl ?_
                refine ev_g (pt_115_131 w) ?_
                refine ev_is (pc' := 138) (loc1 := [some (.ref 148), some (.int x1), some (.int (x2 + 1)), some (.int ((M 149 ((iN 32) + x7).toNatClampNeg) - (M 149 ((iN 32) + x7).toNatClampNeg) / (iN 12) * (iN 12))), some (.int ((M 149 ((iN 32) + x7).toNatClampNeg) - (M 149 ((iN 32) + x7).toNatClampNeg) / (iN 12) * (iN 12))), some (.int x5), some (.int (((M 149 ((iN 32) + x7).toNatClampNeg) - (M 149 ((iN 32) + x7).toNatClampNeg) / (iN 120) * (iN 120)) / (iN 12))), some (.int x7), some (.int (M 149 ((iN 32) + x7).toNatClampNeg)), some (.int ((M 149 ((iN 32) + x7).toNatClampNeg) - (M 149 ((iN 32) + x7).toNatClampNeg) / (iN 12) * (iN 12))), some (.int (((M 149 ((iN 32) + x7).toNatClampNeg) - (M 149 ((iN 32) + x7).toNatClampNeg) / (iN 120) * (iN 120)) / (iN 12)))]) (pt_115_136 w) rfl rfl ?_
                exact j2 _ ((if_pos c3).trans (if_pos c4)).symm _ (((if_pos c3).trans (if_pos c4)).trans (if_pos c5)).symm _ (((if_pos c3).trans (if_pos c4)).trans (if_pos c13)).symm _ (((if_pos c3).trans (if_pos c4)).trans (if_neg c17)).symm _ (((if_pos c3).trans (if_pos c4)).trans (if_pos c18)).symm _ _
            · refine ev_il (pc' := 115) (pt_115_113 w) rfl rfl ?_
              refine ev_g (pt_115_115 w) ?_
              refine ev_is (pc' := 122) (loc1 := [some (.ref 148), some (.int x1), some (.int (x2 + 1)), some (.int ((M 149 ((iN 32) + x7).toNatClampNeg) - (M 149 ((iN 32) + x7).toNatClampNeg) / (iN 12) * (iN 12))), some (.int ((M 149 ((iN 32) + x7).toNatClampNeg) - (M 149 ((iN 32) + x7).toNatClampNeg) / (iN 12) * (iN 12))), some (.int (((M 149 ((iN 32) + x7).toNatClampNeg) - (M 149 ((iN 32) + x7).toNatClampNeg) / (iN 120) * (iN 120)) / (iN 12))), some (.int x6), some (.int x7), some (.int (M 149 ((iN 32) + x7).toNatClampNeg)), some (.int ((M 149 ((iN 32) + x7).toNatClampNeg) - (M 149 ((iN 32) + x7).toNatClampNeg) / (iN 12) * (iN 12))), some (.int (((M 149 ((iN 32) + x7).toNatClampNeg) - (M 149 ((iN 32) + x7).toNatClampNeg) / (iN 120) * (iN 120)) / (iN 12)))]) (pt_115_120 w) rfl rfl ?_
              refine ev_il (pc' := 124) (pt_115_122 w) rfl rfl ?_
              refine ev_il (pc' := 126) (pt_115_124 w) rfl rfl ?_
              refine ev_cle (pc' := 129) (pt_115_126 w) rfl (fun c19 => ?_) (fun c19 => ?_)
              · refine ev_il (pc' := 136) (pt_115_134 w) rfl rfl ?_
                refine ev_is (pc' := 138) (loc1 := [some (.ref 148), some (.int x1), some (.int (x2 + 1)), some (.int ((M 149 ((iN 32) + x7).toNatClampNeg) - (M 149 ((iN 32) + x7).toNatClampNeg) / (iN 12) * (iN 12))), some (.int ((M 149 ((iN 32) + x7).toNatClampNeg) - (M 149 ((iN 32) + x7).toNatClampNeg) / (iN 12) * (iN 12))), some (.int (((M 149 ((iN 32) + x7).toNatClampNeg) - (M 149 ((iN 32) + x7).toNatClampNeg) / (iN 120) * (iN 120)) / (iN 12))), some (.int x6), some (.int x7), some (.int (M 149 ((iN 32) + x7).toNatClampNeg)), some (.int ((M 149 ((iN 32) + x7).toNatClampNeg) - (M 149 ((iN 32) + x7).toNatClampNeg) / (iN 12) * (iN 12))), some (.int (((M 149 ((iN 32) + x7).toNatClampNeg) - (M 149 ((iN 32) + x7).toNatClampNeg) / (iN 120) * (iN 120)) / (iN 12)))]) (pt_115_136 w) rfl rfl ?_
                exact j2 _ ((if_pos c3).trans (if_pos c4)).symm _ (((if_pos c3).trans (if_pos c4)).trans (if_pos c5)).symm _ (((if_pos c3).trans (if_pos c4)).trans (if_pos c13)).symm _ (((if_pos c3).trans (if_pos c4)).trans (if_pos c17)).symm _ (((if_pos c3).trans (if_pos c4)).trans (if_neg c19)).symm _ _
              · refine ev_il (pc' := 131) (pt_115_129 w) rfl rfl ?_
                refine ev_g (pt_115_131 w) ?_
                refine ev_is (pc' := 138) (loc1 := [some (.ref 148), some (.int x1), some (.int (x2 + 1)), some (.int ((M 149 ((iN 32) + x7).toNatClampNeg) - (M 149 ((iN 32) + x7).toNatClampNeg) / (iN 12) * (iN 12))), some (.int ((M 149 ((iN 32) + x7).toNatClampNeg) - (M 149 ((iN 32) + x7).toNatClampNeg) / (iN 12) * (iN 12))), some (.int (((M 149 ((iN 32) + x7).toNatClampNeg) - (M 149 ((iN 32) + x7).toNatClampNeg) / (iN 120) * (iN 120)) / (iN 12))), some (.int (((M 149 ((iN 32) + x7).toNatClampNeg) - (M 149 ((iN 32) + x7).toNatClampNeg) / (iN 120) * (iN 120)) / (iN 12))), some (.int x7), some (.int (M 149 ((iN 32) + x7).toNatClampNeg)), some (.int ((M 149 ((iN 32) + x7).toNatClampNeg) - (M 149 ((iN 32) + x7).toNatClampNeg) / (iN 12) * (iN 12))), some (.int (((M 149 ((iN 32) + x7).toNatClampNeg) - (M 149 ((iN 32) + x7).toNatClampNeg) / (iN 120) * (iN 120)) / (iN 12)))]) (pt_115_136 w) rfl rfl ?_
                exact j2 _ ((if_pos c3).trans (if_pos c4)).symm _ (((if_pos c3).trans (if_pos c4)).trans (if_pos c5)).symm _ (((if_pos c3).trans (if_pos c4)).trans (if_pos c13)).symm _ (((if_pos c3).trans (if_pos c4)).trans (if_pos c17)).symm _ (((if_pos c3).trans (if_pos c4)).trans (if_pos c19)).symm _ _

-- BoardDeskModel.auto()I
theorem wk_116_0 {w : qS} {M : qM} {post : qR}
    (h1 : gE w 81 0 [some (.ref 148), none] [] M (fun r M' => gE w 116 4 [some (.ref 148), none, none, none] (r.toList ++ []) M' post)) :
    gE w 116 0 [some (.ref 148), none, none, none] [] M post := by
  refine ev_al (pc' := 1) (pt_116_0 w) rfl rfl ?_
  exact ev_cal (pc' := 4) (pt_116_1 w) (vs := [.ref 148]) (rest := []) (en := [some (.ref 148), none]) rfl rfl rfl rfl rfl rfl rfl h1

theorem wk_116_4 {w : qS} {M : qM} {o1 o2 o3 : Option Value} {post : qR}
    (h1 : gE w 116 8 [some (.ref 148), some (.int 0), some (.int 0), o3] [] M post) :
    gE w 116 4 [some (.ref 148), o1, o2, o3] [] M post := by
  refine ev_k (pc' := 5) (pt_116_4 w) rfl ?_
  refine ev_is (pc' := 6) (loc1 := [some (.ref 148), some (.int 0), o2, o3]) (pt_116_5 w) rfl rfl ?_
  refine ev_k (pc' := 7) (pt_116_6 w) rfl ?_
  refine ev_is (pc' := 8) (loc1 := [some (.ref 148), some (.int 0), some (.int 0), o3]) (pt_116_7 w) rfl rfl ?_
  exact h1

theorem wk_116_8 {w : qS} {M : qM} {x1 x2 : Int32} {o3 : Option Value} {post : qR}
    (h1 : (c1 : ¬ x2 < (iN 21)) → gE w 116 69 [some (.ref 148), some (.int x1), some (.int 0), o3] [] M post)
    (h2 : (c1 : x2 < (iN 21)) → gE w 116 16 [some (.ref 148), some (.int x1), some (.int x2), some (.int 0)] [] M post) :
    gE w 116 8 [some (.ref 148), some (.int x1), some (.int x2), o3] [] M post := by
  refine ev_il (pc' := 9) (pt_116_8 w) rfl rfl ?_
  refine ev_k (pc' := 11) (pt_116_9 w) rfl ?_
  refine ev_cge (pc' := 14) (pt_116_11 w) rfl (fun c1 => ?_) (fun c1 => ?_)
  · refine ev_k (pc' := 68) (pt_116_67 w) rfl ?_
    refine ev_is (pc' := 69) (loc1 := [some (.ref 148), some (.int x1), some (.int 0), o3]) (pt_116_68 w) rfl rfl ?_
    exact (h1 c1)
  · refine ev_k (pc' := 15) (pt_116_14 w) rfl ?_
    refine ev_is (pc' := 16) (loc1 := [some (.ref 148), some (.int x1), some (.int x2), some (.int 0)]) (pt_116_15 w) rfl rfl ?_
    exact (h2 c1)

theorem wk_116_16 {w : qS} {M : qM} {x1 x2 x3 : Int32} {r1 : Int32} {post : qR}
    (h1 : (c1 : ¬ x3 < (M 149 0)) → gE w 116 8 [some (.ref 148), some (.int x1), some (.int (x2 + 1)), some (.int x3)] [] M post)
    (b2 : (c1 : x3 < (M 149 0)) → vp_in x3 16)
    (h3 : (c1 : x3 < (M 149 0)) → (c2 : ¬ (M 152 x3.toNatClampNeg) = x3) → gE w 116 16 [some (.ref 148), some (.int x1), some (.int x2), some (.int (x3 + 1))] [] M post)
    (k4 : (c1 : x3 < (M 149 0)) → (c2 : (M 152 x3.toNatClampNeg) = x3) → gE w 115 0 [some (.ref 148), some (.int x3), none, none, none, none, none, none, none, none, none] [] M (qv1 M r1))
    (h5 : (c1 : x3 < (M 149 0)) → (c2 : (M 152 x3.toNatClampNeg) = x3) → (c3 : ¬ r1 = x2) → gE w 116 16 [some (.ref 148), some (.int x1), some (.int x2), some (.int (x3 + 1))] [] M post)
    (b6 : (c1 : x3 < (M 149 0)) → (c2 : (M 152 x3.toNatClampNeg) = x3) → (c3 : r1 = x2) → vp_in x1 16)
    (h7 : (c1 : x3 < (M 149 0)) → (c2 : (M 152 x3.toNatClampNeg) = x3) → (c3 : r1 = x2) → gE w 116 16 [some (.ref 148), some (.int (x1 + 1)), some (.int x2), some (.int (x3 + 1))] [] (ms M 160 x1.toNatClampNeg x3) post) :
    gE w 116 16 [some (.ref 148), some (.int x1), some (.int x2), some (.int x3)] [] M post := by
  refine ev_il (pc' := 17) (pt_116_16 w) rfl rfl ?_
  refine ev_al (pc' := 18) (pt_116_17 w) rfl rfl ?_
  refine ev_getr (pc' := 21) (pt_116_18 w) rfl rfl rfl ?_
  refine ev_k (pc' := 22) (pt_116_21 w) rfl ?_
  refine ev_iac (j := 0) (pc' := 23) (pt_116_22 w) rfl rfl (vp_lit (by decide +kernel)) (by decide +kernel) ?_
  refine ev_cge (pc' := 26) (pt_116_23 w) rfl (fun c1 => ?_) (fun c1 => ?_)
  · refine ev_inc (pc' := 64) (loc1 := [some (.ref 148), some (.int x1), some (.int (x2 + 1)), some (.int x3)]) (pt_116_61 w) rfl rfl rfl ?_
    refine ev_g (pt_116_64 w) ?_
    exact (h1 c1)
  · refine ev_al (pc' := 27) (pt_116_26 w) rfl rfl ?_
    refine ev_getr (pc' := 30) (pt_116_27 w) rfl rfl rfl ?_
    refine ev_il (pc' := 31) (pt_116_30 w) rfl rfl ?_
    refine ev_ia (pc' := 32) (pt_116_31 w) rfl rfl (b2 c1) ?_
    refine ev_il (pc' := 33) (pt_116_32 w) rfl rfl ?_
    refine ev_cne (pc' := 36) (pt_116_33 w) rfl (fun c2 => ?_) (fun c2 => ?_)
    · refine ev_inc (pc' := 58) (loc1 := [some (.ref 148), some (.int x1), some (.int x2), some (.int (x3 + 1))]) (pt_116_55 w) rfl rfl rfl ?_
      refine ev_g (pt_116_58 w) ?_
      exact (h3 c1 c2)
    · refine ev_al (pc' := 37) (pt_116_36 w) rfl rfl ?_
      refine ev_il (pc' := 38) (pt_116_37 w) rfl rfl ?_
      refine ev_cal1 (pc' := 41) (pt_116_38 w) (vs := [.ref 148, .int x3]) (rest := []) (en := [some (.ref 148), some (.int x3), none, none, none, none, none, none, none, none, none]) rfl rfl rfl rfl rfl rfl rfl (k4 c1 c2) ?_
      refine ev_il (pc' := 42) (pt_116_41 w) rfl rfl ?_
      refine ev_cne (pc' := 45) (pt_116_42 w) rfl (fun c3 => ?_) (fun c3 => ?_)
      · refine ev_inc (pc' := 58) (loc1 := [some (.ref 148), some (.int x1), some (.int x2), some (.int (x3 + 1))]) (pt_116_55 w) rfl rfl rfl ?_
        refine ev_g (pt_116_58 w) ?_
        exact (h5 c1 c2 c3)
      · refine ev_al (pc' := 46) (pt_116_45 w) rfl rfl ?_
        refine ev_getr (pc' := 49) (pt_116_46 w) rfl rfl rfl ?_
        refine ev_il (pc' := 50) (pt_116_49 w) rfl rfl ?_
        refine ev_il (pc' := 51) (pt_116_50 w) rfl rfl ?_
        refine ev_ias (pc' := 52) (pt_116_51 w) rfl rfl (b6 c1 c2 c3) ?_
        refine ev_inc (pc' := 55) (loc1 := [some (.ref 148), some (.int (x1 + 1)), some (.int x2), some (.int x3)]) (pt_116_52 w) rfl rfl rfl ?_
        refine ev_inc (pc' := 58) (loc1 := [some (.ref 148), some (.int (x1 + 1)), some (.int x2), some (.int (x3 + 1))]) (pt_116_55 w) rfl rfl rfl ?_
        refine ev_g (pt_116_58 w) ?_
        exact (h7 c1 c2 c3)

theorem wk_116_69 {w : qS} {M : qM} {x1 x2 : Int32} {o3 : Option Value} {post : qR}
    (h1 : (c1 : ¬ x2 < x1) → gE w 116 112 [some (.ref 148), some (.int x1), some (.int 0), some (.int 0)] [] M post)
    (h2 : (c1 : x2 < x1) → gE w 116 76 [some (.ref 148), some (.int x1), some (.int x2), some (.int 1)] [] M post) :
    gE w 116 69 [some (.ref 148), some (.int x1), some (.int x2), o3] [] M post := by
  refine ev_il (pc' := 70) (pt_116_69 w) rfl rfl ?_
  refine ev_il (pc' := 71) (pt_116_70 w) rfl rfl ?_
  refine ev_cge (pc' := 74) (pt_116_71 w) rfl (fun c1 => ?_) (fun c1 => ?_)
  · refine ev_k (pc' := 109) (pt_116_108 w) rfl ?_
    refine ev_is (pc' := 110) (loc1 := [some (.ref 148), some (.int x1), some (.int 0), o3]) (pt_116_109 w) rfl rfl ?_
    refine ev_k (pc' := 111) (pt_116_110 w) rfl ?_
    refine ev_is (pc' := 112) (loc1 := [some (.ref 148), some (.int x1), some (.int 0), some (.int 0)]) (pt_116_111 w) rfl rfl ?_
    exact (h1 c1)
  · refine ev_k (pc' := 75) (pt_116_74 w) rfl ?_
    refine ev_is (pc' := 76) (loc1 := [some (.ref 148), some (.int x1), some (.int x2), some (.int 1)]) (pt_116_75 w) rfl rfl ?_
    exact (h2 c1)

theorem wk_116_76 {w : qS} {M : qM} {x1 x2 x3 : Int32} {post : qR}
    (h1 : (c1 : x3 = 0) → gE w 116 69 [some (.ref 148), some (.int x1), some (.int (x2 + 1)), some (.int x3)] [] M post)
    (b2 : (c1 : ¬ x3 = 0) → vp_in x2 16)
    (h3 : (c1 : ¬ x3 = 0) → gE w 113 0 [some (.ref 148), some (.int (M 160 x2.toNatClampNeg)), none, none, none, none, none] [] M (fun r M' => gE w 116 90 [some (.ref 148), some (.int x1), some (.int x2), some (.int x3)] (r.toList ++ []) M' post)) :
    gE w 116 76 [some (.ref 148), some (.int x1), some (.int x2), some (.int x3)] [] M post := by
  refine ev_il (pc' := 77) (pt_116_76 w) rfl rfl ?_
  refine ev_zeq (pc' := 80) (pt_116_77 w) rfl (fun c1 => ?_) (fun c1 => ?_)
  · refine ev_inc (pc' := 105) (loc1 := [some (.ref 148), some (.int x1), some (.int (x2 + 1)), some (.int x3)]) (pt_116_102 w) rfl rfl rfl ?_
    refine ev_g (pt_116_105 w) ?_
    exact (h1 c1)
  · refine ev_al (pc' := 81) (pt_116_80 w) rfl rfl ?_
    refine ev_al (pc' := 82) (pt_116_81 w) rfl rfl ?_
    refine ev_getr (pc' := 85) (pt_116_82 w) rfl rfl rfl ?_
    refine ev_il (pc' := 86) (pt_116_85 w) rfl rfl ?_
    refine ev_ia (pc' := 87) (pt_116_86 w) rfl rfl (b2 c1) ?_
    exact ev_cal (pc' := 90) (pt_116_87 w) (vs := [.ref 148, .int (M 160 x2.toNatClampNeg)]) (rest := []) (en := [some (.ref 148), some (.int (M 160 x2.toNatClampNeg)), none, none, none, none, none]) rfl rfl rfl rfl rfl rfl rfl (h3 c1)

theorem wk_116_90 {w : qS} {M : qM} {x1 x2 s0 : Int32} {o3 : Option Value} {post : qR}
    (h1 : gE w 116 76 [some (.ref 148), some (.int x1), some (.int x2), some (.int (if 0 < s0 then 1 else 0 : Int32))] [] M post) :
    gE w 116 90 [some (.ref 148), some (.int x1), some (.int x2), o3] [.int s0] M post := by
  have j1 : ∀ v1 : Int32, v1 = (if 0 < s0 then 1 else 0 : Int32) → gE w 116 98 [some (.ref 148), some (.int x1), some (.int x2), o3] [.int v1] M post := by
    intro v1 e2
    subst v1
    refine ev_is (pc' := 99) (loc1 := [some (.ref 148), some (.int x1), some (.int x2), some (.int (if 0 < s0 then 1 else 0 : Int32))]) (pt_116_98 w) rfl rfl ?_
    refine ev_g (pt_116_99 w) ?_
    exact h1
  refine ev_zle (pc' := 93) (pt_116_90 w) rfl (fun c1 => ?_) (fun c1 => ?_)
  · refine ev_k (pc' := 98) (pt_116_97 w) rfl ?_
    exact j1 _ (if_neg c1).symm
  · refine ev_k (pc' := 94) (pt_116_93 w) rfl ?_
    refine ev_g (pt_116_94 w) ?_
    exact j1 _ (if_pos c1).symm

theorem wk_116_112 {w : qS} {M : qM} {x1 x2 x3 : Int32} {post : qR}
    (h1 : (c1 : ¬ x3 < x1) → gE w 82 0 [some (.ref 148), none, none] [] M (fun r M' => gE w 116 148 [some (.ref 148), some (.int x1), some (.int x2), some (.int x3)] (r.toList ++ []) M' post))
    (b2 : (c1 : x3 < x1) → vp_in x3 16)
    (h3 : (c1 : x3 < x1) → gE w 108 0 [some (.ref 148), some (.int (M 160 x3.toNatClampNeg)), none, none, none, none] [] M (fun r M' => gE w 116 127 [some (.ref 148), some (.int x1), some (.int x2), some (.int x3)] (r.toList ++ []) M' post)) :
    gE w 116 112 [some (.ref 148), some (.int x1), some (.int x2), some (.int x3)] [] M post := by
  refine ev_il (pc' := 113) (pt_116_112 w) rfl rfl ?_
  refine ev_il (pc' := 114) (pt_116_113 w) rfl rfl ?_
  refine ev_cge (pc' := 117) (pt_116_114 w) rfl (fun c1 => ?_) (fun c1 => ?_)
  · refine ev_al (pc' := 145) (pt_116_144 w) rfl rfl ?_
    exact ev_cal (pc' := 148) (pt_116_145 w) (vs := [.ref 148]) (rest := []) (en := [some (.ref 148), none, none]) rfl rfl rfl rfl rfl rfl rfl (h1 c1)
  · refine ev_al (pc' := 118) (pt_116_117 w) rfl rfl ?_
    refine ev_al (pc' := 119) (pt_116_118 w) rfl rfl ?_
    refine ev_getr (pc' := 122) (pt_116_119 w) rfl rfl rfl ?_
    refine ev_il (pc' := 123) (pt_116_122 w) rfl rfl ?_
    refine ev_ia (pc' := 124) (pt_116_123 w) rfl rfl (b2 c1) ?_
    exact ev_cal (pc' := 127) (pt_116_124 w) (vs := [.ref 148, .int (M 160 x3.toNatClampNeg)]) (rest := []) (en := [some (.ref 148), some (.int (M 160 x3.toNatClampNeg)), none, none, none, none]) rfl rfl rfl rfl rfl rfl rfl (h3 c1)

theorem wk_116_127 {w : qS} {M : qM} {x1 x2 x3 s0 : Int32} {post : qR}
    (h1 : gE w 116 112 [some (.ref 148), some (.int x1), some (.int (if s0 < 0 then (x2 + 1) else x2 : Int32)), some (.int (x3 + 1))] [] M post) :
    gE w 116 127 [some (.ref 148), some (.int x1), some (.int x2), some (.int x3)] [.int s0] M post := by
  have j1 : ∀ v1 : Int32, v1 = (if s0 < 0 then (x2 + 1) else x2 : Int32) → gE w 116 137 [some (.ref 148), some (.int x1), some (.int x2), some (.int x3)] [.int v1] M post := by
    intro v1 e2
    subst v1
    refine ev_is (pc' := 138) (loc1 := [some (.ref 148), some (.int x1), some (.int (if s0 < 0 then (x2 + 1) else x2 : Int32)), some (.int x3)]) (pt_116_137 w) rfl rfl ?_
    refine ev_inc (pc' := 141) (loc1 := [some (.ref 148), some (.int x1), some (.int (if s0 < 0 then (x2 + 1) else x2 : Int32)), some (.int (x3 + 1))]) (pt_116_138 w) rfl rfl rfl ?_
    refine ev_g (pt_116_141 w) ?_
    exact h1
  refine ev_zge (pc' := 130) (pt_116_127 w) rfl (fun c1 => ?_) (fun c1 => ?_)
  · refine ev_il (pc' := 137) (pt_116_136 w) rfl rfl ?_
    exact j1 _ (if_neg c1).symm
  · refine ev_il (pc' := 131) (pt_116_130 w) rfl rfl ?_
    refine ev_k (pc' := 132) (pt_116_131 w) rfl ?_
    refine ev_b (pc' := 133) (pt_116_132 w) rfl ?_
    refine ev_g (pt_116_133 w) ?_
    exact j1 _ (if_pos c1).symm

theorem wk_116_148 {w : qS} {M : qM} {x2 : Int32} {o0 o1 o3 : Option Value} {post : qR}
    (h1 : post (some (.int x2)) M) :
    gE w 116 148 [o0, o1, some (.int x2), o3] [] M post := by
  refine ev_il (pc' := 149) (pt_116_148 w) rfl rfl ?_
  exact ev_ri1 (pt_116_149 w) h1

-- BoardDeskModel.nearCell(II)I
theorem wk_117_0 {w : qS} {M : qM} {x1 x2 : Int32} {post : qR}
    (h1 : gE w 117 2 [some (.ref 148), some (.int x1), some (.int x2), some (.int 0)] [] M post) :
    gE w 117 0 [some (.ref 148), some (.int x1), some (.int x2), none] [] M post := by
  refine ev_k (pc' := 1) (pt_117_0 w) rfl ?_
  refine ev_is (pc' := 2) (loc1 := [some (.ref 148), some (.int x1), some (.int x2), some (.int 0)]) (pt_117_1 w) rfl rfl ?_
  exact h1

theorem wk_117_2 {w : qS} {M : qM} {x1 x2 x3 : Int32} {r1 : Int32} {post : qR}
    (h1 : (c1 : ¬ x3 < (iN 240)) → post (some (.int (-1))) M)
    (b2 : (c1 : x3 < (iN 240)) → vp_in x3 240)
    (h3 : (c1 : x3 < (iN 240)) → (c2 : ¬ (M 154 x3.toNatClampNeg) = x1) → gE w 117 2 [some (.ref 148), some (.int x1), some (.int x2), some (.int (x3 + 1))] [] M post)
    (k4 : (c1 : x3 < (iN 240)) → (c2 : (M 154 x3.toNatClampNeg) = x1) → gE w 92 0 [some (.ref 148), some (.int x3), some (.int x2), some (.int 1), none, none, none, none, none, none, none] [] M (qv1 M r1))
    (h5 : (c1 : x3 < (iN 240)) → (c2 : (M 154 x3.toNatClampNeg) = x1) → (c3 : r1 = 0) → gE w 117 2 [some (.ref 148), some (.int x1), some (.int x2), some (.int (x3 + 1))] [] M post)
    (h6 : (c1 : x3 < (iN 240)) → (c2 : (M 154 x3.toNatClampNeg) = x1) → (c3 : ¬ r1 = 0) → post (some (.int x3)) M) :
    gE w 117 2 [some (.ref 148), some (.int x1), some (.int x2), some (.int x3)] [] M post := by
  refine ev_il (pc' := 3) (pt_117_2 w) rfl rfl ?_
  refine ev_k (pc' := 6) (pt_117_3 w) rfl ?_
  refine ev_cge (pc' := 9) (pt_117_6 w) rfl (fun c1 => ?_) (fun c1 => ?_)
  · refine ev_k (pc' := 38) (pt_117_37 w) rfl ?_
    exact ev_ri1 (pt_117_38 w) (h1 c1)
  · refine ev_al (pc' := 10) (pt_117_9 w) rfl rfl ?_
    refine ev_getr (pc' := 13) (pt_117_10 w) rfl rfl rfl ?_
    refine ev_il (pc' := 14) (pt_117_13 w) rfl rfl ?_
    refine ev_ia (pc' := 15) (pt_117_14 w) rfl rfl (b2 c1) ?_
    refine ev_il (pc' := 16) (pt_117_15 w) rfl rfl ?_
    refine ev_cne (pc' := 19) (pt_117_16 w) rfl (fun c2 => ?_) (fun c2 => ?_)
    · refine ev_inc (pc' := 34) (loc1 := [some (.ref 148), some (.int x1), some (.int x2), some (.int (x3 + 1))]) (pt_117_31 w) rfl rfl rfl ?_
      refine ev_g (pt_117_34 w) ?_
      exact (h3 c1 c2)
    · refine ev_al (pc' := 20) (pt_117_19 w) rfl rfl ?_
      refine ev_il (pc' := 21) (pt_117_20 w) rfl rfl ?_
      refine ev_il (pc' := 22) (pt_117_21 w) rfl rfl ?_
      refine ev_k (pc' := 23) (pt_117_22 w) rfl ?_
      refine ev_cal1 (pc' := 26) (pt_117_23 w) (vs := [.ref 148, .int x3, .int x2, .int 1]) (rest := []) (en := [some (.ref 148), some (.int x3), some (.int x2), some (.int 1), none, none, none, none, none, none, none]) rfl rfl rfl rfl rfl rfl rfl (k4 c1 c2) ?_
      refine ev_zeq (pc' := 29) (pt_117_26 w) rfl (fun c3 => ?_) (fun c3 => ?_)
      · refine ev_inc (pc' := 34) (loc1 := [some (.ref 148), some (.int x1), some (.int x2), some (.int (x3 + 1))]) (pt_117_31 w) rfl rfl rfl ?_
        refine ev_g (pt_117_34 w) ?_
        exact (h5 c1 c2 c3)
      · refine ev_il (pc' := 30) (pt_117_29 w) rfl rfl ?_
        exact ev_ri1 (pt_117_30 w) (h6 c1 c2 c3)

-- BoardDeskModel.check(II)I
theorem wk_118_0 {w : qS} {M : qM} {x1 x2 : Int32} {post : qR}
    (h1 : (c1 : x2 < 0) → post (some (.int (-1))) M)
    (h2 : (c1 : ¬ x2 < 0) → (c2 : (iN 3) < x2) → post (some (.int (-1))) M)
    (h3 : (c1 : ¬ x2 < 0) → (c2 : ¬ (iN 3) < x2) → (c3 : ¬ x1 < 0) → gE w 118 20 [some (.ref 148), some (.int x1), some (.int x2), some (.int 0), some (.int 0), none, none] [] M post)
    (h4 : (c1 : ¬ x2 < 0) → (c2 : ¬ (iN 3) < x2) → (c3 : x1 < 0) → post (some (.int (-1))) M) :
    gE w 118 0 [some (.ref 148), some (.int x1), some (.int x2), none, none, none, none] [] M post := by
  refine ev_il (pc' := 1) (pt_118_0 w) rfl rfl ?_
  refine ev_zlt (pc' := 4) (pt_118_1 w) rfl (fun c1 => ?_) (fun c1 => ?_)
  · refine ev_k (pc' := 14) (pt_118_13 w) rfl ?_
    exact ev_ri1 (pt_118_14 w) (h1 c1)
  · refine ev_il (pc' := 5) (pt_118_4 w) rfl rfl ?_
    refine ev_k (pc' := 6) (pt_118_5 w) rfl ?_
    refine ev_cgt (pc' := 9) (pt_118_6 w) rfl (fun c2 => ?_) (fun c2 => ?_)
    · refine ev_k (pc' := 14) (pt_118_13 w) rfl ?_
      exact ev_ri1 (pt_118_14 w) (h2 c1 c2)
    · refine ev_il (pc' := 10) (pt_118_9 w) rfl rfl ?_
      refine ev_zge (pc' := 13) (pt_118_10 w) rfl (fun c3 => ?_) (fun c3 => ?_)
      · refine ev_k (pc' := 16) (pt_118_15 w) rfl ?_
        refine ev_is (pc' := 17) (loc1 := [some (.ref 148), some (.int x1), some (.int x2), some (.int 0), none, none, none]) (pt_118_16 w) rfl rfl ?_
        refine ev_k (pc' := 18) (pt_118_17 w) rfl ?_
        refine ev_is (pc' := 20) (loc1 := [some (.ref 148), some (.int x1), some (.int x2), some (.int 0), some (.int 0), none, none]) (pt_118_18 w) rfl rfl ?_
        exact (h3 c1 c2 c3)
      · refine ev_k (pc' := 14) (pt_118_13 w) rfl ?_
        exact ev_ri1 (pt_118_14 w) (h4 c1 c2 c3)

theorem wk_118_20 {w : qS} {M : qM} {x1 x2 x3 x4 : Int32} {o5 o6 : Option Value} {post : qR}
    (h1 : (c1 : ¬ x4 < (M 149 0)) → gE w 118 117 [some (.ref 148), some (.int x1), some (.int x2), some (.int x3), some (.int 0), o5, o6] [] M post)
    (b2 : (c1 : x4 < (M 149 0)) → vp_in x4 16)
    (h3 : (c1 : x4 < (M 149 0)) → (c2 : ¬ (M 152 x4.toNatClampNeg) = x4) → (c3 : ((-1) : Int32) < 0) → gE w 118 20 [some (.ref 148), some (.int x1), some (.int x2), some (.int (if ((-1) : Int32) < 0 then x3 else (x3 + 1) : Int32)), some (.int (x4 + 1)), some (.int (-1)), o6] [] M post)
    (h4 : (c1 : x4 < (M 149 0)) → (c2 : ¬ (M 152 x4.toNatClampNeg) = x4) → (c3 : ¬ ((-1) : Int32) < 0) → (c5 : ¬ x3 = x1) → gE w 118 20 [some (.ref 148), some (.int x1), some (.int x2), some (.int (if ((-1) : Int32) < 0 then x3 else (x3 + 1) : Int32)), some (.int (x4 + 1)), some (.int (-1)), o6] [] M post)
    (h5 : (c1 : x4 < (M 149 0)) → (c2 : ¬ (M 152 x4.toNatClampNeg) = x4) → (c3 : ¬ ((-1) : Int32) < 0) → (c5 : x3 = x1) → post (some (.int (if x2 = 0 then 1 else (if x2 = 1 then x4 else (-1) : Int32) : Int32))) M)
    (h6 : (c1 : x4 < (M 149 0)) → (c2 : (M 152 x4.toNatClampNeg) = x4) → gE w 108 0 [some (.ref 148), some (.int x4), none, none, none, none] [] M (fun r M' => gE w 118 49 [some (.ref 148), some (.int x1), some (.int x2), some (.int x3), some (.int x4), o5, o6] (r.toList ++ []) M' post)) :
    gE w 118 20 [some (.ref 148), some (.int x1), some (.int x2), some (.int x3), some (.int x4), o5, o6] [] M post := by
  refine ev_il (pc' := 22) (pt_118_20 w) rfl rfl ?_
  refine ev_al (pc' := 23) (pt_118_22 w) rfl rfl ?_
  refine ev_getr (pc' := 26) (pt_118_23 w) rfl rfl rfl ?_
  refine ev_k (pc' := 27) (pt_118_26 w) rfl ?_
  refine ev_iac (j := 0) (pc' := 28) (pt_118_27 w) rfl rfl (vp_lit (by decide +kernel)) (by decide +kernel) ?_
  refine ev_cge (pc' := 31) (pt_118_28 w) rfl (fun c1 => ?_) (fun c1 => ?_)
  · refine ev_k (pc' := 115) (pt_118_114 w) rfl ?_
    refine ev_is (pc' := 117) (loc1 := [some (.ref 148), some (.int x1), some (.int x2), some (.int x3), some (.int 0), o5, o6]) (pt_118_115 w) rfl rfl ?_
    exact (h1 c1)
  · refine ev_al (pc' := 32) (pt_118_31 w) rfl rfl ?_
    refine ev_getr (pc' := 35) (pt_118_32 w) rfl rfl rfl ?_
    refine ev_il (pc' := 37) (pt_118_35 w) rfl rfl ?_
    refine ev_ia (pc' := 38) (pt_118_37 w) rfl rfl (b2 c1) ?_
    refine ev_il (pc' := 40) (pt_118_38 w) rfl rfl ?_
    refine ev_cne (pc' := 43) (pt_118_40 w) rfl (fun c2 => ?_) (fun c2 => ?_)
    · refine ev_k (pc' := 53) (pt_118_52 w) rfl ?_
      refine ev_is (pc' := 55) (loc1 := [some (.ref 148), some (.int x1), some (.int x2), some (.int x3), some (.int x4), some (.int (-1)), o6]) (pt_118_53 w) rfl rfl ?_
      refine ev_il (pc' := 57) (pt_118_55 w) rfl rfl ?_
      refine ev_zlt (pc' := 60) (pt_118_57 w) rfl (fun c3 => ?_) (fun c3 => ?_)
      · refine ev_il (pc' := 97) (pt_118_95 w) rfl rfl ?_
        have j1 : ∀ v1 : Int32, v1 = (if ((-1) : Int32) < 0 then x3 else (x3 + 1) : Int32) → gE w 118 107 [some (.ref 148), some (.int x1), some (.int x2), some (.int x3), some (.int x4), some (.int (-1)), o6] [.int v1] M post := by
          intro v1 e2
          subst v1
          refine ev_is (pc' := 108) (loc1 := [some (.ref 148), some (.int x1), some (.int x2), some (.int (if ((-1) : Int32) < 0 then x3 else (x3 + 1) : Int32)), some (.int x4), some (.int (-1)), o6]) (pt_118_107 w) rfl rfl ?_
          refine ev_inc (pc' := 111) (loc1 := [some (.ref 148), some (.int x1), some (.int x2), some (.int (if ((-1) : Int32) < 0 then x3 else (x3 + 1) : Int32)), some (.int (x4 + 1)), some (.int (-1)), o6]) (pt_118_108 w) rfl rfl rfl ?_
          refine ev_g (pt_118_111 w) ?_
          exact (h3 c1 c2 c3)
        refine ev_zlt (pc' := 100) (pt_118_97 w) rfl (fun c4 => ?_) (fun c4 => ?_)
        · refine ev_il (pc' := 107) (pt_118_106 w) rfl rfl ?_
          exact j1 _ (if_pos c4).symm
        · refine ev_il (pc' := 101) (pt_118_100 w) rfl rfl ?_
          refine ev_k (pc' := 102) (pt_118_101 w) rfl ?_
          refine ev_b (pc' := 103) (pt_118_102 w) rfl ?_
          refine ev_g (pt_118_103 w) ?_
          exact j1 _ (if_neg c4).symm
      · refine ev_il (pc' := 61) (pt_118_60 w) rfl rfl ?_
        refine ev_il (pc' := 62) (pt_118_61 w) rfl rfl ?_
        refine ev_cne (pc' := 65) (pt_118_62 w) rfl (fun c5 => ?_) (fun c5 => ?_)
        · refine ev_il (pc' := 97) (pt_118_95 w) rfl rfl ?_
          have j2 : ∀ v3 : Int32, v3 = (if ((-1) : Int32) < 0 then x3 else (x3 + 1) : Int32) → gE w 118 107 [some (.ref 148), some (.int x1), some (.int x2), some (.int x3), some (.int x4), some (.int (-1)), o6] [.int v3] M post := by
            intro v3 e4
            subst v3
            refine ev_is (pc' := 108) (loc1 := [some (.ref 148), some (.int x1), some (.int x2), some (.int (if ((-1) : Int32) < 0 then x3 else (x3 + 1) : Int32)), some (.int x4), some (.int (-1)), o6]) (pt_118_107 w) rfl rfl ?_
            refine ev_inc (pc' := 111) (loc1 := [some (.ref 148), some (.int x1), some (.int x2), some (.int (if ((-1) : Int32) < 0 then x3 else (x3 + 1) : Int32)), some (.int (x4 + 1)), some (.int (-1)), o6]) (pt_118_108 w) rfl rfl rfl ?_
            refine ev_g (pt_118_111 w) ?_
            exact (h4 c1 c2 c3 c5)
          refine ev_zlt (pc' := 100) (pt_118_97 w) rfl (fun c6 => ?_) (fun c6 => ?_)
          · refine ev_il (pc' := 107) (pt_118_106 w) rfl rfl ?_
            exact j2 _ (if_pos c6).symm
          · refine ev_il (pc' := 101) (pt_118_100 w) rfl rfl ?_
            refine ev_k (pc' := 102) (pt_118_101 w) rfl ?_
            refine ev_b (pc' := 103) (pt_118_102 w) rfl ?_
            refine ev_g (pt_118_103 w) ?_
            exact j2 _ (if_neg c6).symm
        · refine ev_il (pc' := 66) (pt_118_65 w) rfl rfl ?_
          have j3 : ∀ v5 : Int32, v5 = (if x2 = 0 then 1 else (if x2 = 1 then x4 else (-1) : Int32) : Int32) → gE w 118 94 [some (.ref 148), some (.int x1), some (.int x2), some (.int x3), some (.int x4), some (.int (-1)), o6] [.int v5] M post := by
            intro v5 e6
            subst v5
            exact ev_ri1 (pt_118_94 w) (h5 c1 c2 c3 c5)
          refine ev_zne (pc' := 69) (pt_118_66 w) rfl (fun c7 => ?_) (fun c7 => ?_)
          · refine ev_il (pc' := 74) (pt_118_73 w) rfl rfl ?_
            refine ev_k (pc' := 75) (pt_118_74 w) rfl ?_
            refine ev_cne (pc' := 78) (pt_118_75 w) rfl (fun c8 => ?_) (fun c8 => ?_)
            · refine ev_il (pc' := 84) (pt_118_83 w) rfl rfl ?_
              refine ev_k (pc' := 85) (pt_118_84 w) rfl ?_
              refine ev_cne (pc' := 88) (pt_118_85 w) rfl (fun c9 => ?_) (fun c9 => ?_)
              · refine ev_k (pc' := 94) (pt_118_93 w) rfl ?_
                exact j3 _ ((if_neg c7).trans (if_neg c8)).symm
              · refine ev_il (pc' := 90) (pt_118_88 w) rfl rfl ?_
                refine ev_g (pt_118_90 w) ?_
                exact j3 _ ((if_neg c7).trans (if_neg c8)).symm
            · refine ev_il (pc' := 80) (pt_118_78 w) rfl rfl ?_
              refine ev_g (pt_118_80 w) ?_
              exact j3 _ ((if_neg c7).trans (if_pos c8)).symm
          · refine ev_k (pc' := 70) (pt_118_69 w) rfl ?_
            refine ev_g (pt_118_70 w) ?_
            exact j3 _ (if_pos c7).symm
    · refine ev_al (pc' := 44) (pt_118_43 w) rfl rfl ?_
      refine ev_il (pc' := 46) (pt_118_44 w) rfl rfl ?_
      exact ev_cal (pc' := 49) (pt_118_46 w) (vs := [.ref 148, .int x4]) (rest := []) (en := [some (.ref 148), some (.int x4), none, none, none, none]) rfl rfl rfl rfl rfl rfl rfl (h6 c1 c2)

theorem wk_118_49 {w : qS} {M : qM} {x1 x2 x3 x4 s0 : Int32} {o5 o6 : Option Value} {post : qR}
    (h1 : (c1 : s0 < 0) → gE w 118 20 [some (.ref 148), some (.int x1), some (.int x2), some (.int (if s0 < 0 then x3 else (x3 + 1) : Int32)), some (.int (x4 + 1)), some (.int s0), o6] [] M post)
    (h2 : (c1 : ¬ s0 < 0) → (c3 : ¬ x3 = x1) → gE w 118 20 [some (.ref 148), some (.int x1), some (.int x2), some (.int (if s0 < 0 then x3 else (x3 + 1) : Int32)), some (.int (x4 + 1)), some (.int s0), o6] [] M post)
    (h3 : (c1 : ¬ s0 < 0) → (c3 : x3 = x1) → post (some (.int (if x2 = 0 then 1 else (if x2 = 1 then x4 else (if x2 = (iN 2) then s0 else (-1) : Int32) : Int32) : Int32))) M) :
    gE w 118 49 [some (.ref 148), some (.int x1), some (.int x2), some (.int x3), some (.int x4), o5, o6] [.int s0] M post := by
  refine ev_g (pt_118_49 w) ?_
  refine ev_is (pc' := 55) (loc1 := [some (.ref 148), some (.int x1), some (.int x2), some (.int x3), some (.int x4), some (.int s0), o6]) (pt_118_53 w) rfl rfl ?_
  refine ev_il (pc' := 57) (pt_118_55 w) rfl rfl ?_
  refine ev_zlt (pc' := 60) (pt_118_57 w) rfl (fun c1 => ?_) (fun c1 => ?_)
  · refine ev_il (pc' := 97) (pt_118_95 w) rfl rfl ?_
    have j1 : ∀ v1 : Int32, v1 = (if s0 < 0 then x3 else (x3 + 1) : Int32) → gE w 118 107 [some (.ref 148), some (.int x1), some (.int x2), some (.int x3), some (.int x4), some (.int s0), o6] [.int v1] M post := by
      intro v1 e2
      subst v1
      refine ev_is (pc' := 108) (loc1 := [some (.ref 148), some (.int x1), some (.int x2), some (.int (if s0 < 0 then x3 else (x3 + 1) : Int32)), some (.int x4), some (.int s0), o6]) (pt_118_107 w) rfl rfl ?_
      refine ev_inc (pc' := 111) (loc1 := [some (.ref 148), some (.int x1), some (.int x2), some (.int (if s0 < 0 then x3 else (x3 + 1) : Int32)), some (.int (x4 + 1)), some (.int s0), o6]) (pt_118_108 w) rfl rfl rfl ?_
      refine ev_g (pt_118_111 w) ?_
      exact (h1 c1)
    refine ev_zlt (pc' := 100) (pt_118_97 w) rfl (fun c2 => ?_) (fun c2 => ?_)
    · refine ev_il (pc' := 107) (pt_118_106 w) rfl rfl ?_
      exact j1 _ (if_pos c2).symm
    · refine ev_il (pc' := 101) (pt_118_100 w) rfl rfl ?_
      refine ev_k (pc' := 102) (pt_118_101 w) rfl ?_
      refine ev_b (pc' := 103) (pt_118_102 w) rfl ?_
      refine ev_g (pt_118_103 w) ?_
      exact j1 _ (if_neg c2).symm
  · refine ev_il (pc' := 61) (pt_118_60 w) rfl rfl ?_
    refine ev_il (pc' := 62) (pt_118_61 w) rfl rfl ?_
    refine ev_cne (pc' := 65) (pt_118_62 w) rfl (fun c3 => ?_) (fun c3 => ?_)
    · refine ev_il (pc' := 97) (pt_118_95 w) rfl rfl ?_
      have j2 : ∀ v3 : Int32, v3 = (if s0 < 0 then x3 else (x3 + 1) : Int32) → gE w 118 107 [some (.ref 148), some (.int x1), some (.int x2), some (.int x3), some (.int x4), some (.int s0), o6] [.int v3] M post := by
        intro v3 e4
        subst v3
        refine ev_is (pc' := 108) (loc1 := [some (.ref 148), some (.int x1), some (.int x2), some (.int (if s0 < 0 then x3 else (x3 + 1) : Int32)), some (.int x4), some (.int s0), o6]) (pt_118_107 w) rfl rfl ?_
        refine ev_inc (pc' := 111) (loc1 := [some (.ref 148), some (.int x1), some (.int x2), some (.int (if s0 < 0 then x3 else (x3 + 1) : Int32)), some (.int (x4 + 1)), some (.int s0), o6]) (pt_118_108 w) rfl rfl rfl ?_
        refine ev_g (pt_118_111 w) ?_
        exact (h2 c1 c3)
      refine ev_zlt (pc' := 100) (pt_118_97 w) rfl (fun c4 => ?_) (fun c4 => ?_)
      · refine ev_il (pc' := 107) (pt_118_106 w) rfl rfl ?_
        exact j2 _ (if_pos c4).symm
      · refine ev_il (pc' := 101) (pt_118_100 w) rfl rfl ?_
        refine ev_k (pc' := 102) (pt_118_101 w) rfl ?_
        refine ev_b (pc' := 103) (pt_118_102 w) rfl ?_
        refine ev_g (pt_118_103 w) ?_
        exact j2 _ (if_neg c4).symm
    · refine ev_il (pc' := 66) (pt_118_65 w) rfl rfl ?_
      have j3 : ∀ v5 : Int32, v5 = (if x2 = 0 then 1 else (if x2 = 1 then x4 else (if x2 = (iN 2) then s0 else (-1) : Int32) : Int32) : Int32) → gE w 118 94 [some (.ref 148), some (.int x1), some (.int x2), some (.int x3), some (.int x4), some (.int s0), o6] [.int v5] M post := by
        intro v5 e6
        subst v5
        exact ev_ri1 (pt_118_94 w) (h3 c1 c3)
      refine ev_zne (pc' := 69) (pt_118_66 w) rfl (fun c5 => ?_) (fun c5 => ?_)
      · refine ev_il (pc' := 74) (pt_118_73 w) rfl rfl ?_
        refine ev_k (pc' := 75) (pt_118_74 w) rfl ?_
        refine ev_cne (pc' := 78) (pt_118_75 w) rfl (fun c6 => ?_) (fun c6 => ?_)
        · refine ev_il (pc' := 84) (pt_118_83 w) rfl rfl ?_
          refine ev_k (pc' := 85) (pt_118_84 w) rfl ?_
          refine ev_cne (pc' := 88) (pt_118_85 w) rfl (fun c7 => ?_) (fun c7 => ?_)
          · refine ev_k (pc' := 94) (pt_118_93 w) rfl ?_
            exact j3 _ (((if_neg c5).trans (if_neg c6)).trans (if_neg c7)).symm
          · refine ev_il (pc' := 90) (pt_118_88 w) rfl rfl ?_
            refine ev_g (pt_118_90 w) ?_
            exact j3 _ (((if_neg c5).trans (if_neg c6)).trans (if_pos c7)).symm
        · refine ev_il (pc' := 80) (pt_118_78 w) rfl rfl ?_
          refine ev_g (pt_118_80 w) ?_
          exact j3 _ ((if_neg c5).trans (if_pos c6)).symm
      · refine ev_k (pc' := 70) (pt_118_69 w) rfl ?_
        refine ev_g (pt_118_70 w) ?_
        exact j3 _ (if_pos c5).symm

theorem wk_118_117 {w : qS} {M : qM} {x1 x2 x3 x4 : Int32} {o5 o6 : Option Value} {post : qR}
    (h1 : (c1 : ¬ x4 < (M 149 0)) → post (some (.int (-1))) M)
    (h2 : (c1 : x4 < (M 149 0)) → gE w 118 134 [some (.ref 148), some (.int x1), some (.int x2), some (.int x3), some (.int x4), some (.int (x4 + 1)), o6] [] M post) :
    gE w 118 117 [some (.ref 148), some (.int x1), some (.int x2), some (.int x3), some (.int x4), o5, o6] [] M post := by
  refine ev_il (pc' := 119) (pt_118_117 w) rfl rfl ?_
  refine ev_al (pc' := 120) (pt_118_119 w) rfl rfl ?_
  refine ev_getr (pc' := 123) (pt_118_120 w) rfl rfl rfl ?_
  refine ev_k (pc' := 124) (pt_118_123 w) rfl ?_
  refine ev_iac (j := 0) (pc' := 125) (pt_118_124 w) rfl rfl (vp_lit (by decide +kernel)) (by decide +kernel) ?_
  refine ev_cge (pc' := 128) (pt_118_125 w) rfl (fun c1 => ?_) (fun c1 => ?_)
  · refine ev_k (pc' := 222) (pt_118_221 w) rfl ?_
    exact ev_ri1 (pt_118_222 w) (h1 c1)
  · refine ev_il (pc' := 130) (pt_118_128 w) rfl rfl ?_
    refine ev_k (pc' := 131) (pt_118_130 w) rfl ?_
    refine ev_b (pc' := 132) (pt_118_131 w) rfl ?_
    refine ev_is (pc' := 134) (loc1 := [some (.ref 148), some (.int x1), some (.int x2), some (.int x3), some (.int x4), some (.int (x4 + 1)), o6]) (pt_118_132 w) rfl rfl ?_
    exact (h2 c1)

theorem wk_118_134 {w : qS} {M : qM} {x1 x2 x3 x4 x5 : Int32} {o6 : Option Value} {r1 : Int32} {post : qR}
    (h1 : (c1 : ¬ x5 < (M 149 0)) → gE w 118 117 [some (.ref 148), some (.int x1), some (.int x2), some (.int x3), some (.int (x4 + 1)), some (.int x5), o6] [] M post)
    (k2 : (c1 : x5 < (M 149 0)) → gE w 117 0 [some (.ref 148), some (.int x4), some (.int x5), none] [] M (qv1 M r1))
    (h3 : (c1 : x5 < (M 149 0)) → (c2 : r1 < 0) → gE w 118 134 [some (.ref 148), some (.int x1), some (.int x2), some (.int (if r1 < 0 then x3 else (x3 + 1) : Int32)), some (.int x4), some (.int (x5 + 1)), some (.int r1)] [] M post)
    (h4 : (c1 : x5 < (M 149 0)) → (c2 : ¬ r1 < 0) → (c4 : ¬ x3 = x1) → gE w 118 134 [some (.ref 148), some (.int x1), some (.int x2), some (.int (if r1 < 0 then x3 else (x3 + 1) : Int32)), some (.int x4), some (.int (x5 + 1)), some (.int r1)] [] M post)
    (h5 : (c1 : x5 < (M 149 0)) → (c2 : ¬ r1 < 0) → (c4 : x3 = x1) → post (some (.int (if x2 = 0 then (iN 2) else (if x2 = 1 then x4 else (if x2 = (iN 2) then x5 else r1 : Int32) : Int32) : Int32))) M) :
    gE w 118 134 [some (.ref 148), some (.int x1), some (.int x2), some (.int x3), some (.int x4), some (.int x5), o6] [] M post := by
  refine ev_il (pc' := 136) (pt_118_134 w) rfl rfl ?_
  refine ev_al (pc' := 137) (pt_118_136 w) rfl rfl ?_
  refine ev_getr (pc' := 140) (pt_118_137 w) rfl rfl rfl ?_
  refine ev_k (pc' := 141) (pt_118_140 w) rfl ?_
  refine ev_iac (j := 0) (pc' := 142) (pt_118_141 w) rfl rfl (vp_lit (by decide +kernel)) (by decide +kernel) ?_
  refine ev_cge (pc' := 145) (pt_118_142 w) rfl (fun c1 => ?_) (fun c1 => ?_)
  · refine ev_inc (pc' := 218) (loc1 := [some (.ref 148), some (.int x1), some (.int x2), some (.int x3), some (.int (x4 + 1)), some (.int x5), o6]) (pt_118_215 w) rfl rfl rfl ?_
    refine ev_g (pt_118_218 w) ?_
    exact (h1 c1)
  · refine ev_al (pc' := 146) (pt_118_145 w) rfl rfl ?_
    refine ev_il (pc' := 148) (pt_118_146 w) rfl rfl ?_
    refine ev_il (pc' := 150) (pt_118_148 w) rfl rfl ?_
    refine ev_cal1 (pc' := 153) (pt_118_150 w) (vs := [.ref 148, .int x4, .int x5]) (rest := []) (en := [some (.ref 148), some (.int x4), some (.int x5), none]) rfl rfl rfl rfl rfl rfl rfl (k2 c1) ?_
    refine ev_is (pc' := 155) (loc1 := [some (.ref 148), some (.int x1), some (.int x2), some (.int x3), some (.int x4), some (.int x5), some (.int r1)]) (pt_118_153 w) rfl rfl ?_
    refine ev_il (pc' := 157) (pt_118_155 w) rfl rfl ?_
    refine ev_zlt (pc' := 160) (pt_118_157 w) rfl (fun c2 => ?_) (fun c2 => ?_)
    · refine ev_il (pc' := 198) (pt_118_196 w) rfl rfl ?_
      have j1 : ∀ v1 : Int32, v1 = (if r1 < 0 then x3 else (x3 + 1) : Int32) → gE w 118 208 [some (.ref 148), some (.int x1), some (.int x2), some (.int x3), some (.int x4), some (.int x5), some (.int r1)] [.int v1] M post := by
        intro v1 e2
        subst v1
        refine ev_is (pc' := 209) (loc1 := [some (.ref 148), some (.int x1), some (.int x2), some (.int (if r1 < 0 then x3 else (x3 + 1) : Int32)), some (.int x4), some (.int x5), some (.int r1)]) (pt_118_208 w) rfl rfl ?_
        refine ev_inc (pc' := 212) (loc1 := [some (.ref 148), some (.int x1), some (.int x2), some (.int (if r1 < 0 then x3 else (x3 + 1) : Int32)), some (.int x4), some (.int (x5 + 1)), some (.int r1)]) (pt_118_209 w) rfl rfl rfl ?_
        refine ev_g (pt_118_212 w) ?_
        exact (h3 c1 c2)
      refine ev_zlt (pc' := 201) (pt_118_198 w) rfl (fun c3 => ?_) (fun c3 => ?_)
      · refine ev_il (pc' := 208) (pt_118_207 w) rfl rfl ?_
        exact j1 _ (if_pos c3).symm
      · refine ev_il (pc' := 202) (pt_118_201 w) rfl rfl ?_
        refine ev_k (pc' := 203) (pt_118_202 w) rfl ?_
        refine ev_b (pc' := 204) (pt_118_203 w) rfl ?_
        refine ev_g (pt_118_204 w) ?_
        exact j1 _ (if_neg c3).symm
    · refine ev_il (pc' := 161) (pt_118_160 w) rfl rfl ?_
      refine ev_il (pc' := 162) (pt_118_161 w) rfl rfl ?_
      refine ev_cne (pc' := 165) (pt_118_162 w) rfl (fun c4 => ?_) (fun c4 => ?_)
      · refine ev_il (pc' := 198) (pt_118_196 w) rfl rfl ?_
        have j2 : ∀ v3 : Int32, v3 = (if r1 < 0 then x3 else (x3 + 1) : Int32) → gE w 118 208 [some (.ref 148), some (.int x1), some (.int x2), some (.int x3), some (.int x4), some (.int x5), some (.int r1)] [.int v3] M post := by
          intro v3 e4
          subst v3
          refine ev_is (pc' := 209) (loc1 := [some (.ref 148), some (.int x1), some (.int x2), some (.int (if r1 < 0 then x3 else (x3 + 1) : Int32)), some (.int x4), some (.int x5), some (.int r1)]) (pt_118_208 w) rfl rfl ?_
          refine ev_inc (pc' := 212) (loc1 := [some (.ref 148), some (.int x1), some (.int x2), some (.int (if r1 < 0 then x3 else (x3 + 1) : Int32)), some (.int x4), some (.int (x5 + 1)), some (.int r1)]) (pt_118_209 w) rfl rfl rfl ?_
          refine ev_g (pt_118_212 w) ?_
          exact (h4 c1 c2 c4)
        refine ev_zlt (pc' := 201) (pt_118_198 w) rfl (fun c5 => ?_) (fun c5 => ?_)
        · refine ev_il (pc' := 208) (pt_118_207 w) rfl rfl ?_
          exact j2 _ (if_pos c5).symm
        · refine ev_il (pc' := 202) (pt_118_201 w) rfl rfl ?_
          refine ev_k (pc' := 203) (pt_118_202 w) rfl ?_
          refine ev_b (pc' := 204) (pt_118_203 w) rfl ?_
          refine ev_g (pt_118_204 w) ?_
          exact j2 _ (if_neg c5).symm
      · refine ev_il (pc' := 166) (pt_118_165 w) rfl rfl ?_
        have j3 : ∀ v5 : Int32, v5 = (if x2 = 0 then (iN 2) else (if x2 = 1 then x4 else (if x2 = (iN 2) then x5 else r1 : Int32) : Int32) : Int32) → gE w 118 195 [some (.ref 148), some (.int x1), some (.int x2), some (.int x3), some (.int x4), some (.int x5), some (.int r1)] [.int v5] M post := by
          intro v5 e6
          subst v5
          exact ev_ri1 (pt_118_195 w) (h5 c1 c2 c4)
        refine ev_zne (pc' := 169) (pt_118_166 w) rfl (fun c6 => ?_) (fun c6 => ?_)
        · refine ev_il (pc' := 174) (pt_118_173 w) rfl rfl ?_
          refine ev_k (pc' := 175) (pt_118_174 w) rfl ?_
          refine ev_cne (pc' := 178) (pt_118_175 w) rfl (fun c7 => ?_) (fun c7 => ?_)
          · refine ev_il (pc' := 184) (pt_118_183 w) rfl rfl ?_
            refine ev_k (pc' := 185) (pt_118_184 w) rfl ?_
            refine ev_cne (pc' := 188) (pt_118_185 w) rfl (fun c8 => ?_) (fun c8 => ?_)
            · refine ev_il (pc' := 195) (pt_118_193 w) rfl rfl ?_
              exact j3 _ (((if_neg c6).trans (if_neg c7)).trans (if_neg c8)).symm
            · refine ev_il (pc' := 190) (pt_118_188 w) rfl rfl ?_
              refine ev_g (pt_118_190 w) ?_
              exact j3 _ (((if_neg c6).trans (if_neg c7)).trans (if_pos c8)).symm
          · refine ev_il (pc' := 180) (pt_118_178 w) rfl rfl ?_
            refine ev_g (pt_118_180 w) ?_
            exact j3 _ ((if_neg c6).trans (if_pos c7)).symm
        · refine ev_k (pc' := 170) (pt_118_169 w) rfl ?_
          refine ev_g (pt_118_170 w) ?_
          exact j3 _ (if_pos c6).symm

-- BoardDeskModel.plot(II)I
theorem wk_119_0 {w : qS} {M : qM} {x1 x2 : Int32} {post : qR}
    (h1 : (c1 : x1 < 0) → post (some (.int (-1))) M)
    (h2 : (c1 : ¬ x1 < 0) → (c2 : 1 < x1) → post (some (.int (-1))) M)
    (h3 : (c1 : ¬ x1 < 0) → (c2 : ¬ 1 < x1) → (c3 : ¬ x2 < 0) → gE w 119 23 [some (.ref 148), some (.int x1), some (.int x2), some (.int 0), some (.int ((iN 120) * x1)), none, none, none] [] M post)
    (h4 : (c1 : ¬ x1 < 0) → (c2 : ¬ 1 < x1) → (c3 : x2 < 0) → post (some (.int (-1))) M) :
    gE w 119 0 [some (.ref 148), some (.int x1), some (.int x2), none, none, none, none, none] [] M post := by
  refine ev_il (pc' := 1) (pt_119_0 w) rfl rfl ?_
  refine ev_zlt (pc' := 4) (pt_119_1 w) rfl (fun c1 => ?_) (fun c1 => ?_)
  · refine ev_k (pc' := 14) (pt_119_13 w) rfl ?_
    exact ev_ri1 (pt_119_14 w) (h1 c1)
  · refine ev_il (pc' := 5) (pt_119_4 w) rfl rfl ?_
    refine ev_k (pc' := 6) (pt_119_5 w) rfl ?_
    refine ev_cgt (pc' := 9) (pt_119_6 w) rfl (fun c2 => ?_) (fun c2 => ?_)
    · refine ev_k (pc' := 14) (pt_119_13 w) rfl ?_
      exact ev_ri1 (pt_119_14 w) (h2 c1 c2)
    · refine ev_il (pc' := 10) (pt_119_9 w) rfl rfl ?_
      refine ev_zge (pc' := 13) (pt_119_10 w) rfl (fun c3 => ?_) (fun c3 => ?_)
      · refine ev_k (pc' := 16) (pt_119_15 w) rfl ?_
        refine ev_is (pc' := 17) (loc1 := [some (.ref 148), some (.int x1), some (.int x2), some (.int 0), none, none, none, none]) (pt_119_16 w) rfl rfl ?_
        refine ev_k (pc' := 19) (pt_119_17 w) rfl ?_
        refine ev_il (pc' := 20) (pt_119_19 w) rfl rfl ?_
        refine ev_b (pc' := 21) (pt_119_20 w) rfl ?_
        refine ev_is (pc' := 23) (loc1 := [some (.ref 148), some (.int x1), some (.int x2), some (.int 0), some (.int ((iN 120) * x1)), none, none, none]) (pt_119_21 w) rfl rfl ?_
        exact (h3 c1 c2 c3)
      · refine ev_k (pc' := 14) (pt_119_13 w) rfl ?_
        exact ev_ri1 (pt_119_14 w) (h4 c1 c2 c3)

theorem wk_119_23 {w : qS} {M : qM} {x1 x2 x3 x4 : Int32} {o5 o6 o7 : Option Value} {post : qR}
    (h1 : (c1 : ¬ x4 < (((iN 120) * x1) + (iN 120))) → post (some (.int (if x2 = x3 then (iN 255) else (-1) : Int32))) M)
    (b2 : (c1 : x4 < (((iN 120) * x1) + (iN 120))) → vp_in x4 240)
    (h3 : (c1 : x4 < (((iN 120) * x1) + (iN 120))) → (c3 : (if (M 154 x4.toNatClampNeg) < 0 then 0 else (if (x4 - x4 / (iN 12) * (iN 12)) = 0 then 1 else (if (M 154 (x4 - 1).toNatClampNeg) = (M 154 x4.toNatClampNeg) then 0 else 1 : Int32) : Int32) : Int32) = 0) → gE w 119 23 [some (.ref 148), some (.int x1), some (.int x2), some (.int (if (if (M 154 x4.toNatClampNeg) < 0 then 0 else (if (x4 - x4 / (iN 12) * (iN 12)) = 0 then 1 else (if (M 154 (x4 - 1).toNatClampNeg) = (M 154 x4.toNatClampNeg) then 0 else 1 : Int32) : Int32) : Int32) = 0 then x3 else (x3 + (iN 4)) : Int32)), some (.int (x4 + 1)), some (.int (if (M 154 x4.toNatClampNeg) < 0 then 0 else (if (x4 - x4 / (iN 12) * (iN 12)) = 0 then 1 else (if (M 154 (x4 - 1).toNatClampNeg) = (M 154 x4.toNatClampNeg) then 0 else 1 : Int32) : Int32) : Int32)), o6, o7] [] M post)
    (h4 : (c1 : x4 < (((iN 120) * x1) + (iN 120))) → (c3 : ¬ (if (M 154 x4.toNatClampNeg) < 0 then 0 else (if (x4 - x4 / (iN 12) * (iN 12)) = 0 then 1 else (if (M 154 (x4 - 1).toNatClampNeg) = (M 154 x4.toNatClampNeg) then 0 else 1 : Int32) : Int32) : Int32) = 0) → (c5 : ¬ x2 < (x3 + (iN 4))) → gE w 119 23 [some (.ref 148), some (.int x1), some (.int x2), some (.int (if (if (M 154 x4.toNatClampNeg) < 0 then 0 else (if (x4 - x4 / (iN 12) * (iN 12)) = 0 then 1 else (if (M 154 (x4 - 1).toNatClampNeg) = (M 154 x4.toNatClampNeg) then 0 else 1 : Int32) : Int32) : Int32) = 0 then x3 else (x3 + (iN 4)) : Int32)), some (.int (x4 + 1)), some (.int (if (M 154 x4.toNatClampNeg) < 0 then 0 else (if (x4 - x4 / (iN 12) * (iN 12)) = 0 then 1 else (if (M 154 (x4 - 1).toNatClampNeg) = (M 154 x4.toNatClampNeg) then 0 else 1 : Int32) : Int32) : Int32)), o6, o7] [] M post)
    (h5 : (c1 : x4 < (((iN 120) * x1) + (iN 120))) → (c3 : ¬ (if (M 154 x4.toNatClampNeg) < 0 then 0 else (if (x4 - x4 / (iN 12) * (iN 12)) = 0 then 1 else (if (M 154 (x4 - 1).toNatClampNeg) = (M 154 x4.toNatClampNeg) then 0 else 1 : Int32) : Int32) : Int32) = 0) → (c5 : x2 < (x3 + (iN 4))) → gE w 119 95 [some (.ref 148), some (.int x1), some (.int x2), some (.int x3), some (.int x4), some (.int (if (M 154 x4.toNatClampNeg) < 0 then 0 else (if (x4 - x4 / (iN 12) * (iN 12)) = 0 then 1 else (if (M 154 (x4 - 1).toNatClampNeg) = (M 154 x4.toNatClampNeg) then 0 else 1 : Int32) : Int32) : Int32)), some (.int x4), o7] [] M post)
    (b6 : (c1 : x4 < (((iN 120) * x1) + (iN 120))) → (c7 : ¬ (M 154 x4.toNatClampNeg) < 0) → (c8 : ¬ (x4 - x4 / (iN 12) * (iN 12)) = 0) → vp_in (x4 - 1) 240) :
    gE w 119 23 [some (.ref 148), some (.int x1), some (.int x2), some (.int x3), some (.int x4), o5, o6, o7] [] M post := by
  refine ev_il (pc' := 25) (pt_119_23 w) rfl rfl ?_
  refine ev_k (pc' := 27) (pt_119_25 w) rfl ?_
  refine ev_il (pc' := 28) (pt_119_27 w) rfl rfl ?_
  refine ev_b (pc' := 29) (pt_119_28 w) rfl ?_
  refine ev_k (pc' := 31) (pt_119_29 w) rfl ?_
  refine ev_b (pc' := 32) (pt_119_31 w) rfl ?_
  refine ev_cge (pc' := 35) (pt_119_32 w) rfl (fun c1 => ?_) (fun c1 => ?_)
  · refine ev_il (pc' := 211) (pt_119_210 w) rfl rfl ?_
    refine ev_il (pc' := 212) (pt_119_211 w) rfl rfl ?_
    have j1 : ∀ v1 : Int32, v1 = (if x2 = x3 then (iN 255) else (-1) : Int32) → gE w 119 222 [some (.ref 148), some (.int x1), some (.int x2), some (.int x3), some (.int x4), o5, o6, o7] [.int v1] M post := by
      intro v1 e2
      subst v1
      exact ev_ri1 (pt_119_222 w) (h1 c1)
    refine ev_cne (pc' := 215) (pt_119_212 w) rfl (fun c2 => ?_) (fun c2 => ?_)
    · refine ev_k (pc' := 222) (pt_119_221 w) rfl ?_
      exact j1 _ (if_neg c2).symm
    · refine ev_k (pc' := 218) (pt_119_215 w) rfl ?_
      refine ev_g (pt_119_218 w) ?_
      exact j1 _ (if_pos c2).symm
  · refine ev_al (pc' := 36) (pt_119_35 w) rfl rfl ?_
    refine ev_getr (pc' := 39) (pt_119_36 w) rfl rfl rfl ?_
    refine ev_il (pc' := 41) (pt_119_39 w) rfl rfl ?_
    refine ev_ia (pc' := 42) (pt_119_41 w) rfl rfl (b2 c1) ?_
    have j2 : ∀ v3 : Int32, v3 = (if (M 154 x4.toNatClampNeg) < 0 then 0 else (if (x4 - x4 / (iN 12) * (iN 12)) = 0 then 1 else (if (M 154 (x4 - 1).toNatClampNeg) = (M 154 x4.toNatClampNeg) then 0 else 1 : Int32) : Int32) : Int32) → gE w 119 77 [some (.ref 148), some (.int x1), some (.int x2), some (.int x3), some (.int x4), o5, o6, o7] [.int v3] M post := by
      intro v3 e4
      subst v3
      refine ev_is (pc' := 79) (loc1 := [some (.ref 148), some (.int x1), some (.int x2), some (.int x3), some (.int x4), some (.int (if (M 154 x4.toNatClampNeg) < 0 then 0 else (if (x4 - x4 / (iN 12) * (iN 12)) = 0 then 1 else (if (M 154 (x4 - 1).toNatClampNeg) = (M 154 x4.toNatClampNeg) then 0 else 1 : Int32) : Int32) : Int32)), o6, o7]) (pt_119_77 w) rfl rfl ?_
      refine ev_il (pc' := 81) (pt_119_79 w) rfl rfl ?_
      refine ev_zeq (pc' := 84) (pt_119_81 w) rfl (fun c3 => ?_) (fun c3 => ?_)
      · refine ev_il (pc' := 193) (pt_119_191 w) rfl rfl ?_
        have j3 : ∀ v5 : Int32, v5 = (if (if (M 154 x4.toNatClampNeg) < 0 then 0 else (if (x4 - x4 / (iN 12) * (iN 12)) = 0 then 1 else (if (M 154 (x4 - 1).toNatClampNeg) = (M 154 x4.toNatClampNeg) then 0 else 1 : Int32) : Int32) : Int32) = 0 then x3 else (x3 + (iN 4)) : Int32) → gE w 119 203 [some (.ref 148), some (.int x1), some (.int x2), some (.int x3), some (.int x4), some (.int (if (M 154 x4.toNatClampNeg) < 0 then 0 else (if (x4 - x4 / (iN 12) * (iN 12)) = 0 then 1 else (if (M 154 (x4 - 1).toNatClampNeg) = (M 154 x4.toNatClampNeg) then 0 else 1 : Int32) : Int32) : Int32)), o6, o7] [.int v5] M post := by
          intro v5 e6
          subst v5
          refine ev_is (pc' := 204) (loc1 := [some (.ref 148), some (.int x1), some (.int x2), some (.int (if (if (M 154 x4.toNatClampNeg) < 0 then 0 else (if (x4 - x4 / (iN 12) * (iN 12)) = 0 then 1 else (if (M 154 (x4 - 1).toNatClampNeg) = (M 154 x4.toNatClampNeg) then 0 else 1 : Int32) : Int32) : Int32) = 0 then x3 else (x3 + (iN 4)) : Int32)), some (.int x4), some (.int (if (M 154 x4.toNatClampNeg) < 0 then 0 else (if (x4 - x4 / (iN 12) * (iN 12)) = 0 then 1 else (if (M 154 (x4 - 1).toNatClampNeg) = (M 154 x4.toNatClampNeg) then 0 else 1 : Int32) : Int32) : Int32)), o6, o7]) (pt_119_203 w) rfl rfl ?_
          refine ev_inc (pc' := 207) (loc1 := [some (.ref 148), some (.int x1), some (.int x2), some (.int (if (if (M 154 x4.toNatClampNeg) < 0 then 0 else (if (x4 - x4 / (iN 12) * (iN 12)) = 0 then 1 else (if (M 154 (x4 - 1).toNatClampNeg) = (M 154 x4.toNatClampNeg) then 0 else 1 : Int32) : Int32) : Int32) = 0 then x3 else (x3 + (iN 4)) : Int32)), some (.int (x4 + 1)), some (.int (if (M 154 x4.toNatClampNeg) < 0 then 0 else (if (x4 - x4 / (iN 12) * (iN 12)) = 0 then 1 else (if (M 154 (x4 - 1).toNatClampNeg) = (M 154 x4.toNatClampNeg) then 0 else 1 : Int32) : Int32) : Int32)), o6, o7]) (pt_119_204 w) rfl rfl rfl ?_
          refine ev_g (pt_119_207 w) ?_
          exact (h3 c1 c3)
        refine ev_zeq (pc' := 196) (pt_119_193 w) rfl (fun c4 => ?_) (fun c4 => ?_)
        · refine ev_il (pc' := 203) (pt_119_202 w) rfl rfl ?_
          exact j3 _ (if_pos c4).symm
        · refine ev_il (pc' := 197) (pt_119_196 w) rfl rfl ?_
          refine ev_k (pc' := 198) (pt_119_197 w) rfl ?_
          refine ev_b (pc' := 199) (pt_119_198 w) rfl ?_
          refine ev_g (pt_119_199 w) ?_
          exact j3 _ (if_neg c4).symm
      · refine ev_il (pc' := 85) (pt_119_84 w) rfl rfl ?_
        refine ev_il (pc' := 86) (pt_119_85 w) rfl rfl ?_
        refine ev_k (pc' := 87) (pt_119_86 w) rfl ?_
        refine ev_b (pc' := 88) (pt_119_87 w) rfl ?_
        refine ev_cge (pc' := 91) (pt_119_88 w) rfl (fun c5 => ?_) (fun c5 => ?_)
        · refine ev_il (pc' := 193) (pt_119_191 w) rfl rfl ?_
          have j4 : ∀ v7 : Int32, v7 = (if (if (M 154 x4.toNatClampNeg) < 0 then 0 else (if (x4 - x4 / (iN 12) * (iN 12)) = 0 then 1 else (if (M 154 (x4 - 1).toNatClampNeg) = (M 154 x4.toNatClampNeg) then 0 else 1 : Int32) : Int32) : Int32) = 0 then x3 else (x3 + (iN 4)) : Int32) → gE w 119 203 [some (.ref 148), some (.int x1), some (.int x2), some (.int x3), some (.int x4), some (.int (if (M 154 x4.toNatClampNeg) < 0 then 0 else (if (x4 - x4 / (iN 12) * (iN 12)) = 0 then 1 else (if (M 154 (x4 - 1).toNatClampNeg) = (M 154 x4.toNatClampNeg) then 0 else 1 : Int32) : Int32) : Int32)), o6, o7] [.int v7] M post := by
            intro v7 e8
            subst v7
            refine ev_is (pc' := 204) (loc1 := [some (.ref 148), some (.int x1), some (.int x2), some (.int (if (if (M 154 x4.toNatClampNeg) < 0 then 0 else (if (x4 - x4 / (iN 12) * (iN 12)) = 0 then 1 else (if (M 154 (x4 - 1).toNatClampNeg) = (M 154 x4.toNatClampNeg) then 0 else 1 : Int32) : Int32) : Int32) = 0 then x3 else (x3 + (iN 4)) : Int32)), some (.int x4), some (.int (if (M 154 x4.toNatClampNeg) < 0 then 0 else (if (x4 - x4 / (iN 12) * (iN 12)) = 0 then 1 else (if (M 154 (x4 - 1).toNatClampNeg) = (M 154 x4.toNatClampNeg) then 0 else 1 : Int32) : Int32) : Int32)), o6, o7]) (pt_119_203 w) rfl rfl ?_
            refine ev_inc (pc' := 207) (loc1 := [some (.ref 148), some (.int x1), some (.int x2), some (.int (if (if (M 154 x4.toNatClampNeg) < 0 then 0 else (if (x4 - x4 / (iN 12) * (iN 12)) = 0 then 1 else (if (M 154 (x4 - 1).toNatClampNeg) = (M 154 x4.toNatClampNeg) then 0 else 1 : Int32) : Int32) : Int32) = 0 then x3 else (x3 + (iN 4)) : Int32)), some (.int (x4 + 1)), some (.int (if (M 154 x4.toNatClampNeg) < 0 then 0 else (if (x4 - x4 / (iN 12) * (iN 12)) = 0 then 1 else (if (M 154 (x4 - 1).toNatClampNeg) = (M 154 x4.toNatClampNeg) then 0 else 1 : Int32) : Int32) : Int32)), o6, o7]) (pt_119_204 w) rfl rfl rfl ?_
            refine ev_g (pt_119_207 w) ?_
            exact (h4 c1 c3 c5)
          refine ev_zeq (pc' := 196) (pt_119_193 w) rfl (fun c6 => ?_) (fun c6 => ?_)
          · refine ev_il (pc' := 203) (pt_119_202 w) rfl rfl ?_
            exact j4 _ (if_pos c6).symm
          · refine ev_il (pc' := 197) (pt_119_196 w) rfl rfl ?_
            refine ev_k (pc' := 198) (pt_119_197 w) rfl ?_
            refine ev_b (pc' := 199) (pt_119_198 w) rfl ?_
            refine ev_g (pt_119_199 w) ?_
            exact j4 _ (if_neg c6).symm
        · refine ev_il (pc' := 93) (pt_119_91 w) rfl rfl ?_
          refine ev_is (pc' := 95) (loc1 := [some (.ref 148), some (.int x1), some (.int x2), some (.int x3), some (.int x4), some (.int (if (M 154 x4.toNatClampNeg) < 0 then 0 else (if (x4 - x4 / (iN 12) * (iN 12)) = 0 then 1 else (if (M 154 (x4 - 1).toNatClampNeg) = (M 154 x4.toNatClampNeg) then 0 else 1 : Int32) : Int32) : Int32)), some (.int x4), o7]) (pt_119_93 w) rfl rfl ?_
          exact (h5 c1 c3 c5)
    refine ev_zlt (pc' := 45) (pt_119_42 w) rfl (fun c7 => ?_) (fun c7 => ?_)
    · refine ev_k (pc' := 77) (pt_119_76 w) rfl ?_
      exact j2 _ (if_pos c7).symm
    · refine ev_il (pc' := 47) (pt_119_45 w) rfl rfl ?_
      refine ev_k (pc' := 49) (pt_119_47 w) rfl ?_
      refine ev_d (pc' := 50) (pt_119_49 w) rfl (by decide +kernel) ?_
      refine ev_zeq (pc' := 53) (pt_119_50 w) rfl (fun c8 => ?_) (fun c8 => ?_)
      · refine ev_k (pc' := 73) (pt_119_72 w) rfl ?_
        refine ev_g (pt_119_73 w) ?_
        exact j2 _ ((if_neg c7).trans (if_pos c8)).symm
      · refine ev_al (pc' := 54) (pt_119_53 w) rfl rfl ?_
        refine ev_getr (pc' := 57) (pt_119_54 w) rfl rfl rfl ?_
        refine ev_il (pc' := 59) (pt_119_57 w) rfl rfl ?_
        refine ev_k (pc' := 60) (pt_119_59 w) rfl ?_
        refine ev_b (pc' := 61) (pt_119_60 w) rfl ?_
        refine ev_ia (pc' := 62) (pt_119_61 w) rfl rfl (b6 c1 c7 c8) ?_
        refine ev_al (pc' := 63) (pt_119_62 w) rfl rfl ?_
        refine ev_getr (pc' := 66) (pt_119_63 w) rfl rfl rfl ?_
        refine ev_il (pc' := 68) (pt_119_66 w) rfl rfl ?_
        refine ev_ia (pc' := 69) (pt_119_68 w) rfl rfl (b2 c1) ?_
        refine ev_ceq (pc' := 72) (pt_119_69 w) rfl (fun c9 => ?_) (fun c9 => ?_)
        · refine ev_k (pc' := 77) (pt_119_76 w) rfl ?_
          exact j2 _ (((if_neg c7).trans (if_neg c8)).trans (if_pos c9)).symm
        · refine ev_k (pc' := 73) (pt_119_72 w) rfl ?_
          refine ev_g (pt_119_73 w) ?_
          exact j2 _ (((if_neg c7).trans (if_neg c8)).trans (if_neg c9)).symm

theorem wk_119_95 {w : qS} {M : qM} {x2 x3 x4 x6 : Int32} {o1 o5 o7 : Option Value} {post : qR}
    (h1 : (c1 : ¬ (x6 - x6 / (iN 12) * (iN 12)) < (iN 11)) → post (some (.int (if (x2 - x3) = 0 then ((x4 - x4 / (iN 120) * (iN 120)) / (iN 12)) else (if (x2 - x3) = 1 then (x4 - x4 / (iN 12) * (iN 12)) else (if (x2 - x3) = (iN 2) then ((x6 - x4) + 1) else ((M 154 x4.toNatClampNeg) + 1) : Int32) : Int32) : Int32))) M)
    (b2 : (c1 : ¬ (x6 - x6 / (iN 12) * (iN 12)) < (iN 11)) → (c2 : ¬ (x2 - x3) = 0) → (c3 : ¬ (x2 - x3) = 1) → (c4 : ¬ (x2 - x3) = (iN 2)) → vp_in x4 240)
    (b3 : (c1 : (x6 - x6 / (iN 12) * (iN 12)) < (iN 11)) → vp_in (x6 + 1) 240)
    (b4 : (c1 : (x6 - x6 / (iN 12) * (iN 12)) < (iN 11)) → vp_in x4 240)
    (h5 : (c1 : (x6 - x6 / (iN 12) * (iN 12)) < (iN 11)) → (c5 : ¬ (M 154 (x6 + 1).toNatClampNeg) = (M 154 x4.toNatClampNeg)) → post (some (.int (if (x2 - x3) = 0 then ((x4 - x4 / (iN 120) * (iN 120)) / (iN 12)) else (if (x2 - x3) = 1 then (x4 - x4 / (iN 12) * (iN 12)) else (if (x2 - x3) = (iN 2) then ((x6 - x4) + 1) else ((M 154 x4.toNatClampNeg) + 1) : Int32) : Int32) : Int32))) M)
    (h6 : (c1 : (x6 - x6 / (iN 12) * (iN 12)) < (iN 11)) → (c5 : (M 154 (x6 + 1).toNatClampNeg) = (M 154 x4.toNatClampNeg)) → gE w 119 95 [some (.ref 148), o1, some (.int x2), some (.int x3), some (.int x4), o5, some (.int (x6 + 1)), o7] [] M post) :
    gE w 119 95 [some (.ref 148), o1, some (.int x2), some (.int x3), some (.int x4), o5, some (.int x6), o7] [] M post := by
  refine ev_il (pc' := 97) (pt_119_95 w) rfl rfl ?_
  refine ev_k (pc' := 99) (pt_119_97 w) rfl ?_
  refine ev_d (pc' := 100) (pt_119_99 w) rfl (by decide +kernel) ?_
  refine ev_k (pc' := 102) (pt_119_100 w) rfl ?_
  refine ev_cge (pc' := 105) (pt_119_102 w) rfl (fun c1 => ?_) (fun c1 => ?_)
  · refine ev_il (pc' := 131) (pt_119_130 w) rfl rfl ?_
    refine ev_il (pc' := 132) (pt_119_131 w) rfl rfl ?_
    refine ev_b (pc' := 133) (pt_119_132 w) rfl ?_
    refine ev_is (pc' := 135) (loc1 := [some (.ref 148), o1, some (.int x2), some (.int x3), some (.int x4), o5, some (.int x6), some (.int (x2 - x3))]) (pt_119_133 w) rfl rfl ?_
    refine ev_il (pc' := 137) (pt_119_135 w) rfl rfl ?_
    have j1 : ∀ v1 : Int32, v1 = (if (x2 - x3) = 0 then ((x4 - x4 / (iN 120) * (iN 120)) / (iN 12)) else (if (x2 - x3) = 1 then (x4 - x4 / (iN 12) * (iN 12)) else (if (x2 - x3) = (iN 2) then ((x6 - x4) + 1) else ((M 154 x4.toNatClampNeg) + 1) : Int32) : Int32) : Int32) → gE w 119 190 [some (.ref 148), o1, some (.int x2), some (.int x3), some (.int x4), o5, some (.int x6), some (.int (x2 - x3))] [.int v1] M post := by
      intro v1 e2
      subst v1
      exact ev_ri1 (pt_119_190 w) (h1 c1)
    refine ev_zne (pc' := 140) (pt_119_137 w) rfl (fun c2 => ?_) (fun c2 => ?_)
    · refine ev_il (pc' := 153) (pt_119_151 w) rfl rfl ?_
      refine ev_k (pc' := 154) (pt_119_153 w) rfl ?_
      refine ev_cne (pc' := 157) (pt_119_154 w) rfl (fun c3 => ?_) (fun c3 => ?_)
      · refine ev_il (pc' := 167) (pt_119_165 w) rfl rfl ?_
        refine ev_k (pc' := 168) (pt_119_167 w) rfl ?_
        refine ev_cne (pc' := 171) (pt_119_168 w) rfl (fun c4 => ?_) (fun c4 => ?_)
        · refine ev_al (pc' := 182) (pt_119_181 w) rfl rfl ?_
          refine ev_getr (pc' := 185) (pt_119_182 w) rfl rfl rfl ?_
          refine ev_il (pc' := 187) (pt_119_185 w) rfl rfl ?_
          refine ev_ia (pc' := 188) (pt_119_187 w) rfl rfl (b2 c1 c2 c3 c4) ?_
          refine ev_k (pc' := 189) (pt_119_188 w) rfl ?_
          refine ev_b (pc' := 190) (pt_119_189 w) rfl ?_
          exact j1 _ (((if_neg c2).trans (if_neg c3)).trans (if_neg c4)).symm
        · refine ev_il (pc' := 173) (pt_119_171 w) rfl rfl ?_
          refine ev_il (pc' := 175) (pt_119_173 w) rfl rfl ?_
          refine ev_b (pc' := 176) (pt_119_175 w) rfl ?_
          refine ev_k (pc' := 177) (pt_119_176 w) rfl ?_
          refine ev_b (pc' := 178) (pt_119_177 w) rfl ?_
          refine ev_g (pt_119_178 w) ?_
          exact j1 _ (((if_neg c2).trans (if_neg c3)).trans (if_pos c4)).symm
      · refine ev_il (pc' := 159) (pt_119_157 w) rfl rfl ?_
        refine ev_k (pc' := 161) (pt_119_159 w) rfl ?_
        refine ev_d (pc' := 162) (pt_119_161 w) rfl (by decide +kernel) ?_
        refine ev_g (pt_119_162 w) ?_
        exact j1 _ ((if_neg c2).trans (if_pos c3)).symm
    · refine ev_il (pc' := 142) (pt_119_140 w) rfl rfl ?_
      refine ev_k (pc' := 144) (pt_119_142 w) rfl ?_
      refine ev_d (pc' := 145) (pt_119_144 w) rfl (by decide +kernel) ?_
      refine ev_k (pc' := 147) (pt_119_145 w) rfl ?_
      refine ev_d (pc' := 148) (pt_119_147 w) rfl (by decide +kernel) ?_
      refine ev_g (pt_119_148 w) ?_
      exact j1 _ (if_pos c2).symm
  · refine ev_al (pc' := 106) (pt_119_105 w) rfl rfl ?_
    refine ev_getr (pc' := 109) (pt_119_106 w) rfl rfl rfl ?_
    refine ev_il (pc' := 111) (pt_119_109 w) rfl rfl ?_
    refine ev_k (pc' := 112) (pt_119_111 w) rfl ?_
    refine ev_b (pc' := 113) (pt_119_112 w) rfl ?_
    refine ev_ia (pc' := 114) (pt_119_113 w) rfl rfl (b3 c1) ?_
    refine ev_al (pc' := 115) (pt_119_114 w) rfl rfl ?_
    refine ev_getr (pc' := 118) (pt_119_115 w) rfl rfl rfl ?_
    refine ev_il (pc' := 120) (pt_119_118 w) rfl rfl ?_
    refine ev_ia (pc' := 121) (pt_119_120 w) rfl rfl (b4 c1) ?_
    refine ev_cne (pc' := 124) (pt_119_121 w) rfl (fun c5 => ?_) (fun c5 => ?_)
    · refine ev_il (pc' := 131) (pt_119_130 w) rfl rfl ?_
      refine ev_il (pc' := 132) (pt_119_131 w) rfl rfl ?_
      refine ev_b (pc' := 133) (pt_119_132 w) rfl ?_
      refine ev_is (pc' := 135) (loc1 := [some (.ref 148), o1, some (.int x2), some (.int x3), some (.int x4), o5, some (.int x6), some (.int (x2 - x3))]) (pt_119_133 w) rfl rfl ?_
      refine ev_il (pc' := 137) (pt_119_135 w) rfl rfl ?_
      have j2 : ∀ v3 : Int32, v3 = (if (x2 - x3) = 0 then ((x4 - x4 / (iN 120) * (iN 120)) / (iN 12)) else (if (x2 - x3) = 1 then (x4 - x4 / (iN 12) * (iN 12)) else (if (x2 - x3) = (iN 2) then ((x6 - x4) + 1) else ((M 154 x4.toNatClampNeg) + 1) : Int32) : Int32) : Int32) → gE w 119 190 [some (.ref 148), o1, some (.int x2), some (.int x3), some (.int x4), o5, some (.int x6), some (.int (x2 - x3))] [.int v3] M post := by
        intro v3 e4
        subst v3
        exact ev_ri1 (pt_119_190 w) (h5 c1 c5)
      refine ev_zne (pc' := 140) (pt_119_137 w) rfl (fun c6 => ?_) (fun c6 => ?_)
      · refine ev_il (pc' := 153) (pt_119_151 w) rfl rfl ?_
        refine ev_k (pc' := 154) (pt_119_153 w) rfl ?_
        refine ev_cne (pc' := 157) (pt_119_154 w) rfl (fun c7 => ?_) (fun c7 => ?_)
        · refine ev_il (pc' := 167) (pt_119_165 w) rfl rfl ?_
          refine ev_k (pc' := 168) (pt_119_167 w) rfl ?_
          refine ev_cne (pc' := 171) (pt_119_168 w) rfl (fun c8 => ?_) (fun c8 => ?_)
          · refine ev_al (pc' := 182) (pt_119_181 w) rfl rfl ?_
            refine ev_getr (pc' := 185) (pt_119_182 w) rfl rfl rfl ?_
            refine ev_il (pc' := 187) (pt_119_185 w) rfl rfl ?_
            refine ev_ia (pc' := 188) (pt_119_187 w) rfl rfl (b4 c1) ?_
            refine ev_k (pc' := 189) (pt_119_188 w) rfl ?_
            refine ev_b (pc' := 190) (pt_119_189 w) rfl ?_
            exact j2 _ (((if_neg c6).trans (if_neg c7)).trans (if_neg c8)).symm
          · refine ev_il (pc' := 173) (pt_119_171 w) rfl rfl ?_
            refine ev_il (pc' := 175) (pt_119_173 w) rfl rfl ?_
            refine ev_b (pc' := 176) (pt_119_175 w) rfl ?_
            refine ev_k (pc' := 177) (pt_119_176 w) rfl ?_
            refine ev_b (pc' := 178) (pt_119_177 w) rfl ?_
            refine ev_g (pt_119_178 w) ?_
            exact j2 _ (((if_neg c6).trans (if_neg c7)).trans (if_pos c8)).symm
        · refine ev_il (pc' := 159) (pt_119_157 w) rfl rfl ?_
          refine ev_k (pc' := 161) (pt_119_159 w) rfl ?_
          refine ev_d (pc' := 162) (pt_119_161 w) rfl (by decide +kernel) ?_
          refine ev_g (pt_119_162 w) ?_
          exact j2 _ ((if_neg c6).trans (if_pos c7)).symm
      · refine ev_il (pc' := 142) (pt_119_140 w) rfl rfl ?_
        refine ev_k (pc' := 144) (pt_119_142 w) rfl ?_
        refine ev_d (pc' := 145) (pt_119_144 w) rfl (by decide +kernel) ?_
        refine ev_k (pc' := 147) (pt_119_145 w) rfl ?_
        refine ev_d (pc' := 148) (pt_119_147 w) rfl (by decide +kernel) ?_
        refine ev_g (pt_119_148 w) ?_
        exact j2 _ (if_pos c6).symm
    · refine ev_inc (pc' := 127) (loc1 := [some (.ref 148), o1, some (.int x2), some (.int x3), some (.int x4), o5, some (.int (x6 + 1)), o7]) (pt_119_124 w) rfl rfl rfl ?_
      refine ev_g (pt_119_127 w) ?_
      exact (h6 c1 c5)

-- BoardDeskModel.read(I)I
theorem wk_120_0 {w : qS} {M : qM} {x1 : Int32} {post : qR}
    (h1 : (c1 : x1 < 0) → post (some (.int (-1))) M)
    (b2 : (c1 : ¬ x1 < 0) → (c2 : ¬ (iN 255) < x1) → (c3 : ¬ (M 148 11) = (iN 400)) → vp_in (M 148 11) 400)
    (h3 : (c1 : ¬ x1 < 0) → (c2 : ¬ (iN 255) < x1) → (c3 : ¬ (M 148 11) = (iN 400)) → post (some (.int ((ms (ms M 158 (M 148 11).toNatClampNeg x1) 148 11 (((ms M 158 (M 148 11).toNatClampNeg x1) 148 11) + 1)) 148 11))) (ms (ms M 158 (M 148 11).toNatClampNeg x1) 148 11 (((ms M 158 (M 148 11).toNatClampNeg x1) 148 11) + 1)))
    (h4 : (c1 : ¬ x1 < 0) → (c2 : ¬ (iN 255) < x1) → (c3 : (M 148 11) = (iN 400)) → post (some (.int (-2))) M)
    (h5 : (c1 : ¬ x1 < 0) → (c2 : (iN 255) < x1) → post (some (.int (-1))) M) :
    gE w 120 0 [some (.ref 148), some (.int x1)] [] M post := by
  refine ev_il (pc' := 1) (pt_120_0 w) rfl rfl ?_
  refine ev_zlt (pc' := 4) (pt_120_1 w) rfl (fun c1 => ?_) (fun c1 => ?_)
  · refine ev_k (pc' := 12) (pt_120_11 w) rfl ?_
    exact ev_ri1 (pt_120_12 w) (h1 c1)
  · refine ev_il (pc' := 5) (pt_120_4 w) rfl rfl ?_
    refine ev_k (pc' := 8) (pt_120_5 w) rfl ?_
    refine ev_cle (pc' := 11) (pt_120_8 w) rfl (fun c2 => ?_) (fun c2 => ?_)
    · refine ev_al (pc' := 14) (pt_120_13 w) rfl rfl ?_
      refine ev_geti (pc' := 17) (pt_120_14 w) rfl rfl rfl ?_
      refine ev_k (pc' := 20) (pt_120_17 w) rfl ?_
      refine ev_cne (pc' := 23) (pt_120_20 w) rfl (fun c3 => ?_) (fun c3 => ?_)
      · refine ev_al (pc' := 27) (pt_120_26 w) rfl rfl ?_
        refine ev_getr (pc' := 30) (pt_120_27 w) rfl rfl rfl ?_
        refine ev_al (pc' := 31) (pt_120_30 w) rfl rfl ?_
        refine ev_geti (pc' := 34) (pt_120_31 w) rfl rfl rfl ?_
        refine ev_il (pc' := 35) (pt_120_34 w) rfl rfl ?_
        refine ev_ias (pc' := 36) (pt_120_35 w) rfl rfl (b2 c1 c2 c3) ?_
        refine ev_al (pc' := 37) (pt_120_36 w) rfl rfl ?_
        refine ev_dup (pc' := 38) (pt_120_37 w) rfl rfl ?_
        refine ev_geti (pc' := 41) (pt_120_38 w) rfl rfl rfl ?_
        refine ev_k (pc' := 42) (pt_120_41 w) rfl ?_
        refine ev_b (pc' := 43) (pt_120_42 w) rfl ?_
        refine ev_put (pc' := 46) (pt_120_43 w) rfl rfl rfl ?_
        refine ev_al (pc' := 47) (pt_120_46 w) rfl rfl ?_
        refine ev_geti (pc' := 50) (pt_120_47 w) rfl rfl rfl ?_
        exact ev_ri1 (pt_120_50 w) (h3 c1 c2 c3)
      · refine ev_k (pc' := 25) (pt_120_23 w) rfl ?_
        exact ev_ri1 (pt_120_25 w) (h4 c1 c2 c3)
    · refine ev_k (pc' := 12) (pt_120_11 w) rfl ?_
      exact ev_ri1 (pt_120_12 w) (h5 c1 c2)

-- BoardDeskModel.replay(I)I
theorem wk_121_0 {w : qS} {M : qM} {x1 : Int32} {post : qR}
    (h1 : (c1 : x1 < 0) → post (some (.int (-1))) M)
    (h2 : (c1 : ¬ x1 < 0) → (c2 : ¬ 1 < x1) → gE w 121 13 [some (.ref 148), some (.int x1), some (.int 0), none] [] M post)
    (h3 : (c1 : ¬ x1 < 0) → (c2 : 1 < x1) → post (some (.int (-1))) M) :
    gE w 121 0 [some (.ref 148), some (.int x1), none, none] [] M post := by
  refine ev_il (pc' := 1) (pt_121_0 w) rfl rfl ?_
  refine ev_zlt (pc' := 4) (pt_121_1 w) rfl (fun c1 => ?_) (fun c1 => ?_)
  · refine ev_k (pc' := 10) (pt_121_9 w) rfl ?_
    exact ev_ri1 (pt_121_10 w) (h1 c1)
  · refine ev_il (pc' := 5) (pt_121_4 w) rfl rfl ?_
    refine ev_k (pc' := 6) (pt_121_5 w) rfl ?_
    refine ev_cle (pc' := 9) (pt_121_6 w) rfl (fun c2 => ?_) (fun c2 => ?_)
    · refine ev_k (pc' := 12) (pt_121_11 w) rfl ?_
      refine ev_is (pc' := 13) (loc1 := [some (.ref 148), some (.int x1), some (.int 0), none]) (pt_121_12 w) rfl rfl ?_
      exact (h2 c1 c2)
    · refine ev_k (pc' := 10) (pt_121_9 w) rfl ?_
      exact ev_ri1 (pt_121_10 w) (h3 c1 c2)

theorem wk_121_13 {w : qS} {M : qM} {x1 x2 : Int32} {o3 : Option Value} {post : qR}
    (h1 : (c1 : ¬ x2 < (iN 120)) → gE w 121 34 [some (.ref 148), some (.int x1), some (.int 0), o3] [] M post)
    (b2 : (c1 : x2 < (iN 120)) → vp_in x2 120)
    (h3 : (c1 : x2 < (iN 120)) → gE w 121 13 [some (.ref 148), some (.int x1), some (.int (x2 + 1)), o3] [] (ms M 159 x2.toNatClampNeg (-1)) post) :
    gE w 121 13 [some (.ref 148), some (.int x1), some (.int x2), o3] [] M post := by
  refine ev_il (pc' := 14) (pt_121_13 w) rfl rfl ?_
  refine ev_k (pc' := 16) (pt_121_14 w) rfl ?_
  refine ev_cge (pc' := 19) (pt_121_16 w) rfl (fun c1 => ?_) (fun c1 => ?_)
  · refine ev_k (pc' := 33) (pt_121_32 w) rfl ?_
    refine ev_is (pc' := 34) (loc1 := [some (.ref 148), some (.int x1), some (.int 0), o3]) (pt_121_33 w) rfl rfl ?_
    exact (h1 c1)
  · refine ev_al (pc' := 20) (pt_121_19 w) rfl rfl ?_
    refine ev_getr (pc' := 23) (pt_121_20 w) rfl rfl rfl ?_
    refine ev_il (pc' := 24) (pt_121_23 w) rfl rfl ?_
    refine ev_k (pc' := 25) (pt_121_24 w) rfl ?_
    refine ev_ias (pc' := 26) (pt_121_25 w) rfl rfl (b2 c1) ?_
    refine ev_inc (pc' := 29) (loc1 := [some (.ref 148), some (.int x1), some (.int (x2 + 1)), o3]) (pt_121_26 w) rfl rfl rfl ?_
    refine ev_g (pt_121_29 w) ?_
    exact (h3 c1)

theorem wk_121_34 {w : qS} {M : qM} {x1 x2 : Int32} {o3 : Option Value} {post : qR}
    (h1 : (c1 : ¬ (x2 + (iN 3)) < (M 148 11)) → gE w 121 150 [some (.ref 148), some (.int x1), some (.int 0), some (.int 0)] [] (ms M 148 11 0) post)
    (b2 : (c1 : (x2 + (iN 3)) < (M 148 11)) → vp_in x2 400)
    (h3 : (c1 : (x2 + (iN 3)) < (M 148 11)) → (c2 : (M 158 x2.toNatClampNeg) = (iN 255)) → gE w 121 150 [some (.ref 148), some (.int x1), some (.int 0), some (.int 0)] [] (ms M 148 11 0) post)
    (b4 : (c1 : (x2 + (iN 3)) < (M 148 11)) → (c2 : ¬ (M 158 x2.toNatClampNeg) = (iN 255)) → vp_in (x2 + 1) 400)
    (h5 : (c1 : (x2 + (iN 3)) < (M 148 11)) → (c2 : ¬ (M 158 x2.toNatClampNeg) = (iN 255)) → gE w 121 65 [some (.ref 148), some (.int x1), some (.int x2), some (.int (M 158 (x2 + 1).toNatClampNeg))] [] M post) :
    gE w 121 34 [some (.ref 148), some (.int x1), some (.int x2), o3] [] M post := by
  refine ev_il (pc' := 35) (pt_121_34 w) rfl rfl ?_
  refine ev_k (pc' := 36) (pt_121_35 w) rfl ?_
  refine ev_b (pc' := 37) (pt_121_36 w) rfl ?_
  refine ev_al (pc' := 38) (pt_121_37 w) rfl rfl ?_
  refine ev_geti (pc' := 41) (pt_121_38 w) rfl rfl rfl ?_
  refine ev_cge (pc' := 44) (pt_121_41 w) rfl (fun c1 => ?_) (fun c1 => ?_)
  · refine ev_al (pc' := 142) (pt_121_141 w) rfl rfl ?_
    refine ev_k (pc' := 143) (pt_121_142 w) rfl ?_
    refine ev_put (pc' := 146) (pt_121_143 w) rfl rfl rfl ?_
    refine ev_k (pc' := 147) (pt_121_146 w) rfl ?_
    refine ev_is (pc' := 148) (loc1 := [some (.ref 148), some (.int x1), some (.int 0), o3]) (pt_121_147 w) rfl rfl ?_
    refine ev_k (pc' := 149) (pt_121_148 w) rfl ?_
    refine ev_is (pc' := 150) (loc1 := [some (.ref 148), some (.int x1), some (.int 0), some (.int 0)]) (pt_121_149 w) rfl rfl ?_
    exact (h1 c1)
  · refine ev_al (pc' := 45) (pt_121_44 w) rfl rfl ?_
    refine ev_getr (pc' := 48) (pt_121_45 w) rfl rfl rfl ?_
    refine ev_il (pc' := 49) (pt_121_48 w) rfl rfl ?_
    refine ev_ia (pc' := 50) (pt_121_49 w) rfl rfl (b2 c1) ?_
    refine ev_k (pc' := 53) (pt_121_50 w) rfl ?_
    refine ev_ceq (pc' := 56) (pt_121_53 w) rfl (fun c2 => ?_) (fun c2 => ?_)
    · refine ev_al (pc' := 142) (pt_121_141 w) rfl rfl ?_
      refine ev_k (pc' := 143) (pt_121_142 w) rfl ?_
      refine ev_put (pc' := 146) (pt_121_143 w) rfl rfl rfl ?_
      refine ev_k (pc' := 147) (pt_121_146 w) rfl ?_
      refine ev_is (pc' := 148) (loc1 := [some (.ref 148), some (.int x1), some (.int 0), o3]) (pt_121_147 w) rfl rfl ?_
      refine ev_k (pc' := 149) (pt_121_148 w) rfl ?_
      refine ev_is (pc' := 150) (loc1 := [some (.ref 148), some (.int x1), some (.int 0), some (.int 0)]) (pt_121_149 w) rfl rfl ?_
      exact (h3 c1 c2)
    · refine ev_al (pc' := 57) (pt_121_56 w) rfl rfl ?_
      refine ev_getr (pc' := 60) (pt_121_57 w) rfl rfl rfl ?_
      refine ev_il (pc' := 61) (pt_121_60 w) rfl rfl ?_
      refine ev_k (pc' := 62) (pt_121_61 w) rfl ?_
      refine ev_b (pc' := 63) (pt_121_62 w) rfl ?_
      refine ev_ia (pc' := 64) (pt_121_63 w) rfl rfl (b4 c1 c2) ?_
      refine ev_is (pc' := 65) (loc1 := [some (.ref 148), some (.int x1), some (.int x2), some (.int (M 158 (x2 + 1).toNatClampNeg))]) (pt_121_64 w) rfl rfl ?_
      exact (h5 c1 c2)

theorem wk_121_65 {w : qS} {M : qM} {x1 x2 x3 : Int32} {post : qR}
    (b1 : vp_in (x2 + 1) 400)
    (b2 : vp_in (x2 + (iN 2)) 400)
    (h3 : (c1 : ¬ x3 < ((M 158 (x2 + 1).toNatClampNeg) + (M 158 (x2 + (iN 2)).toNatClampNeg))) → gE w 121 34 [some (.ref 148), some (.int x1), some (.int (x2 + (iN 4))), some (.int x3)] [] M post)
    (h4 : (c1 : x3 < ((M 158 (x2 + 1).toNatClampNeg) + (M 158 (x2 + (iN 2)).toNatClampNeg))) → (c2 : ¬ x3 < (iN 12)) → gE w 121 34 [some (.ref 148), some (.int x1), some (.int (x2 + (iN 4))), some (.int x3)] [] M post)
    (b5 : (c1 : x3 < ((M 158 (x2 + 1).toNatClampNeg) + (M 158 (x2 + (iN 2)).toNatClampNeg))) → (c2 : x3 < (iN 12)) → vp_in x2 400)
    (h6 : (c1 : x3 < ((M 158 (x2 + 1).toNatClampNeg) + (M 158 (x2 + (iN 2)).toNatClampNeg))) → (c2 : x3 < (iN 12)) → (c3 : ¬ (M 158 x2.toNatClampNeg) < (iN 10)) → gE w 121 65 [some (.ref 148), some (.int x1), some (.int x2), some (.int (x3 + 1))] [] M post)
    (b7 : (c1 : x3 < ((M 158 (x2 + 1).toNatClampNeg) + (M 158 (x2 + (iN 2)).toNatClampNeg))) → (c2 : x3 < (iN 12)) → (c3 : (M 158 x2.toNatClampNeg) < (iN 10)) → vp_in (x2 + (iN 3)) 400)
    (b8 : (c1 : x3 < ((M 158 (x2 + 1).toNatClampNeg) + (M 158 (x2 + (iN 2)).toNatClampNeg))) → (c2 : x3 < (iN 12)) → (c3 : (M 158 x2.toNatClampNeg) < (iN 10)) → vp_in (((iN 12) * (M 158 x2.toNatClampNeg)) + x3) 120)
    (h9 : (c1 : x3 < ((M 158 (x2 + 1).toNatClampNeg) + (M 158 (x2 + (iN 2)).toNatClampNeg))) → (c2 : x3 < (iN 12)) → (c3 : (M 158 x2.toNatClampNeg) < (iN 10)) → gE w 121 65 [some (.ref 148), some (.int x1), some (.int x2), some (.int (x3 + 1))] [] (ms M 159 (((iN 12) * (M 158 x2.toNatClampNeg)) + x3).toNatClampNeg ((M 158 (x2 + (iN 3)).toNatClampNeg) - 1)) post) :
    gE w 121 65 [some (.ref 148), some (.int x1), some (.int x2), some (.int x3)] [] M post := by
  refine ev_il (pc' := 66) (pt_121_65 w) rfl rfl ?_
  refine ev_al (pc' := 67) (pt_121_66 w) rfl rfl ?_
  refine ev_getr (pc' := 70) (pt_121_67 w) rfl rfl rfl ?_
  refine ev_il (pc' := 71) (pt_121_70 w) rfl rfl ?_
  refine ev_k (pc' := 72) (pt_121_71 w) rfl ?_
  refine ev_b (pc' := 73) (pt_121_72 w) rfl ?_
  refine ev_ia (pc' := 74) (pt_121_73 w) rfl rfl b1 ?_
  refine ev_al (pc' := 75) (pt_121_74 w) rfl rfl ?_
  refine ev_getr (pc' := 78) (pt_121_75 w) rfl rfl rfl ?_
  refine ev_il (pc' := 79) (pt_121_78 w) rfl rfl ?_
  refine ev_k (pc' := 80) (pt_121_79 w) rfl ?_
  refine ev_b (pc' := 81) (pt_121_80 w) rfl ?_
  refine ev_ia (pc' := 82) (pt_121_81 w) rfl rfl b2 ?_
  refine ev_b (pc' := 83) (pt_121_82 w) rfl ?_
  refine ev_cge (pc' := 86) (pt_121_83 w) rfl (fun c1 => ?_) (fun c1 => ?_)
  · refine ev_inc (pc' := 138) (loc1 := [some (.ref 148), some (.int x1), some (.int (x2 + (iN 4))), some (.int x3)]) (pt_121_135 w) rfl rfl rfl ?_
    refine ev_g (pt_121_138 w) ?_
    exact (h3 c1)
  · refine ev_il (pc' := 87) (pt_121_86 w) rfl rfl ?_
    refine ev_k (pc' := 89) (pt_121_87 w) rfl ?_
    refine ev_cge (pc' := 92) (pt_121_89 w) rfl (fun c2 => ?_) (fun c2 => ?_)
    · refine ev_inc (pc' := 138) (loc1 := [some (.ref 148), some (.int x1), some (.int (x2 + (iN 4))), some (.int x3)]) (pt_121_135 w) rfl rfl rfl ?_
      refine ev_g (pt_121_138 w) ?_
      exact (h4 c1 c2)
    · refine ev_al (pc' := 93) (pt_121_92 w) rfl rfl ?_
      refine ev_getr (pc' := 96) (pt_121_93 w) rfl rfl rfl ?_
      refine ev_il (pc' := 97) (pt_121_96 w) rfl rfl ?_
      refine ev_ia (pc' := 98) (pt_121_97 w) rfl rfl (b5 c1 c2) ?_
      refine ev_k (pc' := 100) (pt_121_98 w) rfl ?_
      refine ev_cge (pc' := 103) (pt_121_100 w) rfl (fun c3 => ?_) (fun c3 => ?_)
      · refine ev_inc (pc' := 132) (loc1 := [some (.ref 148), some (.int x1), some (.int x2), some (.int (x3 + 1))]) (pt_121_129 w) rfl rfl rfl ?_
        refine ev_g (pt_121_132 w) ?_
        exact (h6 c1 c2 c3)
      · refine ev_al (pc' := 104) (pt_121_103 w) rfl rfl ?_
        refine ev_getr (pc' := 107) (pt_121_104 w) rfl rfl rfl ?_
        refine ev_k (pc' := 109) (pt_121_107 w) rfl ?_
        refine ev_al (pc' := 110) (pt_121_109 w) rfl rfl ?_
        refine ev_getr (pc' := 113) (pt_121_110 w) rfl rfl rfl ?_
        refine ev_il (pc' := 114) (pt_121_113 w) rfl rfl ?_
        refine ev_ia (pc' := 115) (pt_121_114 w) rfl rfl (b5 c1 c2) ?_
        refine ev_b (pc' := 116) (pt_121_115 w) rfl ?_
        refine ev_il (pc' := 117) (pt_121_116 w) rfl rfl ?_
        refine ev_b (pc' := 118) (pt_121_117 w) rfl ?_
        refine ev_al (pc' := 119) (pt_121_118 w) rfl rfl ?_
        refine ev_getr (pc' := 122) (pt_121_119 w) rfl rfl rfl ?_
        refine ev_il (pc' := 123) (pt_121_122 w) rfl rfl ?_
        refine ev_k (pc' := 124) (pt_121_123 w) rfl ?_
        refine ev_b (pc' := 125) (pt_121_124 w) rfl ?_
        refine ev_ia (pc' := 126) (pt_121_125 w) rfl rfl (b7 c1 c2 c3) ?_
        refine ev_k (pc' := 127) (pt_121_126 w) rfl ?_
        refine ev_b (pc' := 128) (pt_121_127 w) rfl ?_
        refine ev_ias (pc' := 129) (pt_121_128 w) rfl rfl (b8 c1 c2 c3) ?_
        refine ev_inc (pc' := 132) (loc1 := [some (.ref 148), some (.int x1), some (.int x2), some (.int (x3 + 1))]) (pt_121_129 w) rfl rfl rfl ?_
        refine ev_g (pt_121_132 w) ?_
        exact (h9 c1 c2 c3)

theorem wk_121_150 {w : qS} {M : qM} {x1 x2 x3 : Int32} {post : qR}
    (h1 : (c1 : ¬ x3 < (iN 120)) → post (some (.int x2)) M)
    (b2 : (c1 : x3 < (iN 120)) → vp_in x3 120)
    (b3 : (c1 : x3 < (iN 120)) → vp_in (((iN 120) * x1) + x3) 240)
    (h4 : (c1 : x3 < (iN 120)) → gE w 121 150 [some (.ref 148), some (.int x1), some (.int (if (M 159 x3.toNatClampNeg) = (M 154 (((iN 120) * x1) + x3).toNatClampNeg) then x2 else (x2 + 1) : Int32)), some (.int (x3 + 1))] [] M post) :
    gE w 121 150 [some (.ref 148), some (.int x1), some (.int x2), some (.int x3)] [] M post := by
  refine ev_il (pc' := 151) (pt_121_150 w) rfl rfl ?_
  refine ev_k (pc' := 153) (pt_121_151 w) rfl ?_
  refine ev_cge (pc' := 156) (pt_121_153 w) rfl (fun c1 => ?_) (fun c1 => ?_)
  · refine ev_il (pc' := 191) (pt_121_190 w) rfl rfl ?_
    exact ev_ri1 (pt_121_191 w) (h1 c1)
  · refine ev_al (pc' := 157) (pt_121_156 w) rfl rfl ?_
    refine ev_getr (pc' := 160) (pt_121_157 w) rfl rfl rfl ?_
    refine ev_il (pc' := 161) (pt_121_160 w) rfl rfl ?_
    refine ev_ia (pc' := 162) (pt_121_161 w) rfl rfl (b2 c1) ?_
    refine ev_al (pc' := 163) (pt_121_162 w) rfl rfl ?_
    refine ev_getr (pc' := 166) (pt_121_163 w) rfl rfl rfl ?_
    refine ev_k (pc' := 168) (pt_121_166 w) rfl ?_
    refine ev_il (pc' := 169) (pt_121_168 w) rfl rfl ?_
    refine ev_b (pc' := 170) (pt_121_169 w) rfl ?_
    refine ev_il (pc' := 171) (pt_121_170 w) rfl rfl ?_
    refine ev_b (pc' := 172) (pt_121_171 w) rfl ?_
    refine ev_ia (pc' := 173) (pt_121_172 w) rfl rfl (b3 c1) ?_
    have j1 : ∀ v1 : Int32, v1 = (if (M 159 x3.toNatClampNeg) = (M 154 (((iN 120) * x1) + x3).toNatClampNeg) then x2 else (x2 + 1) : Int32) → gE w 121 183 [some (.ref 148), some (.int x1), some (.int x2), some (.int x3)] [.int v1] M post := by
      intro v1 e2
      subst v1
      refine ev_is (pc' := 184) (loc1 := [some (.ref 148), some (.int x1), some (.int (if (M 159 x3.toNatClampNeg) = (M 154 (((iN 120) * x1) + x3).toNatClampNeg) then x2 else (x2 + 1) : Int32)), some (.int x3)]) (pt_121_183 w) rfl rfl ?_
      refine ev_inc (pc' := 187) (loc1 := [some (.ref 148), some (.int x1), some (.int (if (M 159 x3.toNatClampNeg) = (M 154 (((iN 120) * x1) + x3).toNatClampNeg) then x2 else (x2 + 1) : Int32)), some (.int (x3 + 1))]) (pt_121_184 w) rfl rfl rfl ?_
      refine ev_g (pt_121_187 w) ?_
      exact (h4 c1)
    refine ev_cne (pc' := 176) (pt_121_173 w) rfl (fun c2 => ?_) (fun c2 => ?_)
    · refine ev_il (pc' := 181) (pt_121_180 w) rfl rfl ?_
      refine ev_k (pc' := 182) (pt_121_181 w) rfl ?_
      refine ev_b (pc' := 183) (pt_121_182 w) rfl ?_
      exact j1 _ (if_neg c2).symm
    · refine ev_il (pc' := 177) (pt_121_176 w) rfl rfl ?_
      refine ev_g (pt_121_177 w) ?_
      exact j1 _ (if_pos c2).symm
