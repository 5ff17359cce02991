/-! Printed: the walks of the methods, from cut to cut. -/
-- BoardDesk.pin(I)I
theorem wk_0_0 {w : qS} {M : qM} {x1 : Int32} {post : qR}
    (h1 : (c1 : x1 < 0) → post (some (.int (-1))) M)
    (h2 : (c1 : ¬ x1 < 0) → (c2 : x1 < (iN 4)) → (c3 : (M 2 6) < (iN 16)) → gE w 59 0 [some (.ref 10), some (.ref 2)] [] M (fun r M' => gE w 0 43 [some (.ref 0), some (.int x1), none] (r.toList ++ []) M' post))
    (h3 : (c1 : ¬ x1 < 0) → (c2 : x1 < (iN 4)) → (c3 : ¬ (M 2 6) < (iN 16)) → post (some (.int (-2))) M)
    (h4 : (c1 : ¬ x1 < 0) → (c2 : ¬ x1 < (iN 4)) → post (some (.int (-1))) M) :
    gE w 0 0 [some (.ref 0), some (.int x1), none] [] M post := by
  refine ev_il (pc' := 1) (pt_0_0 w) rfl rfl ?_
  refine ev_zlt (pc' := 4) (pt_0_1 w) rfl (fun c1 => ?_) (fun c1 => ?_)
  · refine ev_k (pc' := 10) (pt_0_9 w) rfl ?_
    exact ev_ri1 (pt_0_10 w) (h1 c1)
  · refine ev_il (pc' := 5) (pt_0_4 w) rfl rfl ?_
    refine ev_k (pc' := 6) (pt_0_5 w) rfl ?_
    refine ev_clt (pc' := 9) (pt_0_6 w) rfl (fun c2 => ?_) (fun c2 => ?_)
    · refine ev_al (pc' := 12) (pt_0_11 w) rfl rfl ?_
      refine ev_getr (pc' := 15) (pt_0_12 w) rfl rfl rfl ?_
      refine ev_getr (pc' := 18) (pt_0_15 w) rfl rfl rfl ?_
      refine ev_geti (pc' := 21) (pt_0_18 w) rfl rfl rfl ?_
      refine ev_k (pc' := 23) (pt_0_21 w) rfl ?_
      refine ev_clt (pc' := 26) (pt_0_23 w) rfl (fun c3 => ?_) (fun c3 => ?_)
      · refine ev_al (pc' := 30) (pt_0_29 w) rfl rfl ?_
        refine ev_getr (pc' := 33) (pt_0_30 w) rfl rfl rfl ?_
        refine ev_al (pc' := 34) (pt_0_33 w) rfl rfl ?_
        refine ev_getr (pc' := 37) (pt_0_34 w) rfl rfl rfl ?_
        refine ev_getr (pc' := 40) (pt_0_37 w) rfl rfl rfl ?_
        exact ev_cal (pc' := 43) (pt_0_40 w) (vs := [.ref 10, .ref 2]) (rest := []) (en := [some (.ref 10), some (.ref 2)]) rfl rfl rfl rfl rfl rfl rfl (h2 c1 c2 c3)
      · refine ev_k (pc' := 28) (pt_0_26 w) rfl ?_
        exact ev_ri1 (pt_0_28 w) (h3 c1 c2 c3)
    · refine ev_k (pc' := 10) (pt_0_9 w) rfl ?_
      exact ev_ri1 (pt_0_10 w) (h4 c1 c2)

theorem wk_0_43 {w : qS} {M : qM} {x1 : Int32} {o2 : Option Value} {post : qR}
    (h1 : gE w 37 0 [some (.ref 1), some (.int x1), none] [] M (fun r M' => gE w 0 51 [some (.ref 0), some (.int x1), o2] (r.toList ++ []) M' post)) :
    gE w 0 43 [some (.ref 0), some (.int x1), o2] [] M post := by
  refine ev_al (pc' := 44) (pt_0_43 w) rfl rfl ?_
  refine ev_getr (pc' := 47) (pt_0_44 w) rfl rfl rfl ?_
  refine ev_il (pc' := 48) (pt_0_47 w) rfl rfl ?_
  exact ev_cal (pc' := 51) (pt_0_48 w) (vs := [.ref 1, .int x1]) (rest := []) (en := [some (.ref 1), some (.int x1), none]) rfl rfl rfl rfl rfl rfl rfl h1

theorem wk_0_51 {w : qS} {M : qM} {s0 : Int32} {o1 o2 : Option Value} {post : qR}
    (h1 : gE w 60 0 [some (.ref 10), some (.ref 2)] [] M (fun r M' => gE w 0 66 [some (.ref 0), o1, some (.int s0)] (r.toList ++ []) M' post)) :
    gE w 0 51 [some (.ref 0), o1, o2] [.int s0] M post := by
  refine ev_is (pc' := 52) (loc1 := [some (.ref 0), o1, some (.int s0)]) (pt_0_51 w) rfl rfl ?_
  refine ev_al (pc' := 53) (pt_0_52 w) rfl rfl ?_
  refine ev_getr (pc' := 56) (pt_0_53 w) rfl rfl rfl ?_
  refine ev_al (pc' := 57) (pt_0_56 w) rfl rfl ?_
  refine ev_getr (pc' := 60) (pt_0_57 w) rfl rfl rfl ?_
  refine ev_getr (pc' := 63) (pt_0_60 w) rfl rfl rfl ?_
  exact ev_cal (pc' := 66) (pt_0_63 w) (vs := [.ref 10, .ref 2]) (rest := []) (en := [some (.ref 10), some (.ref 2)]) rfl rfl rfl rfl rfl rfl rfl h1

theorem wk_0_66 {w : qS} {M : qM} {x2 : Int32} {o0 o1 : Option Value} {post : qR}
    (h1 : post (some (.int x2)) M) :
    gE w 0 66 [o0, o1, some (.int x2)] [] M post := by
  refine ev_il (pc' := 67) (pt_0_66 w) rfl rfl ?_
  exact ev_ri1 (pt_0_67 w) h1

-- BoardDesk.join(II)I
theorem wk_1_0 {w : qS} {M : qM} {x1 x2 : Int32} {r1 : Int32} {r2 : Int32} {post : qR}
    (k1 : gE w 29 0 [some (.ref 1), some (.int x1)] [] M (qv1 M r1))
    (h2 : (c1 : r1 = 0) → post (some (.int (-1))) M)
    (k3 : (c1 : ¬ r1 = 0) → gE w 29 0 [some (.ref 1), some (.int x2)] [] M (qv1 M r2))
    (h4 : (c1 : ¬ r1 = 0) → (c2 : r2 = 0) → post (some (.int (-1))) M)
    (h5 : (c1 : ¬ r1 = 0) → (c2 : ¬ r2 = 0) → (c3 : ¬ x1 = x2) → (c4 : (M 2 7) < (iN 24)) → gE w 59 0 [some (.ref 10), some (.ref 2)] [] M (fun r M' => gE w 1 61 [some (.ref 0), some (.int x1), some (.int x2), none] (r.toList ++ []) M' post))
    (h6 : (c1 : ¬ r1 = 0) → (c2 : ¬ r2 = 0) → (c3 : ¬ x1 = x2) → (c4 : ¬ (M 2 7) < (iN 24)) → post (some (.int (-2))) M)
    (h7 : (c1 : ¬ r1 = 0) → (c2 : ¬ r2 = 0) → (c3 : x1 = x2) → post (some (.int (-1))) M) :
    gE w 1 0 [some (.ref 0), some (.int x1), some (.int x2), none] [] M post := by
  refine ev_al (pc' := 1) (pt_1_0 w) rfl rfl ?_
  refine ev_getr (pc' := 4) (pt_1_1 w) rfl rfl rfl ?_
  refine ev_il (pc' := 5) (pt_1_4 w) rfl rfl ?_
  refine ev_cal1 (pc' := 8) (pt_1_5 w) (vs := [.ref 1, .int x1]) (rest := []) (en := [some (.ref 1), some (.int x1)]) rfl rfl rfl rfl rfl rfl rfl k1 ?_
  refine ev_zeq (pc' := 11) (pt_1_8 w) rfl (fun c1 => ?_) (fun c1 => ?_)
  · refine ev_k (pc' := 28) (pt_1_27 w) rfl ?_
    exact ev_ri1 (pt_1_28 w) (h2 c1)
  · refine ev_al (pc' := 12) (pt_1_11 w) rfl rfl ?_
    refine ev_getr (pc' := 15) (pt_1_12 w) rfl rfl rfl ?_
    refine ev_il (pc' := 16) (pt_1_15 w) rfl rfl ?_
    refine ev_cal1 (pc' := 19) (pt_1_16 w) (vs := [.ref 1, .int x2]) (rest := []) (en := [some (.ref 1), some (.int x2)]) rfl rfl rfl rfl rfl rfl rfl (k3 c1) ?_
    refine ev_zeq (pc' := 22) (pt_1_19 w) rfl (fun c2 => ?_) (fun c2 => ?_)
    · refine ev_k (pc' := 28) (pt_1_27 w) rfl ?_
      exact ev_ri1 (pt_1_28 w) (h4 c1 c2)
    · refine ev_il (pc' := 23) (pt_1_22 w) rfl rfl ?_
      refine ev_il (pc' := 24) (pt_1_23 w) rfl rfl ?_
      refine ev_cne (pc' := 27) (pt_1_24 w) rfl (fun c3 => ?_) (fun c3 => ?_)
      · refine ev_al (pc' := 30) (pt_1_29 w) rfl rfl ?_
        refine ev_getr (pc' := 33) (pt_1_30 w) rfl rfl rfl ?_
        refine ev_getr (pc' := 36) (pt_1_33 w) rfl rfl rfl ?_
        refine ev_geti (pc' := 39) (pt_1_36 w) rfl rfl rfl ?_
        refine ev_k (pc' := 41) (pt_1_39 w) rfl ?_
        refine ev_clt (pc' := 44) (pt_1_41 w) rfl (fun c4 => ?_) (fun c4 => ?_)
        · refine ev_al (pc' := 48) (pt_1_47 w) rfl rfl ?_
          refine ev_getr (pc' := 51) (pt_1_48 w) rfl rfl rfl ?_
          refine ev_al (pc' := 52) (pt_1_51 w) rfl rfl ?_
          refine ev_getr (pc' := 55) (pt_1_52 w) rfl rfl rfl ?_
          refine ev_getr (pc' := 58) (pt_1_55 w) rfl rfl rfl ?_
          exact ev_cal (pc' := 61) (pt_1_58 w) (vs := [.ref 10, .ref 2]) (rest := []) (en := [some (.ref 10), some (.ref 2)]) rfl rfl rfl rfl rfl rfl rfl (h5 c1 c2 c3 c4)
        · refine ev_k (pc' := 46) (pt_1_44 w) rfl ?_
          exact ev_ri1 (pt_1_46 w) (h6 c1 c2 c3 c4)
      · refine ev_k (pc' := 28) (pt_1_27 w) rfl ?_
        exact ev_ri1 (pt_1_28 w) (h7 c1 c2 c3)

theorem wk_1_61 {w : qS} {M : qM} {x1 x2 : Int32} {o3 : Option Value} {post : qR}
    (h1 : gE w 38 0 [some (.ref 1), some (.int x1), some (.int x2), none] [] M (fun r M' => gE w 1 70 [some (.ref 0), some (.int x1), some (.int x2), o3] (r.toList ++ []) M' post)) :
    gE w 1 61 [some (.ref 0), some (.int x1), some (.int x2), o3] [] M post := by
  refine ev_al (pc' := 62) (pt_1_61 w) rfl rfl ?_
  refine ev_getr (pc' := 65) (pt_1_62 w) rfl rfl rfl ?_
  refine ev_il (pc' := 66) (pt_1_65 w) rfl rfl ?_
  refine ev_il (pc' := 67) (pt_1_66 w) rfl rfl ?_
  exact ev_cal (pc' := 70) (pt_1_67 w) (vs := [.ref 1, .int x1, .int x2]) (rest := []) (en := [some (.ref 1), some (.int x1), some (.int x2), none]) rfl rfl rfl rfl rfl rfl rfl h1

theorem wk_1_70 {w : qS} {M : qM} {s0 : Int32} {o1 o2 o3 : Option Value} {post : qR}
    (h1 : gE w 60 0 [some (.ref 10), some (.ref 2)] [] M (fun r M' => gE w 1 85 [some (.ref 0), o1, o2, some (.int s0)] (r.toList ++ []) M' post)) :
    gE w 1 70 [some (.ref 0), o1, o2, o3] [.int s0] M post := by
  refine ev_is (pc' := 71) (loc1 := [some (.ref 0), o1, o2, some (.int s0)]) (pt_1_70 w) rfl rfl ?_
  refine ev_al (pc' := 72) (pt_1_71 w) rfl rfl ?_
  refine ev_getr (pc' := 75) (pt_1_72 w) rfl rfl rfl ?_
  refine ev_al (pc' := 76) (pt_1_75 w) rfl rfl ?_
  refine ev_getr (pc' := 79) (pt_1_76 w) rfl rfl rfl ?_
  refine ev_getr (pc' := 82) (pt_1_79 w) rfl rfl rfl ?_
  exact ev_cal (pc' := 85) (pt_1_82 w) (vs := [.ref 10, .ref 2]) (rest := []) (en := [some (.ref 10), some (.ref 2)]) rfl rfl rfl rfl rfl rfl rfl h1

theorem wk_1_85 {w : qS} {M : qM} {x3 : Int32} {o0 o1 o2 : Option Value} {post : qR}
    (h1 : post (some (.int x3)) M) :
    gE w 1 85 [o0, o1, o2, some (.int x3)] [] M post := by
  refine ev_il (pc' := 86) (pt_1_85 w) rfl rfl ?_
  exact ev_ri1 (pt_1_86 w) h1

-- BoardDesk.part(I)I
theorem wk_2_0 {w : qS} {M : qM} {x1 : Int32} {post : qR}
    (h1 : (c1 : x1 < 0) → post (some (.int (-1))) M)
    (h2 : (c1 : ¬ x1 < 0) → (c2 : x1 < (M 2 7)) → gE w 59 0 [some (.ref 10), some (.ref 2)] [] M (fun r M' => gE w 2 34 [some (.ref 0), some (.int x1)] (r.toList ++ []) M' post))
    (h3 : (c1 : ¬ x1 < 0) → (c2 : ¬ x1 < (M 2 7)) → post (some (.int (-1))) M) :
    gE w 2 0 [some (.ref 0), some (.int x1)] [] M post := by
  refine ev_il (pc' := 1) (pt_2_0 w) rfl rfl ?_
  refine ev_zlt (pc' := 4) (pt_2_1 w) rfl (fun c1 => ?_) (fun c1 => ?_)
  · refine ev_k (pc' := 19) (pt_2_18 w) rfl ?_
    exact ev_ri1 (pt_2_19 w) (h1 c1)
  · refine ev_il (pc' := 5) (pt_2_4 w) rfl rfl ?_
    refine ev_al (pc' := 6) (pt_2_5 w) rfl rfl ?_
    refine ev_getr (pc' := 9) (pt_2_6 w) rfl rfl rfl ?_
    refine ev_getr (pc' := 12) (pt_2_9 w) rfl rfl rfl ?_
    refine ev_geti (pc' := 15) (pt_2_12 w) rfl rfl rfl ?_
    refine ev_clt (pc' := 18) (pt_2_15 w) rfl (fun c2 => ?_) (fun c2 => ?_)
    · refine ev_al (pc' := 21) (pt_2_20 w) rfl rfl ?_
      refine ev_getr (pc' := 24) (pt_2_21 w) rfl rfl rfl ?_
      refine ev_al (pc' := 25) (pt_2_24 w) rfl rfl ?_
      refine ev_getr (pc' := 28) (pt_2_25 w) rfl rfl rfl ?_
      refine ev_getr (pc' := 31) (pt_2_28 w) rfl rfl rfl ?_
      exact ev_cal (pc' := 34) (pt_2_31 w) (vs := [.ref 10, .ref 2]) (rest := []) (en := [some (.ref 10), some (.ref 2)]) rfl rfl rfl rfl rfl rfl rfl (h2 c1 c2)
    · refine ev_k (pc' := 19) (pt_2_18 w) rfl ?_
      exact ev_ri1 (pt_2_19 w) (h3 c1 c2)

theorem wk_2_34 {w : qS} {M : qM} {x1 : Int32} {post : qR}
    (h1 : gE w 39 0 [some (.ref 1), some (.int x1), none] [] M (fun r M' => gE w 2 42 [some (.ref 0), some (.int x1)] (r.toList ++ []) M' post)) :
    gE w 2 34 [some (.ref 0), some (.int x1)] [] M post := by
  refine ev_al (pc' := 35) (pt_2_34 w) rfl rfl ?_
  refine ev_getr (pc' := 38) (pt_2_35 w) rfl rfl rfl ?_
  refine ev_il (pc' := 39) (pt_2_38 w) rfl rfl ?_
  exact ev_cal (pc' := 42) (pt_2_39 w) (vs := [.ref 1, .int x1]) (rest := []) (en := [some (.ref 1), some (.int x1), none]) rfl rfl rfl rfl rfl rfl rfl h1

theorem wk_2_42 {w : qS} {M : qM} {o1 : Option Value} {post : qR}
    (h1 : gE w 60 0 [some (.ref 10), some (.ref 2)] [] M (fun r M' => gE w 2 56 [some (.ref 0), o1] (r.toList ++ []) M' post)) :
    gE w 2 42 [some (.ref 0), o1] [] M post := by
  refine ev_al (pc' := 43) (pt_2_42 w) rfl rfl ?_
  refine ev_getr (pc' := 46) (pt_2_43 w) rfl rfl rfl ?_
  refine ev_al (pc' := 47) (pt_2_46 w) rfl rfl ?_
  refine ev_getr (pc' := 50) (pt_2_47 w) rfl rfl rfl ?_
  refine ev_getr (pc' := 53) (pt_2_50 w) rfl rfl rfl ?_
  exact ev_cal (pc' := 56) (pt_2_53 w) (vs := [.ref 10, .ref 2]) (rest := []) (en := [some (.ref 10), some (.ref 2)]) rfl rfl rfl rfl rfl rfl rfl h1

theorem wk_2_56 {w : qS} {M : qM} {o1 : Option Value} {post : qR}
    (h1 : post (some (.int (M 2 7))) M) :
    gE w 2 56 [some (.ref 0), o1] [] M post := by
  refine ev_al (pc' := 57) (pt_2_56 w) rfl rfl ?_
  refine ev_getr (pc' := 60) (pt_2_57 w) rfl rfl rfl ?_
  refine ev_getr (pc' := 63) (pt_2_60 w) rfl rfl rfl ?_
  refine ev_geti (pc' := 66) (pt_2_63 w) rfl rfl rfl ?_
  exact ev_ri1 (pt_2_66 w) h1

-- BoardDesk.net(I)I
theorem wk_3_0 {w : qS} {M : qM} {x1 : Int32} {r1 : Int32} {r2 : Int32} {post : qR}
    (k1 : gE w 29 0 [some (.ref 1), some (.int x1)] [] M (qv1 M r1))
    (h2 : post (some (.int (if r1 = 0 then (-1) else r2 : Int32))) M)
    (k3 : (c1 : ¬ r1 = 0) → gE w 31 0 [some (.ref 1), some (.int x1)] [] M (qv1 M r2)) :
    gE w 3 0 [some (.ref 0), some (.int x1)] [] M post := by
  refine ev_al (pc' := 1) (pt_3_0 w) rfl rfl ?_
  refine ev_getr (pc' := 4) (pt_3_1 w) rfl rfl rfl ?_
  refine ev_il (pc' := 5) (pt_3_4 w) rfl rfl ?_
  refine ev_cal1 (pc' := 8) (pt_3_5 w) (vs := [.ref 1, .int x1]) (rest := []) (en := [some (.ref 1), some (.int x1)]) rfl rfl rfl rfl rfl rfl rfl k1 ?_
  have j1 : ∀ v1 : Int32, v1 = (if r1 = 0 then (-1) else r2 : Int32) → gE w 3 23 [some (.ref 0), some (.int x1)] [.int v1] M post := by
    intro v1 e2
    subst v1
    exact ev_ri1 (pt_3_23 w) h2
  refine ev_zeq (pc' := 11) (pt_3_8 w) rfl (fun c1 => ?_) (fun c1 => ?_)
  · refine ev_k (pc' := 23) (pt_3_22 w) rfl ?_
    exact j1 _ (if_pos c1).symm
  · refine ev_al (pc' := 12) (pt_3_11 w) rfl rfl ?_
    refine ev_getr (pc' := 15) (pt_3_12 w) rfl rfl rfl ?_
    refine ev_il (pc' := 16) (pt_3_15 w) rfl rfl ?_
    refine ev_cal1 (pc' := 19) (pt_3_16 w) (vs := [.ref 1, .int x1]) (rest := []) (en := [some (.ref 1), some (.int x1)]) rfl rfl rfl rfl rfl rfl rfl (k3 c1) ?_
    refine ev_g (pt_3_19 w) ?_
    exact j1 _ (if_neg c1).symm

-- BoardDesk.fault(II)I
theorem wk_4_0 {w : qS} {M : qM} {x1 x2 : Int32} {post : qR}
    (h1 : (c1 : x1 < 0) → post (some (.int (-1))) M)
    (h2 : (c1 : ¬ x1 < 0) → (c2 : x2 < 0) → post (some (.int (-1))) M)
    (h3 : (c1 : ¬ x1 < 0) → (c2 : ¬ x2 < 0) → (c3 : ¬ 1 < x2) → gE w 4 20 [some (.ref 0), some (.int x1), some (.int x2), some (.int x1), some (.int 0), none] [] M post)
    (h4 : (c1 : ¬ x1 < 0) → (c2 : ¬ x2 < 0) → (c3 : 1 < x2) → post (some (.int (-1))) M) :
    gE w 4 0 [some (.ref 0), some (.int x1), some (.int x2), none, none, none] [] M post := by
  refine ev_il (pc' := 1) (pt_4_0 w) rfl rfl ?_
  refine ev_zlt (pc' := 4) (pt_4_1 w) rfl (fun c1 => ?_) (fun c1 => ?_)
  · refine ev_k (pc' := 14) (pt_4_13 w) rfl ?_
    exact ev_ri1 (pt_4_14 w) (h1 c1)
  · refine ev_il (pc' := 5) (pt_4_4 w) rfl rfl ?_
    refine ev_zlt (pc' := 8) (pt_4_5 w) rfl (fun c2 => ?_) (fun c2 => ?_)
    · refine ev_k (pc' := 14) (pt_4_13 w) rfl ?_
      exact ev_ri1 (pt_4_14 w) (h2 c1 c2)
    · refine ev_il (pc' := 9) (pt_4_8 w) rfl rfl ?_
      refine ev_k (pc' := 10) (pt_4_9 w) rfl ?_
      refine ev_cle (pc' := 13) (pt_4_10 w) rfl (fun c3 => ?_) (fun c3 => ?_)
      · refine ev_il (pc' := 16) (pt_4_15 w) rfl rfl ?_
        refine ev_is (pc' := 17) (loc1 := [some (.ref 0), some (.int x1), some (.int x2), some (.int x1), none, none]) (pt_4_16 w) rfl rfl ?_
        refine ev_k (pc' := 18) (pt_4_17 w) rfl ?_
        refine ev_is (pc' := 20) (loc1 := [some (.ref 0), some (.int x1), some (.int x2), some (.int x1), some (.int 0), none]) (pt_4_18 w) rfl rfl ?_
        exact (h3 c1 c2 c3)
      · refine ev_k (pc' := 14) (pt_4_13 w) rfl ?_
        exact ev_ri1 (pt_4_14 w) (h4 c1 c2 c3)

theorem wk_4_20 {w : qS} {M : qM} {x2 x3 x4 : Int32} {o1 o5 : Option Value} {r1 : Int32} {post : qR}
    (h1 : (c1 : ¬ x4 < (M 2 6)) → post (some (.int (-1))) M)
    (k2 : (c1 : x4 < (M 2 6)) → gE w 42 0 [some (.ref 1), some (.int x4), none, none] [] M (qv1 M r1))
    (h3 : (c1 : x4 < (M 2 6)) → (c2 : ¬ r1 = (-1)) → (c3 : ¬ x3 = 0) → gE w 4 20 [some (.ref 0), o1, some (.int x2), some (.int (x3 + (-1))), some (.int (x4 + 1)), some (.int r1)] [] M post)
    (h4 : (c1 : x4 < (M 2 6)) → (c2 : ¬ r1 = (-1)) → (c3 : x3 = 0) → post (some (.int (if x2 = 0 then r1 else x4 : Int32))) M)
    (h5 : (c1 : x4 < (M 2 6)) → (c2 : r1 = (-1)) → gE w 4 20 [some (.ref 0), o1, some (.int x2), some (.int x3), some (.int (x4 + 1)), some (.int r1)] [] M post) :
    gE w 4 20 [some (.ref 0), o1, some (.int x2), some (.int x3), some (.int x4), o5] [] M post := by
  refine ev_il (pc' := 22) (pt_4_20 w) rfl rfl ?_
  refine ev_al (pc' := 23) (pt_4_22 w) rfl rfl ?_
  refine ev_getr (pc' := 26) (pt_4_23 w) rfl rfl rfl ?_
  refine ev_getr (pc' := 29) (pt_4_26 w) rfl rfl rfl ?_
  refine ev_geti (pc' := 32) (pt_4_29 w) rfl rfl rfl ?_
  refine ev_cge (pc' := 35) (pt_4_32 w) rfl (fun c1 => ?_) (fun c1 => ?_)
  · refine ev_k (pc' := 81) (pt_4_80 w) rfl ?_
    exact ev_ri1 (pt_4_81 w) (h1 c1)
  · refine ev_al (pc' := 36) (pt_4_35 w) rfl rfl ?_
    refine ev_getr (pc' := 39) (pt_4_36 w) rfl rfl rfl ?_
    refine ev_il (pc' := 41) (pt_4_39 w) rfl rfl ?_
    refine ev_cal1 (pc' := 44) (pt_4_41 w) (vs := [.ref 1, .int x4]) (rest := []) (en := [some (.ref 1), some (.int x4), none, none]) rfl rfl rfl rfl rfl rfl rfl (k2 c1) ?_
    refine ev_is (pc' := 46) (loc1 := [some (.ref 0), o1, some (.int x2), some (.int x3), some (.int x4), some (.int r1)]) (pt_4_44 w) rfl rfl ?_
    refine ev_il (pc' := 48) (pt_4_46 w) rfl rfl ?_
    refine ev_k (pc' := 49) (pt_4_48 w) rfl ?_
    refine ev_cne (pc' := 52) (pt_4_49 w) rfl (fun c2 => ?_) (fun c2 => ?_)
    · refine ev_il (pc' := 56) (pt_4_55 w) rfl rfl ?_
      refine ev_zne (pc' := 59) (pt_4_56 w) rfl (fun c3 => ?_) (fun c3 => ?_)
      · refine ev_inc (pc' := 74) (loc1 := [some (.ref 0), o1, some (.int x2), some (.int (x3 + (-1))), some (.int x4), some (.int r1)]) (pt_4_71 w) rfl rfl rfl ?_
        refine ev_inc (pc' := 77) (loc1 := [some (.ref 0), o1, some (.int x2), some (.int (x3 + (-1))), some (.int (x4 + 1)), some (.int r1)]) (pt_4_74 w) rfl rfl rfl ?_
        refine ev_g (pt_4_77 w) ?_
        exact (h3 c1 c2 c3)
      · refine ev_il (pc' := 60) (pt_4_59 w) rfl rfl ?_
        have j1 : ∀ v1 : Int32, v1 = (if x2 = 0 then r1 else x4 : Int32) → gE w 4 70 [some (.ref 0), o1, some (.int x2), some (.int x3), some (.int x4), some (.int r1)] [.int v1] M post := by
          intro v1 e2
          subst v1
          exact ev_ri1 (pt_4_70 w) (h4 c1 c2 c3)
        refine ev_zne (pc' := 63) (pt_4_60 w) rfl (fun c4 => ?_) (fun c4 => ?_)
        · refine ev_il (pc' := 70) (pt_4_68 w) rfl rfl ?_
          exact j1 _ (if_neg c4).symm
        · refine ev_il (pc' := 65) (pt_4_63 w) rfl rfl ?_
          refine ev_g (pt_4_65 w) ?_
          exact j1 _ (if_pos c4).symm
    · refine ev_g (pt_4_52 w) ?_
      refine ev_inc (pc' := 77) (loc1 := [some (.ref 0), o1, some (.int x2), some (.int x3), some (.int (x4 + 1)), some (.int r1)]) (pt_4_74 w) rfl rfl rfl ?_
      refine ev_g (pt_4_77 w) ?_
      exact (h5 c1 c2)

-- BoardDesk.place(IIII)Z
theorem wk_5_0 {w : qS} {M : qM} {x1 x2 x3 x4 : Int32} {r1 : Int32} {r2 : Int32} {r3 : Int32} {r4 : Int32} {post : qR}
    (k1 : gE w 29 0 [some (.ref 1), some (.int x1)] [] M (qv1 M r1))
    (h2 : (c1 : r1 = 0) → post (some (.int 0)) M)
    (k3 : (c1 : ¬ r1 = 0) → gE w 30 0 [some (.ref 1), some (.int x1)] [] M (qv1 M r2))
    (h4 : (c1 : ¬ r1 = 0) → (c2 : ¬ r2 = 0) → post (some (.int 0)) M)
    (h5 : (c1 : ¬ r1 = 0) → (c2 : r2 = 0) → (c3 : x4 < 1) → post (some (.int 0)) M)
    (h6 : (c1 : ¬ r1 = 0) → (c2 : r2 = 0) → (c3 : ¬ x4 < 1) → (c4 : ¬ (iN 3) < x4) → (c5 : x2 < 0) → post (some (.int 0)) M)
    (h7 : (c1 : ¬ r1 = 0) → (c2 : r2 = 0) → (c3 : ¬ x4 < 1) → (c4 : ¬ (iN 3) < x4) → (c5 : ¬ x2 < 0) → (c6 : ¬ x2 < (iN 12)) → post (some (.int 0)) M)
    (h8 : (c1 : ¬ r1 = 0) → (c2 : r2 = 0) → (c3 : ¬ x4 < 1) → (c4 : ¬ (iN 3) < x4) → (c5 : ¬ x2 < 0) → (c6 : x2 < (iN 12)) → (c7 : x3 < 0) → post (some (.int 0)) M)
    (k9 : (c1 : ¬ r1 = 0) → (c2 : r2 = 0) → (c3 : ¬ x4 < 1) → (c4 : ¬ (iN 3) < x4) → (c5 : ¬ x2 < 0) → (c6 : x2 < (iN 12)) → (c7 : ¬ x3 < 0) → (c8 : x3 < (iN 10)) → gE w 31 0 [some (.ref 1), some (.int x1)] [] M (qv1 M r3))
    (k10 : (c1 : ¬ r1 = 0) → (c2 : r2 = 0) → (c3 : ¬ x4 < 1) → (c4 : ¬ (iN 3) < x4) → (c5 : ¬ x2 < 0) → (c6 : x2 < (iN 12)) → (c7 : ¬ x3 < 0) → (c8 : x3 < (iN 10)) → gE w 44 0 [some (.ref 1), some (.int ((x3 * (iN 12)) + x2)), some (.int x4), some (.int r3), none, none, none] [] M (qv1 M r4))
    (h11 : (c1 : ¬ r1 = 0) → (c2 : r2 = 0) → (c3 : ¬ x4 < 1) → (c4 : ¬ (iN 3) < x4) → (c5 : ¬ x2 < 0) → (c6 : x2 < (iN 12)) → (c7 : ¬ x3 < 0) → (c8 : x3 < (iN 10)) → (c9 : ¬ r4 = 0) → gE w 59 0 [some (.ref 10), some (.ref 2)] [] M (fun r M' => gE w 5 104 [some (.ref 0), some (.int x1), some (.int x2), some (.int x3), some (.int x4), some (.int ((x3 * (iN 12)) + x2))] (r.toList ++ []) M' post))
    (h12 : (c1 : ¬ r1 = 0) → (c2 : r2 = 0) → (c3 : ¬ x4 < 1) → (c4 : ¬ (iN 3) < x4) → (c5 : ¬ x2 < 0) → (c6 : x2 < (iN 12)) → (c7 : ¬ x3 < 0) → (c8 : x3 < (iN 10)) → (c9 : r4 = 0) → post (some (.int 0)) M)
    (h13 : (c1 : ¬ r1 = 0) → (c2 : r2 = 0) → (c3 : ¬ x4 < 1) → (c4 : ¬ (iN 3) < x4) → (c5 : ¬ x2 < 0) → (c6 : x2 < (iN 12)) → (c7 : ¬ x3 < 0) → (c8 : ¬ x3 < (iN 10)) → post (some (.int 0)) M)
    (h14 : (c1 : ¬ r1 = 0) → (c2 : r2 = 0) → (c3 : ¬ x4 < 1) → (c4 : (iN 3) < x4) → post (some (.int 0)) M) :
    gE w 5 0 [some (.ref 0), some (.int x1), some (.int x2), some (.int x3), some (.int x4), none] [] M post := by
  refine ev_al (pc' := 1) (pt_5_0 w) rfl rfl ?_
  refine ev_getr (pc' := 4) (pt_5_1 w) rfl rfl rfl ?_
  refine ev_il (pc' := 5) (pt_5_4 w) rfl rfl ?_
  refine ev_cal1 (pc' := 8) (pt_5_5 w) (vs := [.ref 1, .int x1]) (rest := []) (en := [some (.ref 1), some (.int x1)]) rfl rfl rfl rfl rfl rfl rfl k1 ?_
  refine ev_zeq (pc' := 11) (pt_5_8 w) rfl (fun c1 => ?_) (fun c1 => ?_)
  · refine ev_k (pc' := 35) (pt_5_34 w) rfl ?_
    exact ev_rz (pt_5_35 w) z1_0 (h2 c1)
  · refine ev_al (pc' := 12) (pt_5_11 w) rfl rfl ?_
    refine ev_getr (pc' := 15) (pt_5_12 w) rfl rfl rfl ?_
    refine ev_il (pc' := 16) (pt_5_15 w) rfl rfl ?_
    refine ev_cal1 (pc' := 19) (pt_5_16 w) (vs := [.ref 1, .int x1]) (rest := []) (en := [some (.ref 1), some (.int x1)]) rfl rfl rfl rfl rfl rfl rfl (k3 c1) ?_
    refine ev_zne (pc' := 22) (pt_5_19 w) rfl (fun c2 => ?_) (fun c2 => ?_)
    · refine ev_k (pc' := 35) (pt_5_34 w) rfl ?_
      exact ev_rz (pt_5_35 w) z1_0 (h4 c1 c2)
    · refine ev_il (pc' := 24) (pt_5_22 w) rfl rfl ?_
      refine ev_k (pc' := 25) (pt_5_24 w) rfl ?_
      refine ev_clt (pc' := 28) (pt_5_25 w) rfl (fun c3 => ?_) (fun c3 => ?_)
      · refine ev_k (pc' := 35) (pt_5_34 w) rfl ?_
        exact ev_rz (pt_5_35 w) z1_0 (h5 c1 c2 c3)
      · refine ev_il (pc' := 30) (pt_5_28 w) rfl rfl ?_
        refine ev_k (pc' := 31) (pt_5_30 w) rfl ?_
        refine ev_cle (pc' := 34) (pt_5_31 w) rfl (fun c4 => ?_) (fun c4 => ?_)
        · refine ev_il (pc' := 37) (pt_5_36 w) rfl rfl ?_
          refine ev_zlt (pc' := 40) (pt_5_37 w) rfl (fun c5 => ?_) (fun c5 => ?_)
          · refine ev_k (pc' := 57) (pt_5_56 w) rfl ?_
            exact ev_rz (pt_5_57 w) z1_0 (h6 c1 c2 c3 c4 c5)
          · refine ev_il (pc' := 41) (pt_5_40 w) rfl rfl ?_
            refine ev_k (pc' := 43) (pt_5_41 w) rfl ?_
            refine ev_cge (pc' := 46) (pt_5_43 w) rfl (fun c6 => ?_) (fun c6 => ?_)
            · refine ev_k (pc' := 57) (pt_5_56 w) rfl ?_
              exact ev_rz (pt_5_57 w) z1_0 (h7 c1 c2 c3 c4 c5 c6)
            · refine ev_il (pc' := 47) (pt_5_46 w) rfl rfl ?_
              refine ev_zlt (pc' := 50) (pt_5_47 w) rfl (fun c7 => ?_) (fun c7 => ?_)
              · refine ev_k (pc' := 57) (pt_5_56 w) rfl ?_
                exact ev_rz (pt_5_57 w) z1_0 (h8 c1 c2 c3 c4 c5 c6 c7)
              · refine ev_il (pc' := 51) (pt_5_50 w) rfl rfl ?_
                refine ev_k (pc' := 53) (pt_5_51 w) rfl ?_
                refine ev_clt (pc' := 56) (pt_5_53 w) rfl (fun c8 => ?_) (fun c8 => ?_)
                · refine ev_il (pc' := 59) (pt_5_58 w) rfl rfl ?_
                  refine ev_k (pc' := 61) (pt_5_59 w) rfl ?_
                  refine ev_b (pc' := 62) (pt_5_61 w) rfl ?_
                  refine ev_il (pc' := 63) (pt_5_62 w) rfl rfl ?_
                  refine ev_b (pc' := 64) (pt_5_63 w) rfl ?_
                  refine ev_is (pc' := 66) (loc1 := [some (.ref 0), some (.int x1), some (.int x2), some (.int x3), some (.int x4), some (.int ((x3 * (iN 12)) + x2))]) (pt_5_64 w) rfl rfl ?_
                  refine ev_al (pc' := 67) (pt_5_66 w) rfl rfl ?_
                  refine ev_getr (pc' := 70) (pt_5_67 w) rfl rfl rfl ?_
                  refine ev_il (pc' := 72) (pt_5_70 w) rfl rfl ?_
                  refine ev_il (pc' := 74) (pt_5_72 w) rfl rfl ?_
                  refine ev_al (pc' := 75) (pt_5_74 w) rfl rfl ?_
                  refine ev_getr (pc' := 78) (pt_5_75 w) rfl rfl rfl ?_
                  refine ev_il (pc' := 79) (pt_5_78 w) rfl rfl ?_
                  refine ev_cal1 (pc' := 82) (pt_5_79 w) (vs := [.ref 1, .int x1]) (rest := [.int x4, .int ((x3 * (iN 12)) + x2), .ref 1]) (en := [some (.ref 1), some (.int x1)]) rfl rfl rfl rfl rfl rfl rfl (k9 c1 c2 c3 c4 c5 c6 c7 c8) ?_
                  refine ev_cal1 (pc' := 85) (pt_5_82 w) (vs := [.ref 1, .int ((x3 * (iN 12)) + x2), .int x4, .int r3]) (rest := []) (en := [some (.ref 1), some (.int ((x3 * (iN 12)) + x2)), some (.int x4), some (.int r3), none, none, none]) rfl rfl rfl rfl rfl rfl rfl (k10 c1 c2 c3 c4 c5 c6 c7 c8) ?_
                  refine ev_zne (pc' := 88) (pt_5_85 w) rfl (fun c9 => ?_) (fun c9 => ?_)
                  · refine ev_al (pc' := 91) (pt_5_90 w) rfl rfl ?_
                    refine ev_getr (pc' := 94) (pt_5_91 w) rfl rfl rfl ?_
                    refine ev_al (pc' := 95) (pt_5_94 w) rfl rfl ?_
                    refine ev_getr (pc' := 98) (pt_5_95 w) rfl rfl rfl ?_
                    refine ev_getr (pc' := 101) (pt_5_98 w) rfl rfl rfl ?_
                    exact ev_cal (pc' := 104) (pt_5_101 w) (vs := [.ref 10, .ref 2]) (rest := []) (en := [some (.ref 10), some (.ref 2)]) rfl rfl rfl rfl rfl rfl rfl (h11 c1 c2 c3 c4 c5 c6 c7 c8 c9)
                  · refine ev_k (pc' := 89) (pt_5_88 w) rfl ?_
                    exact ev_rz (pt_5_89 w) z1_0 (h12 c1 c2 c3 c4 c5 c6 c7 c8 c9)
                · refine ev_k (pc' := 57) (pt_5_56 w) rfl ?_
                  exact ev_rz (pt_5_57 w) z1_0 (h13 c1 c2 c3 c4 c5 c6 c7 c8)
        · refine ev_k (pc' := 35) (pt_5_34 w) rfl ?_
          exact ev_rz (pt_5_35 w) z1_0 (h14 c1 c2 c3 c4)

theorem wk_5_104 {w : qS} {M : qM} {x1 x4 x5 : Int32} {o2 o3 : Option Value} {post : qR}
    (h1 : gE w 45 0 [some (.ref 1), some (.int x1), some (.int x5), some (.int x4)] [] M (fun r M' => gE w 5 116 [some (.ref 0), some (.int x1), o2, o3, some (.int x4), some (.int x5)] (r.toList ++ []) M' post)) :
    gE w 5 104 [some (.ref 0), some (.int x1), o2, o3, some (.int x4), some (.int x5)] [] M post := by
  refine ev_al (pc' := 105) (pt_5_104 w) rfl rfl ?_
  refine ev_getr (pc' := 108) (pt_5_105 w) rfl rfl rfl ?_
  refine ev_il (pc' := 109) (pt_5_108 w) rfl rfl ?_
  refine ev_il (pc' := 111) (pt_5_109 w) rfl rfl ?_
  refine ev_il (pc' := 113) (pt_5_111 w) rfl rfl ?_
  exact ev_cal (pc' := 116) (pt_5_113 w) (vs := [.ref 1, .int x1, .int x5, .int x4]) (rest := []) (en := [some (.ref 1), some (.int x1), some (.int x5), some (.int x4)]) rfl rfl rfl rfl rfl rfl rfl h1

theorem wk_5_116 {w : qS} {M : qM} {o1 o2 o3 o4 o5 : Option Value} {post : qR}
    (h1 : gE w 60 0 [some (.ref 10), some (.ref 2)] [] M (fun r M' => gE w 5 130 [some (.ref 0), o1, o2, o3, o4, o5] (r.toList ++ []) M' post)) :
    gE w 5 116 [some (.ref 0), o1, o2, o3, o4, o5] [] M post := by
  refine ev_al (pc' := 117) (pt_5_116 w) rfl rfl ?_
  refine ev_getr (pc' := 120) (pt_5_117 w) rfl rfl rfl ?_
  refine ev_al (pc' := 121) (pt_5_120 w) rfl rfl ?_
  refine ev_getr (pc' := 124) (pt_5_121 w) rfl rfl rfl ?_
  refine ev_getr (pc' := 127) (pt_5_124 w) rfl rfl rfl ?_
  exact ev_cal (pc' := 130) (pt_5_127 w) (vs := [.ref 10, .ref 2]) (rest := []) (en := [some (.ref 10), some (.ref 2)]) rfl rfl rfl rfl rfl rfl rfl h1

theorem wk_5_130 {w : qS} {M : qM} {o0 o1 o2 o3 o4 o5 : Option Value} {post : qR}
    (h1 : post (some (.int 1)) M) :
    gE w 5 130 [o0, o1, o2, o3, o4, o5] [] M post := by
  refine ev_k (pc' := 131) (pt_5_130 w) rfl ?_
  exact ev_rz (pt_5_131 w) z1_1 h1

-- BoardDesk.lift(I)Z
theorem wk_6_0 {w : qS} {M : qM} {x1 : Int32} {r1 : Int32} {r2 : Int32} {post : qR}
    (k1 : gE w 29 0 [some (.ref 1), some (.int x1)] [] M (qv1 M r1))
    (h2 : (c1 : r1 = 0) → post (some (.int 0)) M)
    (k3 : (c1 : ¬ r1 = 0) → gE w 30 0 [some (.ref 1), some (.int x1)] [] M (qv1 M r2))
    (h4 : (c1 : ¬ r1 = 0) → (c2 : ¬ r2 = 0) → gE w 59 0 [some (.ref 10), some (.ref 2)] [] M (fun r M' => gE w 6 38 [some (.ref 0), some (.int x1)] (r.toList ++ []) M' post))
    (h5 : (c1 : ¬ r1 = 0) → (c2 : r2 = 0) → post (some (.int 0)) M) :
    gE w 6 0 [some (.ref 0), some (.int x1)] [] M post := by
  refine ev_al (pc' := 1) (pt_6_0 w) rfl rfl ?_
  refine ev_getr (pc' := 4) (pt_6_1 w) rfl rfl rfl ?_
  refine ev_il (pc' := 5) (pt_6_4 w) rfl rfl ?_
  refine ev_cal1 (pc' := 8) (pt_6_5 w) (vs := [.ref 1, .int x1]) (rest := []) (en := [some (.ref 1), some (.int x1)]) rfl rfl rfl rfl rfl rfl rfl k1 ?_
  refine ev_zeq (pc' := 11) (pt_6_8 w) rfl (fun c1 => ?_) (fun c1 => ?_)
  · refine ev_k (pc' := 23) (pt_6_22 w) rfl ?_
    exact ev_rz (pt_6_23 w) z1_0 (h2 c1)
  · refine ev_al (pc' := 12) (pt_6_11 w) rfl rfl ?_
    refine ev_getr (pc' := 15) (pt_6_12 w) rfl rfl rfl ?_
    refine ev_il (pc' := 16) (pt_6_15 w) rfl rfl ?_
    refine ev_cal1 (pc' := 19) (pt_6_16 w) (vs := [.ref 1, .int x1]) (rest := []) (en := [some (.ref 1), some (.int x1)]) rfl rfl rfl rfl rfl rfl rfl (k3 c1) ?_
    refine ev_zne (pc' := 22) (pt_6_19 w) rfl (fun c2 => ?_) (fun c2 => ?_)
    · refine ev_al (pc' := 25) (pt_6_24 w) rfl rfl ?_
      refine ev_getr (pc' := 28) (pt_6_25 w) rfl rfl rfl ?_
      refine ev_al (pc' := 29) (pt_6_28 w) rfl rfl ?_
      refine ev_getr (pc' := 32) (pt_6_29 w) rfl rfl rfl ?_
      refine ev_getr (pc' := 35) (pt_6_32 w) rfl rfl rfl ?_
      exact ev_cal (pc' := 38) (pt_6_35 w) (vs := [.ref 10, .ref 2]) (rest := []) (en := [some (.ref 10), some (.ref 2)]) rfl rfl rfl rfl rfl rfl rfl (h4 c1 c2)
    · refine ev_k (pc' := 23) (pt_6_22 w) rfl ?_
      exact ev_rz (pt_6_23 w) z1_0 (h5 c1 c2)

theorem wk_6_38 {w : qS} {M : qM} {x1 : Int32} {post : qR}
    (h1 : gE w 46 0 [some (.ref 1), some (.int x1)] [] M (fun r M' => gE w 6 46 [some (.ref 0), some (.int x1)] (r.toList ++ []) M' post)) :
    gE w 6 38 [some (.ref 0), some (.int x1)] [] M post := by
  refine ev_al (pc' := 39) (pt_6_38 w) rfl rfl ?_
  refine ev_getr (pc' := 42) (pt_6_39 w) rfl rfl rfl ?_
  refine ev_il (pc' := 43) (pt_6_42 w) rfl rfl ?_
  exact ev_cal (pc' := 46) (pt_6_43 w) (vs := [.ref 1, .int x1]) (rest := []) (en := [some (.ref 1), some (.int x1)]) rfl rfl rfl rfl rfl rfl rfl h1

theorem wk_6_46 {w : qS} {M : qM} {o1 : Option Value} {post : qR}
    (h1 : gE w 60 0 [some (.ref 10), some (.ref 2)] [] M (fun r M' => gE w 6 60 [some (.ref 0), o1] (r.toList ++ []) M' post)) :
    gE w 6 46 [some (.ref 0), o1] [] M post := by
  refine ev_al (pc' := 47) (pt_6_46 w) rfl rfl ?_
  refine ev_getr (pc' := 50) (pt_6_47 w) rfl rfl rfl ?_
  refine ev_al (pc' := 51) (pt_6_50 w) rfl rfl ?_
  refine ev_getr (pc' := 54) (pt_6_51 w) rfl rfl rfl ?_
  refine ev_getr (pc' := 57) (pt_6_54 w) rfl rfl rfl ?_
  exact ev_cal (pc' := 60) (pt_6_57 w) (vs := [.ref 10, .ref 2]) (rest := []) (en := [some (.ref 10), some (.ref 2)]) rfl rfl rfl rfl rfl rfl rfl h1

theorem wk_6_60 {w : qS} {M : qM} {o0 o1 : Option Value} {post : qR}
    (h1 : post (some (.int 1)) M) :
    gE w 6 60 [o0, o1] [] M post := by
  refine ev_k (pc' := 61) (pt_6_60 w) rfl ?_
  exact ev_rz (pt_6_61 w) z1_1 h1

-- BoardDesk.rule(I)I
theorem wk_7_0 {w : qS} {M : qM} {x1 : Int32} {post : qR}
    (h1 : (c1 : x1 < 1) → post (some (.int (-1))) M)
    (h2 : (c1 : ¬ x1 < 1) → (c2 : ¬ (iN 2) < x1) → gE w 59 0 [some (.ref 10), some (.ref 2)] [] M (fun r M' => gE w 7 37 [some (.ref 0), some (.int x1), some (.int (M 2 8))] (r.toList ++ []) M' post))
    (h3 : (c1 : ¬ x1 < 1) → (c2 : (iN 2) < x1) → post (some (.int (-1))) M) :
    gE w 7 0 [some (.ref 0), some (.int x1), none] [] M post := by
  refine ev_il (pc' := 1) (pt_7_0 w) rfl rfl ?_
  refine ev_k (pc' := 2) (pt_7_1 w) rfl ?_
  refine ev_clt (pc' := 5) (pt_7_2 w) rfl (fun c1 => ?_) (fun c1 => ?_)
  · refine ev_k (pc' := 11) (pt_7_10 w) rfl ?_
    exact ev_ri1 (pt_7_11 w) (h1 c1)
  · refine ev_il (pc' := 6) (pt_7_5 w) rfl rfl ?_
    refine ev_k (pc' := 7) (pt_7_6 w) rfl ?_
    refine ev_cle (pc' := 10) (pt_7_7 w) rfl (fun c2 => ?_) (fun c2 => ?_)
    · refine ev_al (pc' := 13) (pt_7_12 w) rfl rfl ?_
      refine ev_getr (pc' := 16) (pt_7_13 w) rfl rfl rfl ?_
      refine ev_getr (pc' := 19) (pt_7_16 w) rfl rfl rfl ?_
      refine ev_geti (pc' := 22) (pt_7_19 w) rfl rfl rfl ?_
      refine ev_is (pc' := 23) (loc1 := [some (.ref 0), some (.int x1), some (.int (M 2 8))]) (pt_7_22 w) rfl rfl ?_
      refine ev_al (pc' := 24) (pt_7_23 w) rfl rfl ?_
      refine ev_getr (pc' := 27) (pt_7_24 w) rfl rfl rfl ?_
      refine ev_al (pc' := 28) (pt_7_27 w) rfl rfl ?_
      refine ev_getr (pc' := 31) (pt_7_28 w) rfl rfl rfl ?_
      refine ev_getr (pc' := 34) (pt_7_31 w) rfl rfl rfl ?_
      exact ev_cal (pc' := 37) (pt_7_34 w) (vs := [.ref 10, .ref 2]) (rest := []) (en := [some (.ref 10), some (.ref 2)]) rfl rfl rfl rfl rfl rfl rfl (h2 c1 c2)
    · refine ev_k (pc' := 11) (pt_7_10 w) rfl ?_
      exact ev_ri1 (pt_7_11 w) (h3 c1 c2)

theorem wk_7_37 {w : qS} {M : qM} {x1 x2 : Int32} {post : qR}
    (h1 : gE w 60 0 [some (.ref 10), some (.ref 2)] [] (ms M 2 8 x1) (fun r M' => gE w 7 62 [some (.ref 0), some (.int x1), some (.int x2)] (r.toList ++ []) M' post)) :
    gE w 7 37 [some (.ref 0), some (.int x1), some (.int x2)] [] M post := by
  refine ev_al (pc' := 38) (pt_7_37 w) rfl rfl ?_
  refine ev_getr (pc' := 41) (pt_7_38 w) rfl rfl rfl ?_
  refine ev_getr (pc' := 44) (pt_7_41 w) rfl rfl rfl ?_
  refine ev_il (pc' := 45) (pt_7_44 w) rfl rfl ?_
  refine ev_put (pc' := 48) (pt_7_45 w) rfl rfl rfl ?_
  refine ev_al (pc' := 49) (pt_7_48 w) rfl rfl ?_
  refine ev_getr (pc' := 52) (pt_7_49 w) rfl rfl rfl ?_
  refine ev_al (pc' := 53) (pt_7_52 w) rfl rfl ?_
  refine ev_getr (pc' := 56) (pt_7_53 w) rfl rfl rfl ?_
  refine ev_getr (pc' := 59) (pt_7_56 w) rfl rfl rfl ?_
  exact ev_cal (pc' := 62) (pt_7_59 w) (vs := [.ref 10, .ref 2]) (rest := []) (en := [some (.ref 10), some (.ref 2)]) rfl rfl rfl rfl rfl rfl rfl h1

theorem wk_7_62 {w : qS} {M : qM} {x2 : Int32} {o0 o1 : Option Value} {post : qR}
    (h1 : post (some (.int x2)) M) :
    gE w 7 62 [o0, o1, some (.int x2)] [] M post := by
  refine ev_il (pc' := 63) (pt_7_62 w) rfl rfl ?_
  exact ev_ri1 (pt_7_63 w) h1

-- BoardDesk.bar(IZ)Z
theorem wk_8_0 {w : qS} {M : qM} {x1 x2 : Int32} {r1 : Int32} {r2 : Int32} {post : qR}
    (k1 : gE w 24 0 [some (.int x1)] [] M (qv1 M r1))
    (h2 : (c1 : r1 = 0) → post (some (.int 0)) M)
    (k3 : (c1 : ¬ r1 = 0) → gE w 32 0 [some (.ref 1), some (.int x1), none] [] M (qv1 M r2))
    (h4 : (c1 : ¬ r1 = 0) → (c2 : r2 = (-1)) → gE w 59 0 [some (.ref 10), some (.ref 2)] [] M (fun r M' => gE w 8 35 [some (.ref 0), some (.int x1), some (.int x2)] (r.toList ++ []) M' post))
    (h5 : (c1 : ¬ r1 = 0) → (c2 : ¬ r2 = (-1)) → post (some (.int 0)) M) :
    gE w 8 0 [some (.ref 0), some (.int x1), some (.int x2)] [] M post := by
  refine ev_il (pc' := 1) (pt_8_0 w) rfl rfl ?_
  refine ev_cal1 (pc' := 4) (pt_8_1 w) (vs := [.int x1]) (rest := []) (en := [some (.int x1)]) rfl rfl rfl rfl trivial rfl rfl k1 ?_
  refine ev_zeq (pc' := 7) (pt_8_4 w) rfl (fun c1 => ?_) (fun c1 => ?_)
  · refine ev_k (pc' := 20) (pt_8_19 w) rfl ?_
    exact ev_rz (pt_8_20 w) z1_0 (h2 c1)
  · refine ev_al (pc' := 8) (pt_8_7 w) rfl rfl ?_
    refine ev_getr (pc' := 11) (pt_8_8 w) rfl rfl rfl ?_
    refine ev_il (pc' := 12) (pt_8_11 w) rfl rfl ?_
    refine ev_cal1 (pc' := 15) (pt_8_12 w) (vs := [.ref 1, .int x1]) (rest := []) (en := [some (.ref 1), some (.int x1), none]) rfl rfl rfl rfl rfl rfl rfl (k3 c1) ?_
    refine ev_k (pc' := 16) (pt_8_15 w) rfl ?_
    refine ev_ceq (pc' := 19) (pt_8_16 w) rfl (fun c2 => ?_) (fun c2 => ?_)
    · refine ev_al (pc' := 22) (pt_8_21 w) rfl rfl ?_
      refine ev_getr (pc' := 25) (pt_8_22 w) rfl rfl rfl ?_
      refine ev_al (pc' := 26) (pt_8_25 w) rfl rfl ?_
      refine ev_getr (pc' := 29) (pt_8_26 w) rfl rfl rfl ?_
      refine ev_getr (pc' := 32) (pt_8_29 w) rfl rfl rfl ?_
      exact ev_cal (pc' := 35) (pt_8_32 w) (vs := [.ref 10, .ref 2]) (rest := []) (en := [some (.ref 10), some (.ref 2)]) rfl rfl rfl rfl rfl rfl rfl (h4 c1 c2)
    · refine ev_k (pc' := 20) (pt_8_19 w) rfl ?_
      exact ev_rz (pt_8_20 w) z1_0 (h5 c1 c2)

theorem wk_8_35 {w : qS} {M : qM} {x1 x2 : Int32} {post : qR}
    (b1 : vp_in x1 240)
    (h2 : gE w 60 0 [some (.ref 10), some (.ref 2)] [] (ms M 8 x1.toNatClampNeg (if x2 = 0 then (-1) else (-2) : Int32)) (fun r M' => gE w 8 71 [some (.ref 0), some (.int x1), some (.int x2)] (r.toList ++ []) M' post)) :
    gE w 8 35 [some (.ref 0), some (.int x1), some (.int x2)] [] M post := by
  refine ev_al (pc' := 36) (pt_8_35 w) rfl rfl ?_
  refine ev_getr (pc' := 39) (pt_8_36 w) rfl rfl rfl ?_
  refine ev_getr (pc' := 42) (pt_8_39 w) rfl rfl rfl ?_
  refine ev_getr (pc' := 45) (pt_8_42 w) rfl rfl rfl ?_
  refine ev_il (pc' := 46) (pt_8_45 w) rfl rfl ?_
  refine ev_il (pc' := 47) (pt_8_46 w) rfl rfl ?_
  have j1 : ∀ v1 : Int32, v1 = (if x2 = 0 then (-1) else (-2) : Int32) → gE w 8 56 [some (.ref 0), some (.int x1), some (.int x2)] [.int v1, .int x1, .ref 8] M post := by
    intro v1 e2
    subst v1
    refine ev_ias (pc' := 57) (pt_8_56 w) rfl rfl b1 ?_
    refine ev_al (pc' := 58) (pt_8_57 w) rfl rfl ?_
    refine ev_getr (pc' := 61) (pt_8_58 w) rfl rfl rfl ?_
    refine ev_al (pc' := 62) (pt_8_61 w) rfl rfl ?_
    refine ev_getr (pc' := 65) (pt_8_62 w) rfl rfl rfl ?_
    refine ev_getr (pc' := 68) (pt_8_65 w) rfl rfl rfl ?_
    exact ev_cal (pc' := 71) (pt_8_68 w) (vs := [.ref 10, .ref 2]) (rest := []) (en := [some (.ref 10), some (.ref 2)]) rfl rfl rfl rfl rfl rfl rfl h2
  refine ev_zeq (pc' := 50) (pt_8_47 w) rfl (fun c1 => ?_) (fun c1 => ?_)
  · refine ev_k (pc' := 56) (pt_8_55 w) rfl ?_
    exact j1 _ (if_pos c1).symm
  · refine ev_k (pc' := 52) (pt_8_50 w) rfl ?_
    refine ev_g (pt_8_52 w) ?_
    exact j1 _ (if_neg c1).symm

theorem wk_8_71 {w : qS} {M : qM} {x2 : Int32} {o0 o1 : Option Value} {post : qR}
    (n1 : x2 = 0 ∨ x2 = 1)
    (h2 : post (some (.int x2)) M) :
    gE w 8 71 [o0, o1, some (.int x2)] [] M post := by
  refine ev_il (pc' := 72) (pt_8_71 w) rfl rfl ?_
  exact ev_rz (pt_8_72 w) n1 h2

-- BoardDesk.track(IIII)I
theorem wk_9_0 {w : qS} {M : qM} {x1 x2 x3 x4 : Int32} {r1 : Int32} {r2 : Int32} {r3 : Int32} {r4 : Int32} {post : qR}
    (k1 : gE w 29 0 [some (.ref 1), some (.int x1)] [] M (qv1 M r1))
    (h2 : (c1 : r1 = 0) → post (some (.int (-1))) M)
    (k3 : (c1 : ¬ r1 = 0) → gE w 24 0 [some (.int x2)] [] M (qv1 M r2))
    (h4 : (c1 : ¬ r1 = 0) → (c2 : r2 = 0) → post (some (.int (-1))) M)
    (h5 : (c1 : ¬ r1 = 0) → (c2 : ¬ r2 = 0) → (c3 : x3 < 0) → post (some (.int (-1))) M)
    (h6 : (c1 : ¬ r1 = 0) → (c2 : ¬ r2 = 0) → (c3 : ¬ x3 < 0) → (c4 : x3 < (iN 9)) → (c5 : x4 < 0) → post (some (.int (-1))) M)
    (k7 : (c1 : ¬ r1 = 0) → (c2 : ¬ r2 = 0) → (c3 : ¬ x3 < 0) → (c4 : x3 < (iN 9)) → (c5 : ¬ x4 < 0) → (c6 : ¬ (if x3 = (iN 8) then 1 else (iN 11) : Int32) < x4) → gE w 31 0 [some (.ref 1), some (.int x1)] [] M (qv1 M r3))
    (k8 : (c1 : ¬ r1 = 0) → (c2 : ¬ r2 = 0) → (c3 : ¬ x3 < 0) → (c4 : x3 < (iN 9)) → (c5 : ¬ x4 < 0) → (c6 : ¬ (if x3 = (iN 8) then 1 else (iN 11) : Int32) < x4) → gE w 48 0 [some (.ref 1), some (.int r3), some (.int x2), some (.int x3), some (.int x4), none, none] [] M (qv1 M r4))
    (h9 : (c1 : ¬ r1 = 0) → (c2 : ¬ r2 = 0) → (c3 : ¬ x3 < 0) → (c4 : x3 < (iN 9)) → (c5 : ¬ x4 < 0) → (c6 : ¬ (if x3 = (iN 8) then 1 else (iN 11) : Int32) < x4) → (c7 : ¬ r4 = 0) → gE w 59 0 [some (.ref 10), some (.ref 2)] [] M (fun r M' => gE w 9 96 [some (.ref 0), some (.int x1), some (.int x2), some (.int x3), some (.int x4), some (.int (if x3 = (iN 8) then 1 else (iN 11) : Int32)), none] (r.toList ++ []) M' post))
    (h10 : (c1 : ¬ r1 = 0) → (c2 : ¬ r2 = 0) → (c3 : ¬ x3 < 0) → (c4 : x3 < (iN 9)) → (c5 : ¬ x4 < 0) → (c6 : ¬ (if x3 = (iN 8) then 1 else (iN 11) : Int32) < x4) → (c7 : r4 = 0) → post (some (.int (-1))) M)
    (h11 : (c1 : ¬ r1 = 0) → (c2 : ¬ r2 = 0) → (c3 : ¬ x3 < 0) → (c4 : x3 < (iN 9)) → (c5 : ¬ x4 < 0) → (c6 : (if x3 = (iN 8) then 1 else (iN 11) : Int32) < x4) → post (some (.int (-1))) M)
    (h12 : (c1 : ¬ r1 = 0) → (c2 : ¬ r2 = 0) → (c3 : ¬ x3 < 0) → (c4 : ¬ x3 < (iN 9)) → post (some (.int (-1))) M) :
    gE w 9 0 [some (.ref 0), some (.int x1), some (.int x2), some (.int x3), some (.int x4), none, none] [] M post := by
  refine ev_al (pc' := 1) (pt_9_0 w) rfl rfl ?_
  refine ev_getr (pc' := 4) (pt_9_1 w) rfl rfl rfl ?_
  refine ev_il (pc' := 5) (pt_9_4 w) rfl rfl ?_
  refine ev_cal1 (pc' := 8) (pt_9_5 w) (vs := [.ref 1, .int x1]) (rest := []) (en := [some (.ref 1), some (.int x1)]) rfl rfl rfl rfl rfl rfl rfl k1 ?_
  refine ev_zeq (pc' := 11) (pt_9_8 w) rfl (fun c1 => ?_) (fun c1 => ?_)
  · refine ev_k (pc' := 29) (pt_9_28 w) rfl ?_
    exact ev_ri1 (pt_9_29 w) (h2 c1)
  · refine ev_il (pc' := 12) (pt_9_11 w) rfl rfl ?_
    refine ev_cal1 (pc' := 15) (pt_9_12 w) (vs := [.int x2]) (rest := []) (en := [some (.int x2)]) rfl rfl rfl rfl trivial rfl rfl (k3 c1) ?_
    refine ev_zeq (pc' := 18) (pt_9_15 w) rfl (fun c2 => ?_) (fun c2 => ?_)
    · refine ev_k (pc' := 29) (pt_9_28 w) rfl ?_
      exact ev_ri1 (pt_9_29 w) (h4 c1 c2)
    · refine ev_il (pc' := 19) (pt_9_18 w) rfl rfl ?_
      refine ev_zlt (pc' := 22) (pt_9_19 w) rfl (fun c3 => ?_) (fun c3 => ?_)
      · refine ev_k (pc' := 29) (pt_9_28 w) rfl ?_
        exact ev_ri1 (pt_9_29 w) (h5 c1 c2 c3)
      · refine ev_il (pc' := 23) (pt_9_22 w) rfl rfl ?_
        refine ev_k (pc' := 25) (pt_9_23 w) rfl ?_
        refine ev_clt (pc' := 28) (pt_9_25 w) rfl (fun c4 => ?_) (fun c4 => ?_)
        · refine ev_il (pc' := 31) (pt_9_30 w) rfl rfl ?_
          refine ev_k (pc' := 33) (pt_9_31 w) rfl ?_
          have j1 : ∀ v1 : Int32, v1 = (if x3 = (iN 8) then 1 else (iN 11) : Int32) → gE w 9 42 [some (.ref 0), some (.int x1), some (.int x2), some (.int x3), some (.int x4), none, none] [.int v1] M post := by
            intro v1 e2
            subst v1
            refine ev_is (pc' := 44) (loc1 := [some (.ref 0), some (.int x1), some (.int x2), some (.int x3), some (.int x4), some (.int (if x3 = (iN 8) then 1 else (iN 11) : Int32)), none]) (pt_9_42 w) rfl rfl ?_
            refine ev_il (pc' := 46) (pt_9_44 w) rfl rfl ?_
            refine ev_zlt (pc' := 49) (pt_9_46 w) rfl (fun c5 => ?_) (fun c5 => ?_)
            · refine ev_k (pc' := 57) (pt_9_56 w) rfl ?_
              exact ev_ri1 (pt_9_57 w) (h6 c1 c2 c3 c4 c5)
            · refine ev_il (pc' := 51) (pt_9_49 w) rfl rfl ?_
              refine ev_il (pc' := 53) (pt_9_51 w) rfl rfl ?_
              refine ev_cle (pc' := 56) (pt_9_53 w) rfl (fun c6 => ?_) (fun c6 => ?_)
              · refine ev_al (pc' := 59) (pt_9_58 w) rfl rfl ?_
                refine ev_getr (pc' := 62) (pt_9_59 w) rfl rfl rfl ?_
                refine ev_al (pc' := 63) (pt_9_62 w) rfl rfl ?_
                refine ev_getr (pc' := 66) (pt_9_63 w) rfl rfl rfl ?_
                refine ev_il (pc' := 67) (pt_9_66 w) rfl rfl ?_
                refine ev_cal1 (pc' := 70) (pt_9_67 w) (vs := [.ref 1, .int x1]) (rest := [.ref 1]) (en := [some (.ref 1), some (.int x1)]) rfl rfl rfl rfl rfl rfl rfl (k7 c1 c2 c3 c4 c5 c6) ?_
                refine ev_il (pc' := 71) (pt_9_70 w) rfl rfl ?_
                refine ev_il (pc' := 72) (pt_9_71 w) rfl rfl ?_
                refine ev_il (pc' := 74) (pt_9_72 w) rfl rfl ?_
                refine ev_cal1 (pc' := 77) (pt_9_74 w) (vs := [.ref 1, .int r3, .int x2, .int x3, .int x4]) (rest := []) (en := [some (.ref 1), some (.int r3), some (.int x2), some (.int x3), some (.int x4), none, none]) rfl rfl rfl rfl rfl rfl rfl (k8 c1 c2 c3 c4 c5 c6) ?_
                refine ev_zne (pc' := 80) (pt_9_77 w) rfl (fun c7 => ?_) (fun c7 => ?_)
                · refine ev_al (pc' := 83) (pt_9_82 w) rfl rfl ?_
                  refine ev_getr (pc' := 86) (pt_9_83 w) rfl rfl rfl ?_
                  refine ev_al (pc' := 87) (pt_9_86 w) rfl rfl ?_
                  refine ev_getr (pc' := 90) (pt_9_87 w) rfl rfl rfl ?_
                  refine ev_getr (pc' := 93) (pt_9_90 w) rfl rfl rfl ?_
                  exact ev_cal (pc' := 96) (pt_9_93 w) (vs := [.ref 10, .ref 2]) (rest := []) (en := [some (.ref 10), some (.ref 2)]) rfl rfl rfl rfl rfl rfl rfl (h9 c1 c2 c3 c4 c5 c6 c7)
                · refine ev_k (pc' := 81) (pt_9_80 w) rfl ?_
                  exact ev_ri1 (pt_9_81 w) (h10 c1 c2 c3 c4 c5 c6 c7)
              · refine ev_k (pc' := 57) (pt_9_56 w) rfl ?_
                exact ev_ri1 (pt_9_57 w) (h11 c1 c2 c3 c4 c5 c6)
          refine ev_cne (pc' := 36) (pt_9_33 w) rfl (fun c8 => ?_) (fun c8 => ?_)
          · refine ev_k (pc' := 42) (pt_9_40 w) rfl ?_
            exact j1 _ (if_neg c8).symm
          · refine ev_k (pc' := 37) (pt_9_36 w) rfl ?_
            refine ev_g (pt_9_37 w) ?_
            exact j1 _ (if_pos c8).symm
        · refine ev_k (pc' := 29) (pt_9_28 w) rfl ?_
          exact ev_ri1 (pt_9_29 w) (h12 c1 c2 c3 c4)

theorem wk_9_96 {w : qS} {M : qM} {x1 x2 x3 x4 : Int32} {o5 o6 : Option Value} {post : qR}
    (h1 : gE w 49 0 [some (.ref 1), some (.int x1), some (.int x2), some (.int x3), some (.int x4), none, none, none] [] M (fun r M' => gE w 9 108 [some (.ref 0), some (.int x1), some (.int x2), some (.int x3), some (.int x4), o5, o6] (r.toList ++ []) M' post)) :
    gE w 9 96 [some (.ref 0), some (.int x1), some (.int x2), some (.int x3), some (.int x4), o5, o6] [] M post := by
  refine ev_al (pc' := 97) (pt_9_96 w) rfl rfl ?_
  refine ev_getr (pc' := 100) (pt_9_97 w) rfl rfl rfl ?_
  refine ev_il (pc' := 101) (pt_9_100 w) rfl rfl ?_
  refine ev_il (pc' := 102) (pt_9_101 w) rfl rfl ?_
  refine ev_il (pc' := 103) (pt_9_102 w) rfl rfl ?_
  refine ev_il (pc' := 105) (pt_9_103 w) rfl rfl ?_
  exact ev_cal (pc' := 108) (pt_9_105 w) (vs := [.ref 1, .int x1, .int x2, .int x3, .int x4]) (rest := []) (en := [some (.ref 1), some (.int x1), some (.int x2), some (.int x3), some (.int x4), none, none, none]) rfl rfl rfl rfl rfl rfl rfl h1

theorem wk_9_108 {w : qS} {M : qM} {s0 : Int32} {o1 o2 o3 o4 o5 o6 : Option Value} {post : qR}
    (h1 : gE w 60 0 [some (.ref 10), some (.ref 2)] [] M (fun r M' => gE w 9 124 [some (.ref 0), o1, o2, o3, o4, o5, some (.int s0)] (r.toList ++ []) M' post)) :
    gE w 9 108 [some (.ref 0), o1, o2, o3, o4, o5, o6] [.int s0] M post := by
  refine ev_is (pc' := 110) (loc1 := [some (.ref 0), o1, o2, o3, o4, o5, some (.int s0)]) (pt_9_108 w) rfl rfl ?_
  refine ev_al (pc' := 111) (pt_9_110 w) rfl rfl ?_
  refine ev_getr (pc' := 114) (pt_9_111 w) rfl rfl rfl ?_
  refine ev_al (pc' := 115) (pt_9_114 w) rfl rfl ?_
  refine ev_getr (pc' := 118) (pt_9_115 w) rfl rfl rfl ?_
  refine ev_getr (pc' := 121) (pt_9_118 w) rfl rfl rfl ?_
  exact ev_cal (pc' := 124) (pt_9_121 w) (vs := [.ref 10, .ref 2]) (rest := []) (en := [some (.ref 10), some (.ref 2)]) rfl rfl rfl rfl rfl rfl rfl h1

theorem wk_9_124 {w : qS} {M : qM} {x6 : Int32} {o0 o1 o2 o3 o4 o5 : Option Value} {post : qR}
    (h1 : post (some (.int x6)) M) :
    gE w 9 124 [o0, o1, o2, o3, o4, o5, some (.int x6)] [] M post := by
  refine ev_il (pc' := 126) (pt_9_124 w) rfl rfl ?_
  exact ev_ri1 (pt_9_126 w) h1

-- BoardDesk.erase(I)Z
theorem wk_10_0 {w : qS} {M : qM} {x1 : Int32} {r1 : Int32} {r2 : Int32} {post : qR}
    (k1 : gE w 24 0 [some (.int x1)] [] M (qv1 M r1))
    (h2 : (c1 : r1 = 0) → post (some (.int 0)) M)
    (k3 : (c1 : ¬ r1 = 0) → gE w 34 0 [some (.ref 1), some (.int x1), none] [] M (qv1 M r2))
    (h4 : (c1 : ¬ r1 = 0) → (c2 : ¬ r2 = 0) → gE w 59 0 [some (.ref 10), some (.ref 2)] [] M (fun r M' => gE w 10 34 [some (.ref 0), some (.int x1)] (r.toList ++ []) M' post))
    (h5 : (c1 : ¬ r1 = 0) → (c2 : r2 = 0) → post (some (.int 0)) M) :
    gE w 10 0 [some (.ref 0), some (.int x1)] [] M post := by
  refine ev_il (pc' := 1) (pt_10_0 w) rfl rfl ?_
  refine ev_cal1 (pc' := 4) (pt_10_1 w) (vs := [.int x1]) (rest := []) (en := [some (.int x1)]) rfl rfl rfl rfl trivial rfl rfl k1 ?_
  refine ev_zeq (pc' := 7) (pt_10_4 w) rfl (fun c1 => ?_) (fun c1 => ?_)
  · refine ev_k (pc' := 19) (pt_10_18 w) rfl ?_
    exact ev_rz (pt_10_19 w) z1_0 (h2 c1)
  · refine ev_al (pc' := 8) (pt_10_7 w) rfl rfl ?_
    refine ev_getr (pc' := 11) (pt_10_8 w) rfl rfl rfl ?_
    refine ev_il (pc' := 12) (pt_10_11 w) rfl rfl ?_
    refine ev_cal1 (pc' := 15) (pt_10_12 w) (vs := [.ref 1, .int x1]) (rest := []) (en := [some (.ref 1), some (.int x1), none]) rfl rfl rfl rfl rfl rfl rfl (k3 c1) ?_
    refine ev_zne (pc' := 18) (pt_10_15 w) rfl (fun c2 => ?_) (fun c2 => ?_)
    · refine ev_al (pc' := 21) (pt_10_20 w) rfl rfl ?_
      refine ev_getr (pc' := 24) (pt_10_21 w) rfl rfl rfl ?_
      refine ev_al (pc' := 25) (pt_10_24 w) rfl rfl ?_
      refine ev_getr (pc' := 28) (pt_10_25 w) rfl rfl rfl ?_
      refine ev_getr (pc' := 31) (pt_10_28 w) rfl rfl rfl ?_
      exact ev_cal (pc' := 34) (pt_10_31 w) (vs := [.ref 10, .ref 2]) (rest := []) (en := [some (.ref 10), some (.ref 2)]) rfl rfl rfl rfl rfl rfl rfl (h4 c1 c2)
    · refine ev_k (pc' := 19) (pt_10_18 w) rfl ?_
      exact ev_rz (pt_10_19 w) z1_0 (h5 c1 c2)

theorem wk_10_34 {w : qS} {M : qM} {x1 : Int32} {post : qR}
    (b1 : vp_in x1 240)
    (h2 : gE w 60 0 [some (.ref 10), some (.ref 2)] [] (ms M 8 x1.toNatClampNeg (-1)) (fun r M' => gE w 10 61 [some (.ref 0), some (.int x1)] (r.toList ++ []) M' post)) :
    gE w 10 34 [some (.ref 0), some (.int x1)] [] M post := by
  refine ev_al (pc' := 35) (pt_10_34 w) rfl rfl ?_
  refine ev_getr (pc' := 38) (pt_10_35 w) rfl rfl rfl ?_
  refine ev_getr (pc' := 41) (pt_10_38 w) rfl rfl rfl ?_
  refine ev_getr (pc' := 44) (pt_10_41 w) rfl rfl rfl ?_
  refine ev_il (pc' := 45) (pt_10_44 w) rfl rfl ?_
  refine ev_k (pc' := 46) (pt_10_45 w) rfl ?_
  refine ev_ias (pc' := 47) (pt_10_46 w) rfl rfl b1 ?_
  refine ev_al (pc' := 48) (pt_10_47 w) rfl rfl ?_
  refine ev_getr (pc' := 51) (pt_10_48 w) rfl rfl rfl ?_
  refine ev_al (pc' := 52) (pt_10_51 w) rfl rfl ?_
  refine ev_getr (pc' := 55) (pt_10_52 w) rfl rfl rfl ?_
  refine ev_getr (pc' := 58) (pt_10_55 w) rfl rfl rfl ?_
  exact ev_cal (pc' := 61) (pt_10_58 w) (vs := [.ref 10, .ref 2]) (rest := []) (en := [some (.ref 10), some (.ref 2)]) rfl rfl rfl rfl rfl rfl rfl h2

theorem wk_10_61 {w : qS} {M : qM} {o0 o1 : Option Value} {post : qR}
    (h1 : post (some (.int 1)) M) :
    gE w 10 61 [o0, o1] [] M post := by
  refine ev_k (pc' := 62) (pt_10_61 w) rfl ?_
  exact ev_rz (pt_10_62 w) z1_1 h1

-- BoardDesk.route(I)I
theorem wk_11_0 {w : qS} {M : qM} {x1 : Int32} {r1 : Int32} {post : qR}
    (k1 : gE w 29 0 [some (.ref 1), some (.int x1)] [] M (qv1 M r1))
    (h2 : (c1 : ¬ r1 = 0) → gE w 59 0 [some (.ref 10), some (.ref 2)] [] M (fun r M' => gE w 11 27 [some (.ref 0), some (.int x1), none] (r.toList ++ []) M' post))
    (h3 : (c1 : r1 = 0) → post (some (.int (-1))) M) :
    gE w 11 0 [some (.ref 0), some (.int x1), none] [] M post := by
  refine ev_al (pc' := 1) (pt_11_0 w) rfl rfl ?_
  refine ev_getr (pc' := 4) (pt_11_1 w) rfl rfl rfl ?_
  refine ev_il (pc' := 5) (pt_11_4 w) rfl rfl ?_
  refine ev_cal1 (pc' := 8) (pt_11_5 w) (vs := [.ref 1, .int x1]) (rest := []) (en := [some (.ref 1), some (.int x1)]) rfl rfl rfl rfl rfl rfl rfl k1 ?_
  refine ev_zne (pc' := 11) (pt_11_8 w) rfl (fun c1 => ?_) (fun c1 => ?_)
  · refine ev_al (pc' := 14) (pt_11_13 w) rfl rfl ?_
    refine ev_getr (pc' := 17) (pt_11_14 w) rfl rfl rfl ?_
    refine ev_al (pc' := 18) (pt_11_17 w) rfl rfl ?_
    refine ev_getr (pc' := 21) (pt_11_18 w) rfl rfl rfl ?_
    refine ev_getr (pc' := 24) (pt_11_21 w) rfl rfl rfl ?_
    exact ev_cal (pc' := 27) (pt_11_24 w) (vs := [.ref 10, .ref 2]) (rest := []) (en := [some (.ref 10), some (.ref 2)]) rfl rfl rfl rfl rfl rfl rfl (h2 c1)
  · refine ev_k (pc' := 12) (pt_11_11 w) rfl ?_
    exact ev_ri1 (pt_11_12 w) (h3 c1)

theorem wk_11_27 {w : qS} {M : qM} {x1 : Int32} {o2 : Option Value} {r1 : Int32} {post : qR}
    (k1 : gE w 31 0 [some (.ref 1), some (.int x1)] [] M (qv1 M r1))
    (h2 : gE w 63 0 [some (.ref 12), some (.ref 1), some (.int r1), none, none] [] M (fun r M' => gE w 11 46 [some (.ref 0), some (.int x1), o2] (r.toList ++ []) M' post)) :
    gE w 11 27 [some (.ref 0), some (.int x1), o2] [] M post := by
  refine ev_al (pc' := 28) (pt_11_27 w) rfl rfl ?_
  refine ev_getr (pc' := 31) (pt_11_28 w) rfl rfl rfl ?_
  refine ev_al (pc' := 32) (pt_11_31 w) rfl rfl ?_
  refine ev_getr (pc' := 35) (pt_11_32 w) rfl rfl rfl ?_
  refine ev_al (pc' := 36) (pt_11_35 w) rfl rfl ?_
  refine ev_getr (pc' := 39) (pt_11_36 w) rfl rfl rfl ?_
  refine ev_il (pc' := 40) (pt_11_39 w) rfl rfl ?_
  refine ev_cal1 (pc' := 43) (pt_11_40 w) (vs := [.ref 1, .int x1]) (rest := [.ref 1, .ref 12]) (en := [some (.ref 1), some (.int x1)]) rfl rfl rfl rfl rfl rfl rfl k1 ?_
  exact ev_cal (pc' := 46) (pt_11_43 w) (vs := [.ref 12, .ref 1, .int r1]) (rest := []) (en := [some (.ref 12), some (.ref 1), some (.int r1), none, none]) rfl rfl rfl rfl rfl rfl rfl h2

theorem wk_11_46 {w : qS} {M : qM} {s0 : Int32} {o1 o2 : Option Value} {post : qR}
    (h1 : gE w 60 0 [some (.ref 10), some (.ref 2)] [] M (fun r M' => gE w 11 61 [some (.ref 0), o1, some (.int s0)] (r.toList ++ []) M' post)) :
    gE w 11 46 [some (.ref 0), o1, o2] [.int s0] M post := by
  refine ev_is (pc' := 47) (loc1 := [some (.ref 0), o1, some (.int s0)]) (pt_11_46 w) rfl rfl ?_
  refine ev_al (pc' := 48) (pt_11_47 w) rfl rfl ?_
  refine ev_getr (pc' := 51) (pt_11_48 w) rfl rfl rfl ?_
  refine ev_al (pc' := 52) (pt_11_51 w) rfl rfl ?_
  refine ev_getr (pc' := 55) (pt_11_52 w) rfl rfl rfl ?_
  refine ev_getr (pc' := 58) (pt_11_55 w) rfl rfl rfl ?_
  exact ev_cal (pc' := 61) (pt_11_58 w) (vs := [.ref 10, .ref 2]) (rest := []) (en := [some (.ref 10), some (.ref 2)]) rfl rfl rfl rfl rfl rfl rfl h1

theorem wk_11_61 {w : qS} {M : qM} {x2 : Int32} {o0 o1 : Option Value} {post : qR}
    (h1 : post (some (.int x2)) M) :
    gE w 11 61 [o0, o1, some (.int x2)] [] M post := by
  refine ev_il (pc' := 62) (pt_11_61 w) rfl rfl ?_
  exact ev_ri1 (pt_11_62 w) h1

-- BoardDesk.rip(I)I
theorem wk_12_0 {w : qS} {M : qM} {x1 : Int32} {r1 : Int32} {post : qR}
    (k1 : gE w 29 0 [some (.ref 1), some (.int x1)] [] M (qv1 M r1))
    (h2 : (c1 : ¬ r1 = 0) → gE w 59 0 [some (.ref 10), some (.ref 2)] [] M (fun r M' => gE w 12 27 [some (.ref 0), some (.int x1), none] (r.toList ++ []) M' post))
    (h3 : (c1 : r1 = 0) → post (some (.int (-1))) M) :
    gE w 12 0 [some (.ref 0), some (.int x1), none] [] M post := by
  refine ev_al (pc' := 1) (pt_12_0 w) rfl rfl ?_
  refine ev_getr (pc' := 4) (pt_12_1 w) rfl rfl rfl ?_
  refine ev_il (pc' := 5) (pt_12_4 w) rfl rfl ?_
  refine ev_cal1 (pc' := 8) (pt_12_5 w) (vs := [.ref 1, .int x1]) (rest := []) (en := [some (.ref 1), some (.int x1)]) rfl rfl rfl rfl rfl rfl rfl k1 ?_
  refine ev_zne (pc' := 11) (pt_12_8 w) rfl (fun c1 => ?_) (fun c1 => ?_)
  · refine ev_al (pc' := 14) (pt_12_13 w) rfl rfl ?_
    refine ev_getr (pc' := 17) (pt_12_14 w) rfl rfl rfl ?_
    refine ev_al (pc' := 18) (pt_12_17 w) rfl rfl ?_
    refine ev_getr (pc' := 21) (pt_12_18 w) rfl rfl rfl ?_
    refine ev_getr (pc' := 24) (pt_12_21 w) rfl rfl rfl ?_
    exact ev_cal (pc' := 27) (pt_12_24 w) (vs := [.ref 10, .ref 2]) (rest := []) (en := [some (.ref 10), some (.ref 2)]) rfl rfl rfl rfl rfl rfl rfl (h2 c1)
  · refine ev_k (pc' := 12) (pt_12_11 w) rfl ?_
    exact ev_ri1 (pt_12_12 w) (h3 c1)

theorem wk_12_27 {w : qS} {M : qM} {x1 : Int32} {o2 : Option Value} {r1 : Int32} {post : qR}
    (k1 : gE w 31 0 [some (.ref 1), some (.int x1)] [] M (qv1 M r1))
    (h2 : gE w 51 0 [some (.ref 1), some (.int r1), none, none] [] M (fun r M' => gE w 12 42 [some (.ref 0), some (.int x1), o2] (r.toList ++ []) M' post)) :
    gE w 12 27 [some (.ref 0), some (.int x1), o2] [] M post := by
  refine ev_al (pc' := 28) (pt_12_27 w) rfl rfl ?_
  refine ev_getr (pc' := 31) (pt_12_28 w) rfl rfl rfl ?_
  refine ev_al (pc' := 32) (pt_12_31 w) rfl rfl ?_
  refine ev_getr (pc' := 35) (pt_12_32 w) rfl rfl rfl ?_
  refine ev_il (pc' := 36) (pt_12_35 w) rfl rfl ?_
  refine ev_cal1 (pc' := 39) (pt_12_36 w) (vs := [.ref 1, .int x1]) (rest := [.ref 1]) (en := [some (.ref 1), some (.int x1)]) rfl rfl rfl rfl rfl rfl rfl k1 ?_
  exact ev_cal (pc' := 42) (pt_12_39 w) (vs := [.ref 1, .int r1]) (rest := []) (en := [some (.ref 1), some (.int r1), none, none]) rfl rfl rfl rfl rfl rfl rfl h2

theorem wk_12_42 {w : qS} {M : qM} {s0 : Int32} {o1 o2 : Option Value} {post : qR}
    (h1 : gE w 60 0 [some (.ref 10), some (.ref 2)] [] M (fun r M' => gE w 12 57 [some (.ref 0), o1, some (.int s0)] (r.toList ++ []) M' post)) :
    gE w 12 42 [some (.ref 0), o1, o2] [.int s0] M post := by
  refine ev_is (pc' := 43) (loc1 := [some (.ref 0), o1, some (.int s0)]) (pt_12_42 w) rfl rfl ?_
  refine ev_al (pc' := 44) (pt_12_43 w) rfl rfl ?_
  refine ev_getr (pc' := 47) (pt_12_44 w) rfl rfl rfl ?_
  refine ev_al (pc' := 48) (pt_12_47 w) rfl rfl ?_
  refine ev_getr (pc' := 51) (pt_12_48 w) rfl rfl rfl ?_
  refine ev_getr (pc' := 54) (pt_12_51 w) rfl rfl rfl ?_
  exact ev_cal (pc' := 57) (pt_12_54 w) (vs := [.ref 10, .ref 2]) (rest := []) (en := [some (.ref 10), some (.ref 2)]) rfl rfl rfl rfl rfl rfl rfl h1

theorem wk_12_57 {w : qS} {M : qM} {x2 : Int32} {o0 o1 : Option Value} {post : qR}
    (h1 : post (some (.int x2)) M) :
    gE w 12 57 [o0, o1, some (.int x2)] [] M post := by
  refine ev_il (pc' := 58) (pt_12_57 w) rfl rfl ?_
  exact ev_ri1 (pt_12_58 w) h1

-- BoardDesk.auto()I
theorem wk_13_0 {w : qS} {M : qM} {post : qR}
    (h1 : gE w 59 0 [some (.ref 10), some (.ref 2)] [] M (fun r M' => gE w 13 14 [some (.ref 0), none, none, none] (r.toList ++ []) M' post)) :
    gE w 13 0 [some (.ref 0), none, none, none] [] M post := by
  refine ev_al (pc' := 1) (pt_13_0 w) rfl rfl ?_
  refine ev_getr (pc' := 4) (pt_13_1 w) rfl rfl rfl ?_
  refine ev_al (pc' := 5) (pt_13_4 w) rfl rfl ?_
  refine ev_getr (pc' := 8) (pt_13_5 w) rfl rfl rfl ?_
  refine ev_getr (pc' := 11) (pt_13_8 w) rfl rfl rfl ?_
  exact ev_cal (pc' := 14) (pt_13_11 w) (vs := [.ref 10, .ref 2]) (rest := []) (en := [some (.ref 10), some (.ref 2)]) rfl rfl rfl rfl rfl rfl rfl h1

theorem wk_13_14 {w : qS} {M : qM} {o1 o2 o3 : Option Value} {post : qR}
    (h1 : gE w 13 16 [some (.ref 0), some (.int 0), o2, o3] [] M post) :
    gE w 13 14 [some (.ref 0), o1, o2, o3] [] M post := by
  refine ev_k (pc' := 15) (pt_13_14 w) rfl ?_
  refine ev_is (pc' := 16) (loc1 := [some (.ref 0), some (.int 0), o2, o3]) (pt_13_15 w) rfl rfl ?_
  exact h1

theorem wk_13_16 {w : qS} {M : qM} {x1 : Int32} {o2 o3 : Option Value} {r1 : Int32} {post : qR}
    (h1 : (c1 : ¬ x1 < (iN 16)) → gE w 13 46 [some (.ref 0), some (.int 0), some (.int 0), o3] [] M post)
    (k2 : (c1 : x1 < (iN 16)) → gE w 52 0 [some (.ref 1), some (.int x1), none, none, none, none, none, none] [] M (qv1 M r1))
    (b3 : (c1 : x1 < (iN 16)) → vp_in x1 16)
    (h4 : (c1 : x1 < (iN 16)) → gE w 13 16 [some (.ref 0), some (.int (x1 + 1)), o2, o3] [] (ms M 28 x1.toNatClampNeg r1) post) :
    gE w 13 16 [some (.ref 0), some (.int x1), o2, o3] [] M post := by
  refine ev_il (pc' := 17) (pt_13_16 w) rfl rfl ?_
  refine ev_k (pc' := 19) (pt_13_17 w) rfl ?_
  refine ev_cge (pc' := 22) (pt_13_19 w) rfl (fun c1 => ?_) (fun c1 => ?_)
  · refine ev_k (pc' := 43) (pt_13_42 w) rfl ?_
    refine ev_is (pc' := 44) (loc1 := [some (.ref 0), some (.int 0), o2, o3]) (pt_13_43 w) rfl rfl ?_
    refine ev_k (pc' := 45) (pt_13_44 w) rfl ?_
    refine ev_is (pc' := 46) (loc1 := [some (.ref 0), some (.int 0), some (.int 0), o3]) (pt_13_45 w) rfl rfl ?_
    exact (h1 c1)
  · refine ev_al (pc' := 23) (pt_13_22 w) rfl rfl ?_
    refine ev_getr (pc' := 26) (pt_13_23 w) rfl rfl rfl ?_
    refine ev_il (pc' := 27) (pt_13_26 w) rfl rfl ?_
    refine ev_al (pc' := 28) (pt_13_27 w) rfl rfl ?_
    refine ev_getr (pc' := 31) (pt_13_28 w) rfl rfl rfl ?_
    refine ev_il (pc' := 32) (pt_13_31 w) rfl rfl ?_
    refine ev_cal1 (pc' := 35) (pt_13_32 w) (vs := [.ref 1, .int x1]) (rest := [.int x1, .ref 28]) (en := [some (.ref 1), some (.int x1), none, none, none, none, none, none]) rfl rfl rfl rfl rfl rfl rfl (k2 c1) ?_
    refine ev_ias (pc' := 36) (pt_13_35 w) rfl rfl (b3 c1) ?_
    refine ev_inc (pc' := 39) (loc1 := [some (.ref 0), some (.int (x1 + 1)), o2, o3]) (pt_13_36 w) rfl rfl rfl ?_
    refine ev_g (pt_13_39 w) ?_
    exact (h4 c1)

theorem wk_13_46 {w : qS} {M : qM} {x1 x2 : Int32} {o3 : Option Value} {r1 : Int32} {post : qR}
    (h1 : (c1 : ¬ x2 < (iN 16)) → gE w 60 0 [some (.ref 10), some (.ref 2)] [] M (fun r M' => gE w 13 110 [some (.ref 0), some (.int x1), some (.int x2), o3] (r.toList ++ []) M' post))
    (k2 : (c1 : x2 < (iN 16)) → gE w 20 0 [some (.ref 0), none, none] [] M (qv1 M r1))
    (b3 : (c1 : x2 < (iN 16)) → (c2 : ¬ r1 = (-1)) → vp_in r1 16)
    (h4 : (c1 : x2 < (iN 16)) → (c2 : ¬ r1 = (-1)) → gE w 62 0 [some (.ref 12), some (.ref 1), some (.int r1), none, none] [] (ms M 28 r1.toNatClampNeg (-1)) (fun r M' => gE w 13 84 [some (.ref 0), some (.int x1), some (.int x2), some (.int r1)] (r.toList ++ []) M' post))
    (h5 : (c1 : x2 < (iN 16)) → (c2 : r1 = (-1)) → gE w 60 0 [some (.ref 10), some (.ref 2)] [] M (fun r M' => gE w 13 110 [some (.ref 0), some (.int x1), some (.int x2), some (.int r1)] (r.toList ++ []) M' post)) :
    gE w 13 46 [some (.ref 0), some (.int x1), some (.int x2), o3] [] M post := by
  refine ev_il (pc' := 47) (pt_13_46 w) rfl rfl ?_
  refine ev_k (pc' := 49) (pt_13_47 w) rfl ?_
  refine ev_cge (pc' := 52) (pt_13_49 w) rfl (fun c1 => ?_) (fun c1 => ?_)
  · refine ev_al (pc' := 97) (pt_13_96 w) rfl rfl ?_
    refine ev_getr (pc' := 100) (pt_13_97 w) rfl rfl rfl ?_
    refine ev_al (pc' := 101) (pt_13_100 w) rfl rfl ?_
    refine ev_getr (pc' := 104) (pt_13_101 w) rfl rfl rfl ?_
    refine ev_getr (pc' := 107) (pt_13_104 w) rfl rfl rfl ?_
    exact ev_cal (pc' := 110) (pt_13_107 w) (vs := [.ref 10, .ref 2]) (rest := []) (en := [some (.ref 10), some (.ref 2)]) rfl rfl rfl rfl rfl rfl rfl (h1 c1)
  · refine ev_al (pc' := 53) (pt_13_52 w) rfl rfl ?_
    refine ev_cal1 (pc' := 56) (pt_13_53 w) (vs := [.ref 0]) (rest := []) (en := [some (.ref 0), none, none]) rfl rfl rfl rfl rfl rfl rfl (k2 c1) ?_
    refine ev_is (pc' := 57) (loc1 := [some (.ref 0), some (.int x1), some (.int x2), some (.int r1)]) (pt_13_56 w) rfl rfl ?_
    refine ev_il (pc' := 58) (pt_13_57 w) rfl rfl ?_
    refine ev_k (pc' := 59) (pt_13_58 w) rfl ?_
    refine ev_cne (pc' := 62) (pt_13_59 w) rfl (fun c2 => ?_) (fun c2 => ?_)
    · refine ev_al (pc' := 66) (pt_13_65 w) rfl rfl ?_
      refine ev_getr (pc' := 69) (pt_13_66 w) rfl rfl rfl ?_
      refine ev_il (pc' := 70) (pt_13_69 w) rfl rfl ?_
      refine ev_k (pc' := 71) (pt_13_70 w) rfl ?_
      refine ev_ias (pc' := 72) (pt_13_71 w) rfl rfl (b3 c1 c2) ?_
      refine ev_al (pc' := 73) (pt_13_72 w) rfl rfl ?_
      refine ev_getr (pc' := 76) (pt_13_73 w) rfl rfl rfl ?_
      refine ev_al (pc' := 77) (pt_13_76 w) rfl rfl ?_
      refine ev_getr (pc' := 80) (pt_13_77 w) rfl rfl rfl ?_
      refine ev_il (pc' := 81) (pt_13_80 w) rfl rfl ?_
      exact ev_cal (pc' := 84) (pt_13_81 w) (vs := [.ref 12, .ref 1, .int r1]) (rest := []) (en := [some (.ref 12), some (.ref 1), some (.int r1), none, none]) rfl rfl rfl rfl rfl rfl rfl (h4 c1 c2)
    · refine ev_g (pt_13_62 w) ?_
      refine ev_al (pc' := 97) (pt_13_96 w) rfl rfl ?_
      refine ev_getr (pc' := 100) (pt_13_97 w) rfl rfl rfl ?_
      refine ev_al (pc' := 101) (pt_13_100 w) rfl rfl ?_
      refine ev_getr (pc' := 104) (pt_13_101 w) rfl rfl rfl ?_
      refine ev_getr (pc' := 107) (pt_13_104 w) rfl rfl rfl ?_
      exact ev_cal (pc' := 110) (pt_13_107 w) (vs := [.ref 10, .ref 2]) (rest := []) (en := [some (.ref 10), some (.ref 2)]) rfl rfl rfl rfl rfl rfl rfl (h5 c1 c2)

theorem wk_13_84 {w : qS} {M : qM} {x1 x2 s0 : Int32} {o3 : Option Value} {post : qR}
    (h1 : gE w 13 46 [some (.ref 0), some (.int (if s0 = 0 then x1 else (x1 + 1) : Int32)), some (.int (x2 + 1)), o3] [] M post) :
    gE w 13 84 [some (.ref 0), some (.int x1), some (.int x2), o3] [.int s0] M post := by
  have j1 : ∀ v1 : Int32, v1 = (if s0 = 0 then x1 else (x1 + 1) : Int32) → gE w 13 90 [some (.ref 0), some (.int v1), some (.int x2), o3] [] M post := by
    intro v1 e2
    subst v1
    refine ev_inc (pc' := 93) (loc1 := [some (.ref 0), some (.int (if s0 = 0 then x1 else (x1 + 1) : Int32)), some (.int (x2 + 1)), o3]) (pt_13_90 w) rfl rfl rfl ?_
    refine ev_g (pt_13_93 w) ?_
    exact h1
  refine ev_zeq (pc' := 87) (pt_13_84 w) rfl (fun c1 => ?_) (fun c1 => ?_)
  · exact j1 _ (if_pos c1).symm
  · refine ev_inc (pc' := 90) (loc1 := [some (.ref 0), some (.int (x1 + 1)), some (.int x2), o3]) (pt_13_87 w) rfl rfl rfl ?_
    exact j1 _ (if_neg c1).symm

theorem wk_13_110 {w : qS} {M : qM} {x1 : Int32} {o0 o2 o3 : Option Value} {post : qR}
    (h1 : post (some (.int x1)) M) :
    gE w 13 110 [o0, some (.int x1), o2, o3] [] M post := by
  refine ev_il (pc' := 111) (pt_13_110 w) rfl rfl ?_
  exact ev_ri1 (pt_13_111 w) h1

-- BoardDesk.copper(I)I
theorem wk_14_0 {w : qS} {M : qM} {x1 : Int32} {r1 : Int32} {r2 : Int32} {post : qR}
    (k1 : gE w 24 0 [some (.int x1)] [] M (qv1 M r1))
    (h2 : post (some (.int (if r1 = 0 then (-1) else r2 : Int32))) M)
    (k3 : (c1 : ¬ r1 = 0) → gE w 32 0 [some (.ref 1), some (.int x1), none] [] M (qv1 M r2)) :
    gE w 14 0 [some (.ref 0), some (.int x1)] [] M post := by
  refine ev_il (pc' := 1) (pt_14_0 w) rfl rfl ?_
  refine ev_cal1 (pc' := 4) (pt_14_1 w) (vs := [.int x1]) (rest := []) (en := [some (.int x1)]) rfl rfl rfl rfl trivial rfl rfl k1 ?_
  have j1 : ∀ v1 : Int32, v1 = (if r1 = 0 then (-1) else r2 : Int32) → gE w 14 19 [some (.ref 0), some (.int x1)] [.int v1] M post := by
    intro v1 e2
    subst v1
    exact ev_ri1 (pt_14_19 w) h2
  refine ev_zeq (pc' := 7) (pt_14_4 w) rfl (fun c1 => ?_) (fun c1 => ?_)
  · refine ev_k (pc' := 19) (pt_14_18 w) rfl ?_
    exact j1 _ (if_pos c1).symm
  · refine ev_al (pc' := 8) (pt_14_7 w) rfl rfl ?_
    refine ev_getr (pc' := 11) (pt_14_8 w) rfl rfl rfl ?_
    refine ev_il (pc' := 12) (pt_14_11 w) rfl rfl ?_
    refine ev_cal1 (pc' := 15) (pt_14_12 w) (vs := [.ref 1, .int x1]) (rest := []) (en := [some (.ref 1), some (.int x1), none]) rfl rfl rfl rfl rfl rfl rfl (k3 c1) ?_
    refine ev_g (pt_14_15 w) ?_
    exact j1 _ (if_neg c1).symm

-- BoardDesk.check(II)I
theorem wk_15_0 {w : qS} {M : qM} {x1 x2 : Int32} {post : qR}
    (h1 : (c1 : x1 < 0) → post (some (.int (-1))) M)
    (h2 : (c1 : ¬ x1 < 0) → (c2 : x2 < 0) → post (some (.int (-1))) M)
    (h3 : (c1 : ¬ x1 < 0) → (c2 : ¬ x2 < 0) → (c3 : ¬ (iN 3) < x2) → gE w 15 20 [some (.ref 0), some (.int x1), some (.int x2), some (.int x1), some (.int 0), none] [] M post)
    (h4 : (c1 : ¬ x1 < 0) → (c2 : ¬ x2 < 0) → (c3 : (iN 3) < x2) → post (some (.int (-1))) M) :
    gE w 15 0 [some (.ref 0), some (.int x1), some (.int x2), none, none, none] [] M post := by
  refine ev_il (pc' := 1) (pt_15_0 w) rfl rfl ?_
  refine ev_zlt (pc' := 4) (pt_15_1 w) rfl (fun c1 => ?_) (fun c1 => ?_)
  · refine ev_k (pc' := 14) (pt_15_13 w) rfl ?_
    exact ev_ri1 (pt_15_14 w) (h1 c1)
  · refine ev_il (pc' := 5) (pt_15_4 w) rfl rfl ?_
    refine ev_zlt (pc' := 8) (pt_15_5 w) rfl (fun c2 => ?_) (fun c2 => ?_)
    · refine ev_k (pc' := 14) (pt_15_13 w) rfl ?_
      exact ev_ri1 (pt_15_14 w) (h2 c1 c2)
    · refine ev_il (pc' := 9) (pt_15_8 w) rfl rfl ?_
      refine ev_k (pc' := 10) (pt_15_9 w) rfl ?_
      refine ev_cle (pc' := 13) (pt_15_10 w) rfl (fun c3 => ?_) (fun c3 => ?_)
      · refine ev_il (pc' := 16) (pt_15_15 w) rfl rfl ?_
        refine ev_is (pc' := 17) (loc1 := [some (.ref 0), some (.int x1), some (.int x2), some (.int x1), none, none]) (pt_15_16 w) rfl rfl ?_
        refine ev_k (pc' := 18) (pt_15_17 w) rfl ?_
        refine ev_is (pc' := 20) (loc1 := [some (.ref 0), some (.int x1), some (.int x2), some (.int x1), some (.int 0), none]) (pt_15_18 w) rfl rfl ?_
        exact (h3 c1 c2 c3)
      · refine ev_k (pc' := 14) (pt_15_13 w) rfl ?_
        exact ev_ri1 (pt_15_14 w) (h4 c1 c2 c3)

theorem wk_15_20 {w : qS} {M : qM} {x2 x3 x4 : Int32} {o1 o5 : Option Value} {post : qR}
    (h1 : (c1 : ¬ x4 < (M 2 6)) → gE w 21 0 [some (.ref 0), some (.int x3), some (.int x2), none, none, none] [] M (fun r M' => gE w 15 89 [some (.ref 0), o1, some (.int x2), some (.int x3), some (.int x4), o5] (r.toList ++ []) M' post))
    (h2 : (c1 : x4 < (M 2 6)) → gE w 64 0 [some (.ref 12), some (.ref 1), some (.int x4), none, none] [] M (fun r M' => gE w 15 48 [some (.ref 0), o1, some (.int x2), some (.int x3), some (.int x4), o5] (r.toList ++ []) M' post)) :
    gE w 15 20 [some (.ref 0), o1, some (.int x2), some (.int x3), some (.int x4), o5] [] M post := by
  refine ev_il (pc' := 22) (pt_15_20 w) rfl rfl ?_
  refine ev_al (pc' := 23) (pt_15_22 w) rfl rfl ?_
  refine ev_getr (pc' := 26) (pt_15_23 w) rfl rfl rfl ?_
  refine ev_getr (pc' := 29) (pt_15_26 w) rfl rfl rfl ?_
  refine ev_geti (pc' := 32) (pt_15_29 w) rfl rfl rfl ?_
  refine ev_cge (pc' := 35) (pt_15_32 w) rfl (fun c1 => ?_) (fun c1 => ?_)
  · refine ev_al (pc' := 84) (pt_15_83 w) rfl rfl ?_
    refine ev_il (pc' := 85) (pt_15_84 w) rfl rfl ?_
    refine ev_il (pc' := 86) (pt_15_85 w) rfl rfl ?_
    exact ev_cal (pc' := 89) (pt_15_86 w) (vs := [.ref 0, .int x3, .int x2]) (rest := []) (en := [some (.ref 0), some (.int x3), some (.int x2), none, none, none]) rfl rfl rfl rfl rfl rfl rfl (h1 c1)
  · refine ev_al (pc' := 36) (pt_15_35 w) rfl rfl ?_
    refine ev_getr (pc' := 39) (pt_15_36 w) rfl rfl rfl ?_
    refine ev_al (pc' := 40) (pt_15_39 w) rfl rfl ?_
    refine ev_getr (pc' := 43) (pt_15_40 w) rfl rfl rfl ?_
    refine ev_il (pc' := 45) (pt_15_43 w) rfl rfl ?_
    exact ev_cal (pc' := 48) (pt_15_45 w) (vs := [.ref 12, .ref 1, .int x4]) (rest := []) (en := [some (.ref 12), some (.ref 1), some (.int x4), none, none]) rfl rfl rfl rfl rfl rfl rfl (h2 c1)

theorem wk_15_48 {w : qS} {M : qM} {x2 x3 x4 s0 : Int32} {o1 o5 : Option Value} {r1 : Int32} {post : qR}
    (h1 : (c1 : ¬ s0 = (-1)) → (c2 : ¬ x3 = 0) → gE w 15 20 [some (.ref 0), o1, some (.int x2), some (.int (x3 + (-1))), some (.int (x4 + 1)), some (.int s0)] [] M post)
    (k2 : (c1 : ¬ s0 = (-1)) → (c2 : x3 = 0) → gE w 22 0 [some (.int x2), some (.int 1), some (.int x4), some (.int s0), some (.int (-1))] [] M (qv1 M r1))
    (h3 : (c1 : ¬ s0 = (-1)) → (c2 : x3 = 0) → post (some (.int r1)) M)
    (h4 : (c1 : s0 = (-1)) → gE w 15 20 [some (.ref 0), o1, some (.int x2), some (.int x3), some (.int (x4 + 1)), some (.int s0)] [] M post) :
    gE w 15 48 [some (.ref 0), o1, some (.int x2), some (.int x3), some (.int x4), o5] [.int s0] M post := by
  refine ev_is (pc' := 50) (loc1 := [some (.ref 0), o1, some (.int x2), some (.int x3), some (.int x4), some (.int s0)]) (pt_15_48 w) rfl rfl ?_
  refine ev_il (pc' := 52) (pt_15_50 w) rfl rfl ?_
  refine ev_k (pc' := 53) (pt_15_52 w) rfl ?_
  refine ev_cne (pc' := 56) (pt_15_53 w) rfl (fun c1 => ?_) (fun c1 => ?_)
  · refine ev_il (pc' := 60) (pt_15_59 w) rfl rfl ?_
    refine ev_zne (pc' := 63) (pt_15_60 w) rfl (fun c2 => ?_) (fun c2 => ?_)
    · refine ev_inc (pc' := 77) (loc1 := [some (.ref 0), o1, some (.int x2), some (.int (x3 + (-1))), some (.int x4), some (.int s0)]) (pt_15_74 w) rfl rfl rfl ?_
      refine ev_inc (pc' := 80) (loc1 := [some (.ref 0), o1, some (.int x2), some (.int (x3 + (-1))), some (.int (x4 + 1)), some (.int s0)]) (pt_15_77 w) rfl rfl rfl ?_
      refine ev_g (pt_15_80 w) ?_
      exact (h1 c1 c2)
    · refine ev_il (pc' := 64) (pt_15_63 w) rfl rfl ?_
      refine ev_k (pc' := 65) (pt_15_64 w) rfl ?_
      refine ev_il (pc' := 67) (pt_15_65 w) rfl rfl ?_
      refine ev_il (pc' := 69) (pt_15_67 w) rfl rfl ?_
      refine ev_k (pc' := 70) (pt_15_69 w) rfl ?_
      refine ev_cal1 (pc' := 73) (pt_15_70 w) (vs := [.int x2, .int 1, .int x4, .int s0, .int (-1)]) (rest := []) (en := [some (.int x2), some (.int 1), some (.int x4), some (.int s0), some (.int (-1))]) rfl rfl rfl rfl trivial rfl rfl (k2 c1 c2) ?_
      exact ev_ri1 (pt_15_73 w) (h3 c1 c2)
  · refine ev_g (pt_15_56 w) ?_
    refine ev_inc (pc' := 80) (loc1 := [some (.ref 0), o1, some (.int x2), some (.int x3), some (.int (x4 + 1)), some (.int s0)]) (pt_15_77 w) rfl rfl rfl ?_
    refine ev_g (pt_15_80 w) ?_
    exact (h4 c1)

theorem wk_15_89 {w : qS} {M : qM} {s0 : Int32} {o0 o1 o2 o3 o4 o5 : Option Value} {post : qR}
    (h1 : post (some (.int s0)) M) :
    gE w 15 89 [o0, o1, o2, o3, o4, o5] [.int s0] M post := by
  exact ev_ri1 (pt_15_89 w) h1

-- BoardDesk.plot(II)I
theorem wk_16_0 {w : qS} {M : qM} {x1 x2 : Int32} {r1 : Int32} {post : qR}
    (k1 : gE w 23 0 [some (.int x1)] [] M (qv1 M r1))
    (h2 : (c1 : r1 = 0) → post (some (.int (-1))) M)
    (h3 : (c1 : ¬ r1 = 0) → (c2 : ¬ x2 < 0) → gE w 16 31 [some (.ref 0), some (.int x1), some (.int x2), some (.int x2), some (.int (x1 * (iN 120))), some (.int ((x1 * (iN 120)) + (iN 120))), some (.int 0), none, none] [] M post)
    (h4 : (c1 : ¬ r1 = 0) → (c2 : x2 < 0) → post (some (.int (-1))) M) :
    gE w 16 0 [some (.ref 0), some (.int x1), some (.int x2), none, none, none, none, none, none] [] M post := by
  refine ev_il (pc' := 1) (pt_16_0 w) rfl rfl ?_
  refine ev_cal1 (pc' := 4) (pt_16_1 w) (vs := [.int x1]) (rest := []) (en := [some (.int x1)]) rfl rfl rfl rfl trivial rfl rfl k1 ?_
  refine ev_zeq (pc' := 7) (pt_16_4 w) rfl (fun c1 => ?_) (fun c1 => ?_)
  · refine ev_k (pc' := 12) (pt_16_11 w) rfl ?_
    exact ev_ri1 (pt_16_12 w) (h2 c1)
  · refine ev_il (pc' := 8) (pt_16_7 w) rfl rfl ?_
    refine ev_zge (pc' := 11) (pt_16_8 w) rfl (fun c2 => ?_) (fun c2 => ?_)
    · refine ev_il (pc' := 14) (pt_16_13 w) rfl rfl ?_
      refine ev_is (pc' := 15) (loc1 := [some (.ref 0), some (.int x1), some (.int x2), some (.int x2), none, none, none, none, none]) (pt_16_14 w) rfl rfl ?_
      refine ev_il (pc' := 16) (pt_16_15 w) rfl rfl ?_
      refine ev_k (pc' := 18) (pt_16_16 w) rfl ?_
      refine ev_b (pc' := 19) (pt_16_18 w) rfl ?_
      refine ev_is (pc' := 21) (loc1 := [some (.ref 0), some (.int x1), some (.int x2), some (.int x2), some (.int (x1 * (iN 120))), none, none, none, none]) (pt_16_19 w) rfl rfl ?_
      refine ev_il (pc' := 23) (pt_16_21 w) rfl rfl ?_
      refine ev_k (pc' := 25) (pt_16_23 w) rfl ?_
      refine ev_b (pc' := 26) (pt_16_25 w) rfl ?_
      refine ev_is (pc' := 28) (loc1 := [some (.ref 0), some (.int x1), some (.int x2), some (.int x2), some (.int (x1 * (iN 120))), some (.int ((x1 * (iN 120)) + (iN 120))), none, none, none]) (pt_16_26 w) rfl rfl ?_
      refine ev_k (pc' := 29) (pt_16_28 w) rfl ?_
      refine ev_is (pc' := 31) (loc1 := [some (.ref 0), some (.int x1), some (.int x2), some (.int x2), some (.int (x1 * (iN 120))), some (.int ((x1 * (iN 120)) + (iN 120))), some (.int 0), none, none]) (pt_16_29 w) rfl rfl ?_
      exact (h3 c1 c2)
    · refine ev_k (pc' := 12) (pt_16_11 w) rfl ?_
      exact ev_ri1 (pt_16_12 w) (h4 c1 c2)

theorem wk_16_31 {w : qS} {M : qM} {x3 x4 x5 x6 : Int32} {o1 o2 o7 o8 : Option Value} {r1 : Int32} {r2 : Int32} {r3 : Int32} {r4 : Int32} {r5 : Int32} {post : qR}
    (h1 : (c1 : ¬ x6 < (iN 120)) → post (some (.int (if x3 = 0 then (iN 255) else (-1) : Int32))) M)
    (h2 : (c1 : x6 < (iN 120)) → (c3 : ¬ x4 < x5) → post (some (.int (if x3 = 0 then (iN 255) else (-1) : Int32))) M)
    (k3 : (c1 : x6 < (iN 120)) → (c3 : x4 < x5) → gE w 55 0 [some (.ref 1), some (.int x4), none, none, none] [] M (qv1 M r1))
    (k4 : (c1 : x6 < (iN 120)) → (c3 : x4 < x5) → gE w 32 0 [some (.ref 1), some (.int x4), none] [] M (qv1 M r2))
    (h5 : (c1 : x6 < (iN 120)) → (c3 : x4 < x5) → (c5 : r2 = (-1)) → gE w 16 31 [some (.ref 0), o1, o2, some (.int x3), some (.int (x4 + r1)), some (.int x5), some (.int (x6 + 1)), some (.int r1), some (.int r2)] [] M post)
    (h6 : (c1 : x6 < (iN 120)) → (c3 : x4 < x5) → (c5 : ¬ r2 = (-1)) → (c6 : ¬ x3 < (iN 4)) → gE w 16 31 [some (.ref 0), o1, o2, some (.int (x3 + (-4))), some (.int (x4 + r1)), some (.int x5), some (.int (x6 + 1)), some (.int r1), some (.int r2)] [] M post)
    (k7 : (c1 : x6 < (iN 120)) → (c3 : x4 < x5) → (c5 : ¬ r2 = (-1)) → (c6 : x3 < (iN 4)) → gE w 25 0 [some (.int x4)] [] M (qv1 M r3))
    (k8 : (c1 : x6 < (iN 120)) → (c3 : x4 < x5) → (c5 : ¬ r2 = (-1)) → (c6 : x3 < (iN 4)) → gE w 26 0 [some (.int x4)] [] M (qv1 M r4))
    (k9 : (c1 : x6 < (iN 120)) → (c3 : x4 < x5) → (c5 : ¬ r2 = (-1)) → (c6 : x3 < (iN 4)) → gE w 22 0 [some (.int x3), some (.int r3), some (.int r4), some (.int r1), some (.int (r2 + 1))] [] M (qv1 M r5))
    (h10 : (c1 : x6 < (iN 120)) → (c3 : x4 < x5) → (c5 : ¬ r2 = (-1)) → (c6 : x3 < (iN 4)) → post (some (.int r5)) M) :
    gE w 16 31 [some (.ref 0), o1, o2, some (.int x3), some (.int x4), some (.int x5), some (.int x6), o7, o8] [] M post := by
  refine ev_il (pc' := 33) (pt_16_31 w) rfl rfl ?_
  refine ev_k (pc' := 35) (pt_16_33 w) rfl ?_
  refine ev_cge (pc' := 38) (pt_16_35 w) rfl (fun c1 => ?_) (fun c1 => ?_)
  · refine ev_il (pc' := 116) (pt_16_115 w) rfl rfl ?_
    have j1 : ∀ v1 : Int32, v1 = (if x3 = 0 then (iN 255) else (-1) : Int32) → gE w 16 126 [some (.ref 0), o1, o2, some (.int x3), some (.int x4), some (.int x5), some (.int x6), o7, o8] [.int v1] M post := by
      intro v1 e2
      subst v1
      exact ev_ri1 (pt_16_126 w) (h1 c1)
    refine ev_zne (pc' := 119) (pt_16_116 w) rfl (fun c2 => ?_) (fun c2 => ?_)
    · refine ev_k (pc' := 126) (pt_16_125 w) rfl ?_
      exact j1 _ (if_neg c2).symm
    · refine ev_k (pc' := 122) (pt_16_119 w) rfl ?_
      refine ev_g (pt_16_122 w) ?_
      exact j1 _ (if_pos c2).symm
  · refine ev_il (pc' := 40) (pt_16_38 w) rfl rfl ?_
    refine ev_il (pc' := 42) (pt_16_40 w) rfl rfl ?_
    refine ev_cge (pc' := 45) (pt_16_42 w) rfl (fun c3 => ?_) (fun c3 => ?_)
    · refine ev_il (pc' := 116) (pt_16_115 w) rfl rfl ?_
      have j2 : ∀ v3 : Int32, v3 = (if x3 = 0 then (iN 255) else (-1) : Int32) → gE w 16 126 [some (.ref 0), o1, o2, some (.int x3), some (.int x4), some (.int x5), some (.int x6), o7, o8] [.int v3] M post := by
        intro v3 e4
        subst v3
        exact ev_ri1 (pt_16_126 w) (h2 c1 c3)
      refine ev_zne (pc' := 119) (pt_16_116 w) rfl (fun c4 => ?_) (fun c4 => ?_)
      · refine ev_k (pc' := 126) (pt_16_125 w) rfl ?_
        exact j2 _ (if_neg c4).symm
      · refine ev_k (pc' := 122) (pt_16_119 w) rfl ?_
        refine ev_g (pt_16_122 w) ?_
        exact j2 _ (if_pos c4).symm
    · refine ev_al (pc' := 46) (pt_16_45 w) rfl rfl ?_
      refine ev_getr (pc' := 49) (pt_16_46 w) rfl rfl rfl ?_
      refine ev_il (pc' := 51) (pt_16_49 w) rfl rfl ?_
      refine ev_cal1 (pc' := 54) (pt_16_51 w) (vs := [.ref 1, .int x4]) (rest := []) (en := [some (.ref 1), some (.int x4), none, none, none]) rfl rfl rfl rfl rfl rfl rfl (k3 c1 c3) ?_
      refine ev_is (pc' := 56) (loc1 := [some (.ref 0), o1, o2, some (.int x3), some (.int x4), some (.int x5), some (.int x6), some (.int r1), o8]) (pt_16_54 w) rfl rfl ?_
      refine ev_al (pc' := 57) (pt_16_56 w) rfl rfl ?_
      refine ev_getr (pc' := 60) (pt_16_57 w) rfl rfl rfl ?_
      refine ev_il (pc' := 62) (pt_16_60 w) rfl rfl ?_
      refine ev_cal1 (pc' := 65) (pt_16_62 w) (vs := [.ref 1, .int x4]) (rest := []) (en := [some (.ref 1), some (.int x4), none]) rfl rfl rfl rfl rfl rfl rfl (k4 c1 c3) ?_
      refine ev_is (pc' := 67) (loc1 := [some (.ref 0), o1, o2, some (.int x3), some (.int x4), some (.int x5), some (.int x6), some (.int r1), some (.int r2)]) (pt_16_65 w) rfl rfl ?_
      refine ev_il (pc' := 69) (pt_16_67 w) rfl rfl ?_
      refine ev_k (pc' := 70) (pt_16_69 w) rfl ?_
      refine ev_ceq (pc' := 73) (pt_16_70 w) rfl (fun c5 => ?_) (fun c5 => ?_)
      · refine ev_il (pc' := 104) (pt_16_102 w) rfl rfl ?_
        refine ev_il (pc' := 106) (pt_16_104 w) rfl rfl ?_
        refine ev_b (pc' := 107) (pt_16_106 w) rfl ?_
        refine ev_is (pc' := 109) (loc1 := [some (.ref 0), o1, o2, some (.int x3), some (.int (x4 + r1)), some (.int x5), some (.int x6), some (.int r1), some (.int r2)]) (pt_16_107 w) rfl rfl ?_
        refine ev_inc (pc' := 112) (loc1 := [some (.ref 0), o1, o2, some (.int x3), some (.int (x4 + r1)), some (.int x5), some (.int (x6 + 1)), some (.int r1), some (.int r2)]) (pt_16_109 w) rfl rfl rfl ?_
        refine ev_g (pt_16_112 w) ?_
        exact (h5 c1 c3 c5)
      · refine ev_il (pc' := 74) (pt_16_73 w) rfl rfl ?_
        refine ev_k (pc' := 75) (pt_16_74 w) rfl ?_
        refine ev_cge (pc' := 78) (pt_16_75 w) rfl (fun c6 => ?_) (fun c6 => ?_)
        · refine ev_inc (pc' := 102) (loc1 := [some (.ref 0), o1, o2, some (.int (x3 + (-4))), some (.int x4), some (.int x5), some (.int x6), some (.int r1), some (.int r2)]) (pt_16_99 w) rfl rfl rfl ?_
          refine ev_il (pc' := 104) (pt_16_102 w) rfl rfl ?_
          refine ev_il (pc' := 106) (pt_16_104 w) rfl rfl ?_
          refine ev_b (pc' := 107) (pt_16_106 w) rfl ?_
          refine ev_is (pc' := 109) (loc1 := [some (.ref 0), o1, o2, some (.int (x3 + (-4))), some (.int (x4 + r1)), some (.int x5), some (.int x6), some (.int r1), some (.int r2)]) (pt_16_107 w) rfl rfl ?_
          refine ev_inc (pc' := 112) (loc1 := [some (.ref 0), o1, o2, some (.int (x3 + (-4))), some (.int (x4 + r1)), some (.int x5), some (.int (x6 + 1)), some (.int r1), some (.int r2)]) (pt_16_109 w) rfl rfl rfl ?_
          refine ev_g (pt_16_112 w) ?_
          exact (h6 c1 c3 c5 c6)
        · refine ev_il (pc' := 79) (pt_16_78 w) rfl rfl ?_
          refine ev_il (pc' := 81) (pt_16_79 w) rfl rfl ?_
          refine ev_cal1 (pc' := 84) (pt_16_81 w) (vs := [.int x4]) (rest := [.int x3]) (en := [some (.int x4)]) rfl rfl rfl rfl trivial rfl rfl (k7 c1 c3 c5 c6) ?_
          refine ev_il (pc' := 86) (pt_16_84 w) rfl rfl ?_
          refine ev_cal1 (pc' := 89) (pt_16_86 w) (vs := [.int x4]) (rest := [.int r3, .int x3]) (en := [some (.int x4)]) rfl rfl rfl rfl trivial rfl rfl (k8 c1 c3 c5 c6) ?_
          refine ev_il (pc' := 91) (pt_16_89 w) rfl rfl ?_
          refine ev_il (pc' := 93) (pt_16_91 w) rfl rfl ?_
          refine ev_k (pc' := 94) (pt_16_93 w) rfl ?_
          refine ev_b (pc' := 95) (pt_16_94 w) rfl ?_
          refine ev_cal1 (pc' := 98) (pt_16_95 w) (vs := [.int x3, .int r3, .int r4, .int r1, .int (r2 + 1)]) (rest := []) (en := [some (.int x3), some (.int r3), some (.int r4), some (.int r1), some (.int (r2 + 1))]) rfl rfl rfl rfl trivial rfl rfl (k9 c1 c3 c5 c6) ?_
          exact ev_ri1 (pt_16_98 w) (h10 c1 c3 c5 c6)

-- BoardDesk.read(I)I
theorem wk_17_0 {w : qS} {M : qM} {x1 : Int32} {post : qR}
    (h1 : (c1 : x1 < 0) → post (some (.int (-1))) M)
    (h2 : (c1 : ¬ x1 < 0) → (c2 : ¬ (iN 255) < x1) → gE w 77 0 [some (.ref 25), some (.int x1)] [] M (fun r M' => gE w 17 21 [some (.ref 0), some (.int x1)] (r.toList ++ []) M' post))
    (h3 : (c1 : ¬ x1 < 0) → (c2 : (iN 255) < x1) → post (some (.int (-1))) M) :
    gE w 17 0 [some (.ref 0), some (.int x1)] [] M post := by
  refine ev_il (pc' := 1) (pt_17_0 w) rfl rfl ?_
  refine ev_zlt (pc' := 4) (pt_17_1 w) rfl (fun c1 => ?_) (fun c1 => ?_)
  · refine ev_k (pc' := 12) (pt_17_11 w) rfl ?_
    exact ev_ri1 (pt_17_12 w) (h1 c1)
  · refine ev_il (pc' := 5) (pt_17_4 w) rfl rfl ?_
    refine ev_k (pc' := 8) (pt_17_5 w) rfl ?_
    refine ev_cle (pc' := 11) (pt_17_8 w) rfl (fun c2 => ?_) (fun c2 => ?_)
    · refine ev_al (pc' := 14) (pt_17_13 w) rfl rfl ?_
      refine ev_getr (pc' := 17) (pt_17_14 w) rfl rfl rfl ?_
      refine ev_il (pc' := 18) (pt_17_17 w) rfl rfl ?_
      exact ev_cal (pc' := 21) (pt_17_18 w) (vs := [.ref 25, .int x1]) (rest := []) (en := [some (.ref 25), some (.int x1)]) rfl rfl rfl rfl rfl rfl rfl (h2 c1 c2)
    · refine ev_k (pc' := 12) (pt_17_11 w) rfl ?_
      exact ev_ri1 (pt_17_12 w) (h3 c1 c2)

theorem wk_17_21 {w : qS} {M : qM} {s0 : Int32} {o1 : Option Value} {post : qR}
    (h1 : post (some (.int (if s0 = 0 then (-2) else (M 25 1) : Int32))) M) :
    gE w 17 21 [some (.ref 0), o1] [.int s0] M post := by
  have j1 : ∀ v1 : Int32, v1 = (if s0 = 0 then (-2) else (M 25 1) : Int32) → gE w 17 36 [some (.ref 0), o1] [.int v1] M post := by
    intro v1 e2
    subst v1
    exact ev_ri1 (pt_17_36 w) h1
  refine ev_zeq (pc' := 24) (pt_17_21 w) rfl (fun c1 => ?_) (fun c1 => ?_)
  · refine ev_k (pc' := 36) (pt_17_34 w) rfl ?_
    exact j1 _ (if_pos c1).symm
  · refine ev_al (pc' := 25) (pt_17_24 w) rfl rfl ?_
    refine ev_getr (pc' := 28) (pt_17_25 w) rfl rfl rfl ?_
    refine ev_geti (pc' := 31) (pt_17_28 w) rfl rfl rfl ?_
    refine ev_g (pt_17_31 w) ?_
    exact j1 _ (if_neg c1).symm

-- BoardDesk.replay(I)I
theorem wk_18_0 {w : qS} {M : qM} {x1 : Int32} {r1 : Int32} {post : qR}
    (k1 : gE w 23 0 [some (.int x1)] [] M (qv1 M r1))
    (h2 : (c1 : ¬ r1 = 0) → gE w 78 0 [some (.ref 25), none, none] [] M (fun r M' => gE w 18 16 [some (.ref 0), some (.int x1), none, none] (r.toList ++ []) M' post))
    (h3 : (c1 : r1 = 0) → post (some (.int (-1))) M) :
    gE w 18 0 [some (.ref 0), some (.int x1), none, none] [] M post := by
  refine ev_il (pc' := 1) (pt_18_0 w) rfl rfl ?_
  refine ev_cal1 (pc' := 4) (pt_18_1 w) (vs := [.int x1]) (rest := []) (en := [some (.int x1)]) rfl rfl rfl rfl trivial rfl rfl k1 ?_
  refine ev_zne (pc' := 7) (pt_18_4 w) rfl (fun c1 => ?_) (fun c1 => ?_)
  · refine ev_al (pc' := 10) (pt_18_9 w) rfl rfl ?_
    refine ev_getr (pc' := 13) (pt_18_10 w) rfl rfl rfl ?_
    exact ev_cal (pc' := 16) (pt_18_13 w) (vs := [.ref 25]) (rest := []) (en := [some (.ref 25), none, none]) rfl rfl rfl rfl rfl rfl rfl (h2 c1)
  · refine ev_k (pc' := 8) (pt_18_7 w) rfl ?_
    exact ev_ri1 (pt_18_8 w) (h3 c1)

theorem wk_18_16 {w : qS} {M : qM} {x1 : Int32} {o2 o3 : Option Value} {post : qR}
    (h1 : gE w 18 28 [some (.ref 0), some (.int x1), some (.int 0), some (.int 0)] [] (ms M 25 1 0) post) :
    gE w 18 16 [some (.ref 0), some (.int x1), o2, o3] [] M post := by
  refine ev_al (pc' := 17) (pt_18_16 w) rfl rfl ?_
  refine ev_getr (pc' := 20) (pt_18_17 w) rfl rfl rfl ?_
  refine ev_k (pc' := 21) (pt_18_20 w) rfl ?_
  refine ev_put (pc' := 24) (pt_18_21 w) rfl rfl rfl ?_
  refine ev_k (pc' := 25) (pt_18_24 w) rfl ?_
  refine ev_is (pc' := 26) (loc1 := [some (.ref 0), some (.int x1), some (.int 0), o3]) (pt_18_25 w) rfl rfl ?_
  refine ev_k (pc' := 27) (pt_18_26 w) rfl ?_
  refine ev_is (pc' := 28) (loc1 := [some (.ref 0), some (.int x1), some (.int 0), some (.int 0)]) (pt_18_27 w) rfl rfl ?_
  exact h1

theorem wk_18_28 {w : qS} {M : qM} {x1 x2 x3 : Int32} {r1 : Int32} {post : qR}
    (h1 : (c1 : ¬ x3 < (iN 120)) → post (some (.int x2)) M)
    (b2 : (c1 : x3 < (iN 120)) → vp_in x3 120)
    (k3 : (c1 : x3 < (iN 120)) → gE w 32 0 [some (.ref 1), some (.int ((x1 * (iN 120)) + x3)), none] [] M (qv1 M r1))
    (h4 : (c1 : x3 < (iN 120)) → gE w 18 28 [some (.ref 0), some (.int x1), some (.int (if (M 27 x3.toNatClampNeg) = r1 then x2 else (x2 + 1) : Int32)), some (.int (x3 + 1))] [] M post) :
    gE w 18 28 [some (.ref 0), some (.int x1), some (.int x2), some (.int x3)] [] M post := by
  refine ev_il (pc' := 29) (pt_18_28 w) rfl rfl ?_
  refine ev_k (pc' := 31) (pt_18_29 w) rfl ?_
  refine ev_cge (pc' := 34) (pt_18_31 w) rfl (fun c1 => ?_) (fun c1 => ?_)
  · refine ev_il (pc' := 69) (pt_18_68 w) rfl rfl ?_
    exact ev_ri1 (pt_18_69 w) (h1 c1)
  · refine ev_al (pc' := 35) (pt_18_34 w) rfl rfl ?_
    refine ev_getr (pc' := 38) (pt_18_35 w) rfl rfl rfl ?_
    refine ev_getr (pc' := 41) (pt_18_38 w) rfl rfl rfl ?_
    refine ev_il (pc' := 42) (pt_18_41 w) rfl rfl ?_
    refine ev_ia (pc' := 43) (pt_18_42 w) rfl rfl (b2 c1) ?_
    refine ev_al (pc' := 44) (pt_18_43 w) rfl rfl ?_
    refine ev_getr (pc' := 47) (pt_18_44 w) rfl rfl rfl ?_
    refine ev_il (pc' := 48) (pt_18_47 w) rfl rfl ?_
    refine ev_k (pc' := 50) (pt_18_48 w) rfl ?_
    refine ev_b (pc' := 51) (pt_18_50 w) rfl ?_
    refine ev_il (pc' := 52) (pt_18_51 w) rfl rfl ?_
    refine ev_b (pc' := 53) (pt_18_52 w) rfl ?_
    refine ev_cal1 (pc' := 56) (pt_18_53 w) (vs := [.ref 1, .int ((x1 * (iN 120)) + x3)]) (rest := [.int (M 27 x3.toNatClampNeg)]) (en := [some (.ref 1), some (.int ((x1 * (iN 120)) + x3)), none]) rfl rfl rfl rfl rfl rfl rfl (k3 c1) ?_
    have j1 : ∀ v1 : Int32, v1 = (if (M 27 x3.toNatClampNeg) = r1 then x2 else (x2 + 1) : Int32) → gE w 18 62 [some (.ref 0), some (.int x1), some (.int v1), some (.int x3)] [] M post := by
      intro v1 e2
      subst v1
      refine ev_inc (pc' := 65) (loc1 := [some (.ref 0), some (.int x1), some (.int (if (M 27 x3.toNatClampNeg) = r1 then x2 else (x2 + 1) : Int32)), some (.int (x3 + 1))]) (pt_18_62 w) rfl rfl rfl ?_
      refine ev_g (pt_18_65 w) ?_
      exact (h4 c1)
    refine ev_ceq (pc' := 59) (pt_18_56 w) rfl (fun c2 => ?_) (fun c2 => ?_)
    · exact j1 _ (if_pos c2).symm
    · refine ev_inc (pc' := 62) (loc1 := [some (.ref 0), some (.int x1), some (.int (x2 + 1)), some (.int x3)]) (pt_18_59 w) rfl rfl rfl ?_
      exact j1 _ (if_neg c2).symm

-- BoardDesk.undo()I
theorem wk_19_0 {w : qS} {M : qM} {post : qR}
    (h1 : (c1 : ¬ (M 10 2) = 0) → gE w 61 0 [some (.ref 10), some (.ref 2)] [] M (fun r M' => gE w 19 26 [some (.ref 0)] (r.toList ++ []) M' post))
    (h2 : (c1 : (M 10 2) = 0) → post (some (.int (-1))) M) :
    gE w 19 0 [some (.ref 0)] [] M post := by
  refine ev_al (pc' := 1) (pt_19_0 w) rfl rfl ?_
  refine ev_getr (pc' := 4) (pt_19_1 w) rfl rfl rfl ?_
  refine ev_geti (pc' := 7) (pt_19_4 w) rfl rfl rfl ?_
  refine ev_zne (pc' := 10) (pt_19_7 w) rfl (fun c1 => ?_) (fun c1 => ?_)
  · refine ev_al (pc' := 13) (pt_19_12 w) rfl rfl ?_
    refine ev_getr (pc' := 16) (pt_19_13 w) rfl rfl rfl ?_
    refine ev_al (pc' := 17) (pt_19_16 w) rfl rfl ?_
    refine ev_getr (pc' := 20) (pt_19_17 w) rfl rfl rfl ?_
    refine ev_getr (pc' := 23) (pt_19_20 w) rfl rfl rfl ?_
    exact ev_cal (pc' := 26) (pt_19_23 w) (vs := [.ref 10, .ref 2]) (rest := []) (en := [some (.ref 10), some (.ref 2)]) rfl rfl rfl rfl rfl rfl rfl (h1 c1)
  · refine ev_k (pc' := 11) (pt_19_10 w) rfl ?_
    exact ev_ri1 (pt_19_11 w) (h2 c1)

theorem wk_19_26 {w : qS} {M : qM} {post : qR}
    (h1 : gE w 40 0 [some (.ref 1), none, none, none] [] M (fun r M' => gE w 19 33 [some (.ref 0)] (r.toList ++ []) M' post)) :
    gE w 19 26 [some (.ref 0)] [] M post := by
  refine ev_al (pc' := 27) (pt_19_26 w) rfl rfl ?_
  refine ev_getr (pc' := 30) (pt_19_27 w) rfl rfl rfl ?_
  exact ev_cal (pc' := 33) (pt_19_30 w) (vs := [.ref 1]) (rest := []) (en := [some (.ref 1), none, none, none]) rfl rfl rfl rfl rfl rfl rfl h1

theorem wk_19_33 {w : qS} {M : qM} {post : qR}
    (h1 : post (some (.int (M 10 2))) M) :
    gE w 19 33 [some (.ref 0)] [] M post := by
  refine ev_al (pc' := 34) (pt_19_33 w) rfl rfl ?_
  refine ev_getr (pc' := 37) (pt_19_34 w) rfl rfl rfl ?_
  refine ev_geti (pc' := 40) (pt_19_37 w) rfl rfl rfl ?_
  exact ev_ri1 (pt_19_40 w) h1

-- BoardDesk.leastNet()I
theorem wk_20_0 {w : qS} {M : qM} {post : qR}
    (h1 : gE w 20 4 [some (.ref 0), some (.int (-1)), some (.int 0)] [] M post) :
    gE w 20 0 [some (.ref 0), none, none] [] M post := by
  refine ev_k (pc' := 1) (pt_20_0 w) rfl ?_
  refine ev_is (pc' := 2) (loc1 := [some (.ref 0), some (.int (-1)), none]) (pt_20_1 w) rfl rfl ?_
  refine ev_k (pc' := 3) (pt_20_2 w) rfl ?_
  refine ev_is (pc' := 4) (loc1 := [some (.ref 0), some (.int (-1)), some (.int 0)]) (pt_20_3 w) rfl rfl ?_
  exact h1

theorem wk_20_4 {w : qS} {M : qM} {x1 x2 : Int32} {post : qR}
    (h1 : (c1 : ¬ x2 < (iN 16)) → post (some (.int x1)) M)
    (b2 : (c1 : x2 < (iN 16)) → vp_in x2 16)
    (h3 : (c1 : x2 < (iN 16)) → gE w 20 4 [some (.ref 0), some (.int (if (M 28 x2.toNatClampNeg) = (-1) then x1 else (if x1 = (-1) then x2 else (if (M 28 x2.toNatClampNeg) < (M 28 x1.toNatClampNeg) then x2 else x1 : Int32) : Int32) : Int32)), some (.int (x2 + 1))] [] M post)
    (b4 : (c1 : x2 < (iN 16)) → (c2 : ¬ (M 28 x2.toNatClampNeg) = (-1)) → (c3 : ¬ x1 = (-1)) → vp_in x1 16) :
    gE w 20 4 [some (.ref 0), some (.int x1), some (.int x2)] [] M post := by
  refine ev_il (pc' := 5) (pt_20_4 w) rfl rfl ?_
  refine ev_k (pc' := 7) (pt_20_5 w) rfl ?_
  refine ev_cge (pc' := 10) (pt_20_7 w) rfl (fun c1 => ?_) (fun c1 => ?_)
  · refine ev_il (pc' := 49) (pt_20_48 w) rfl rfl ?_
    exact ev_ri1 (pt_20_49 w) (h1 c1)
  · refine ev_al (pc' := 11) (pt_20_10 w) rfl rfl ?_
    refine ev_getr (pc' := 14) (pt_20_11 w) rfl rfl rfl ?_
    refine ev_il (pc' := 15) (pt_20_14 w) rfl rfl ?_
    refine ev_ia (pc' := 16) (pt_20_15 w) rfl rfl (b2 c1) ?_
    refine ev_k (pc' := 17) (pt_20_16 w) rfl ?_
    have j1 : ∀ v1 : Int32, v1 = (if (M 28 x2.toNatClampNeg) = (-1) then x1 else (if x1 = (-1) then x2 else (if (M 28 x2.toNatClampNeg) < (M 28 x1.toNatClampNeg) then x2 else x1 : Int32) : Int32) : Int32) → gE w 20 42 [some (.ref 0), some (.int v1), some (.int x2)] [] M post := by
      intro v1 e2
      subst v1
      refine ev_inc (pc' := 45) (loc1 := [some (.ref 0), some (.int (if (M 28 x2.toNatClampNeg) = (-1) then x1 else (if x1 = (-1) then x2 else (if (M 28 x2.toNatClampNeg) < (M 28 x1.toNatClampNeg) then x2 else x1 : Int32) : Int32) : Int32)), some (.int (x2 + 1))]) (pt_20_42 w) rfl rfl rfl ?_
      refine ev_g (pt_20_45 w) ?_
      exact (h3 c1)
    refine ev_ceq (pc' := 20) (pt_20_17 w) rfl (fun c2 => ?_) (fun c2 => ?_)
    · exact j1 _ (if_pos c2).symm
    · refine ev_il (pc' := 21) (pt_20_20 w) rfl rfl ?_
      refine ev_k (pc' := 22) (pt_20_21 w) rfl ?_
      refine ev_ceq (pc' := 25) (pt_20_22 w) rfl (fun c3 => ?_) (fun c3 => ?_)
      · refine ev_il (pc' := 41) (pt_20_40 w) rfl rfl ?_
        refine ev_is (pc' := 42) (loc1 := [some (.ref 0), some (.int x2), some (.int x2)]) (pt_20_41 w) rfl rfl ?_
        exact j1 _ ((if_neg c2).trans (if_pos c3)).symm
      · refine ev_al (pc' := 26) (pt_20_25 w) rfl rfl ?_
        refine ev_getr (pc' := 29) (pt_20_26 w) rfl rfl rfl ?_
        refine ev_il (pc' := 30) (pt_20_29 w) rfl rfl ?_
        refine ev_ia (pc' := 31) (pt_20_30 w) rfl rfl (b2 c1) ?_
        refine ev_al (pc' := 32) (pt_20_31 w) rfl rfl ?_
        refine ev_getr (pc' := 35) (pt_20_32 w) rfl rfl rfl ?_
        refine ev_il (pc' := 36) (pt_20_35 w) rfl rfl ?_
        refine ev_ia (pc' := 37) (pt_20_36 w) rfl rfl (b4 c1 c2 c3) ?_
        refine ev_cge (pc' := 40) (pt_20_37 w) rfl (fun c4 => ?_) (fun c4 => ?_)
        · exact j1 _ (((if_neg c2).trans (if_neg c3)).trans (if_neg c4)).symm
        · refine ev_il (pc' := 41) (pt_20_40 w) rfl rfl ?_
          refine ev_is (pc' := 42) (loc1 := [some (.ref 0), some (.int x2), some (.int x2)]) (pt_20_41 w) rfl rfl ?_
          exact j1 _ (((if_neg c2).trans (if_neg c3)).trans (if_pos c4)).symm

-- BoardDesk.nearFault(II)I
theorem wk_21_0 {w : qS} {M : qM} {x1 x2 : Int32} {post : qR}
    (h1 : gE w 21 5 [some (.ref 0), some (.int x1), some (.int x2), some (.int x1), some (.int 0), none] [] M post) :
    gE w 21 0 [some (.ref 0), some (.int x1), some (.int x2), none, none, none] [] M post := by
  refine ev_il (pc' := 1) (pt_21_0 w) rfl rfl ?_
  refine ev_is (pc' := 2) (loc1 := [some (.ref 0), some (.int x1), some (.int x2), some (.int x1), none, none]) (pt_21_1 w) rfl rfl ?_
  refine ev_k (pc' := 3) (pt_21_2 w) rfl ?_
  refine ev_is (pc' := 5) (loc1 := [some (.ref 0), some (.int x1), some (.int x2), some (.int x1), some (.int 0), none]) (pt_21_3 w) rfl rfl ?_
  exact h1

theorem wk_21_5 {w : qS} {M : qM} {x2 x3 x4 : Int32} {o1 o5 : Option Value} {post : qR}
    (h1 : (c1 : ¬ x4 < (M 2 6)) → post (some (.int (-1))) M)
    (h2 : (c1 : x4 < (M 2 6)) → gE w 53 0 [some (.ref 1), some (.int x4), some (.ref 28), none] [] M (fun r M' => gE w 21 33 [some (.ref 0), o1, some (.int x2), some (.int x3), some (.int x4), o5] (r.toList ++ []) M' post)) :
    gE w 21 5 [some (.ref 0), o1, some (.int x2), some (.int x3), some (.int x4), o5] [] M post := by
  refine ev_il (pc' := 7) (pt_21_5 w) rfl rfl ?_
  refine ev_al (pc' := 8) (pt_21_7 w) rfl rfl ?_
  refine ev_getr (pc' := 11) (pt_21_8 w) rfl rfl rfl ?_
  refine ev_getr (pc' := 14) (pt_21_11 w) rfl rfl rfl ?_
  refine ev_geti (pc' := 17) (pt_21_14 w) rfl rfl rfl ?_
  refine ev_cge (pc' := 20) (pt_21_17 w) rfl (fun c1 => ?_) (fun c1 => ?_)
  · refine ev_k (pc' := 105) (pt_21_104 w) rfl ?_
    exact ev_ri1 (pt_21_105 w) (h1 c1)
  · refine ev_al (pc' := 21) (pt_21_20 w) rfl rfl ?_
    refine ev_getr (pc' := 24) (pt_21_21 w) rfl rfl rfl ?_
    refine ev_il (pc' := 26) (pt_21_24 w) rfl rfl ?_
    refine ev_al (pc' := 27) (pt_21_26 w) rfl rfl ?_
    refine ev_getr (pc' := 30) (pt_21_27 w) rfl rfl rfl ?_
    exact ev_cal (pc' := 33) (pt_21_30 w) (vs := [.ref 1, .int x4, .ref 28]) (rest := []) (en := [some (.ref 1), some (.int x4), some (.ref 28), none]) rfl rfl rfl rfl rfl rfl rfl (h2 c1)

theorem wk_21_33 {w : qS} {M : qM} {x2 x3 x4 : Int32} {o1 o5 : Option Value} {post : qR}
    (h1 : gE w 21 39 [some (.ref 0), o1, some (.int x2), some (.int x3), some (.int x4), some (.int (x4 + 1))] [] M post) :
    gE w 21 33 [some (.ref 0), o1, some (.int x2), some (.int x3), some (.int x4), o5] [] M post := by
  refine ev_il (pc' := 35) (pt_21_33 w) rfl rfl ?_
  refine ev_k (pc' := 36) (pt_21_35 w) rfl ?_
  refine ev_b (pc' := 37) (pt_21_36 w) rfl ?_
  refine ev_is (pc' := 39) (loc1 := [some (.ref 0), o1, some (.int x2), some (.int x3), some (.int x4), some (.int (x4 + 1))]) (pt_21_37 w) rfl rfl ?_
  exact h1

theorem wk_21_39 {w : qS} {M : qM} {x2 x3 x4 x5 : Int32} {o1 : Option Value} {r1 : Int32} {post : qR}
    (h1 : (c1 : ¬ x5 < (M 2 6)) → gE w 21 5 [some (.ref 0), o1, some (.int x2), some (.int x3), some (.int (x4 + 1)), some (.int x5)] [] M post)
    (b2 : (c1 : x5 < (M 2 6)) → vp_in x5 16)
    (h3 : (c1 : x5 < (M 2 6)) → (c2 : ¬ (M 28 x5.toNatClampNeg) = (-1)) → (c3 : ¬ x3 = 0) → gE w 21 39 [some (.ref 0), o1, some (.int x2), some (.int (x3 + (-1))), some (.int x4), some (.int (x5 + 1))] [] M post)
    (k4 : (c1 : x5 < (M 2 6)) → (c2 : ¬ (M 28 x5.toNatClampNeg) = (-1)) → (c3 : x3 = 0) → gE w 22 0 [some (.int x2), some (.int (iN 2)), some (.int x4), some (.int x5), some (.int (M 28 x5.toNatClampNeg))] [] M (qv1 M r1))
    (h5 : (c1 : x5 < (M 2 6)) → (c2 : ¬ (M 28 x5.toNatClampNeg) = (-1)) → (c3 : x3 = 0) → post (some (.int r1)) M)
    (h6 : (c1 : x5 < (M 2 6)) → (c2 : (M 28 x5.toNatClampNeg) = (-1)) → gE w 21 39 [some (.ref 0), o1, some (.int x2), some (.int x3), some (.int x4), some (.int (x5 + 1))] [] M post) :
    gE w 21 39 [some (.ref 0), o1, some (.int x2), some (.int x3), some (.int x4), some (.int x5)] [] M post := by
  refine ev_il (pc' := 41) (pt_21_39 w) rfl rfl ?_
  refine ev_al (pc' := 42) (pt_21_41 w) rfl rfl ?_
  refine ev_getr (pc' := 45) (pt_21_42 w) rfl rfl rfl ?_
  refine ev_getr (pc' := 48) (pt_21_45 w) rfl rfl rfl ?_
  refine ev_geti (pc' := 51) (pt_21_48 w) rfl rfl rfl ?_
  refine ev_cge (pc' := 54) (pt_21_51 w) rfl (fun c1 => ?_) (fun c1 => ?_)
  · refine ev_inc (pc' := 101) (loc1 := [some (.ref 0), o1, some (.int x2), some (.int x3), some (.int (x4 + 1)), some (.int x5)]) (pt_21_98 w) rfl rfl rfl ?_
    refine ev_g (pt_21_101 w) ?_
    exact (h1 c1)
  · refine ev_al (pc' := 55) (pt_21_54 w) rfl rfl ?_
    refine ev_getr (pc' := 58) (pt_21_55 w) rfl rfl rfl ?_
    refine ev_il (pc' := 60) (pt_21_58 w) rfl rfl ?_
    refine ev_ia (pc' := 61) (pt_21_60 w) rfl rfl (b2 c1) ?_
    refine ev_k (pc' := 62) (pt_21_61 w) rfl ?_
    refine ev_cne (pc' := 65) (pt_21_62 w) rfl (fun c2 => ?_) (fun c2 => ?_)
    · refine ev_il (pc' := 69) (pt_21_68 w) rfl rfl ?_
      refine ev_zne (pc' := 72) (pt_21_69 w) rfl (fun c3 => ?_) (fun c3 => ?_)
      · refine ev_inc (pc' := 92) (loc1 := [some (.ref 0), o1, some (.int x2), some (.int (x3 + (-1))), some (.int x4), some (.int x5)]) (pt_21_89 w) rfl rfl rfl ?_
        refine ev_inc (pc' := 95) (loc1 := [some (.ref 0), o1, some (.int x2), some (.int (x3 + (-1))), some (.int x4), some (.int (x5 + 1))]) (pt_21_92 w) rfl rfl rfl ?_
        refine ev_g (pt_21_95 w) ?_
        exact (h3 c1 c2 c3)
      · refine ev_il (pc' := 73) (pt_21_72 w) rfl rfl ?_
        refine ev_k (pc' := 74) (pt_21_73 w) rfl ?_
        refine ev_il (pc' := 76) (pt_21_74 w) rfl rfl ?_
        refine ev_il (pc' := 78) (pt_21_76 w) rfl rfl ?_
        refine ev_al (pc' := 79) (pt_21_78 w) rfl rfl ?_
        refine ev_getr (pc' := 82) (pt_21_79 w) rfl rfl rfl ?_
        refine ev_il (pc' := 84) (pt_21_82 w) rfl rfl ?_
        refine ev_ia (pc' := 85) (pt_21_84 w) rfl rfl (b2 c1) ?_
        refine ev_cal1 (pc' := 88) (pt_21_85 w) (vs := [.int x2, .int (iN 2), .int x4, .int x5, .int (M 28 x5.toNatClampNeg)]) (rest := []) (en := [some (.int x2), some (.int (iN 2)), some (.int x4), some (.int x5), some (.int (M 28 x5.toNatClampNeg))]) rfl rfl rfl rfl trivial rfl rfl (k4 c1 c2 c3) ?_
        exact ev_ri1 (pt_21_88 w) (h5 c1 c2 c3)
    · refine ev_g (pt_21_65 w) ?_
      refine ev_inc (pc' := 95) (loc1 := [some (.ref 0), o1, some (.int x2), some (.int x3), some (.int x4), some (.int (x5 + 1))]) (pt_21_92 w) rfl rfl rfl ?_
      refine ev_g (pt_21_95 w) ?_
      exact (h6 c1 c2)

-- BoardDesk.told(IIIII)I
theorem wk_22_0 {w : qS} {M : qM} {x0 x1 x2 x3 x4 : Int32} {post : qR}
    (h1 : (c1 : x0 = 0) → post (some (.int x1)) M)
    (h2 : (c1 : ¬ x0 = 0) → (c2 : x0 = 1) → post (some (.int x2)) M)
    (h3 : (c1 : ¬ x0 = 0) → (c2 : ¬ x0 = 1) → (c3 : x0 = 2) → post (some (.int x3)) M)
    (h4 : (c1 : ¬ x0 = 0) → (c2 : ¬ x0 = 1) → (c3 : ¬ x0 = 2) → (c4 : x0 = 3) → post (some (.int x4)) M)
    (h5 : (c1 : ¬ x0 = 0) → (c2 : ¬ x0 = 1) → (c3 : ¬ x0 = 2) → (c4 : ¬ x0 = 3) → post (some (.int (-1))) M) :
    gE w 22 0 [some (.int x0), some (.int x1), some (.int x2), some (.int x3), some (.int x4)] [] M post := by
  refine ev_il (pc' := 1) (pt_22_0 w) rfl rfl ?_
  by_cases c1 : x0 = 0
  · refine ev_sw (t := 32) (pt_22_1 w) (by rw [c1]; rfl) ?_
    refine ev_il (pc' := 33) (pt_22_32 w) rfl rfl ?_
    exact ev_ri1 (pt_22_33 w) (h1 c1)
  by_cases c2 : x0 = 1
  · refine ev_sw (t := 34) (pt_22_1 w) (by rw [c2]; rfl) ?_
    refine ev_il (pc' := 35) (pt_22_34 w) rfl rfl ?_
    exact ev_ri1 (pt_22_35 w) (h2 c1 c2)
  by_cases c3 : x0 = 2
  · refine ev_sw (t := 36) (pt_22_1 w) (by rw [c3]; rfl) ?_
    refine ev_il (pc' := 37) (pt_22_36 w) rfl rfl ?_
    exact ev_ri1 (pt_22_37 w) (h3 c1 c2 c3)
  by_cases c4 : x0 = 3
  · refine ev_sw (t := 38) (pt_22_1 w) (by rw [c4]; rfl) ?_
    refine ev_il (pc' := 40) (pt_22_38 w) rfl rfl ?_
    exact ev_ri1 (pt_22_40 w) (h4 c1 c2 c3 c4)
  refine ev_sw (t := 41) (pt_22_1 w) (sw_d4 c1 c2 c3 c4) ?_
  refine ev_k (pc' := 42) (pt_22_41 w) rfl ?_
  exact ev_ri1 (pt_22_42 w) (h5 c1 c2 c3 c4)

-- BoardDesk.isLayer(I)Z
theorem wk_23_0 {w : qS} {M : qM} {x0 : Int32} {post : qR}
    (h1 : post (some (.int (if x0 < 0 then 0 else (if x0 < (iN 2) then 1 else 0 : Int32) : Int32))) M) :
    gE w 23 0 [some (.int x0)] [] M post := by
  refine ev_il (pc' := 1) (pt_23_0 w) rfl rfl ?_
  have j1 : ∀ v1 : Int32, v1 = (if x0 < 0 then 0 else (if x0 < (iN 2) then 1 else 0 : Int32) : Int32) → gE w 23 14 [some (.int x0)] [.int v1] M post := by
    intro v1 e2
    subst v1
    exact ev_rz (pt_23_14 w) (z1_ite z1_0 (z1_ite z1_1 z1_0)) h1
  refine ev_zlt (pc' := 4) (pt_23_1 w) rfl (fun c1 => ?_) (fun c1 => ?_)
  · refine ev_k (pc' := 14) (pt_23_13 w) rfl ?_
    exact j1 _ (if_pos c1).symm
  · refine ev_il (pc' := 5) (pt_23_4 w) rfl rfl ?_
    refine ev_k (pc' := 6) (pt_23_5 w) rfl ?_
    refine ev_cge (pc' := 9) (pt_23_6 w) rfl (fun c2 => ?_) (fun c2 => ?_)
    · refine ev_k (pc' := 14) (pt_23_13 w) rfl ?_
      exact j1 _ ((if_neg c1).trans (if_neg c2)).symm
    · refine ev_k (pc' := 10) (pt_23_9 w) rfl ?_
      refine ev_g (pt_23_10 w) ?_
      exact j1 _ ((if_neg c1).trans (if_pos c2)).symm

-- BoardDesk.isCell(I)Z
theorem wk_24_0 {w : qS} {M : qM} {x0 : Int32} {post : qR}
    (h1 : post (some (.int (if x0 < 0 then 0 else (if x0 < (iN 240) then 1 else 0 : Int32) : Int32))) M) :
    gE w 24 0 [some (.int x0)] [] M post := by
  refine ev_il (pc' := 1) (pt_24_0 w) rfl rfl ?_
  have j1 : ∀ v1 : Int32, v1 = (if x0 < 0 then 0 else (if x0 < (iN 240) then 1 else 0 : Int32) : Int32) → gE w 24 16 [some (.int x0)] [.int v1] M post := by
    intro v1 e2
    subst v1
    exact ev_rz (pt_24_16 w) (z1_ite z1_0 (z1_ite z1_1 z1_0)) h1
  refine ev_zlt (pc' := 4) (pt_24_1 w) rfl (fun c1 => ?_) (fun c1 => ?_)
  · refine ev_k (pc' := 16) (pt_24_15 w) rfl ?_
    exact j1 _ (if_pos c1).symm
  · refine ev_il (pc' := 5) (pt_24_4 w) rfl rfl ?_
    refine ev_k (pc' := 8) (pt_24_5 w) rfl ?_
    refine ev_cge (pc' := 11) (pt_24_8 w) rfl (fun c2 => ?_) (fun c2 => ?_)
    · refine ev_k (pc' := 16) (pt_24_15 w) rfl ?_
      exact j1 _ ((if_neg c1).trans (if_neg c2)).symm
    · refine ev_k (pc' := 12) (pt_24_11 w) rfl ?_
      refine ev_g (pt_24_12 w) ?_
      exact j1 _ ((if_neg c1).trans (if_pos c2)).symm

-- BoardDesk.rowOf(I)I
theorem wk_25_0 {w : qS} {M : qM} {x0 : Int32} {post : qR}
    (h1 : post (some (.int ((x0 - x0 / (iN 120) * (iN 120)) / (iN 12)))) M) :
    gE w 25 0 [some (.int x0)] [] M post := by
  refine ev_il (pc' := 1) (pt_25_0 w) rfl rfl ?_
  refine ev_k (pc' := 3) (pt_25_1 w) rfl ?_
  refine ev_d (pc' := 4) (pt_25_3 w) rfl (by decide +kernel) ?_
  refine ev_k (pc' := 6) (pt_25_4 w) rfl ?_
  refine ev_d (pc' := 7) (pt_25_6 w) rfl (by decide +kernel) ?_
  exact ev_ri1 (pt_25_7 w) h1

-- BoardDesk.columnOf(I)I
theorem wk_26_0 {w : qS} {M : qM} {x0 : Int32} {post : qR}
    (h1 : post (some (.int (x0 - x0 / (iN 12) * (iN 12)))) M) :
    gE w 26 0 [some (.int x0)] [] M post := by
  refine ev_il (pc' := 1) (pt_26_0 w) rfl rfl ?_
  refine ev_k (pc' := 3) (pt_26_1 w) rfl ?_
  refine ev_d (pc' := 4) (pt_26_3 w) rfl (by decide +kernel) ?_
  exact ev_ri1 (pt_26_4 w) h1

-- BoardDesk.shifted(III)I
theorem wk_27_0 {w : qS} {M : qM} {x0 x1 x2 : Int32} {post : qR}
    (h1 : (c1 : ((x0 - x0 / (iN 12) * (iN 12)) + x1) < 0) → post (some (.int (-1))) M)
    (h2 : (c1 : ¬ ((x0 - x0 / (iN 12) * (iN 12)) + x1) < 0) → (c2 : ¬ ((x0 - x0 / (iN 12) * (iN 12)) + x1) < (iN 12)) → post (some (.int (-1))) M)
    (h3 : (c1 : ¬ ((x0 - x0 / (iN 12) * (iN 12)) + x1) < 0) → (c2 : ((x0 - x0 / (iN 12) * (iN 12)) + x1) < (iN 12)) → (c3 : (((x0 - x0 / (iN 120) * (iN 120)) / (iN 12)) + x2) < 0) → post (some (.int (-1))) M)
    (h4 : (c1 : ¬ ((x0 - x0 / (iN 12) * (iN 12)) + x1) < 0) → (c2 : ((x0 - x0 / (iN 12) * (iN 12)) + x1) < (iN 12)) → (c3 : ¬ (((x0 - x0 / (iN 120) * (iN 120)) / (iN 12)) + x2) < 0) → (c4 : (((x0 - x0 / (iN 120) * (iN 120)) / (iN 12)) + x2) < (iN 10)) → post (some (.int ((x0 + (x2 * (iN 12))) + x1))) M)
    (h5 : (c1 : ¬ ((x0 - x0 / (iN 12) * (iN 12)) + x1) < 0) → (c2 : ((x0 - x0 / (iN 12) * (iN 12)) + x1) < (iN 12)) → (c3 : ¬ (((x0 - x0 / (iN 120) * (iN 120)) / (iN 12)) + x2) < 0) → (c4 : ¬ (((x0 - x0 / (iN 120) * (iN 120)) / (iN 12)) + x2) < (iN 10)) → post (some (.int (-1))) M) :
    gE w 27 0 [some (.int x0), some (.int x1), some (.int x2), none, none] [] M post := by
  refine ev_il (pc' := 1) (pt_27_0 w) rfl rfl ?_
  refine ev_k (pc' := 3) (pt_27_1 w) rfl ?_
  refine ev_d (pc' := 4) (pt_27_3 w) rfl (by decide +kernel) ?_
  refine ev_il (pc' := 5) (pt_27_4 w) rfl rfl ?_
  refine ev_b (pc' := 6) (pt_27_5 w) rfl ?_
  refine ev_is (pc' := 7) (loc1 := [some (.int x0), some (.int x1), some (.int x2), some (.int ((x0 - x0 / (iN 12) * (iN 12)) + x1)), none]) (pt_27_6 w) rfl rfl ?_
  refine ev_il (pc' := 8) (pt_27_7 w) rfl rfl ?_
  refine ev_k (pc' := 10) (pt_27_8 w) rfl ?_
  refine ev_d (pc' := 11) (pt_27_10 w) rfl (by decide +kernel) ?_
  refine ev_k (pc' := 13) (pt_27_11 w) rfl ?_
  refine ev_d (pc' := 14) (pt_27_13 w) rfl (by decide +kernel) ?_
  refine ev_il (pc' := 15) (pt_27_14 w) rfl rfl ?_
  refine ev_b (pc' := 16) (pt_27_15 w) rfl ?_
  refine ev_is (pc' := 18) (loc1 := [some (.int x0), some (.int x1), some (.int x2), some (.int ((x0 - x0 / (iN 12) * (iN 12)) + x1)), some (.int (((x0 - x0 / (iN 120) * (iN 120)) / (iN 12)) + x2))]) (pt_27_16 w) rfl rfl ?_
  refine ev_il (pc' := 19) (pt_27_18 w) rfl rfl ?_
  refine ev_zlt (pc' := 22) (pt_27_19 w) rfl (fun c1 => ?_) (fun c1 => ?_)
  · refine ev_k (pc' := 41) (pt_27_40 w) rfl ?_
    exact ev_ri1 (pt_27_41 w) (h1 c1)
  · refine ev_il (pc' := 23) (pt_27_22 w) rfl rfl ?_
    refine ev_k (pc' := 25) (pt_27_23 w) rfl ?_
    refine ev_cge (pc' := 28) (pt_27_25 w) rfl (fun c2 => ?_) (fun c2 => ?_)
    · refine ev_k (pc' := 41) (pt_27_40 w) rfl ?_
      exact ev_ri1 (pt_27_41 w) (h2 c1 c2)
    · refine ev_il (pc' := 30) (pt_27_28 w) rfl rfl ?_
      refine ev_zlt (pc' := 33) (pt_27_30 w) rfl (fun c3 => ?_) (fun c3 => ?_)
      · refine ev_k (pc' := 41) (pt_27_40 w) rfl ?_
        exact ev_ri1 (pt_27_41 w) (h3 c1 c2 c3)
      · refine ev_il (pc' := 35) (pt_27_33 w) rfl rfl ?_
        refine ev_k (pc' := 37) (pt_27_35 w) rfl ?_
        refine ev_clt (pc' := 40) (pt_27_37 w) rfl (fun c4 => ?_) (fun c4 => ?_)
        · refine ev_il (pc' := 43) (pt_27_42 w) rfl rfl ?_
          refine ev_il (pc' := 44) (pt_27_43 w) rfl rfl ?_
          refine ev_k (pc' := 46) (pt_27_44 w) rfl ?_
          refine ev_b (pc' := 47) (pt_27_46 w) rfl ?_
          refine ev_b (pc' := 48) (pt_27_47 w) rfl ?_
          refine ev_il (pc' := 49) (pt_27_48 w) rfl rfl ?_
          refine ev_b (pc' := 50) (pt_27_49 w) rfl ?_
          exact ev_ri1 (pt_27_50 w) (h4 c1 c2 c3 c4)
        · refine ev_k (pc' := 41) (pt_27_40 w) rfl ?_
          exact ev_ri1 (pt_27_41 w) (h5 c1 c2 c3 c4)

-- BoardDesk.neighbour(II)I
theorem wk_28_0 {w : qS} {M : qM} {x0 x1 : Int32} {r1 : Int32} {post : qR}
    (b1 : (c1 : ¬ x1 = (iN 8)) → vp_in x1 8)
    (k2 : (c1 : ¬ x1 = (iN 8)) → gE w 27 0 [some (.int x0), some (.int (tb_right x1.toNatClampNeg)), some (.int (tb_down x1.toNatClampNeg)), none, none] [] M (qv1 M r1))
    (h3 : (c1 : ¬ x1 = (iN 8)) → post (some (.int r1)) M)
    (h4 : (c1 : x1 = (iN 8)) → post (some (.int (if x0 < (iN 120) then (x0 + (iN 120)) else (x0 - (iN 120)) : Int32))) M) :
    gE w 28 0 [some (.int x0), some (.int x1)] [] M post := by
  refine ev_il (pc' := 1) (pt_28_0 w) rfl rfl ?_
  refine ev_k (pc' := 3) (pt_28_1 w) rfl ?_
  refine ev_cne (pc' := 6) (pt_28_3 w) rfl (fun c1 => ?_) (fun c1 => ?_)
  · refine ev_il (pc' := 25) (pt_28_24 w) rfl rfl ?_
    refine ev_ss (pc' := 28) (pt_28_25 w) rfl ?_
    refine ev_il (pc' := 29) (pt_28_28 w) rfl rfl ?_
    refine ev_ta (pc' := 30) (pt_28_29 w) rfl rfl (b1 c1) ?_
    refine ev_ss (pc' := 33) (pt_28_30 w) rfl ?_
    refine ev_il (pc' := 34) (pt_28_33 w) rfl rfl ?_
    refine ev_ta (pc' := 35) (pt_28_34 w) rfl rfl (b1 c1) ?_
    refine ev_cal1 (pc' := 38) (pt_28_35 w) (vs := [.int x0, .int (tb_right x1.toNatClampNeg), .int (tb_down x1.toNatClampNeg)]) (rest := []) (en := [some (.int x0), some (.int (tb_right x1.toNatClampNeg)), some (.int (tb_down x1.toNatClampNeg)), none, none]) rfl rfl rfl rfl trivial rfl rfl (k2 c1) ?_
    exact ev_ri1 (pt_28_38 w) (h3 c1)
  · refine ev_il (pc' := 7) (pt_28_6 w) rfl rfl ?_
    refine ev_k (pc' := 9) (pt_28_7 w) rfl ?_
    have j1 : ∀ v1 : Int32, v1 = (if x0 < (iN 120) then (x0 + (iN 120)) else (x0 - (iN 120)) : Int32) → gE w 28 23 [some (.int x0), some (.int x1)] [.int v1] M post := by
      intro v1 e2
      subst v1
      exact ev_ri1 (pt_28_23 w) (h4 c1)
    refine ev_cge (pc' := 12) (pt_28_9 w) rfl (fun c2 => ?_) (fun c2 => ?_)
    · refine ev_il (pc' := 20) (pt_28_19 w) rfl rfl ?_
      refine ev_k (pc' := 22) (pt_28_20 w) rfl ?_
      refine ev_b (pc' := 23) (pt_28_22 w) rfl ?_
      exact j1 _ (if_neg c2).symm
    · refine ev_il (pc' := 13) (pt_28_12 w) rfl rfl ?_
      refine ev_k (pc' := 15) (pt_28_13 w) rfl ?_
      refine ev_b (pc' := 16) (pt_28_15 w) rfl ?_
      refine ev_g (pt_28_16 w) ?_
      exact j1 _ (if_pos c2).symm

-- BoardDesk$Board.isPin(I)Z
theorem wk_29_0 {w : qS} {M : qM} {x1 : Int32} {post : qR}
    (h1 : post (some (.int (if x1 < 0 then 0 else (if x1 < (M 2 6) then 1 else 0 : Int32) : Int32))) M) :
    gE w 29 0 [some (.ref 1), some (.int x1)] [] M post := by
  refine ev_il (pc' := 1) (pt_29_0 w) rfl rfl ?_
  have j1 : ∀ v1 : Int32, v1 = (if x1 < 0 then 0 else (if x1 < (M 2 6) then 1 else 0 : Int32) : Int32) → gE w 29 20 [some (.ref 1), some (.int x1)] [.int v1] M post := by
    intro v1 e2
    subst v1
    exact ev_rz (pt_29_20 w) (z1_ite z1_0 (z1_ite z1_1 z1_0)) h1
  refine ev_zlt (pc' := 4) (pt_29_1 w) rfl (fun c1 => ?_) (fun c1 => ?_)
  · refine ev_k (pc' := 20) (pt_29_19 w) rfl ?_
    exact j1 _ (if_pos c1).symm
  · refine ev_il (pc' := 5) (pt_29_4 w) rfl rfl ?_
    refine ev_al (pc' := 6) (pt_29_5 w) rfl rfl ?_
    refine ev_getr (pc' := 9) (pt_29_6 w) rfl rfl rfl ?_
    refine ev_geti (pc' := 12) (pt_29_9 w) rfl rfl rfl ?_
    refine ev_cge (pc' := 15) (pt_29_12 w) rfl (fun c2 => ?_) (fun c2 => ?_)
    · refine ev_k (pc' := 20) (pt_29_19 w) rfl ?_
      exact j1 _ ((if_neg c1).trans (if_neg c2)).symm
    · refine ev_k (pc' := 16) (pt_29_15 w) rfl ?_
      refine ev_g (pt_29_16 w) ?_
      exact j1 _ ((if_neg c1).trans (if_pos c2)).symm

-- BoardDesk$Board.isPlaced(I)Z
theorem wk_30_0 {w : qS} {M : qM} {x1 : Int32} {post : qR}
    (b1 : vp_in x1 16)
    (h2 : post (some (.int (if (M 7 x1.toNatClampNeg) = 0 then 0 else 1 : Int32))) M) :
    gE w 30 0 [some (.ref 1), some (.int x1)] [] M post := by
  refine ev_al (pc' := 1) (pt_30_0 w) rfl rfl ?_
  refine ev_getr (pc' := 4) (pt_30_1 w) rfl rfl rfl ?_
  refine ev_getr (pc' := 7) (pt_30_4 w) rfl rfl rfl ?_
  refine ev_il (pc' := 8) (pt_30_7 w) rfl rfl ?_
  refine ev_ia (pc' := 9) (pt_30_8 w) rfl rfl b1 ?_
  have j1 : ∀ v1 : Int32, v1 = (if (M 7 x1.toNatClampNeg) = 0 then 0 else 1 : Int32) → gE w 30 17 [some (.ref 1), some (.int x1)] [.int v1] M post := by
    intro v1 e2
    subst v1
    exact ev_rz (pt_30_17 w) (z1_ite z1_0 z1_1) h2
  refine ev_zeq (pc' := 12) (pt_30_9 w) rfl (fun c1 => ?_) (fun c1 => ?_)
  · refine ev_k (pc' := 17) (pt_30_16 w) rfl ?_
    exact j1 _ (if_pos c1).symm
  · refine ev_k (pc' := 13) (pt_30_12 w) rfl ?_
    refine ev_g (pt_30_13 w) ?_
    exact j1 _ (if_neg c1).symm

-- BoardDesk$Board.netOf(I)I
theorem wk_31_0 {w : qS} {M : qM} {x1 : Int32} {post : qR}
    (b1 : vp_in x1 16)
    (h2 : post (some (.int (M 9 x1.toNatClampNeg))) M) :
    gE w 31 0 [some (.ref 1), some (.int x1)] [] M post := by
  refine ev_al (pc' := 1) (pt_31_0 w) rfl rfl ?_
  refine ev_getr (pc' := 4) (pt_31_1 w) rfl rfl rfl ?_
  refine ev_il (pc' := 5) (pt_31_4 w) rfl rfl ?_
  refine ev_ia (pc' := 6) (pt_31_5 w) rfl rfl b1 ?_
  exact ev_ri1 (pt_31_6 w) h2

-- BoardDesk$Board.netAt(I)I
theorem wk_32_0 {w : qS} {M : qM} {x1 : Int32} {post : qR}
    (b1 : vp_in x1 240)
    (h2 : post (some (.int (if (M 8 x1.toNatClampNeg) < 0 then (-1) else (M 9 (M 8 x1.toNatClampNeg).toNatClampNeg) : Int32))) M)
    (b3 : (c1 : ¬ (M 8 x1.toNatClampNeg) < 0) → vp_in (M 8 x1.toNatClampNeg) 16) :
    gE w 32 0 [some (.ref 1), some (.int x1), none] [] M post := by
  refine ev_al (pc' := 1) (pt_32_0 w) rfl rfl ?_
  refine ev_getr (pc' := 4) (pt_32_1 w) rfl rfl rfl ?_
  refine ev_getr (pc' := 7) (pt_32_4 w) rfl rfl rfl ?_
  refine ev_il (pc' := 8) (pt_32_7 w) rfl rfl ?_
  refine ev_ia (pc' := 9) (pt_32_8 w) rfl rfl b1 ?_
  refine ev_is (pc' := 10) (loc1 := [some (.ref 1), some (.int x1), some (.int (M 8 x1.toNatClampNeg))]) (pt_32_9 w) rfl rfl ?_
  refine ev_il (pc' := 11) (pt_32_10 w) rfl rfl ?_
  have j1 : ∀ v1 : Int32, v1 = (if (M 8 x1.toNatClampNeg) < 0 then (-1) else (M 9 (M 8 x1.toNatClampNeg).toNatClampNeg) : Int32) → gE w 32 24 [some (.ref 1), some (.int x1), some (.int (M 8 x1.toNatClampNeg))] [.int v1] M post := by
    intro v1 e2
    subst v1
    exact ev_ri1 (pt_32_24 w) h2
  refine ev_zge (pc' := 14) (pt_32_11 w) rfl (fun c1 => ?_) (fun c1 => ?_)
  · refine ev_al (pc' := 19) (pt_32_18 w) rfl rfl ?_
    refine ev_getr (pc' := 22) (pt_32_19 w) rfl rfl rfl ?_
    refine ev_il (pc' := 23) (pt_32_22 w) rfl rfl ?_
    refine ev_ia (pc' := 24) (pt_32_23 w) rfl rfl (b3 c1) ?_
    exact j1 _ (if_neg c1).symm
  · refine ev_k (pc' := 15) (pt_32_14 w) rfl ?_
    refine ev_g (pt_32_15 w) ?_
    exact j1 _ (if_pos c1).symm

-- BoardDesk$Board.isPadOf(II)Z
theorem wk_33_0 {w : qS} {M : qM} {x1 x2 : Int32} {post : qR}
    (b1 : vp_in x1 16)
    (h2 : post (some (.int (if (if (((M 7 x1.toNatClampNeg) >>> ((x2 / (iN 120)) &&& 31)) &&& 1) = 0 then 0 else 1 : Int32) = 0 then 0 else (if (M 6 x1.toNatClampNeg) = (x2 - x2 / (iN 120) * (iN 120)) then 1 else 0 : Int32) : Int32))) M) :
    gE w 33 0 [some (.ref 1), some (.int x1), some (.int x2), none] [] M post := by
  refine ev_al (pc' := 1) (pt_33_0 w) rfl rfl ?_
  refine ev_getr (pc' := 4) (pt_33_1 w) rfl rfl rfl ?_
  refine ev_getr (pc' := 7) (pt_33_4 w) rfl rfl rfl ?_
  refine ev_il (pc' := 8) (pt_33_7 w) rfl rfl ?_
  refine ev_ia (pc' := 9) (pt_33_8 w) rfl rfl b1 ?_
  refine ev_il (pc' := 10) (pt_33_9 w) rfl rfl ?_
  refine ev_k (pc' := 12) (pt_33_10 w) rfl ?_
  refine ev_d (pc' := 13) (pt_33_12 w) rfl (by decide +kernel) ?_
  refine ev_b (pc' := 14) (pt_33_13 w) rfl ?_
  refine ev_k (pc' := 15) (pt_33_14 w) rfl ?_
  refine ev_b (pc' := 16) (pt_33_15 w) rfl ?_
  have j1 : ∀ v1 : Int32, v1 = (if (((M 7 x1.toNatClampNeg) >>> ((x2 / (iN 120)) &&& 31)) &&& 1) = 0 then 0 else 1 : Int32) → gE w 33 24 [some (.ref 1), some (.int x1), some (.int x2), none] [.int v1] M post := by
    intro v1 e2
    subst v1
    refine ev_is (pc' := 25) (loc1 := [some (.ref 1), some (.int x1), some (.int x2), some (.int (if (((M 7 x1.toNatClampNeg) >>> ((x2 / (iN 120)) &&& 31)) &&& 1) = 0 then 0 else 1 : Int32))]) (pt_33_24 w) rfl rfl ?_
    refine ev_il (pc' := 26) (pt_33_25 w) rfl rfl ?_
    have j2 : ∀ v3 : Int32, v3 = (if (if (((M 7 x1.toNatClampNeg) >>> ((x2 / (iN 120)) &&& 31)) &&& 1) = 0 then 0 else 1 : Int32) = 0 then 0 else (if (M 6 x1.toNatClampNeg) = (x2 - x2 / (iN 120) * (iN 120)) then 1 else 0 : Int32) : Int32) → gE w 33 50 [some (.ref 1), some (.int x1), some (.int x2), some (.int (if (((M 7 x1.toNatClampNeg) >>> ((x2 / (iN 120)) &&& 31)) &&& 1) = 0 then 0 else 1 : Int32))] [.int v3] M post := by
      intro v3 e4
      subst v3
      exact ev_rz (pt_33_50 w) (z1_ite z1_0 (z1_ite z1_1 z1_0)) h2
    refine ev_zeq (pc' := 29) (pt_33_26 w) rfl (fun c1 => ?_) (fun c1 => ?_)
    · refine ev_k (pc' := 50) (pt_33_49 w) rfl ?_
      exact j2 _ (if_pos c1).symm
    · refine ev_al (pc' := 30) (pt_33_29 w) rfl rfl ?_
      refine ev_getr (pc' := 33) (pt_33_30 w) rfl rfl rfl ?_
      refine ev_getr (pc' := 36) (pt_33_33 w) rfl rfl rfl ?_
      refine ev_il (pc' := 37) (pt_33_36 w) rfl rfl ?_
      refine ev_ia (pc' := 38) (pt_33_37 w) rfl rfl b1 ?_
      refine ev_il (pc' := 39) (pt_33_38 w) rfl rfl ?_
      refine ev_k (pc' := 41) (pt_33_39 w) rfl ?_
      refine ev_d (pc' := 42) (pt_33_41 w) rfl (by decide +kernel) ?_
      refine ev_cne (pc' := 45) (pt_33_42 w) rfl (fun c2 => ?_) (fun c2 => ?_)
      · refine ev_k (pc' := 50) (pt_33_49 w) rfl ?_
        exact j2 _ ((if_neg c1).trans (if_neg c2)).symm
      · refine ev_k (pc' := 46) (pt_33_45 w) rfl ?_
        refine ev_g (pt_33_46 w) ?_
        exact j2 _ ((if_neg c1).trans (if_pos c2)).symm
  refine ev_zeq (pc' := 19) (pt_33_16 w) rfl (fun c3 => ?_) (fun c3 => ?_)
  · refine ev_k (pc' := 24) (pt_33_23 w) rfl ?_
    exact j1 _ (if_pos c3).symm
  · refine ev_k (pc' := 20) (pt_33_19 w) rfl ?_
    refine ev_g (pt_33_20 w) ?_
    exact j1 _ (if_neg c3).symm

-- BoardDesk$Board.isCopper(I)Z
theorem wk_34_0 {w : qS} {M : qM} {x1 : Int32} {r1 : Int32} {post : qR}
    (b1 : vp_in x1 240)
    (h2 : post (some (.int (if (M 8 x1.toNatClampNeg) < 0 then 0 else (if r1 = 0 then 1 else 0 : Int32) : Int32))) M)
    (k3 : (c1 : ¬ (M 8 x1.toNatClampNeg) < 0) → gE w 33 0 [some (.ref 1), some (.int (M 8 x1.toNatClampNeg)), some (.int x1), none] [] M (qv1 M r1)) :
    gE w 34 0 [some (.ref 1), some (.int x1), none] [] M post := by
  refine ev_al (pc' := 1) (pt_34_0 w) rfl rfl ?_
  refine ev_getr (pc' := 4) (pt_34_1 w) rfl rfl rfl ?_
  refine ev_getr (pc' := 7) (pt_34_4 w) rfl rfl rfl ?_
  refine ev_il (pc' := 8) (pt_34_7 w) rfl rfl ?_
  refine ev_ia (pc' := 9) (pt_34_8 w) rfl rfl b1 ?_
  refine ev_is (pc' := 10) (loc1 := [some (.ref 1), some (.int x1), some (.int (M 8 x1.toNatClampNeg))]) (pt_34_9 w) rfl rfl ?_
  refine ev_il (pc' := 11) (pt_34_10 w) rfl rfl ?_
  have j1 : ∀ v1 : Int32, v1 = (if (M 8 x1.toNatClampNeg) < 0 then 0 else (if r1 = 0 then 1 else 0 : Int32) : Int32) → gE w 34 28 [some (.ref 1), some (.int x1), some (.int (M 8 x1.toNatClampNeg))] [.int v1] M post := by
    intro v1 e2
    subst v1
    exact ev_rz (pt_34_28 w) (z1_ite z1_0 (z1_ite z1_1 z1_0)) h2
  refine ev_zlt (pc' := 14) (pt_34_11 w) rfl (fun c1 => ?_) (fun c1 => ?_)
  · refine ev_k (pc' := 28) (pt_34_27 w) rfl ?_
    exact j1 _ (if_pos c1).symm
  · refine ev_al (pc' := 15) (pt_34_14 w) rfl rfl ?_
    refine ev_il (pc' := 16) (pt_34_15 w) rfl rfl ?_
    refine ev_il (pc' := 17) (pt_34_16 w) rfl rfl ?_
    refine ev_cal1 (pc' := 20) (pt_34_17 w) (vs := [.ref 1, .int (M 8 x1.toNatClampNeg), .int x1]) (rest := []) (en := [some (.ref 1), some (.int (M 8 x1.toNatClampNeg)), some (.int x1), none]) rfl rfl rfl rfl rfl rfl rfl (k3 c1) ?_
    refine ev_zne (pc' := 23) (pt_34_20 w) rfl (fun c2 => ?_) (fun c2 => ?_)
    · refine ev_k (pc' := 28) (pt_34_27 w) rfl ?_
      exact j1 _ ((if_neg c1).trans (if_neg c2)).symm
    · refine ev_k (pc' := 24) (pt_34_23 w) rfl ?_
      refine ev_g (pt_34_24 w) ?_
      exact j1 _ ((if_neg c1).trans (if_pos c2)).symm

-- BoardDesk$Board.firstPad(I)I
theorem wk_35_0 {w : qS} {M : qM} {x1 : Int32} {post : qR}
    (b1 : vp_in x1 16)
    (h2 : post (some (.int (if ((M 7 x1.toNatClampNeg) &&& 1) = 0 then ((M 6 x1.toNatClampNeg) + (iN 120)) else (M 6 x1.toNatClampNeg) : Int32))) M) :
    gE w 35 0 [some (.ref 1), some (.int x1)] [] M post := by
  refine ev_al (pc' := 1) (pt_35_0 w) rfl rfl ?_
  refine ev_getr (pc' := 4) (pt_35_1 w) rfl rfl rfl ?_
  refine ev_getr (pc' := 7) (pt_35_4 w) rfl rfl rfl ?_
  refine ev_il (pc' := 8) (pt_35_7 w) rfl rfl ?_
  refine ev_ia (pc' := 9) (pt_35_8 w) rfl rfl b1 ?_
  refine ev_k (pc' := 10) (pt_35_9 w) rfl ?_
  refine ev_b (pc' := 11) (pt_35_10 w) rfl ?_
  have j1 : ∀ v1 : Int32, v1 = (if ((M 7 x1.toNatClampNeg) &&& 1) = 0 then ((M 6 x1.toNatClampNeg) + (iN 120)) else (M 6 x1.toNatClampNeg) : Int32) → gE w 35 38 [some (.ref 1), some (.int x1)] [.int v1] M post := by
    intro v1 e2
    subst v1
    exact ev_ri1 (pt_35_38 w) h2
  refine ev_zeq (pc' := 14) (pt_35_11 w) rfl (fun c1 => ?_) (fun c1 => ?_)
  · refine ev_al (pc' := 27) (pt_35_26 w) rfl rfl ?_
    refine ev_getr (pc' := 30) (pt_35_27 w) rfl rfl rfl ?_
    refine ev_getr (pc' := 33) (pt_35_30 w) rfl rfl rfl ?_
    refine ev_il (pc' := 34) (pt_35_33 w) rfl rfl ?_
    refine ev_ia (pc' := 35) (pt_35_34 w) rfl rfl b1 ?_
    refine ev_k (pc' := 37) (pt_35_35 w) rfl ?_
    refine ev_b (pc' := 38) (pt_35_37 w) rfl ?_
    exact j1 _ (if_pos c1).symm
  · refine ev_al (pc' := 15) (pt_35_14 w) rfl rfl ?_
    refine ev_getr (pc' := 18) (pt_35_15 w) rfl rfl rfl ?_
    refine ev_getr (pc' := 21) (pt_35_18 w) rfl rfl rfl ?_
    refine ev_il (pc' := 22) (pt_35_21 w) rfl rfl ?_
    refine ev_ia (pc' := 23) (pt_35_22 w) rfl rfl b1 ?_
    refine ev_g (pt_35_23 w) ?_
    exact j1 _ (if_neg c1).symm

-- BoardDesk$Board.isFree(II)Z
theorem wk_36_0 {w : qS} {M : qM} {x1 x2 : Int32} {post : qR}
    (b1 : vp_in x1 240)
    (h2 : (c1 : ¬ (M 8 x1.toNatClampNeg) = (-2)) → gE w 36 28 [some (.ref 1), some (.int x1), some (.int x2), some (.int (M 2 8)), some (.int (-(M 2 8))), none, none, none] [] M post)
    (h3 : (c1 : (M 8 x1.toNatClampNeg) = (-2)) → post (some (.int 0)) M) :
    gE w 36 0 [some (.ref 1), some (.int x1), some (.int x2), none, none, none, none, none] [] M post := by
  refine ev_al (pc' := 1) (pt_36_0 w) rfl rfl ?_
  refine ev_getr (pc' := 4) (pt_36_1 w) rfl rfl rfl ?_
  refine ev_getr (pc' := 7) (pt_36_4 w) rfl rfl rfl ?_
  refine ev_il (pc' := 8) (pt_36_7 w) rfl rfl ?_
  refine ev_ia (pc' := 9) (pt_36_8 w) rfl rfl b1 ?_
  refine ev_k (pc' := 11) (pt_36_9 w) rfl ?_
  refine ev_cne (pc' := 14) (pt_36_11 w) rfl (fun c1 => ?_) (fun c1 => ?_)
  · refine ev_al (pc' := 17) (pt_36_16 w) rfl rfl ?_
    refine ev_getr (pc' := 20) (pt_36_17 w) rfl rfl rfl ?_
    refine ev_geti (pc' := 23) (pt_36_20 w) rfl rfl rfl ?_
    refine ev_is (pc' := 24) (loc1 := [some (.ref 1), some (.int x1), some (.int x2), some (.int (M 2 8)), none, none, none, none]) (pt_36_23 w) rfl rfl ?_
    refine ev_il (pc' := 25) (pt_36_24 w) rfl rfl ?_
    refine ev_u (pc' := 26) (pt_36_25 w) rfl ?_
    refine ev_is (pc' := 28) (loc1 := [some (.ref 1), some (.int x1), some (.int x2), some (.int (M 2 8)), some (.int (-(M 2 8))), none, none, none]) (pt_36_26 w) rfl rfl ?_
    exact (h2 c1)
  · refine ev_k (pc' := 15) (pt_36_14 w) rfl ?_
    exact ev_rz (pt_36_15 w) z1_0 (h3 c1)

theorem wk_36_28 {w : qS} {M : qM} {x1 x2 x3 x4 : Int32} {o5 o6 o7 : Option Value} {post : qR}
    (h1 : (c1 : x3 < x4) → post (some (.int 1)) M)
    (h2 : (c1 : ¬ x3 < x4) → gE w 36 38 [some (.ref 1), some (.int x1), some (.int x2), some (.int x3), some (.int x4), some (.int (-x3)), o6, o7] [] M post) :
    gE w 36 28 [some (.ref 1), some (.int x1), some (.int x2), some (.int x3), some (.int x4), o5, o6, o7] [] M post := by
  refine ev_il (pc' := 30) (pt_36_28 w) rfl rfl ?_
  refine ev_il (pc' := 31) (pt_36_30 w) rfl rfl ?_
  refine ev_cgt (pc' := 34) (pt_36_31 w) rfl (fun c1 => ?_) (fun c1 => ?_)
  · refine ev_k (pc' := 99) (pt_36_98 w) rfl ?_
    exact ev_rz (pt_36_99 w) z1_1 (h1 c1)
  · refine ev_il (pc' := 35) (pt_36_34 w) rfl rfl ?_
    refine ev_u (pc' := 36) (pt_36_35 w) rfl ?_
    refine ev_is (pc' := 38) (loc1 := [some (.ref 1), some (.int x1), some (.int x2), some (.int x3), some (.int x4), some (.int (-x3)), o6, o7]) (pt_36_36 w) rfl rfl ?_
    exact (h2 c1)

theorem wk_36_38 {w : qS} {M : qM} {x1 x2 x3 x4 x5 : Int32} {o6 o7 : Option Value} {r1 : Int32} {r2 : Int32} {post : qR}
    (h1 : (c1 : x3 < x5) → gE w 36 28 [some (.ref 1), some (.int x1), some (.int x2), some (.int x3), some (.int (x4 + 1)), some (.int x5), o6, o7] [] M post)
    (k2 : (c1 : ¬ x3 < x5) → gE w 27 0 [some (.int x1), some (.int x5), some (.int x4), none, none] [] M (qv1 M r1))
    (h3 : (c1 : ¬ x3 < x5) → (c2 : (if r1 = (-1) then (-1) else r2 : Int32) = (-1)) → gE w 36 38 [some (.ref 1), some (.int x1), some (.int x2), some (.int x3), some (.int x4), some (.int (x5 + 1)), some (.int r1), some (.int (if r1 = (-1) then (-1) else r2 : Int32))] [] M post)
    (h4 : (c1 : ¬ x3 < x5) → (c2 : ¬ (if r1 = (-1) then (-1) else r2 : Int32) = (-1)) → (c3 : (if r1 = (-1) then (-1) else r2 : Int32) = x2) → gE w 36 38 [some (.ref 1), some (.int x1), some (.int x2), some (.int x3), some (.int x4), some (.int (x5 + 1)), some (.int r1), some (.int (if r1 = (-1) then (-1) else r2 : Int32))] [] M post)
    (h5 : (c1 : ¬ x3 < x5) → (c2 : ¬ (if r1 = (-1) then (-1) else r2 : Int32) = (-1)) → (c3 : ¬ (if r1 = (-1) then (-1) else r2 : Int32) = x2) → post (some (.int 0)) M)
    (k6 : (c1 : ¬ x3 < x5) → (c4 : ¬ r1 = (-1)) → gE w 32 0 [some (.ref 1), some (.int r1), none] [] M (qv1 M r2)) :
    gE w 36 38 [some (.ref 1), some (.int x1), some (.int x2), some (.int x3), some (.int x4), some (.int x5), o6, o7] [] M post := by
  refine ev_il (pc' := 40) (pt_36_38 w) rfl rfl ?_
  refine ev_il (pc' := 41) (pt_36_40 w) rfl rfl ?_
  refine ev_cgt (pc' := 44) (pt_36_41 w) rfl (fun c1 => ?_) (fun c1 => ?_)
  · refine ev_inc (pc' := 95) (loc1 := [some (.ref 1), some (.int x1), some (.int x2), some (.int x3), some (.int (x4 + 1)), some (.int x5), o6, o7]) (pt_36_92 w) rfl rfl rfl ?_
    refine ev_g (pt_36_95 w) ?_
    exact (h1 c1)
  · refine ev_il (pc' := 45) (pt_36_44 w) rfl rfl ?_
    refine ev_il (pc' := 47) (pt_36_45 w) rfl rfl ?_
    refine ev_il (pc' := 49) (pt_36_47 w) rfl rfl ?_
    refine ev_cal1 (pc' := 52) (pt_36_49 w) (vs := [.int x1, .int x5, .int x4]) (rest := []) (en := [some (.int x1), some (.int x5), some (.int x4), none, none]) rfl rfl rfl rfl trivial rfl rfl (k2 c1) ?_
    refine ev_is (pc' := 54) (loc1 := [some (.ref 1), some (.int x1), some (.int x2), some (.int x3), some (.int x4), some (.int x5), some (.int r1), o7]) (pt_36_52 w) rfl rfl ?_
    refine ev_il (pc' := 56) (pt_36_54 w) rfl rfl ?_
    refine ev_k (pc' := 57) (pt_36_56 w) rfl ?_
    have j1 : ∀ v1 : Int32, v1 = (if r1 = (-1) then (-1) else r2 : Int32) → gE w 36 70 [some (.ref 1), some (.int x1), some (.int x2), some (.int x3), some (.int x4), some (.int x5), some (.int r1), o7] [.int v1] M post := by
      intro v1 e2
      subst v1
      refine ev_is (pc' := 72) (loc1 := [some (.ref 1), some (.int x1), some (.int x2), some (.int x3), some (.int x4), some (.int x5), some (.int r1), some (.int (if r1 = (-1) then (-1) else r2 : Int32))]) (pt_36_70 w) rfl rfl ?_
      refine ev_il (pc' := 74) (pt_36_72 w) rfl rfl ?_
      refine ev_k (pc' := 75) (pt_36_74 w) rfl ?_
      refine ev_ceq (pc' := 78) (pt_36_75 w) rfl (fun c2 => ?_) (fun c2 => ?_)
      · refine ev_inc (pc' := 89) (loc1 := [some (.ref 1), some (.int x1), some (.int x2), some (.int x3), some (.int x4), some (.int (x5 + 1)), some (.int r1), some (.int (if r1 = (-1) then (-1) else r2 : Int32))]) (pt_36_86 w) rfl rfl rfl ?_
        refine ev_g (pt_36_89 w) ?_
        exact (h3 c1 c2)
      · refine ev_il (pc' := 80) (pt_36_78 w) rfl rfl ?_
        refine ev_il (pc' := 81) (pt_36_80 w) rfl rfl ?_
        refine ev_ceq (pc' := 84) (pt_36_81 w) rfl (fun c3 => ?_) (fun c3 => ?_)
        · refine ev_inc (pc' := 89) (loc1 := [some (.ref 1), some (.int x1), some (.int x2), some (.int x3), some (.int x4), some (.int (x5 + 1)), some (.int r1), some (.int (if r1 = (-1) then (-1) else r2 : Int32))]) (pt_36_86 w) rfl rfl rfl ?_
          refine ev_g (pt_36_89 w) ?_
          exact (h4 c1 c2 c3)
        · refine ev_k (pc' := 85) (pt_36_84 w) rfl ?_
          exact ev_rz (pt_36_85 w) z1_0 (h5 c1 c2 c3)
    refine ev_cne (pc' := 60) (pt_36_57 w) rfl (fun c4 => ?_) (fun c4 => ?_)
    · refine ev_al (pc' := 65) (pt_36_64 w) rfl rfl ?_
      refine ev_il (pc' := 67) (pt_36_65 w) rfl rfl ?_
      refine ev_cal1 (pc' := 70) (pt_36_67 w) (vs := [.ref 1, .int r1]) (rest := []) (en := [some (.ref 1), some (.int r1), none]) rfl rfl rfl rfl rfl rfl rfl (k6 c1 c4) ?_
      exact j1 _ (if_neg c4).symm
    · refine ev_k (pc' := 61) (pt_36_60 w) rfl ?_
      refine ev_g (pt_36_61 w) ?_
      exact j1 _ (if_pos c4).symm

-- BoardDesk$Board.addPin(I)I
theorem wk_37_0 {w : qS} {M : qM} {x1 : Int32} {post : qR}
    (b1 : vp_in (M 2 6) 16)
    (h2 : gE w 40 0 [some (.ref 1), none, none, none] [] (ms (ms M 3 (M 2 6).toNatClampNeg x1) 2 6 (((ms M 3 (M 2 6).toNatClampNeg x1) 2 6) + 1)) (fun r M' => gE w 37 35 [some (.ref 1), some (.int x1), some (.int (M 2 6))] (r.toList ++ []) M' post)) :
    gE w 37 0 [some (.ref 1), some (.int x1), none] [] M post := by
  refine ev_al (pc' := 1) (pt_37_0 w) rfl rfl ?_
  refine ev_getr (pc' := 4) (pt_37_1 w) rfl rfl rfl ?_
  refine ev_geti (pc' := 7) (pt_37_4 w) rfl rfl rfl ?_
  refine ev_is (pc' := 8) (loc1 := [some (.ref 1), some (.int x1), some (.int (M 2 6))]) (pt_37_7 w) rfl rfl ?_
  refine ev_al (pc' := 9) (pt_37_8 w) rfl rfl ?_
  refine ev_getr (pc' := 12) (pt_37_9 w) rfl rfl rfl ?_
  refine ev_getr (pc' := 15) (pt_37_12 w) rfl rfl rfl ?_
  refine ev_il (pc' := 16) (pt_37_15 w) rfl rfl ?_
  refine ev_il (pc' := 17) (pt_37_16 w) rfl rfl ?_
  refine ev_ias (pc' := 18) (pt_37_17 w) rfl rfl b1 ?_
  refine ev_al (pc' := 19) (pt_37_18 w) rfl rfl ?_
  refine ev_getr (pc' := 22) (pt_37_19 w) rfl rfl rfl ?_
  refine ev_dup (pc' := 23) (pt_37_22 w) rfl rfl ?_
  refine ev_geti (pc' := 26) (pt_37_23 w) rfl rfl rfl ?_
  refine ev_k (pc' := 27) (pt_37_26 w) rfl ?_
  refine ev_b (pc' := 28) (pt_37_27 w) rfl ?_
  refine ev_put (pc' := 31) (pt_37_28 w) rfl rfl rfl ?_
  refine ev_al (pc' := 32) (pt_37_31 w) rfl rfl ?_
  exact ev_cal (pc' := 35) (pt_37_32 w) (vs := [.ref 1]) (rest := []) (en := [some (.ref 1), none, none, none]) rfl rfl rfl rfl rfl rfl rfl h2

theorem wk_37_35 {w : qS} {M : qM} {x2 : Int32} {o0 o1 : Option Value} {post : qR}
    (h1 : post (some (.int x2)) M) :
    gE w 37 35 [o0, o1, some (.int x2)] [] M post := by
  refine ev_il (pc' := 36) (pt_37_35 w) rfl rfl ?_
  exact ev_ri1 (pt_37_36 w) h1

-- BoardDesk$Board.addJoint(II)I
theorem wk_38_0 {w : qS} {M : qM} {x1 x2 : Int32} {post : qR}
    (b1 : vp_in (M 2 7) 24)
    (h2 : gE w 40 0 [some (.ref 1), none, none, none] [] (ms (ms (ms M 4 (M 2 7).toNatClampNeg x1) 5 (M 2 7).toNatClampNeg x2) 2 7 (((ms (ms M 4 (M 2 7).toNatClampNeg x1) 5 (M 2 7).toNatClampNeg x2) 2 7) + 1)) (fun r M' => gE w 38 45 [some (.ref 1), some (.int x1), some (.int x2), some (.int (M 2 7))] (r.toList ++ []) M' post)) :
    gE w 38 0 [some (.ref 1), some (.int x1), some (.int x2), none] [] M post := by
  refine ev_al (pc' := 1) (pt_38_0 w) rfl rfl ?_
  refine ev_getr (pc' := 4) (pt_38_1 w) rfl rfl rfl ?_
  refine ev_geti (pc' := 7) (pt_38_4 w) rfl rfl rfl ?_
  refine ev_is (pc' := 8) (loc1 := [some (.ref 1), some (.int x1), some (.int x2), some (.int (M 2 7))]) (pt_38_7 w) rfl rfl ?_
  refine ev_al (pc' := 9) (pt_38_8 w) rfl rfl ?_
  refine ev_getr (pc' := 12) (pt_38_9 w) rfl rfl rfl ?_
  refine ev_getr (pc' := 15) (pt_38_12 w) rfl rfl rfl ?_
  refine ev_il (pc' := 16) (pt_38_15 w) rfl rfl ?_
  refine ev_il (pc' := 17) (pt_38_16 w) rfl rfl ?_
  refine ev_ias (pc' := 18) (pt_38_17 w) rfl rfl b1 ?_
  refine ev_al (pc' := 19) (pt_38_18 w) rfl rfl ?_
  refine ev_getr (pc' := 22) (pt_38_19 w) rfl rfl rfl ?_
  refine ev_getr (pc' := 25) (pt_38_22 w) rfl rfl rfl ?_
  refine ev_il (pc' := 26) (pt_38_25 w) rfl rfl ?_
  refine ev_il (pc' := 27) (pt_38_26 w) rfl rfl ?_
  refine ev_ias (pc' := 28) (pt_38_27 w) rfl rfl b1 ?_
  refine ev_al (pc' := 29) (pt_38_28 w) rfl rfl ?_
  refine ev_getr (pc' := 32) (pt_38_29 w) rfl rfl rfl ?_
  refine ev_dup (pc' := 33) (pt_38_32 w) rfl rfl ?_
  refine ev_geti (pc' := 36) (pt_38_33 w) rfl rfl rfl ?_
  refine ev_k (pc' := 37) (pt_38_36 w) rfl ?_
  refine ev_b (pc' := 38) (pt_38_37 w) rfl ?_
  refine ev_put (pc' := 41) (pt_38_38 w) rfl rfl rfl ?_
  refine ev_al (pc' := 42) (pt_38_41 w) rfl rfl ?_
  exact ev_cal (pc' := 45) (pt_38_42 w) (vs := [.ref 1]) (rest := []) (en := [some (.ref 1), none, none, none]) rfl rfl rfl rfl rfl rfl rfl h2

theorem wk_38_45 {w : qS} {M : qM} {x3 : Int32} {o0 o1 o2 : Option Value} {post : qR}
    (h1 : post (some (.int x3)) M) :
    gE w 38 45 [o0, o1, o2, some (.int x3)] [] M post := by
  refine ev_il (pc' := 46) (pt_38_45 w) rfl rfl ?_
  exact ev_ri1 (pt_38_46 w) h1

-- BoardDesk$Board.dropJoint(I)V
theorem wk_39_0 {w : qS} {M : qM} {x1 : Int32} {post : qR}
    (h1 : gE w 39 15 [some (.ref 1), some (.int x1), some (.int x1)] [] (ms M 2 7 ((M 2 7) - 1)) post) :
    gE w 39 0 [some (.ref 1), some (.int x1), none] [] M post := by
  refine ev_al (pc' := 1) (pt_39_0 w) rfl rfl ?_
  refine ev_getr (pc' := 4) (pt_39_1 w) rfl rfl rfl ?_
  refine ev_dup (pc' := 5) (pt_39_4 w) rfl rfl ?_
  refine ev_geti (pc' := 8) (pt_39_5 w) rfl rfl rfl ?_
  refine ev_k (pc' := 9) (pt_39_8 w) rfl ?_
  refine ev_b (pc' := 10) (pt_39_9 w) rfl ?_
  refine ev_put (pc' := 13) (pt_39_10 w) rfl rfl rfl ?_
  refine ev_il (pc' := 14) (pt_39_13 w) rfl rfl ?_
  refine ev_is (pc' := 15) (loc1 := [some (.ref 1), some (.int x1), some (.int x1)]) (pt_39_14 w) rfl rfl ?_
  exact h1

theorem wk_39_15 {w : qS} {M : qM} {x2 : Int32} {o1 : Option Value} {post : qR}
    (h1 : (c1 : ¬ x2 < (M 2 7)) → gE w 40 0 [some (.ref 1), none, none, none] [] M (fun r M' => gE w 39 76 [some (.ref 1), o1, some (.int x2)] (r.toList ++ []) M' post))
    (b2 : (c1 : x2 < (M 2 7)) → vp_in (x2 + 1) 24)
    (b3 : (c1 : x2 < (M 2 7)) → vp_in x2 24)
    (h4 : (c1 : x2 < (M 2 7)) → gE w 39 15 [some (.ref 1), o1, some (.int (x2 + 1))] [] (ms (ms M 4 x2.toNatClampNeg (M 4 (x2 + 1).toNatClampNeg)) 5 x2.toNatClampNeg ((ms M 4 x2.toNatClampNeg (M 4 (x2 + 1).toNatClampNeg)) 5 (x2 + 1).toNatClampNeg)) post) :
    gE w 39 15 [some (.ref 1), o1, some (.int x2)] [] M post := by
  refine ev_il (pc' := 16) (pt_39_15 w) rfl rfl ?_
  refine ev_al (pc' := 17) (pt_39_16 w) rfl rfl ?_
  refine ev_getr (pc' := 20) (pt_39_17 w) rfl rfl rfl ?_
  refine ev_geti (pc' := 23) (pt_39_20 w) rfl rfl rfl ?_
  refine ev_cge (pc' := 26) (pt_39_23 w) rfl (fun c1 => ?_) (fun c1 => ?_)
  · refine ev_al (pc' := 73) (pt_39_72 w) rfl rfl ?_
    exact ev_cal (pc' := 76) (pt_39_73 w) (vs := [.ref 1]) (rest := []) (en := [some (.ref 1), none, none, none]) rfl rfl rfl rfl rfl rfl rfl (h1 c1)
  · refine ev_al (pc' := 27) (pt_39_26 w) rfl rfl ?_
    refine ev_getr (pc' := 30) (pt_39_27 w) rfl rfl rfl ?_
    refine ev_getr (pc' := 33) (pt_39_30 w) rfl rfl rfl ?_
    refine ev_il (pc' := 34) (pt_39_33 w) rfl rfl ?_
    refine ev_al (pc' := 35) (pt_39_34 w) rfl rfl ?_
    refine ev_getr (pc' := 38) (pt_39_35 w) rfl rfl rfl ?_
    refine ev_getr (pc' := 41) (pt_39_38 w) rfl rfl rfl ?_
    refine ev_il (pc' := 42) (pt_39_41 w) rfl rfl ?_
    refine ev_k (pc' := 43) (pt_39_42 w) rfl ?_
    refine ev_b (pc' := 44) (pt_39_43 w) rfl ?_
    refine ev_ia (pc' := 45) (pt_39_44 w) rfl rfl (b2 c1) ?_
    refine ev_ias (pc' := 46) (pt_39_45 w) rfl rfl (b3 c1) ?_
    refine ev_al (pc' := 47) (pt_39_46 w) rfl rfl ?_
    refine ev_getr (pc' := 50) (pt_39_47 w) rfl rfl rfl ?_
    refine ev_getr (pc' := 53) (pt_39_50 w) rfl rfl rfl ?_
    refine ev_il (pc' := 54) (pt_39_53 w) rfl rfl ?_
    refine ev_al (pc' := 55) (pt_39_54 w) rfl rfl ?_
    refine ev_getr (pc' := 58) (pt_39_55 w) rfl rfl rfl ?_
    refine ev_getr (pc' := 61) (pt_39_58 w) rfl rfl rfl ?_
    refine ev_il (pc' := 62) (pt_39_61 w) rfl rfl ?_
    refine ev_k (pc' := 63) (pt_39_62 w) rfl ?_
    refine ev_b (pc' := 64) (pt_39_63 w) rfl ?_
    refine ev_ia (pc' := 65) (pt_39_64 w) rfl rfl (b2 c1) ?_
    refine ev_ias (pc' := 66) (pt_39_65 w) rfl rfl (b3 c1) ?_
    refine ev_inc (pc' := 69) (loc1 := [some (.ref 1), o1, some (.int (x2 + 1))]) (pt_39_66 w) rfl rfl rfl ?_
    refine ev_g (pt_39_69 w) ?_
    exact (h4 c1)

theorem wk_39_76 {w : qS} {M : qM} {o0 o1 o2 : Option Value} {post : qR}
    (h1 : post none M) :
    gE w 39 76 [o0, o1, o2] [] M post := by
  exact ev_rv (pt_39_76 w) h1

-- BoardDesk$Board.nameNets()V
theorem wk_40_0 {w : qS} {M : qM} {post : qR}
    (h1 : gE w 40 2 [some (.ref 1), some (.int 0), none, none] [] M post) :
    gE w 40 0 [some (.ref 1), none, none, none] [] M post := by
  refine ev_k (pc' := 1) (pt_40_0 w) rfl ?_
  refine ev_is (pc' := 2) (loc1 := [some (.ref 1), some (.int 0), none, none]) (pt_40_1 w) rfl rfl ?_
  exact h1

theorem wk_40_2 {w : qS} {M : qM} {x1 : Int32} {o2 o3 : Option Value} {post : qR}
    (h1 : (c1 : ¬ x1 < (iN 16)) → gE w 40 23 [some (.ref 1), some (.int 0), o2, o3] [] M post)
    (b2 : (c1 : x1 < (iN 16)) → vp_in x1 16)
    (h3 : (c1 : x1 < (iN 16)) → gE w 40 2 [some (.ref 1), some (.int (x1 + 1)), o2, o3] [] (ms M 9 x1.toNatClampNeg x1) post) :
    gE w 40 2 [some (.ref 1), some (.int x1), o2, o3] [] M post := by
  refine ev_il (pc' := 3) (pt_40_2 w) rfl rfl ?_
  refine ev_k (pc' := 5) (pt_40_3 w) rfl ?_
  refine ev_cge (pc' := 8) (pt_40_5 w) rfl (fun c1 => ?_) (fun c1 => ?_)
  · refine ev_k (pc' := 22) (pt_40_21 w) rfl ?_
    refine ev_is (pc' := 23) (loc1 := [some (.ref 1), some (.int 0), o2, o3]) (pt_40_22 w) rfl rfl ?_
    exact (h1 c1)
  · refine ev_al (pc' := 9) (pt_40_8 w) rfl rfl ?_
    refine ev_getr (pc' := 12) (pt_40_9 w) rfl rfl rfl ?_
    refine ev_il (pc' := 13) (pt_40_12 w) rfl rfl ?_
    refine ev_il (pc' := 14) (pt_40_13 w) rfl rfl ?_
    refine ev_ias (pc' := 15) (pt_40_14 w) rfl rfl (b2 c1) ?_
    refine ev_inc (pc' := 18) (loc1 := [some (.ref 1), some (.int (x1 + 1)), o2, o3]) (pt_40_15 w) rfl rfl rfl ?_
    refine ev_g (pt_40_18 w) ?_
    exact (h3 c1)

theorem wk_40_23 {w : qS} {M : qM} {x1 : Int32} {o2 o3 : Option Value} {post : qR}
    (h1 : (c1 : ¬ x1 < (M 2 7)) → post none M)
    (b2 : (c1 : x1 < (M 2 7)) → vp_in x1 24)
    (b3 : (c1 : x1 < (M 2 7)) → vp_in (M 4 x1.toNatClampNeg) 16)
    (b4 : (c1 : x1 < (M 2 7)) → vp_in (M 5 x1.toNatClampNeg) 16)
    (h5 : (c1 : x1 < (M 2 7)) → gE w 41 0 [some (.ref 1), some (.int (if (M 9 (M 4 x1.toNatClampNeg).toNatClampNeg) < (M 9 (M 5 x1.toNatClampNeg).toNatClampNeg) then (M 9 (M 5 x1.toNatClampNeg).toNatClampNeg) else (M 9 (M 4 x1.toNatClampNeg).toNatClampNeg) : Int32)), some (.int (if (M 9 (M 5 x1.toNatClampNeg).toNatClampNeg) < (M 9 (M 4 x1.toNatClampNeg).toNatClampNeg) then (M 9 (M 5 x1.toNatClampNeg).toNatClampNeg) else (M 9 (M 4 x1.toNatClampNeg).toNatClampNeg) : Int32)), none] [] M (fun r M' => gE w 40 78 [some (.ref 1), some (.int x1), some (.int (M 9 (M 4 x1.toNatClampNeg).toNatClampNeg)), some (.int (M 9 (M 5 x1.toNatClampNeg).toNatClampNeg))] (r.toList ++ []) M' post)) :
    gE w 40 23 [some (.ref 1), some (.int x1), o2, o3] [] M post := by
  refine ev_il (pc' := 24) (pt_40_23 w) rfl rfl ?_
  refine ev_al (pc' := 25) (pt_40_24 w) rfl rfl ?_
  refine ev_getr (pc' := 28) (pt_40_25 w) rfl rfl rfl ?_
  refine ev_geti (pc' := 31) (pt_40_28 w) rfl rfl rfl ?_
  refine ev_cge (pc' := 34) (pt_40_31 w) rfl (fun c1 => ?_) (fun c1 => ?_)
  · exact ev_rv (pt_40_84 w) (h1 c1)
  · refine ev_al (pc' := 35) (pt_40_34 w) rfl rfl ?_
    refine ev_getr (pc' := 38) (pt_40_35 w) rfl rfl rfl ?_
    refine ev_al (pc' := 39) (pt_40_38 w) rfl rfl ?_
    refine ev_getr (pc' := 42) (pt_40_39 w) rfl rfl rfl ?_
    refine ev_getr (pc' := 45) (pt_40_42 w) rfl rfl rfl ?_
    refine ev_il (pc' := 46) (pt_40_45 w) rfl rfl ?_
    refine ev_ia (pc' := 47) (pt_40_46 w) rfl rfl (b2 c1) ?_
    refine ev_ia (pc' := 48) (pt_40_47 w) rfl rfl (b3 c1) ?_
    refine ev_is (pc' := 49) (loc1 := [some (.ref 1), some (.int x1), some (.int (M 9 (M 4 x1.toNatClampNeg).toNatClampNeg)), o3]) (pt_40_48 w) rfl rfl ?_
    refine ev_al (pc' := 50) (pt_40_49 w) rfl rfl ?_
    refine ev_getr (pc' := 53) (pt_40_50 w) rfl rfl rfl ?_
    refine ev_al (pc' := 54) (pt_40_53 w) rfl rfl ?_
    refine ev_getr (pc' := 57) (pt_40_54 w) rfl rfl rfl ?_
    refine ev_getr (pc' := 60) (pt_40_57 w) rfl rfl rfl ?_
    refine ev_il (pc' := 61) (pt_40_60 w) rfl rfl ?_
    refine ev_ia (pc' := 62) (pt_40_61 w) rfl rfl (b2 c1) ?_
    refine ev_ia (pc' := 63) (pt_40_62 w) rfl rfl (b4 c1) ?_
    refine ev_is (pc' := 64) (loc1 := [some (.ref 1), some (.int x1), some (.int (M 9 (M 4 x1.toNatClampNeg).toNatClampNeg)), some (.int (M 9 (M 5 x1.toNatClampNeg).toNatClampNeg))]) (pt_40_63 w) rfl rfl ?_
    refine ev_al (pc' := 65) (pt_40_64 w) rfl rfl ?_
    refine ev_il (pc' := 66) (pt_40_65 w) rfl rfl ?_
    refine ev_il (pc' := 67) (pt_40_66 w) rfl rfl ?_
    refine ev_mx (pc' := 70) (pt_40_67 w) rfl (Nat.le_of_ble_eq_true rfl) ?_
    refine ev_il (pc' := 71) (pt_40_70 w) rfl rfl ?_
    refine ev_il (pc' := 72) (pt_40_71 w) rfl rfl ?_
    refine ev_mn (pc' := 75) (pt_40_72 w) rfl (Nat.le_of_ble_eq_true rfl) ?_
    exact ev_cal (pc' := 78) (pt_40_75 w) (vs := [.ref 1, .int (if (M 9 (M 4 x1.toNatClampNeg).toNatClampNeg) < (M 9 (M 5 x1.toNatClampNeg).toNatClampNeg) then (M 9 (M 5 x1.toNatClampNeg).toNatClampNeg) else (M 9 (M 4 x1.toNatClampNeg).toNatClampNeg) : Int32), .int (if (M 9 (M 5 x1.toNatClampNeg).toNatClampNeg) < (M 9 (M 4 x1.toNatClampNeg).toNatClampNeg) then (M 9 (M 5 x1.toNatClampNeg).toNatClampNeg) else (M 9 (M 4 x1.toNatClampNeg).toNatClampNeg) : Int32)]) (rest := []) (en := [some (.ref 1), some (.int (if (M 9 (M 4 x1.toNatClampNeg).toNatClampNeg) < (M 9 (M 5 x1.toNatClampNeg).toNatClampNeg) then (M 9 (M 5 x1.toNatClampNeg).toNatClampNeg) else (M 9 (M 4 x1.toNatClampNeg).toNatClampNeg) : Int32)), some (.int (if (M 9 (M 5 x1.toNatClampNeg).toNatClampNeg) < (M 9 (M 4 x1.toNatClampNeg).toNatClampNeg) then (M 9 (M 5 x1.toNatClampNeg).toNatClampNeg) else (M 9 (M 4 x1.toNatClampNeg).toNatClampNeg) : Int32)), none]) rfl rfl rfl rfl rfl rfl rfl (h5 c1)

theorem wk_40_78 {w : qS} {M : qM} {x1 : Int32} {o2 o3 : Option Value} {post : qR}
    (h1 : gE w 40 23 [some (.ref 1), some (.int (x1 + 1)), o2, o3] [] M post) :
    gE w 40 78 [some (.ref 1), some (.int x1), o2, o3] [] M post := by
  refine ev_inc (pc' := 81) (loc1 := [some (.ref 1), some (.int (x1 + 1)), o2, o3]) (pt_40_78 w) rfl rfl rfl ?_
  refine ev_g (pt_40_81 w) ?_
  exact h1

-- BoardDesk$Board.rename(II)V
theorem wk_41_0 {w : qS} {M : qM} {x1 x2 : Int32} {post : qR}
    (h1 : gE w 41 2 [some (.ref 1), some (.int x1), some (.int x2), some (.int 0)] [] M post) :
    gE w 41 0 [some (.ref 1), some (.int x1), some (.int x2), none] [] M post := by
  refine ev_k (pc' := 1) (pt_41_0 w) rfl ?_
  refine ev_is (pc' := 2) (loc1 := [some (.ref 1), some (.int x1), some (.int x2), some (.int 0)]) (pt_41_1 w) rfl rfl ?_
  exact h1

theorem wk_41_2 {w : qS} {M : qM} {x1 x2 x3 : Int32} {post : qR}
    (h1 : (c1 : ¬ x3 < (iN 16)) → post none M)
    (b2 : (c1 : x3 < (iN 16)) → vp_in x3 16)
    (h3 : (c1 : x3 < (iN 16)) → (c2 : ¬ (M 9 x3.toNatClampNeg) = x1) → gE w 41 2 [some (.ref 1), some (.int x1), some (.int x2), some (.int (x3 + 1))] [] M post)
    (h4 : (c1 : x3 < (iN 16)) → (c2 : (M 9 x3.toNatClampNeg) = x1) → gE w 41 2 [some (.ref 1), some (.int x1), some (.int x2), some (.int (x3 + 1))] [] (ms M 9 x3.toNatClampNeg x2) post) :
    gE w 41 2 [some (.ref 1), some (.int x1), some (.int x2), some (.int x3)] [] M post := by
  refine ev_il (pc' := 3) (pt_41_2 w) rfl rfl ?_
  refine ev_k (pc' := 5) (pt_41_3 w) rfl ?_
  refine ev_cge (pc' := 8) (pt_41_5 w) rfl (fun c1 => ?_) (fun c1 => ?_)
  · exact ev_rv (pt_41_31 w) (h1 c1)
  · refine ev_al (pc' := 9) (pt_41_8 w) rfl rfl ?_
    refine ev_getr (pc' := 12) (pt_41_9 w) rfl rfl rfl ?_
    refine ev_il (pc' := 13) (pt_41_12 w) rfl rfl ?_
    refine ev_ia (pc' := 14) (pt_41_13 w) rfl rfl (b2 c1) ?_
    refine ev_il (pc' := 15) (pt_41_14 w) rfl rfl ?_
    refine ev_cne (pc' := 18) (pt_41_15 w) rfl (fun c2 => ?_) (fun c2 => ?_)
    · refine ev_inc (pc' := 28) (loc1 := [some (.ref 1), some (.int x1), some (.int x2), some (.int (x3 + 1))]) (pt_41_25 w) rfl rfl rfl ?_
      refine ev_g (pt_41_28 w) ?_
      exact (h3 c1 c2)
    · refine ev_al (pc' := 19) (pt_41_18 w) rfl rfl ?_
      refine ev_getr (pc' := 22) (pt_41_19 w) rfl rfl rfl ?_
      refine ev_il (pc' := 23) (pt_41_22 w) rfl rfl ?_
      refine ev_il (pc' := 24) (pt_41_23 w) rfl rfl ?_
      refine ev_ias (pc' := 25) (pt_41_24 w) rfl rfl (b2 c1) ?_
      refine ev_inc (pc' := 28) (loc1 := [some (.ref 1), some (.int x1), some (.int x2), some (.int (x3 + 1))]) (pt_41_25 w) rfl rfl rfl ?_
      refine ev_g (pt_41_28 w) ?_
      exact (h4 c1 c2)

-- BoardDesk$Board.netFault(I)I
theorem wk_42_0 {w : qS} {M : qM} {x1 : Int32} {r1 : Int32} {r2 : Int32} {r3 : Int32} {post : qR}
    (k1 : gE w 43 0 [some (.ref 1), some (.int x1), some (.int 1), none, none] [] M (qv1 M r1))
    (h2 : (c1 : r1 < (iN 2)) → post (some (.int (if (if 0 < r1 then 1 else (if 0 < r2 then 1 else 0 : Int32) : Int32) = 0 then (if 0 < r3 then (iN 2) else (-1) : Int32) else (-1) : Int32))) M)
    (k3 : (c1 : r1 < (iN 2)) → (c2 : (if 0 < r1 then 1 else (if 0 < r2 then 1 else 0 : Int32) : Int32) = 0) → gE w 43 0 [some (.ref 1), some (.int x1), some (.int 0), none, none] [] M (qv1 M r3))
    (k4 : (c1 : r1 < (iN 2)) → (c4 : ¬ 0 < r1) → gE w 43 0 [some (.ref 1), some (.int x1), some (.int (iN 3)), none, none] [] M (qv1 M r2))
    (h5 : (c1 : ¬ r1 < (iN 2)) → post (some (.int 1)) M) :
    gE w 42 0 [some (.ref 1), some (.int x1), none, none] [] M post := by
  refine ev_al (pc' := 1) (pt_42_0 w) rfl rfl ?_
  refine ev_il (pc' := 2) (pt_42_1 w) rfl rfl ?_
  refine ev_k (pc' := 3) (pt_42_2 w) rfl ?_
  refine ev_cal1 (pc' := 6) (pt_42_3 w) (vs := [.ref 1, .int x1, .int 1]) (rest := []) (en := [some (.ref 1), some (.int x1), some (.int 1), none, none]) rfl rfl rfl rfl rfl rfl rfl k1 ?_
  refine ev_is (pc' := 7) (loc1 := [some (.ref 1), some (.int x1), some (.int r1), none]) (pt_42_6 w) rfl rfl ?_
  refine ev_il (pc' := 8) (pt_42_7 w) rfl rfl ?_
  refine ev_k (pc' := 9) (pt_42_8 w) rfl ?_
  refine ev_clt (pc' := 12) (pt_42_9 w) rfl (fun c1 => ?_) (fun c1 => ?_)
  · refine ev_il (pc' := 15) (pt_42_14 w) rfl rfl ?_
    have j1 : ∀ v1 : Int32, v1 = (if 0 < r1 then 1 else (if 0 < r2 then 1 else 0 : Int32) : Int32) → gE w 42 32 [some (.ref 1), some (.int x1), some (.int r1), none] [.int v1] M post := by
      intro v1 e2
      subst v1
      refine ev_is (pc' := 33) (loc1 := [some (.ref 1), some (.int x1), some (.int r1), some (.int (if 0 < r1 then 1 else (if 0 < r2 then 1 else 0 : Int32) : Int32))]) (pt_42_32 w) rfl rfl ?_
      refine ev_il (pc' := 34) (pt_42_33 w) rfl rfl ?_
      have j2 : ∀ v3 : Int32, v3 = (if (if 0 < r1 then 1 else (if 0 < r2 then 1 else 0 : Int32) : Int32) = 0 then (if 0 < r3 then (iN 2) else (-1) : Int32) else (-1) : Int32) → gE w 42 51 [some (.ref 1), some (.int x1), some (.int r1), some (.int (if 0 < r1 then 1 else (if 0 < r2 then 1 else 0 : Int32) : Int32))] [.int v3] M post := by
        intro v3 e4
        subst v3
        exact ev_ri1 (pt_42_51 w) (h2 c1)
      refine ev_zne (pc' := 37) (pt_42_34 w) rfl (fun c2 => ?_) (fun c2 => ?_)
      · refine ev_k (pc' := 51) (pt_42_50 w) rfl ?_
        exact j2 _ (if_neg c2).symm
      · refine ev_al (pc' := 38) (pt_42_37 w) rfl rfl ?_
        refine ev_il (pc' := 39) (pt_42_38 w) rfl rfl ?_
        refine ev_k (pc' := 40) (pt_42_39 w) rfl ?_
        refine ev_cal1 (pc' := 43) (pt_42_40 w) (vs := [.ref 1, .int x1, .int 0]) (rest := []) (en := [some (.ref 1), some (.int x1), some (.int 0), none, none]) rfl rfl rfl rfl rfl rfl rfl (k3 c1 c2) ?_
        refine ev_zle (pc' := 46) (pt_42_43 w) rfl (fun c3 => ?_) (fun c3 => ?_)
        · refine ev_k (pc' := 51) (pt_42_50 w) rfl ?_
          exact j2 _ ((if_pos c2).trans (if_neg c3)).symm
        · refine ev_k (pc' := 47) (pt_42_46 w) rfl ?_
          refine ev_g (pt_42_47 w) ?_
          exact j2 _ ((if_pos c2).trans (if_pos c3)).symm
    refine ev_zgt (pc' := 18) (pt_42_15 w) rfl (fun c4 => ?_) (fun c4 => ?_)
    · refine ev_k (pc' := 28) (pt_42_27 w) rfl ?_
      refine ev_g (pt_42_28 w) ?_
      exact j1 _ (if_pos c4).symm
    · refine ev_al (pc' := 19) (pt_42_18 w) rfl rfl ?_
      refine ev_il (pc' := 20) (pt_42_19 w) rfl rfl ?_
      refine ev_k (pc' := 21) (pt_42_20 w) rfl ?_
      refine ev_cal1 (pc' := 24) (pt_42_21 w) (vs := [.ref 1, .int x1, .int (iN 3)]) (rest := []) (en := [some (.ref 1), some (.int x1), some (.int (iN 3)), none, none]) rfl rfl rfl rfl rfl rfl rfl (k4 c1 c4) ?_
      refine ev_zle (pc' := 27) (pt_42_24 w) rfl (fun c5 => ?_) (fun c5 => ?_)
      · refine ev_k (pc' := 32) (pt_42_31 w) rfl ?_
        exact j1 _ ((if_neg c4).trans (if_neg c5)).symm
      · refine ev_k (pc' := 28) (pt_42_27 w) rfl ?_
        refine ev_g (pt_42_28 w) ?_
        exact j1 _ ((if_neg c4).trans (if_pos c5)).symm
  · refine ev_k (pc' := 13) (pt_42_12 w) rfl ?_
    exact ev_ri1 (pt_42_13 w) (h5 c1)

-- BoardDesk$Board.kindCount(II)I
theorem wk_43_0 {w : qS} {M : qM} {x1 x2 : Int32} {post : qR}
    (h1 : gE w 43 5 [some (.ref 1), some (.int x1), some (.int x2), some (.int 0), some (.int 0)] [] M post) :
    gE w 43 0 [some (.ref 1), some (.int x1), some (.int x2), none, none] [] M post := by
  refine ev_k (pc' := 1) (pt_43_0 w) rfl ?_
  refine ev_is (pc' := 2) (loc1 := [some (.ref 1), some (.int x1), some (.int x2), some (.int 0), none]) (pt_43_1 w) rfl rfl ?_
  refine ev_k (pc' := 3) (pt_43_2 w) rfl ?_
  refine ev_is (pc' := 5) (loc1 := [some (.ref 1), some (.int x1), some (.int x2), some (.int 0), some (.int 0)]) (pt_43_3 w) rfl rfl ?_
  exact h1

theorem wk_43_5 {w : qS} {M : qM} {x1 x2 x3 x4 : Int32} {post : qR}
    (h1 : (c1 : ¬ x4 < (M 2 6)) → post (some (.int x3)) M)
    (b2 : (c1 : x4 < (M 2 6)) → vp_in x4 16)
    (h3 : (c1 : x4 < (M 2 6)) → gE w 43 5 [some (.ref 1), some (.int x1), some (.int x2), some (.int (if (M 9 x4.toNatClampNeg) = x1 then (if (M 3 x4.toNatClampNeg) = x2 then (x3 + 1) else x3 : Int32) else x3 : Int32)), some (.int (x4 + 1))] [] M post) :
    gE w 43 5 [some (.ref 1), some (.int x1), some (.int x2), some (.int x3), some (.int x4)] [] M post := by
  refine ev_il (pc' := 7) (pt_43_5 w) rfl rfl ?_
  refine ev_al (pc' := 8) (pt_43_7 w) rfl rfl ?_
  refine ev_getr (pc' := 11) (pt_43_8 w) rfl rfl rfl ?_
  refine ev_geti (pc' := 14) (pt_43_11 w) rfl rfl rfl ?_
  refine ev_cge (pc' := 17) (pt_43_14 w) rfl (fun c1 => ?_) (fun c1 => ?_)
  · refine ev_il (pc' := 52) (pt_43_51 w) rfl rfl ?_
    exact ev_ri1 (pt_43_52 w) (h1 c1)
  · refine ev_al (pc' := 18) (pt_43_17 w) rfl rfl ?_
    refine ev_getr (pc' := 21) (pt_43_18 w) rfl rfl rfl ?_
    refine ev_il (pc' := 23) (pt_43_21 w) rfl rfl ?_
    refine ev_ia (pc' := 24) (pt_43_23 w) rfl rfl (b2 c1) ?_
    refine ev_il (pc' := 25) (pt_43_24 w) rfl rfl ?_
    have j1 : ∀ v1 : Int32, v1 = (if (M 9 x4.toNatClampNeg) = x1 then (if (M 3 x4.toNatClampNeg) = x2 then (x3 + 1) else x3 : Int32) else x3 : Int32) → gE w 43 45 [some (.ref 1), some (.int x1), some (.int x2), some (.int v1), some (.int x4)] [] M post := by
      intro v1 e2
      subst v1
      refine ev_inc (pc' := 48) (loc1 := [some (.ref 1), some (.int x1), some (.int x2), some (.int (if (M 9 x4.toNatClampNeg) = x1 then (if (M 3 x4.toNatClampNeg) = x2 then (x3 + 1) else x3 : Int32) else x3 : Int32)), some (.int (x4 + 1))]) (pt_43_45 w) rfl rfl rfl ?_
      refine ev_g (pt_43_48 w) ?_
      exact (h3 c1)
    refine ev_cne (pc' := 28) (pt_43_25 w) rfl (fun c2 => ?_) (fun c2 => ?_)
    · exact j1 _ (if_neg c2).symm
    · refine ev_al (pc' := 29) (pt_43_28 w) rfl rfl ?_
      refine ev_getr (pc' := 32) (pt_43_29 w) rfl rfl rfl ?_
      refine ev_getr (pc' := 35) (pt_43_32 w) rfl rfl rfl ?_
      refine ev_il (pc' := 37) (pt_43_35 w) rfl rfl ?_
      refine ev_ia (pc' := 38) (pt_43_37 w) rfl rfl (b2 c1) ?_
      refine ev_il (pc' := 39) (pt_43_38 w) rfl rfl ?_
      refine ev_cne (pc' := 42) (pt_43_39 w) rfl (fun c3 => ?_) (fun c3 => ?_)
      · exact j1 _ ((if_pos c2).trans (if_neg c3)).symm
      · refine ev_inc (pc' := 45) (loc1 := [some (.ref 1), some (.int x1), some (.int x2), some (.int (x3 + 1)), some (.int x4)]) (pt_43_42 w) rfl rfl rfl ?_
        exact j1 _ ((if_pos c2).trans (if_pos c3)).symm

-- BoardDesk$Board.takesPads(III)Z
theorem wk_44_0 {w : qS} {M : qM} {x1 x2 x3 : Int32} {post : qR}
    (h1 : gE w 44 3 [some (.ref 1), some (.int x1), some (.int x2), some (.int x3), some (.int 0), none, none] [] M post) :
    gE w 44 0 [some (.ref 1), some (.int x1), some (.int x2), some (.int x3), none, none, none] [] M post := by
  refine ev_k (pc' := 1) (pt_44_0 w) rfl ?_
  refine ev_is (pc' := 3) (loc1 := [some (.ref 1), some (.int x1), some (.int x2), some (.int x3), some (.int 0), none, none]) (pt_44_1 w) rfl rfl ?_
  exact h1

theorem wk_44_3 {w : qS} {M : qM} {x1 x2 x3 x4 : Int32} {o5 o6 : Option Value} {r1 : Int32} {post : qR}
    (h1 : (c1 : ¬ x4 < (iN 2)) → post (some (.int 1)) M)
    (h2 : (c1 : x4 < (iN 2)) → (c2 : (if ((x2 >>> (x4 &&& 31)) &&& 1) = 0 then 0 else 1 : Int32) = 0) → gE w 44 3 [some (.ref 1), some (.int x1), some (.int x2), some (.int x3), some (.int (x4 + 1)), some (.int ((x4 * (iN 120)) + x1)), some (.int (if ((x2 >>> (x4 &&& 31)) &&& 1) = 0 then 0 else 1 : Int32))] [] M post)
    (b3 : (c1 : x4 < (iN 2)) → (c2 : ¬ (if ((x2 >>> (x4 &&& 31)) &&& 1) = 0 then 0 else 1 : Int32) = 0) → vp_in ((x4 * (iN 120)) + x1) 240)
    (h4 : (c1 : x4 < (iN 2)) → (c2 : ¬ (if ((x2 >>> (x4 &&& 31)) &&& 1) = 0 then 0 else 1 : Int32) = 0) → (c3 : ¬ (M 8 ((x4 * (iN 120)) + x1).toNatClampNeg) = (-1)) → post (some (.int 0)) M)
    (k5 : (c1 : x4 < (iN 2)) → (c2 : ¬ (if ((x2 >>> (x4 &&& 31)) &&& 1) = 0 then 0 else 1 : Int32) = 0) → (c3 : (M 8 ((x4 * (iN 120)) + x1).toNatClampNeg) = (-1)) → gE w 36 0 [some (.ref 1), some (.int ((x4 * (iN 120)) + x1)), some (.int x3), none, none, none, none, none] [] M (qv1 M r1))
    (h6 : (c1 : x4 < (iN 2)) → (c2 : ¬ (if ((x2 >>> (x4 &&& 31)) &&& 1) = 0 then 0 else 1 : Int32) = 0) → (c3 : (M 8 ((x4 * (iN 120)) + x1).toNatClampNeg) = (-1)) → (c4 : ¬ r1 = 0) → gE w 44 3 [some (.ref 1), some (.int x1), some (.int x2), some (.int x3), some (.int (x4 + 1)), some (.int ((x4 * (iN 120)) + x1)), some (.int (if ((x2 >>> (x4 &&& 31)) &&& 1) = 0 then 0 else 1 : Int32))] [] M post)
    (h7 : (c1 : x4 < (iN 2)) → (c2 : ¬ (if ((x2 >>> (x4 &&& 31)) &&& 1) = 0 then 0 else 1 : Int32) = 0) → (c3 : (M 8 ((x4 * (iN 120)) + x1).toNatClampNeg) = (-1)) → (c4 : r1 = 0) → post (some (.int 0)) M) :
    gE w 44 3 [some (.ref 1), some (.int x1), some (.int x2), some (.int x3), some (.int x4), o5, o6] [] M post := by
  refine ev_il (pc' := 5) (pt_44_3 w) rfl rfl ?_
  refine ev_k (pc' := 6) (pt_44_5 w) rfl ?_
  refine ev_cge (pc' := 9) (pt_44_6 w) rfl (fun c1 => ?_) (fun c1 => ?_)
  · refine ev_k (pc' := 72) (pt_44_71 w) rfl ?_
    exact ev_rz (pt_44_72 w) z1_1 (h1 c1)
  · refine ev_il (pc' := 11) (pt_44_9 w) rfl rfl ?_
    refine ev_k (pc' := 13) (pt_44_11 w) rfl ?_
    refine ev_b (pc' := 14) (pt_44_13 w) rfl ?_
    refine ev_il (pc' := 15) (pt_44_14 w) rfl rfl ?_
    refine ev_b (pc' := 16) (pt_44_15 w) rfl ?_
    refine ev_is (pc' := 18) (loc1 := [some (.ref 1), some (.int x1), some (.int x2), some (.int x3), some (.int x4), some (.int ((x4 * (iN 120)) + x1)), o6]) (pt_44_16 w) rfl rfl ?_
    refine ev_il (pc' := 19) (pt_44_18 w) rfl rfl ?_
    refine ev_il (pc' := 21) (pt_44_19 w) rfl rfl ?_
    refine ev_b (pc' := 22) (pt_44_21 w) rfl ?_
    refine ev_k (pc' := 23) (pt_44_22 w) rfl ?_
    refine ev_b (pc' := 24) (pt_44_23 w) rfl ?_
    have j1 : ∀ v1 : Int32, v1 = (if ((x2 >>> (x4 &&& 31)) &&& 1) = 0 then 0 else 1 : Int32) → gE w 44 32 [some (.ref 1), some (.int x1), some (.int x2), some (.int x3), some (.int x4), some (.int ((x4 * (iN 120)) + x1)), o6] [.int v1] M post := by
      intro v1 e2
      subst v1
      refine ev_is (pc' := 34) (loc1 := [some (.ref 1), some (.int x1), some (.int x2), some (.int x3), some (.int x4), some (.int ((x4 * (iN 120)) + x1)), some (.int (if ((x2 >>> (x4 &&& 31)) &&& 1) = 0 then 0 else 1 : Int32))]) (pt_44_32 w) rfl rfl ?_
      refine ev_il (pc' := 36) (pt_44_34 w) rfl rfl ?_
      refine ev_zeq (pc' := 39) (pt_44_36 w) rfl (fun c2 => ?_) (fun c2 => ?_)
      · refine ev_inc (pc' := 68) (loc1 := [some (.ref 1), some (.int x1), some (.int x2), some (.int x3), some (.int (x4 + 1)), some (.int ((x4 * (iN 120)) + x1)), some (.int (if ((x2 >>> (x4 &&& 31)) &&& 1) = 0 then 0 else 1 : Int32))]) (pt_44_65 w) rfl rfl rfl ?_
        refine ev_g (pt_44_68 w) ?_
        exact (h2 c1 c2)
      · refine ev_al (pc' := 40) (pt_44_39 w) rfl rfl ?_
        refine ev_getr (pc' := 43) (pt_44_40 w) rfl rfl rfl ?_
        refine ev_getr (pc' := 46) (pt_44_43 w) rfl rfl rfl ?_
        refine ev_il (pc' := 48) (pt_44_46 w) rfl rfl ?_
        refine ev_ia (pc' := 49) (pt_44_48 w) rfl rfl (b3 c1 c2) ?_
        refine ev_k (pc' := 50) (pt_44_49 w) rfl ?_
        refine ev_cne (pc' := 53) (pt_44_50 w) rfl (fun c3 => ?_) (fun c3 => ?_)
        · refine ev_k (pc' := 64) (pt_44_63 w) rfl ?_
          exact ev_rz (pt_44_64 w) z1_0 (h4 c1 c2 c3)
        · refine ev_al (pc' := 54) (pt_44_53 w) rfl rfl ?_
          refine ev_il (pc' := 56) (pt_44_54 w) rfl rfl ?_
          refine ev_il (pc' := 57) (pt_44_56 w) rfl rfl ?_
          refine ev_cal1 (pc' := 60) (pt_44_57 w) (vs := [.ref 1, .int ((x4 * (iN 120)) + x1), .int x3]) (rest := []) (en := [some (.ref 1), some (.int ((x4 * (iN 120)) + x1)), some (.int x3), none, none, none, none, none]) rfl rfl rfl rfl rfl rfl rfl (k5 c1 c2 c3) ?_
          refine ev_zne (pc' := 63) (pt_44_60 w) rfl (fun c4 => ?_) (fun c4 => ?_)
          · refine ev_inc (pc' := 68) (loc1 := [some (.ref 1), some (.int x1), some (.int x2), some (.int x3), some (.int (x4 + 1)), some (.int ((x4 * (iN 120)) + x1)), some (.int (if ((x2 >>> (x4 &&& 31)) &&& 1) = 0 then 0 else 1 : Int32))]) (pt_44_65 w) rfl rfl rfl ?_
            refine ev_g (pt_44_68 w) ?_
            exact (h6 c1 c2 c3 c4)
          · refine ev_k (pc' := 64) (pt_44_63 w) rfl ?_
            exact ev_rz (pt_44_64 w) z1_0 (h7 c1 c2 c3 c4)
    refine ev_zeq (pc' := 27) (pt_44_24 w) rfl (fun c5 => ?_) (fun c5 => ?_)
    · refine ev_k (pc' := 32) (pt_44_31 w) rfl ?_
      exact j1 _ (if_pos c5).symm
    · refine ev_k (pc' := 28) (pt_44_27 w) rfl ?_
      refine ev_g (pt_44_28 w) ?_
      exact j1 _ (if_neg c5).symm

-- BoardDesk$Board.addPads(III)V
theorem wk_45_0 {w : qS} {M : qM} {x1 x2 x3 : Int32} {post : qR}
    (b1 : vp_in x1 16)
    (h2 : gE w 47 0 [some (.ref 1), some (.int x1), some (.int x1), none] [] (ms (ms M 6 x1.toNatClampNeg x2) 7 x1.toNatClampNeg x3) (fun r M' => gE w 45 26 [some (.ref 1), some (.int x1), some (.int x2), some (.int x3)] (r.toList ++ []) M' post)) :
    gE w 45 0 [some (.ref 1), some (.int x1), some (.int x2), some (.int x3)] [] M post := by
  refine ev_al (pc' := 1) (pt_45_0 w) rfl rfl ?_
  refine ev_getr (pc' := 4) (pt_45_1 w) rfl rfl rfl ?_
  refine ev_getr (pc' := 7) (pt_45_4 w) rfl rfl rfl ?_
  refine ev_il (pc' := 8) (pt_45_7 w) rfl rfl ?_
  refine ev_il (pc' := 9) (pt_45_8 w) rfl rfl ?_
  refine ev_ias (pc' := 10) (pt_45_9 w) rfl rfl b1 ?_
  refine ev_al (pc' := 11) (pt_45_10 w) rfl rfl ?_
  refine ev_getr (pc' := 14) (pt_45_11 w) rfl rfl rfl ?_
  refine ev_getr (pc' := 17) (pt_45_14 w) rfl rfl rfl ?_
  refine ev_il (pc' := 18) (pt_45_17 w) rfl rfl ?_
  refine ev_il (pc' := 19) (pt_45_18 w) rfl rfl ?_
  refine ev_ias (pc' := 20) (pt_45_19 w) rfl rfl b1 ?_
  refine ev_al (pc' := 21) (pt_45_20 w) rfl rfl ?_
  refine ev_il (pc' := 22) (pt_45_21 w) rfl rfl ?_
  refine ev_il (pc' := 23) (pt_45_22 w) rfl rfl ?_
  exact ev_cal (pc' := 26) (pt_45_23 w) (vs := [.ref 1, .int x1, .int x1]) (rest := []) (en := [some (.ref 1), some (.int x1), some (.int x1), none]) rfl rfl rfl rfl rfl rfl rfl h2

theorem wk_45_26 {w : qS} {M : qM} {o0 o1 o2 o3 : Option Value} {post : qR}
    (h1 : post none M) :
    gE w 45 26 [o0, o1, o2, o3] [] M post := by
  exact ev_rv (pt_45_26 w) h1

-- BoardDesk$Board.dropPads(I)V
theorem wk_46_0 {w : qS} {M : qM} {x1 : Int32} {post : qR}
    (h1 : gE w 47 0 [some (.ref 1), some (.int x1), some (.int (-1)), none] [] M (fun r M' => gE w 46 6 [some (.ref 1), some (.int x1)] (r.toList ++ []) M' post)) :
    gE w 46 0 [some (.ref 1), some (.int x1)] [] M post := by
  refine ev_al (pc' := 1) (pt_46_0 w) rfl rfl ?_
  refine ev_il (pc' := 2) (pt_46_1 w) rfl rfl ?_
  refine ev_k (pc' := 3) (pt_46_2 w) rfl ?_
  exact ev_cal (pc' := 6) (pt_46_3 w) (vs := [.ref 1, .int x1, .int (-1)]) (rest := []) (en := [some (.ref 1), some (.int x1), some (.int (-1)), none]) rfl rfl rfl rfl rfl rfl rfl h1

theorem wk_46_6 {w : qS} {M : qM} {x1 : Int32} {post : qR}
    (b1 : vp_in x1 16)
    (h2 : post none (ms (ms M 6 x1.toNatClampNeg 0) 7 x1.toNatClampNeg 0)) :
    gE w 46 6 [some (.ref 1), some (.int x1)] [] M post := by
  refine ev_al (pc' := 7) (pt_46_6 w) rfl rfl ?_
  refine ev_getr (pc' := 10) (pt_46_7 w) rfl rfl rfl ?_
  refine ev_getr (pc' := 13) (pt_46_10 w) rfl rfl rfl ?_
  refine ev_il (pc' := 14) (pt_46_13 w) rfl rfl ?_
  refine ev_k (pc' := 15) (pt_46_14 w) rfl ?_
  refine ev_ias (pc' := 16) (pt_46_15 w) rfl rfl b1 ?_
  refine ev_al (pc' := 17) (pt_46_16 w) rfl rfl ?_
  refine ev_getr (pc' := 20) (pt_46_17 w) rfl rfl rfl ?_
  refine ev_getr (pc' := 23) (pt_46_20 w) rfl rfl rfl ?_
  refine ev_il (pc' := 24) (pt_46_23 w) rfl rfl ?_
  refine ev_k (pc' := 25) (pt_46_24 w) rfl ?_
  refine ev_ias (pc' := 26) (pt_46_25 w) rfl rfl b1 ?_
  exact ev_rv (pt_46_26 w) h2

-- BoardDesk$Board.holdPads(II)V
theorem wk_47_0 {w : qS} {M : qM} {x1 x2 : Int32} {post : qR}
    (h1 : gE w 47 2 [some (.ref 1), some (.int x1), some (.int x2), some (.int 0)] [] M post) :
    gE w 47 0 [some (.ref 1), some (.int x1), some (.int x2), none] [] M post := by
  refine ev_k (pc' := 1) (pt_47_0 w) rfl ?_
  refine ev_is (pc' := 2) (loc1 := [some (.ref 1), some (.int x1), some (.int x2), some (.int 0)]) (pt_47_1 w) rfl rfl ?_
  exact h1

theorem wk_47_2 {w : qS} {M : qM} {x1 x2 x3 : Int32} {post : qR}
    (h1 : (c1 : ¬ x3 < (iN 2)) → post none M)
    (b2 : (c1 : x3 < (iN 2)) → vp_in x1 16)
    (h3 : (c1 : x3 < (iN 2)) → (c2 : (((M 7 x1.toNatClampNeg) >>> (x3 &&& 31)) &&& 1) = 0) → gE w 47 2 [some (.ref 1), some (.int x1), some (.int x2), some (.int (x3 + 1))] [] M post)
    (b4 : (c1 : x3 < (iN 2)) → (c2 : ¬ (((M 7 x1.toNatClampNeg) >>> (x3 &&& 31)) &&& 1) = 0) → vp_in ((x3 * (iN 120)) + (M 6 x1.toNatClampNeg)) 240)
    (h5 : (c1 : x3 < (iN 2)) → (c2 : ¬ (((M 7 x1.toNatClampNeg) >>> (x3 &&& 31)) &&& 1) = 0) → gE w 47 2 [some (.ref 1), some (.int x1), some (.int x2), some (.int (x3 + 1))] [] (ms M 8 ((x3 * (iN 120)) + (M 6 x1.toNatClampNeg)).toNatClampNeg x2) post) :
    gE w 47 2 [some (.ref 1), some (.int x1), some (.int x2), some (.int x3)] [] M post := by
  refine ev_il (pc' := 3) (pt_47_2 w) rfl rfl ?_
  refine ev_k (pc' := 4) (pt_47_3 w) rfl ?_
  refine ev_cge (pc' := 7) (pt_47_4 w) rfl (fun c1 => ?_) (fun c1 => ?_)
  · exact ev_rv (pt_47_52 w) (h1 c1)
  · refine ev_al (pc' := 8) (pt_47_7 w) rfl rfl ?_
    refine ev_getr (pc' := 11) (pt_47_8 w) rfl rfl rfl ?_
    refine ev_getr (pc' := 14) (pt_47_11 w) rfl rfl rfl ?_
    refine ev_il (pc' := 15) (pt_47_14 w) rfl rfl ?_
    refine ev_ia (pc' := 16) (pt_47_15 w) rfl rfl (b2 c1) ?_
    refine ev_il (pc' := 17) (pt_47_16 w) rfl rfl ?_
    refine ev_b (pc' := 18) (pt_47_17 w) rfl ?_
    refine ev_k (pc' := 19) (pt_47_18 w) rfl ?_
    refine ev_b (pc' := 20) (pt_47_19 w) rfl ?_
    refine ev_zeq (pc' := 23) (pt_47_20 w) rfl (fun c2 => ?_) (fun c2 => ?_)
    · refine ev_inc (pc' := 49) (loc1 := [some (.ref 1), some (.int x1), some (.int x2), some (.int (x3 + 1))]) (pt_47_46 w) rfl rfl rfl ?_
      refine ev_g (pt_47_49 w) ?_
      exact (h3 c1 c2)
    · refine ev_al (pc' := 24) (pt_47_23 w) rfl rfl ?_
      refine ev_getr (pc' := 27) (pt_47_24 w) rfl rfl rfl ?_
      refine ev_getr (pc' := 30) (pt_47_27 w) rfl rfl rfl ?_
      refine ev_il (pc' := 31) (pt_47_30 w) rfl rfl ?_
      refine ev_k (pc' := 33) (pt_47_31 w) rfl ?_
      refine ev_b (pc' := 34) (pt_47_33 w) rfl ?_
      refine ev_al (pc' := 35) (pt_47_34 w) rfl rfl ?_
      refine ev_getr (pc' := 38) (pt_47_35 w) rfl rfl rfl ?_
      refine ev_getr (pc' := 41) (pt_47_38 w) rfl rfl rfl ?_
      refine ev_il (pc' := 42) (pt_47_41 w) rfl rfl ?_
      refine ev_ia (pc' := 43) (pt_47_42 w) rfl rfl (b2 c1) ?_
      refine ev_b (pc' := 44) (pt_47_43 w) rfl ?_
      refine ev_il (pc' := 45) (pt_47_44 w) rfl rfl ?_
      refine ev_ias (pc' := 46) (pt_47_45 w) rfl rfl (b4 c1 c2) ?_
      refine ev_inc (pc' := 49) (loc1 := [some (.ref 1), some (.int x1), some (.int x2), some (.int (x3 + 1))]) (pt_47_46 w) rfl rfl rfl ?_
      refine ev_g (pt_47_49 w) ?_
      exact (h5 c1 c2)

-- BoardDesk$Board.takesTrack(IIII)Z
theorem wk_48_0 {w : qS} {M : qM} {x1 x2 x3 x4 : Int32} {post : qR}
    (h1 : gE w 48 6 [some (.ref 1), some (.int x1), some (.int x2), some (.int x3), some (.int x4), some (.int x2), some (.int 0)] [] M post) :
    gE w 48 0 [some (.ref 1), some (.int x1), some (.int x2), some (.int x3), some (.int x4), none, none] [] M post := by
  refine ev_il (pc' := 1) (pt_48_0 w) rfl rfl ?_
  refine ev_is (pc' := 3) (loc1 := [some (.ref 1), some (.int x1), some (.int x2), some (.int x3), some (.int x4), some (.int x2), none]) (pt_48_1 w) rfl rfl ?_
  refine ev_k (pc' := 4) (pt_48_3 w) rfl ?_
  refine ev_is (pc' := 6) (loc1 := [some (.ref 1), some (.int x1), some (.int x2), some (.int x3), some (.int x4), some (.int x2), some (.int 0)]) (pt_48_4 w) rfl rfl ?_
  exact h1

theorem wk_48_6 {w : qS} {M : qM} {x1 x3 x4 x5 x6 : Int32} {o2 : Option Value} {r1 : Int32} {r2 : Int32} {post : qR}
    (h1 : (c1 : x4 < x6) → post (some (.int 1)) M)
    (h2 : (c1 : ¬ x4 < x6) → (c2 : x5 = (-1)) → post (some (.int 0)) M)
    (k3 : (c1 : ¬ x4 < x6) → (c2 : ¬ x5 = (-1)) → gE w 36 0 [some (.ref 1), some (.int x5), some (.int x1), none, none, none, none, none] [] M (qv1 M r1))
    (k4 : (c1 : ¬ x4 < x6) → (c2 : ¬ x5 = (-1)) → (c3 : ¬ r1 = 0) → gE w 28 0 [some (.int x5), some (.int x3)] [] M (qv1 M r2))
    (h5 : (c1 : ¬ x4 < x6) → (c2 : ¬ x5 = (-1)) → (c3 : ¬ r1 = 0) → gE w 48 6 [some (.ref 1), some (.int x1), o2, some (.int x3), some (.int x4), some (.int r2), some (.int (x6 + 1))] [] M post)
    (h6 : (c1 : ¬ x4 < x6) → (c2 : ¬ x5 = (-1)) → (c3 : r1 = 0) → post (some (.int 0)) M) :
    gE w 48 6 [some (.ref 1), some (.int x1), o2, some (.int x3), some (.int x4), some (.int x5), some (.int x6)] [] M post := by
  refine ev_il (pc' := 8) (pt_48_6 w) rfl rfl ?_
  refine ev_il (pc' := 10) (pt_48_8 w) rfl rfl ?_
  refine ev_cgt (pc' := 13) (pt_48_10 w) rfl (fun c1 => ?_) (fun c1 => ?_)
  · refine ev_k (pc' := 46) (pt_48_45 w) rfl ?_
    exact ev_rz (pt_48_46 w) z1_1 (h1 c1)
  · refine ev_il (pc' := 15) (pt_48_13 w) rfl rfl ?_
    refine ev_k (pc' := 16) (pt_48_15 w) rfl ?_
    refine ev_ceq (pc' := 19) (pt_48_16 w) rfl (fun c2 => ?_) (fun c2 => ?_)
    · refine ev_k (pc' := 30) (pt_48_29 w) rfl ?_
      exact ev_rz (pt_48_30 w) z1_0 (h2 c1 c2)
    · refine ev_al (pc' := 20) (pt_48_19 w) rfl rfl ?_
      refine ev_il (pc' := 22) (pt_48_20 w) rfl rfl ?_
      refine ev_il (pc' := 23) (pt_48_22 w) rfl rfl ?_
      refine ev_cal1 (pc' := 26) (pt_48_23 w) (vs := [.ref 1, .int x5, .int x1]) (rest := []) (en := [some (.ref 1), some (.int x5), some (.int x1), none, none, none, none, none]) rfl rfl rfl rfl rfl rfl rfl (k3 c1 c2) ?_
      refine ev_zne (pc' := 29) (pt_48_26 w) rfl (fun c3 => ?_) (fun c3 => ?_)
      · refine ev_il (pc' := 33) (pt_48_31 w) rfl rfl ?_
        refine ev_il (pc' := 34) (pt_48_33 w) rfl rfl ?_
        refine ev_cal1 (pc' := 37) (pt_48_34 w) (vs := [.int x5, .int x3]) (rest := []) (en := [some (.int x5), some (.int x3)]) rfl rfl rfl rfl trivial rfl rfl (k4 c1 c2 c3) ?_
        refine ev_is (pc' := 39) (loc1 := [some (.ref 1), some (.int x1), o2, some (.int x3), some (.int x4), some (.int r2), some (.int x6)]) (pt_48_37 w) rfl rfl ?_
        refine ev_inc (pc' := 42) (loc1 := [some (.ref 1), some (.int x1), o2, some (.int x3), some (.int x4), some (.int r2), some (.int (x6 + 1))]) (pt_48_39 w) rfl rfl rfl ?_
        refine ev_g (pt_48_42 w) ?_
        exact (h5 c1 c2 c3)
      · refine ev_k (pc' := 30) (pt_48_29 w) rfl ?_
        exact ev_rz (pt_48_30 w) z1_0 (h6 c1 c2 c3)

-- BoardDesk$Board.layTrack(IIII)I
theorem wk_49_0 {w : qS} {M : qM} {x1 x2 x3 x4 : Int32} {post : qR}
    (h1 : gE w 49 9 [some (.ref 1), some (.int x1), some (.int x2), some (.int x3), some (.int x4), some (.int 0), some (.int x2), some (.int 0)] [] M post) :
    gE w 49 0 [some (.ref 1), some (.int x1), some (.int x2), some (.int x3), some (.int x4), none, none, none] [] M post := by
  refine ev_k (pc' := 1) (pt_49_0 w) rfl ?_
  refine ev_is (pc' := 3) (loc1 := [some (.ref 1), some (.int x1), some (.int x2), some (.int x3), some (.int x4), some (.int 0), none, none]) (pt_49_1 w) rfl rfl ?_
  refine ev_il (pc' := 4) (pt_49_3 w) rfl rfl ?_
  refine ev_is (pc' := 6) (loc1 := [some (.ref 1), some (.int x1), some (.int x2), some (.int x3), some (.int x4), some (.int 0), some (.int x2), none]) (pt_49_4 w) rfl rfl ?_
  refine ev_k (pc' := 7) (pt_49_6 w) rfl ?_
  refine ev_is (pc' := 9) (loc1 := [some (.ref 1), some (.int x1), some (.int x2), some (.int x3), some (.int x4), some (.int 0), some (.int x2), some (.int 0)]) (pt_49_7 w) rfl rfl ?_
  exact h1

theorem wk_49_9 {w : qS} {M : qM} {x1 x3 x4 x5 x6 x7 : Int32} {o2 : Option Value} {post : qR}
    (h1 : (c1 : x4 < x7) → post (some (.int x5)) M)
    (h2 : (c1 : ¬ x4 < x7) → (c2 : x6 = (-1)) → post (some (.int x5)) M)
    (b3 : (c1 : ¬ x4 < x7) → (c2 : ¬ x6 = (-1)) → vp_in x6 240)
    (h4 : (c1 : ¬ x4 < x7) → (c2 : ¬ x6 = (-1)) → gE w 50 0 [some (.ref 1), some (.int x6), some (.int x1)] [] M (fun r M' => gE w 49 46 [some (.ref 1), some (.int x1), o2, some (.int x3), some (.int x4), some (.int (if (M 8 x6.toNatClampNeg) = (-1) then (x5 + 1) else x5 : Int32)), some (.int x6), some (.int x7)] (r.toList ++ []) M' post)) :
    gE w 49 9 [some (.ref 1), some (.int x1), o2, some (.int x3), some (.int x4), some (.int x5), some (.int x6), some (.int x7)] [] M post := by
  refine ev_il (pc' := 11) (pt_49_9 w) rfl rfl ?_
  refine ev_il (pc' := 13) (pt_49_11 w) rfl rfl ?_
  refine ev_cgt (pc' := 16) (pt_49_13 w) rfl (fun c1 => ?_) (fun c1 => ?_)
  · refine ev_il (pc' := 62) (pt_49_60 w) rfl rfl ?_
    exact ev_ri1 (pt_49_62 w) (h1 c1)
  · refine ev_il (pc' := 18) (pt_49_16 w) rfl rfl ?_
    refine ev_k (pc' := 19) (pt_49_18 w) rfl ?_
    refine ev_ceq (pc' := 22) (pt_49_19 w) rfl (fun c2 => ?_) (fun c2 => ?_)
    · refine ev_il (pc' := 62) (pt_49_60 w) rfl rfl ?_
      exact ev_ri1 (pt_49_62 w) (h2 c1 c2)
    · refine ev_al (pc' := 23) (pt_49_22 w) rfl rfl ?_
      refine ev_getr (pc' := 26) (pt_49_23 w) rfl rfl rfl ?_
      refine ev_getr (pc' := 29) (pt_49_26 w) rfl rfl rfl ?_
      refine ev_il (pc' := 31) (pt_49_29 w) rfl rfl ?_
      refine ev_ia (pc' := 32) (pt_49_31 w) rfl rfl (b3 c1 c2) ?_
      refine ev_k (pc' := 33) (pt_49_32 w) rfl ?_
      have j1 : ∀ v1 : Int32, v1 = (if (M 8 x6.toNatClampNeg) = (-1) then (x5 + 1) else x5 : Int32) → gE w 49 39 [some (.ref 1), some (.int x1), o2, some (.int x3), some (.int x4), some (.int v1), some (.int x6), some (.int x7)] [] M post := by
        intro v1 e2
        subst v1
        refine ev_al (pc' := 40) (pt_49_39 w) rfl rfl ?_
        refine ev_il (pc' := 42) (pt_49_40 w) rfl rfl ?_
        refine ev_il (pc' := 43) (pt_49_42 w) rfl rfl ?_
        exact ev_cal (pc' := 46) (pt_49_43 w) (vs := [.ref 1, .int x6, .int x1]) (rest := []) (en := [some (.ref 1), some (.int x6), some (.int x1)]) rfl rfl rfl rfl rfl rfl rfl (h4 c1 c2)
      refine ev_cne (pc' := 36) (pt_49_33 w) rfl (fun c3 => ?_) (fun c3 => ?_)
      · exact j1 _ (if_neg c3).symm
      · refine ev_inc (pc' := 39) (loc1 := [some (.ref 1), some (.int x1), o2, some (.int x3), some (.int x4), some (.int (x5 + 1)), some (.int x6), some (.int x7)]) (pt_49_36 w) rfl rfl rfl ?_
        exact j1 _ (if_pos c3).symm

theorem wk_49_46 {w : qS} {M : qM} {x1 x3 x4 x5 x6 x7 : Int32} {o2 : Option Value} {r1 : Int32} {post : qR}
    (k1 : gE w 28 0 [some (.int x6), some (.int x3)] [] M (qv1 M r1))
    (h2 : gE w 49 9 [some (.ref 1), some (.int x1), o2, some (.int x3), some (.int x4), some (.int x5), some (.int r1), some (.int (x7 + 1))] [] M post) :
    gE w 49 46 [some (.ref 1), some (.int x1), o2, some (.int x3), some (.int x4), some (.int x5), some (.int x6), some (.int x7)] [] M post := by
  refine ev_il (pc' := 48) (pt_49_46 w) rfl rfl ?_
  refine ev_il (pc' := 49) (pt_49_48 w) rfl rfl ?_
  refine ev_cal1 (pc' := 52) (pt_49_49 w) (vs := [.int x6, .int x3]) (rest := []) (en := [some (.int x6), some (.int x3)]) rfl rfl rfl rfl trivial rfl rfl k1 ?_
  refine ev_is (pc' := 54) (loc1 := [some (.ref 1), some (.int x1), o2, some (.int x3), some (.int x4), some (.int x5), some (.int r1), some (.int x7)]) (pt_49_52 w) rfl rfl ?_
  refine ev_inc (pc' := 57) (loc1 := [some (.ref 1), some (.int x1), o2, some (.int x3), some (.int x4), some (.int x5), some (.int r1), some (.int (x7 + 1))]) (pt_49_54 w) rfl rfl rfl ?_
  refine ev_g (pt_49_57 w) ?_
  exact h2

-- BoardDesk$Board.layCopper(II)V
theorem wk_50_0 {w : qS} {M : qM} {x1 x2 : Int32} {r1 : Int32} {post : qR}
    (b1 : vp_in x1 240)
    (h2 : (c1 : (M 8 x1.toNatClampNeg) = (-1)) → post none (ms M 8 x1.toNatClampNeg x2))
    (k3 : (c1 : ¬ (M 8 x1.toNatClampNeg) = (-1)) → gE w 34 0 [some (.ref 1), some (.int x1), none] [] M (qv1 M r1))
    (h4 : (c1 : ¬ (M 8 x1.toNatClampNeg) = (-1)) → (c2 : r1 = 0) → post none M)
    (h5 : (c1 : ¬ (M 8 x1.toNatClampNeg) = (-1)) → (c2 : ¬ r1 = 0) → post none (ms M 8 x1.toNatClampNeg x2)) :
    gE w 50 0 [some (.ref 1), some (.int x1), some (.int x2)] [] M post := by
  refine ev_al (pc' := 1) (pt_50_0 w) rfl rfl ?_
  refine ev_getr (pc' := 4) (pt_50_1 w) rfl rfl rfl ?_
  refine ev_getr (pc' := 7) (pt_50_4 w) rfl rfl rfl ?_
  refine ev_il (pc' := 8) (pt_50_7 w) rfl rfl ?_
  refine ev_ia (pc' := 9) (pt_50_8 w) rfl rfl b1 ?_
  refine ev_k (pc' := 10) (pt_50_9 w) rfl ?_
  refine ev_ceq (pc' := 13) (pt_50_10 w) rfl (fun c1 => ?_) (fun c1 => ?_)
  · refine ev_al (pc' := 22) (pt_50_21 w) rfl rfl ?_
    refine ev_getr (pc' := 25) (pt_50_22 w) rfl rfl rfl ?_
    refine ev_getr (pc' := 28) (pt_50_25 w) rfl rfl rfl ?_
    refine ev_il (pc' := 29) (pt_50_28 w) rfl rfl ?_
    refine ev_il (pc' := 30) (pt_50_29 w) rfl rfl ?_
    refine ev_ias (pc' := 31) (pt_50_30 w) rfl rfl b1 ?_
    exact ev_rv (pt_50_31 w) (h2 c1)
  · refine ev_al (pc' := 14) (pt_50_13 w) rfl rfl ?_
    refine ev_il (pc' := 15) (pt_50_14 w) rfl rfl ?_
    refine ev_cal1 (pc' := 18) (pt_50_15 w) (vs := [.ref 1, .int x1]) (rest := []) (en := [some (.ref 1), some (.int x1), none]) rfl rfl rfl rfl rfl rfl rfl (k3 c1) ?_
    refine ev_zeq (pc' := 21) (pt_50_18 w) rfl (fun c2 => ?_) (fun c2 => ?_)
    · exact ev_rv (pt_50_31 w) (h4 c1 c2)
    · refine ev_al (pc' := 22) (pt_50_21 w) rfl rfl ?_
      refine ev_getr (pc' := 25) (pt_50_22 w) rfl rfl rfl ?_
      refine ev_getr (pc' := 28) (pt_50_25 w) rfl rfl rfl ?_
      refine ev_il (pc' := 29) (pt_50_28 w) rfl rfl ?_
      refine ev_il (pc' := 30) (pt_50_29 w) rfl rfl ?_
      refine ev_ias (pc' := 31) (pt_50_30 w) rfl rfl b1 ?_
      exact ev_rv (pt_50_31 w) (h5 c1 c2)

-- BoardDesk$Board.dropCopper(I)I
theorem wk_51_0 {w : qS} {M : qM} {x1 : Int32} {post : qR}
    (h1 : gE w 51 4 [some (.ref 1), some (.int x1), some (.int 0), some (.int 0)] [] M post) :
    gE w 51 0 [some (.ref 1), some (.int x1), none, none] [] M post := by
  refine ev_k (pc' := 1) (pt_51_0 w) rfl ?_
  refine ev_is (pc' := 2) (loc1 := [some (.ref 1), some (.int x1), some (.int 0), none]) (pt_51_1 w) rfl rfl ?_
  refine ev_k (pc' := 3) (pt_51_2 w) rfl ?_
  refine ev_is (pc' := 4) (loc1 := [some (.ref 1), some (.int x1), some (.int 0), some (.int 0)]) (pt_51_3 w) rfl rfl ?_
  exact h1

theorem wk_51_4 {w : qS} {M : qM} {x1 x2 x3 : Int32} {r1 : Int32} {r2 : Int32} {post : qR}
    (h1 : (c1 : ¬ x3 < (iN 240)) → post (some (.int x2)) M)
    (k2 : (c1 : x3 < (iN 240)) → gE w 34 0 [some (.ref 1), some (.int x3), none] [] M (qv1 M r1))
    (h3 : (c1 : x3 < (iN 240)) → (c2 : r1 = 0) → gE w 51 4 [some (.ref 1), some (.int x1), some (.int x2), some (.int (x3 + 1))] [] M post)
    (k4 : (c1 : x3 < (iN 240)) → (c2 : ¬ r1 = 0) → gE w 32 0 [some (.ref 1), some (.int x3), none] [] M (qv1 M r2))
    (h5 : (c1 : x3 < (iN 240)) → (c2 : ¬ r1 = 0) → (c3 : ¬ r2 = x1) → gE w 51 4 [some (.ref 1), some (.int x1), some (.int x2), some (.int (x3 + 1))] [] M post)
    (b6 : (c1 : x3 < (iN 240)) → (c2 : ¬ r1 = 0) → (c3 : r2 = x1) → vp_in x3 240)
    (h7 : (c1 : x3 < (iN 240)) → (c2 : ¬ r1 = 0) → (c3 : r2 = x1) → gE w 51 4 [some (.ref 1), some (.int x1), some (.int (x2 + 1)), some (.int (x3 + 1))] [] (ms M 8 x3.toNatClampNeg (-1)) post) :
    gE w 51 4 [some (.ref 1), some (.int x1), some (.int x2), some (.int x3)] [] M post := by
  refine ev_il (pc' := 5) (pt_51_4 w) rfl rfl ?_
  refine ev_k (pc' := 8) (pt_51_5 w) rfl ?_
  refine ev_cge (pc' := 11) (pt_51_8 w) rfl (fun c1 => ?_) (fun c1 => ?_)
  · refine ev_il (pc' := 48) (pt_51_47 w) rfl rfl ?_
    exact ev_ri1 (pt_51_48 w) (h1 c1)
  · refine ev_al (pc' := 12) (pt_51_11 w) rfl rfl ?_
    refine ev_il (pc' := 13) (pt_51_12 w) rfl rfl ?_
    refine ev_cal1 (pc' := 16) (pt_51_13 w) (vs := [.ref 1, .int x3]) (rest := []) (en := [some (.ref 1), some (.int x3), none]) rfl rfl rfl rfl rfl rfl rfl (k2 c1) ?_
    refine ev_zeq (pc' := 19) (pt_51_16 w) rfl (fun c2 => ?_) (fun c2 => ?_)
    · refine ev_inc (pc' := 44) (loc1 := [some (.ref 1), some (.int x1), some (.int x2), some (.int (x3 + 1))]) (pt_51_41 w) rfl rfl rfl ?_
      refine ev_g (pt_51_44 w) ?_
      exact (h3 c1 c2)
    · refine ev_al (pc' := 20) (pt_51_19 w) rfl rfl ?_
      refine ev_il (pc' := 21) (pt_51_20 w) rfl rfl ?_
      refine ev_cal1 (pc' := 24) (pt_51_21 w) (vs := [.ref 1, .int x3]) (rest := []) (en := [some (.ref 1), some (.int x3), none]) rfl rfl rfl rfl rfl rfl rfl (k4 c1 c2) ?_
      refine ev_il (pc' := 25) (pt_51_24 w) rfl rfl ?_
      refine ev_cne (pc' := 28) (pt_51_25 w) rfl (fun c3 => ?_) (fun c3 => ?_)
      · refine ev_inc (pc' := 44) (loc1 := [some (.ref 1), some (.int x1), some (.int x2), some (.int (x3 + 1))]) (pt_51_41 w) rfl rfl rfl ?_
        refine ev_g (pt_51_44 w) ?_
        exact (h5 c1 c2 c3)
      · refine ev_al (pc' := 29) (pt_51_28 w) rfl rfl ?_
        refine ev_getr (pc' := 32) (pt_51_29 w) rfl rfl rfl ?_
        refine ev_getr (pc' := 35) (pt_51_32 w) rfl rfl rfl ?_
        refine ev_il (pc' := 36) (pt_51_35 w) rfl rfl ?_
        refine ev_k (pc' := 37) (pt_51_36 w) rfl ?_
        refine ev_ias (pc' := 38) (pt_51_37 w) rfl rfl (b6 c1 c2 c3) ?_
        refine ev_inc (pc' := 41) (loc1 := [some (.ref 1), some (.int x1), some (.int (x2 + 1)), some (.int x3)]) (pt_51_38 w) rfl rfl rfl ?_
        refine ev_inc (pc' := 44) (loc1 := [some (.ref 1), some (.int x1), some (.int (x2 + 1)), some (.int (x3 + 1))]) (pt_51_41 w) rfl rfl rfl ?_
        refine ev_g (pt_51_44 w) ?_
        exact (h7 c1 c2 c3)

-- BoardDesk$Board.spanOf(I)I
theorem wk_52_0 {w : qS} {M : qM} {x1 : Int32} {post : qR}
    (h1 : gE w 52 18 [some (.ref 1), some (.int x1), some (.int 0), some (.int (iN 12)), some (.int 0), some (.int (iN 10)), some (.int 0), some (.int 0)] [] M post) :
    gE w 52 0 [some (.ref 1), some (.int x1), none, none, none, none, none, none] [] M post := by
  refine ev_k (pc' := 1) (pt_52_0 w) rfl ?_
  refine ev_is (pc' := 2) (loc1 := [some (.ref 1), some (.int x1), some (.int 0), none, none, none, none, none]) (pt_52_1 w) rfl rfl ?_
  refine ev_k (pc' := 4) (pt_52_2 w) rfl ?_
  refine ev_is (pc' := 5) (loc1 := [some (.ref 1), some (.int x1), some (.int 0), some (.int (iN 12)), none, none, none, none]) (pt_52_4 w) rfl rfl ?_
  refine ev_k (pc' := 6) (pt_52_5 w) rfl ?_
  refine ev_is (pc' := 8) (loc1 := [some (.ref 1), some (.int x1), some (.int 0), some (.int (iN 12)), some (.int 0), none, none, none]) (pt_52_6 w) rfl rfl ?_
  refine ev_k (pc' := 10) (pt_52_8 w) rfl ?_
  refine ev_is (pc' := 12) (loc1 := [some (.ref 1), some (.int x1), some (.int 0), some (.int (iN 12)), some (.int 0), some (.int (iN 10)), none, none]) (pt_52_10 w) rfl rfl ?_
  refine ev_k (pc' := 13) (pt_52_12 w) rfl ?_
  refine ev_is (pc' := 15) (loc1 := [some (.ref 1), some (.int x1), some (.int 0), some (.int (iN 12)), some (.int 0), some (.int (iN 10)), some (.int 0), none]) (pt_52_13 w) rfl rfl ?_
  refine ev_k (pc' := 16) (pt_52_15 w) rfl ?_
  refine ev_is (pc' := 18) (loc1 := [some (.ref 1), some (.int x1), some (.int 0), some (.int (iN 12)), some (.int 0), some (.int (iN 10)), some (.int 0), some (.int 0)]) (pt_52_16 w) rfl rfl ?_
  exact h1

theorem wk_52_18 {w : qS} {M : qM} {x1 x2 x3 x4 x5 x6 x7 : Int32} {r1 : Int32} {r2 : Int32} {r3 : Int32} {post : qR}
    (h1 : (c1 : ¬ x7 < (M 2 6)) → post (some (.int (if x2 < (iN 2) then (-1) else (((x4 - x3) + x6) - x5) : Int32))) M)
    (b2 : (c1 : x7 < (M 2 6)) → vp_in x7 16)
    (h3 : (c1 : x7 < (M 2 6)) → gE w 52 18 [some (.ref 1), some (.int x1), some (.int (if (M 9 x7.toNatClampNeg) = x1 then (if r1 = 0 then x2 else (x2 + 1) : Int32) else x2 : Int32)), some (.int (if (M 9 x7.toNatClampNeg) = x1 then (if r1 = 0 then x3 else (if r2 < x3 then r2 else x3 : Int32) : Int32) else x3 : Int32)), some (.int (if (M 9 x7.toNatClampNeg) = x1 then (if r1 = 0 then x4 else (if x4 < r2 then r2 else x4 : Int32) : Int32) else x4 : Int32)), some (.int (if (M 9 x7.toNatClampNeg) = x1 then (if r1 = 0 then x5 else (if r3 < x5 then r3 else x5 : Int32) : Int32) else x5 : Int32)), some (.int (if (M 9 x7.toNatClampNeg) = x1 then (if r1 = 0 then x6 else (if x6 < r3 then r3 else x6 : Int32) : Int32) else x6 : Int32)), some (.int (x7 + 1))] [] M post)
    (k4 : (c1 : x7 < (M 2 6)) → (c3 : (M 9 x7.toNatClampNeg) = x1) → gE w 30 0 [some (.ref 1), some (.int x7)] [] M (qv1 M r1))
    (k5 : (c1 : x7 < (M 2 6)) → (c3 : (M 9 x7.toNatClampNeg) = x1) → (c4 : ¬ r1 = 0) → gE w 26 0 [some (.int (M 6 x7.toNatClampNeg))] [] M (qv1 M r2))
    (k6 : (c1 : x7 < (M 2 6)) → (c3 : (M 9 x7.toNatClampNeg) = x1) → (c4 : ¬ r1 = 0) → gE w 25 0 [some (.int (M 6 x7.toNatClampNeg))] [] M (qv1 M r3)) :
    gE w 52 18 [some (.ref 1), some (.int x1), some (.int x2), some (.int x3), some (.int x4), some (.int x5), some (.int x6), some (.int x7)] [] M post := by
  refine ev_il (pc' := 20) (pt_52_18 w) rfl rfl ?_
  refine ev_al (pc' := 21) (pt_52_20 w) rfl rfl ?_
  refine ev_getr (pc' := 24) (pt_52_21 w) rfl rfl rfl ?_
  refine ev_geti (pc' := 27) (pt_52_24 w) rfl rfl rfl ?_
  refine ev_cge (pc' := 30) (pt_52_27 w) rfl (fun c1 => ?_) (fun c1 => ?_)
  · refine ev_il (pc' := 141) (pt_52_140 w) rfl rfl ?_
    refine ev_k (pc' := 142) (pt_52_141 w) rfl ?_
    have j1 : ∀ v1 : Int32, v1 = (if x2 < (iN 2) then (-1) else (((x4 - x3) + x6) - x5) : Int32) → gE w 52 159 [some (.ref 1), some (.int x1), some (.int x2), some (.int x3), some (.int x4), some (.int x5), some (.int x6), some (.int x7)] [.int v1] M post := by
      intro v1 e2
      subst v1
      exact ev_ri1 (pt_52_159 w) (h1 c1)
    refine ev_cge (pc' := 145) (pt_52_142 w) rfl (fun c2 => ?_) (fun c2 => ?_)
    · refine ev_il (pc' := 151) (pt_52_149 w) rfl rfl ?_
      refine ev_il (pc' := 152) (pt_52_151 w) rfl rfl ?_
      refine ev_b (pc' := 153) (pt_52_152 w) rfl ?_
      refine ev_il (pc' := 155) (pt_52_153 w) rfl rfl ?_
      refine ev_b (pc' := 156) (pt_52_155 w) rfl ?_
      refine ev_il (pc' := 158) (pt_52_156 w) rfl rfl ?_
      refine ev_b (pc' := 159) (pt_52_158 w) rfl ?_
      exact j1 _ (if_neg c2).symm
    · refine ev_k (pc' := 146) (pt_52_145 w) rfl ?_
      refine ev_g (pt_52_146 w) ?_
      exact j1 _ (if_pos c2).symm
  · refine ev_al (pc' := 31) (pt_52_30 w) rfl rfl ?_
    refine ev_getr (pc' := 34) (pt_52_31 w) rfl rfl rfl ?_
    refine ev_il (pc' := 36) (pt_52_34 w) rfl rfl ?_
    refine ev_ia (pc' := 37) (pt_52_36 w) rfl rfl (b2 c1) ?_
    refine ev_il (pc' := 38) (pt_52_37 w) rfl rfl ?_
    have j2 : ∀ v3 : Int32, v3 = (if (M 9 x7.toNatClampNeg) = x1 then (if r1 = 0 then x2 else (x2 + 1) : Int32) else x2 : Int32) → ∀ v5 : Int32, v5 = (if (M 9 x7.toNatClampNeg) = x1 then (if r1 = 0 then x3 else (if r2 < x3 then r2 else x3 : Int32) : Int32) else x3 : Int32) → ∀ v7 : Int32, v7 = (if (M 9 x7.toNatClampNeg) = x1 then (if r1 = 0 then x4 else (if x4 < r2 then r2 else x4 : Int32) : Int32) else x4 : Int32) → ∀ v9 : Int32, v9 = (if (M 9 x7.toNatClampNeg) = x1 then (if r1 = 0 then x5 else (if r3 < x5 then r3 else x5 : Int32) : Int32) else x5 : Int32) → ∀ v11 : Int32, v11 = (if (M 9 x7.toNatClampNeg) = x1 then (if r1 = 0 then x6 else (if x6 < r3 then r3 else x6 : Int32) : Int32) else x6 : Int32) → gE w 52 134 [some (.ref 1), some (.int x1), some (.int v3), some (.int v5), some (.int v7), some (.int v9), some (.int v11), some (.int x7)] [] M post := by
      intro v3 e4 v5 e6 v7 e8 v9 e10 v11 e12
      subst v3
      subst v5
      subst v7
      subst v9
      subst v11
      refine ev_inc (pc' := 137) (loc1 := [some (.ref 1), some (.int x1), some (.int (if (M 9 x7.toNatClampNeg) = x1 then (if r1 = 0 then x2 else (x2 + 1) : Int32) else x2 : Int32)), some (.int (if (M 9 x7.toNatClampNeg) = x1 then (if r1 = 0 then x3 else (if r2 < x3 then r2 else x3 : Int32) : Int32) else x3 : Int32)), some (.int (if (M 9 x7.toNatClampNeg) = x1 then (if r1 = 0 then x4 else (if x4 < r2 then r2 else x4 : Int32) : Int32) else x4 : Int32)), some (.int (if (M 9 x7.toNatClampNeg) = x1 then (if r1 = 0 then x5 else (if r3 < x5 then r3 else x5 : Int32) : Int32) else x5 : Int32)), some (.int (if (M 9 x7.toNatClampNeg) = x1 then (if r1 = 0 then x6 else (if x6 < r3 then r3 else x6 : Int32) : Int32) else x6 : Int32)), some (.int (x7 + 1))]) (pt_52_134 w) rfl rfl rfl ?_
      refine ev_g (pt_52_137 w) ?_
      exact (h3 c1)
    refine ev_cne (pc' := 41) (pt_52_38 w) rfl (fun c3 => ?_) (fun c3 => ?_)
    · exact j2 _ (if_neg c3).symm _ (if_neg c3).symm _ (if_neg c3).symm _ (if_neg c3).symm _ (if_neg c3).symm
    · refine ev_al (pc' := 42) (pt_52_41 w) rfl rfl ?_
      refine ev_il (pc' := 44) (pt_52_42 w) rfl rfl ?_
      refine ev_cal1 (pc' := 47) (pt_52_44 w) (vs := [.ref 1, .int x7]) (rest := []) (en := [some (.ref 1), some (.int x7)]) rfl rfl rfl rfl rfl rfl rfl (k4 c1 c3) ?_
      refine ev_zne (pc' := 50) (pt_52_47 w) rfl (fun c4 => ?_) (fun c4 => ?_)
      · refine ev_inc (pc' := 56) (loc1 := [some (.ref 1), some (.int x1), some (.int (x2 + 1)), some (.int x3), some (.int x4), some (.int x5), some (.int x6), some (.int x7)]) (pt_52_53 w) rfl rfl rfl ?_
        refine ev_il (pc' := 57) (pt_52_56 w) rfl rfl ?_
        refine ev_al (pc' := 58) (pt_52_57 w) rfl rfl ?_
        refine ev_getr (pc' := 61) (pt_52_58 w) rfl rfl rfl ?_
        refine ev_getr (pc' := 64) (pt_52_61 w) rfl rfl rfl ?_
        refine ev_il (pc' := 66) (pt_52_64 w) rfl rfl ?_
        refine ev_ia (pc' := 67) (pt_52_66 w) rfl rfl (b2 c1) ?_
        refine ev_cal1 (pc' := 70) (pt_52_67 w) (vs := [.int (M 6 x7.toNatClampNeg)]) (rest := [.int x3]) (en := [some (.int (M 6 x7.toNatClampNeg))]) rfl rfl rfl rfl trivial rfl rfl (k5 c1 c3 c4) ?_
        refine ev_mn (pc' := 73) (pt_52_70 w) rfl (Nat.le_of_ble_eq_true rfl) ?_
        refine ev_is (pc' := 74) (loc1 := [some (.ref 1), some (.int x1), some (.int (x2 + 1)), some (.int (if r2 < x3 then r2 else x3 : Int32)), some (.int x4), some (.int x5), some (.int x6), some (.int x7)]) (pt_52_73 w) rfl rfl ?_
        refine ev_il (pc' := 76) (pt_52_74 w) rfl rfl ?_
        refine ev_al (pc' := 77) (pt_52_76 w) rfl rfl ?_
        refine ev_getr (pc' := 80) (pt_52_77 w) rfl rfl rfl ?_
        refine ev_getr (pc' := 83) (pt_52_80 w) rfl rfl rfl ?_
        refine ev_il (pc' := 85) (pt_52_83 w) rfl rfl ?_
        refine ev_ia (pc' := 86) (pt_52_85 w) rfl rfl (b2 c1) ?_
        refine ev_cal1 (pc' := 89) (pt_52_86 w) (vs := [.int (M 6 x7.toNatClampNeg)]) (rest := [.int x4]) (en := [some (.int (M 6 x7.toNatClampNeg))]) rfl rfl rfl rfl trivial rfl rfl (k5 c1 c3 c4) ?_
        refine ev_mx (pc' := 92) (pt_52_89 w) rfl (Nat.le_of_ble_eq_true rfl) ?_
        refine ev_is (pc' := 94) (loc1 := [some (.ref 1), some (.int x1), some (.int (x2 + 1)), some (.int (if r2 < x3 then r2 else x3 : Int32)), some (.int (if x4 < r2 then r2 else x4 : Int32)), some (.int x5), some (.int x6), some (.int x7)]) (pt_52_92 w) rfl rfl ?_
        refine ev_il (pc' := 96) (pt_52_94 w) rfl rfl ?_
        refine ev_al (pc' := 97) (pt_52_96 w) rfl rfl ?_
        refine ev_getr (pc' := 100) (pt_52_97 w) rfl rfl rfl ?_
        refine ev_getr (pc' := 103) (pt_52_100 w) rfl rfl rfl ?_
        refine ev_il (pc' := 105) (pt_52_103 w) rfl rfl ?_
        refine ev_ia (pc' := 106) (pt_52_105 w) rfl rfl (b2 c1) ?_
        refine ev_cal1 (pc' := 109) (pt_52_106 w) (vs := [.int (M 6 x7.toNatClampNeg)]) (rest := [.int x5]) (en := [some (.int (M 6 x7.toNatClampNeg))]) rfl rfl rfl rfl trivial rfl rfl (k6 c1 c3 c4) ?_
        refine ev_mn (pc' := 112) (pt_52_109 w) rfl (Nat.le_of_ble_eq_true rfl) ?_
        refine ev_is (pc' := 114) (loc1 := [some (.ref 1), some (.int x1), some (.int (x2 + 1)), some (.int (if r2 < x3 then r2 else x3 : Int32)), some (.int (if x4 < r2 then r2 else x4 : Int32)), some (.int (if r3 < x5 then r3 else x5 : Int32)), some (.int x6), some (.int x7)]) (pt_52_112 w) rfl rfl ?_
        refine ev_il (pc' := 116) (pt_52_114 w) rfl rfl ?_
        refine ev_al (pc' := 117) (pt_52_116 w) rfl rfl ?_
        refine ev_getr (pc' := 120) (pt_52_117 w) rfl rfl rfl ?_
        refine ev_getr (pc' := 123) (pt_52_120 w) rfl rfl rfl ?_
        refine ev_il (pc' := 125) (pt_52_123 w) rfl rfl ?_
        refine ev_ia (pc' := 126) (pt_52_125 w) rfl rfl (b2 c1) ?_
        refine ev_cal1 (pc' := 129) (pt_52_126 w) (vs := [.int (M 6 x7.toNatClampNeg)]) (rest := [.int x6]) (en := [some (.int (M 6 x7.toNatClampNeg))]) rfl rfl rfl rfl trivial rfl rfl (k6 c1 c3 c4) ?_
        refine ev_mx (pc' := 132) (pt_52_129 w) rfl (Nat.le_of_ble_eq_true rfl) ?_
        refine ev_is (pc' := 134) (loc1 := [some (.ref 1), some (.int x1), some (.int (x2 + 1)), some (.int (if r2 < x3 then r2 else x3 : Int32)), some (.int (if x4 < r2 then r2 else x4 : Int32)), some (.int (if r3 < x5 then r3 else x5 : Int32)), some (.int (if x6 < r3 then r3 else x6 : Int32)), some (.int x7)]) (pt_52_132 w) rfl rfl ?_
        exact j2 _ ((if_pos c3).trans (if_neg c4)).symm _ ((if_pos c3).trans (if_neg c4)).symm _ ((if_pos c3).trans (if_neg c4)).symm _ ((if_pos c3).trans (if_neg c4)).symm _ ((if_pos c3).trans (if_neg c4)).symm
      · refine ev_g (pt_52_50 w) ?_
        exact j2 _ ((if_pos c3).trans (if_pos c4)).symm _ ((if_pos c3).trans (if_pos c4)).symm _ ((if_pos c3).trans (if_pos c4)).symm _ ((if_pos c3).trans (if_pos c4)).symm _ ((if_pos c3).trans (if_pos c4)).symm

-- BoardDesk$Board.findNear(I[I)V
theorem wk_53_0 {w : qS} {M : qM} {x1 : Int32} {post : qR}
    (h1 : gE w 122 0 [some (.ref 28), some (.int (-1)), none, none] [] M (fun r M' => gE w 53 5 [some (.ref 1), some (.int x1), some (.ref 28), none] (r.toList ++ []) M' post)) :
    gE w 53 0 [some (.ref 1), some (.int x1), some (.ref 28), none] [] M post := by
  refine ev_al (pc' := 1) (pt_53_0 w) rfl rfl ?_
  refine ev_k (pc' := 2) (pt_53_1 w) rfl ?_
  exact ev_cal (pc' := 5) (pt_53_2 w) (vs := [.ref 28, .int (-1)]) (rest := []) (en := [some (.ref 28), some (.int (-1)), none, none]) rfl rfl rfl rfl trivial rfl rfl h1

theorem wk_53_5 {w : qS} {M : qM} {x1 : Int32} {o3 : Option Value} {post : qR}
    (h1 : gE w 53 7 [some (.ref 1), some (.int x1), some (.ref 28), some (.int 0)] [] M post) :
    gE w 53 5 [some (.ref 1), some (.int x1), some (.ref 28), o3] [] M post := by
  refine ev_k (pc' := 6) (pt_53_5 w) rfl ?_
  refine ev_is (pc' := 7) (loc1 := [some (.ref 1), some (.int x1), some (.ref 28), some (.int 0)]) (pt_53_6 w) rfl rfl ?_
  exact h1

theorem wk_53_7 {w : qS} {M : qM} {x1 x3 : Int32} {r1 : Int32} {post : qR}
    (h1 : (c1 : ¬ x3 < (iN 240)) → post none M)
    (k2 : (c1 : x3 < (iN 240)) → gE w 32 0 [some (.ref 1), some (.int x3), none] [] M (qv1 M r1))
    (h3 : (c1 : x3 < (iN 240)) → (c2 : ¬ r1 = x1) → gE w 53 30 [some (.ref 1), some (.int x1), some (.ref 28), some (.int x3)] [] M post)
    (h4 : (c1 : x3 < (iN 240)) → (c2 : r1 = x1) → gE w 54 0 [some (.ref 1), some (.int x3), some (.int x1), some (.ref 28), none, none, none, none, none] [] M (fun r M' => gE w 53 30 [some (.ref 1), some (.int x1), some (.ref 28), some (.int x3)] (r.toList ++ []) M' post)) :
    gE w 53 7 [some (.ref 1), some (.int x1), some (.ref 28), some (.int x3)] [] M post := by
  refine ev_il (pc' := 8) (pt_53_7 w) rfl rfl ?_
  refine ev_k (pc' := 11) (pt_53_8 w) rfl ?_
  refine ev_cge (pc' := 14) (pt_53_11 w) rfl (fun c1 => ?_) (fun c1 => ?_)
  · exact ev_rv (pt_53_36 w) (h1 c1)
  · refine ev_al (pc' := 15) (pt_53_14 w) rfl rfl ?_
    refine ev_il (pc' := 16) (pt_53_15 w) rfl rfl ?_
    refine ev_cal1 (pc' := 19) (pt_53_16 w) (vs := [.ref 1, .int x3]) (rest := []) (en := [some (.ref 1), some (.int x3), none]) rfl rfl rfl rfl rfl rfl rfl (k2 c1) ?_
    refine ev_il (pc' := 20) (pt_53_19 w) rfl rfl ?_
    refine ev_cne (pc' := 23) (pt_53_20 w) rfl (fun c2 => ?_) (fun c2 => ?_)
    · exact (h3 c1 c2)
    · refine ev_al (pc' := 24) (pt_53_23 w) rfl rfl ?_
      refine ev_il (pc' := 25) (pt_53_24 w) rfl rfl ?_
      refine ev_il (pc' := 26) (pt_53_25 w) rfl rfl ?_
      refine ev_al (pc' := 27) (pt_53_26 w) rfl rfl ?_
      exact ev_cal (pc' := 30) (pt_53_27 w) (vs := [.ref 1, .int x3, .int x1, .ref 28]) (rest := []) (en := [some (.ref 1), some (.int x3), some (.int x1), some (.ref 28), none, none, none, none, none]) rfl rfl rfl rfl rfl rfl rfl (h4 c1 c2)

theorem wk_53_30 {w : qS} {M : qM} {x1 x3 : Int32} {post : qR}
    (h1 : gE w 53 7 [some (.ref 1), some (.int x1), some (.ref 28), some (.int (x3 + 1))] [] M post) :
    gE w 53 30 [some (.ref 1), some (.int x1), some (.ref 28), some (.int x3)] [] M post := by
  refine ev_inc (pc' := 33) (loc1 := [some (.ref 1), some (.int x1), some (.ref 28), some (.int (x3 + 1))]) (pt_53_30 w) rfl rfl rfl ?_
  refine ev_g (pt_53_33 w) ?_
  exact h1

-- BoardDesk$Board.noteNear(II[I)V
theorem wk_54_0 {w : qS} {M : qM} {x1 x2 : Int32} {post : qR}
    (h1 : gE w 54 14 [some (.ref 1), some (.int x1), some (.int x2), some (.ref 28), some (.int (M 2 8)), some (.int (-(M 2 8))), none, none, none] [] M post) :
    gE w 54 0 [some (.ref 1), some (.int x1), some (.int x2), some (.ref 28), none, none, none, none, none] [] M post := by
  refine ev_al (pc' := 1) (pt_54_0 w) rfl rfl ?_
  refine ev_getr (pc' := 4) (pt_54_1 w) rfl rfl rfl ?_
  refine ev_geti (pc' := 7) (pt_54_4 w) rfl rfl rfl ?_
  refine ev_is (pc' := 9) (loc1 := [some (.ref 1), some (.int x1), some (.int x2), some (.ref 28), some (.int (M 2 8)), none, none, none, none]) (pt_54_7 w) rfl rfl ?_
  refine ev_il (pc' := 11) (pt_54_9 w) rfl rfl ?_
  refine ev_u (pc' := 12) (pt_54_11 w) rfl ?_
  refine ev_is (pc' := 14) (loc1 := [some (.ref 1), some (.int x1), some (.int x2), some (.ref 28), some (.int (M 2 8)), some (.int (-(M 2 8))), none, none, none]) (pt_54_12 w) rfl rfl ?_
  exact h1

theorem wk_54_14 {w : qS} {M : qM} {x1 x2 x4 x5 : Int32} {o6 o7 o8 : Option Value} {post : qR}
    (h1 : (c1 : x4 < x5) → post none M)
    (h2 : (c1 : ¬ x4 < x5) → gE w 54 26 [some (.ref 1), some (.int x1), some (.int x2), some (.ref 28), some (.int x4), some (.int x5), some (.int (-x4)), o7, o8] [] M post) :
    gE w 54 14 [some (.ref 1), some (.int x1), some (.int x2), some (.ref 28), some (.int x4), some (.int x5), o6, o7, o8] [] M post := by
  refine ev_il (pc' := 16) (pt_54_14 w) rfl rfl ?_
  refine ev_il (pc' := 18) (pt_54_16 w) rfl rfl ?_
  refine ev_cgt (pc' := 21) (pt_54_18 w) rfl (fun c1 => ?_) (fun c1 => ?_)
  · exact ev_rv (pt_54_92 w) (h1 c1)
  · refine ev_il (pc' := 23) (pt_54_21 w) rfl rfl ?_
    refine ev_u (pc' := 24) (pt_54_23 w) rfl ?_
    refine ev_is (pc' := 26) (loc1 := [some (.ref 1), some (.int x1), some (.int x2), some (.ref 28), some (.int x4), some (.int x5), some (.int (-x4)), o7, o8]) (pt_54_24 w) rfl rfl ?_
    exact (h2 c1)

theorem wk_54_26 {w : qS} {M : qM} {x1 x2 x4 x5 x6 : Int32} {o7 o8 : Option Value} {r1 : Int32} {r2 : Int32} {post : qR}
    (h1 : (c1 : x4 < x6) → gE w 54 14 [some (.ref 1), some (.int x1), some (.int x2), some (.ref 28), some (.int x4), some (.int (x5 + 1)), some (.int x6), o7, o8] [] M post)
    (k2 : (c1 : ¬ x4 < x6) → gE w 27 0 [some (.int x1), some (.int x6), some (.int x5), none, none] [] M (qv1 M r1))
    (h3 : (c1 : ¬ x4 < x6) → (c2 : ¬ x2 < (if r1 = (-1) then (-1) else r2 : Int32)) → gE w 54 26 [some (.ref 1), some (.int x1), some (.int x2), some (.ref 28), some (.int x4), some (.int x5), some (.int (x6 + 1)), some (.int r1), some (.int (if r1 = (-1) then (-1) else r2 : Int32))] [] M post)
    (b4 : (c1 : ¬ x4 < x6) → (c2 : x2 < (if r1 = (-1) then (-1) else r2 : Int32)) → vp_in (if r1 = (-1) then (-1) else r2 : Int32) 16)
    (h5 : (c1 : ¬ x4 < x6) → (c2 : x2 < (if r1 = (-1) then (-1) else r2 : Int32)) → (c3 : ¬ (M 28 (if r1 = (-1) then (-1) else r2 : Int32).toNatClampNeg) = (-1)) → gE w 54 26 [some (.ref 1), some (.int x1), some (.int x2), some (.ref 28), some (.int x4), some (.int x5), some (.int (x6 + 1)), some (.int r1), some (.int (if r1 = (-1) then (-1) else r2 : Int32))] [] M post)
    (h6 : (c1 : ¬ x4 < x6) → (c2 : x2 < (if r1 = (-1) then (-1) else r2 : Int32)) → (c3 : (M 28 (if r1 = (-1) then (-1) else r2 : Int32).toNatClampNeg) = (-1)) → gE w 54 26 [some (.ref 1), some (.int x1), some (.int x2), some (.ref 28), some (.int x4), some (.int x5), some (.int (x6 + 1)), some (.int r1), some (.int (if r1 = (-1) then (-1) else r2 : Int32))] [] (ms M 28 (if r1 = (-1) then (-1) else r2 : Int32).toNatClampNeg x1) post)
    (k7 : (c1 : ¬ x4 < x6) → (c4 : ¬ r1 = (-1)) → gE w 32 0 [some (.ref 1), some (.int r1), none] [] M (qv1 M r2)) :
    gE w 54 26 [some (.ref 1), some (.int x1), some (.int x2), some (.ref 28), some (.int x4), some (.int x5), some (.int x6), o7, o8] [] M post := by
  refine ev_il (pc' := 28) (pt_54_26 w) rfl rfl ?_
  refine ev_il (pc' := 30) (pt_54_28 w) rfl rfl ?_
  refine ev_cgt (pc' := 33) (pt_54_30 w) rfl (fun c1 => ?_) (fun c1 => ?_)
  · refine ev_inc (pc' := 89) (loc1 := [some (.ref 1), some (.int x1), some (.int x2), some (.ref 28), some (.int x4), some (.int (x5 + 1)), some (.int x6), o7, o8]) (pt_54_86 w) rfl rfl rfl ?_
    refine ev_g (pt_54_89 w) ?_
    exact (h1 c1)
  · refine ev_il (pc' := 34) (pt_54_33 w) rfl rfl ?_
    refine ev_il (pc' := 36) (pt_54_34 w) rfl rfl ?_
    refine ev_il (pc' := 38) (pt_54_36 w) rfl rfl ?_
    refine ev_cal1 (pc' := 41) (pt_54_38 w) (vs := [.int x1, .int x6, .int x5]) (rest := []) (en := [some (.int x1), some (.int x6), some (.int x5), none, none]) rfl rfl rfl rfl trivial rfl rfl (k2 c1) ?_
    refine ev_is (pc' := 43) (loc1 := [some (.ref 1), some (.int x1), some (.int x2), some (.ref 28), some (.int x4), some (.int x5), some (.int x6), some (.int r1), o8]) (pt_54_41 w) rfl rfl ?_
    refine ev_il (pc' := 45) (pt_54_43 w) rfl rfl ?_
    refine ev_k (pc' := 46) (pt_54_45 w) rfl ?_
    have j1 : ∀ v1 : Int32, v1 = (if r1 = (-1) then (-1) else r2 : Int32) → gE w 54 59 [some (.ref 1), some (.int x1), some (.int x2), some (.ref 28), some (.int x4), some (.int x5), some (.int x6), some (.int r1), o8] [.int v1] M post := by
      intro v1 e2
      subst v1
      refine ev_is (pc' := 61) (loc1 := [some (.ref 1), some (.int x1), some (.int x2), some (.ref 28), some (.int x4), some (.int x5), some (.int x6), some (.int r1), some (.int (if r1 = (-1) then (-1) else r2 : Int32))]) (pt_54_59 w) rfl rfl ?_
      refine ev_il (pc' := 63) (pt_54_61 w) rfl rfl ?_
      refine ev_il (pc' := 64) (pt_54_63 w) rfl rfl ?_
      refine ev_cle (pc' := 67) (pt_54_64 w) rfl (fun c2 => ?_) (fun c2 => ?_)
      · refine ev_inc (pc' := 83) (loc1 := [some (.ref 1), some (.int x1), some (.int x2), some (.ref 28), some (.int x4), some (.int x5), some (.int (x6 + 1)), some (.int r1), some (.int (if r1 = (-1) then (-1) else r2 : Int32))]) (pt_54_80 w) rfl rfl rfl ?_
        refine ev_g (pt_54_83 w) ?_
        exact (h3 c1 c2)
      · refine ev_al (pc' := 68) (pt_54_67 w) rfl rfl ?_
        refine ev_il (pc' := 70) (pt_54_68 w) rfl rfl ?_
        refine ev_ia (pc' := 71) (pt_54_70 w) rfl rfl (b4 c1 c2) ?_
        refine ev_k (pc' := 72) (pt_54_71 w) rfl ?_
        refine ev_cne (pc' := 75) (pt_54_72 w) rfl (fun c3 => ?_) (fun c3 => ?_)
        · refine ev_inc (pc' := 83) (loc1 := [some (.ref 1), some (.int x1), some (.int x2), some (.ref 28), some (.int x4), some (.int x5), some (.int (x6 + 1)), some (.int r1), some (.int (if r1 = (-1) then (-1) else r2 : Int32))]) (pt_54_80 w) rfl rfl rfl ?_
          refine ev_g (pt_54_83 w) ?_
          exact (h5 c1 c2 c3)
        · refine ev_al (pc' := 76) (pt_54_75 w) rfl rfl ?_
          refine ev_il (pc' := 78) (pt_54_76 w) rfl rfl ?_
          refine ev_il (pc' := 79) (pt_54_78 w) rfl rfl ?_
          refine ev_ias (pc' := 80) (pt_54_79 w) rfl rfl (b4 c1 c2) ?_
          refine ev_inc (pc' := 83) (loc1 := [some (.ref 1), some (.int x1), some (.int x2), some (.ref 28), some (.int x4), some (.int x5), some (.int (x6 + 1)), some (.int r1), some (.int (if r1 = (-1) then (-1) else r2 : Int32))]) (pt_54_80 w) rfl rfl rfl ?_
          refine ev_g (pt_54_83 w) ?_
          exact (h6 c1 c2 c3)
    refine ev_cne (pc' := 49) (pt_54_46 w) rfl (fun c4 => ?_) (fun c4 => ?_)
    · refine ev_al (pc' := 54) (pt_54_53 w) rfl rfl ?_
      refine ev_il (pc' := 56) (pt_54_54 w) rfl rfl ?_
      refine ev_cal1 (pc' := 59) (pt_54_56 w) (vs := [.ref 1, .int r1]) (rest := []) (en := [some (.ref 1), some (.int r1), none]) rfl rfl rfl rfl rfl rfl rfl (k7 c1 c4) ?_
      exact j1 _ (if_neg c4).symm
    · refine ev_k (pc' := 50) (pt_54_49 w) rfl ?_
      refine ev_g (pt_54_50 w) ?_
      exact j1 _ (if_pos c4).symm

-- BoardDesk$Board.runLength(I)I
theorem wk_55_0 {w : qS} {M : qM} {x1 : Int32} {r1 : Int32} {r2 : Int32} {post : qR}
    (k1 : gE w 32 0 [some (.ref 1), some (.int x1), none] [] M (qv1 M r1))
    (k2 : gE w 26 0 [some (.int x1)] [] M (qv1 M r2))
    (h3 : gE w 55 17 [some (.ref 1), some (.int x1), some (.int r1), some (.int ((iN 12) - r2)), some (.int 1)] [] M post) :
    gE w 55 0 [some (.ref 1), some (.int x1), none, none, none] [] M post := by
  refine ev_al (pc' := 1) (pt_55_0 w) rfl rfl ?_
  refine ev_il (pc' := 2) (pt_55_1 w) rfl rfl ?_
  refine ev_cal1 (pc' := 5) (pt_55_2 w) (vs := [.ref 1, .int x1]) (rest := []) (en := [some (.ref 1), some (.int x1), none]) rfl rfl rfl rfl rfl rfl rfl k1 ?_
  refine ev_is (pc' := 6) (loc1 := [some (.ref 1), some (.int x1), some (.int r1), none, none]) (pt_55_5 w) rfl rfl ?_
  refine ev_k (pc' := 8) (pt_55_6 w) rfl ?_
  refine ev_il (pc' := 9) (pt_55_8 w) rfl rfl ?_
  refine ev_cal1 (pc' := 12) (pt_55_9 w) (vs := [.int x1]) (rest := [.int (iN 12)]) (en := [some (.int x1)]) rfl rfl rfl rfl trivial rfl rfl k2 ?_
  refine ev_b (pc' := 13) (pt_55_12 w) rfl ?_
  refine ev_is (pc' := 14) (loc1 := [some (.ref 1), some (.int x1), some (.int r1), some (.int ((iN 12) - r2)), none]) (pt_55_13 w) rfl rfl ?_
  refine ev_k (pc' := 15) (pt_55_14 w) rfl ?_
  refine ev_is (pc' := 17) (loc1 := [some (.ref 1), some (.int x1), some (.int r1), some (.int ((iN 12) - r2)), some (.int 1)]) (pt_55_15 w) rfl rfl ?_
  exact h3

theorem wk_55_17 {w : qS} {M : qM} {x1 x2 x3 x4 : Int32} {r1 : Int32} {post : qR}
    (h1 : (c1 : ¬ x4 < x3) → post (some (.int x4)) M)
    (k2 : (c1 : x4 < x3) → gE w 32 0 [some (.ref 1), some (.int (x1 + x4)), none] [] M (qv1 M r1))
    (h3 : (c1 : x4 < x3) → (c2 : ¬ r1 = x2) → post (some (.int x4)) M)
    (h4 : (c1 : x4 < x3) → (c2 : r1 = x2) → gE w 55 17 [some (.ref 1), some (.int x1), some (.int x2), some (.int x3), some (.int (x4 + 1))] [] M post) :
    gE w 55 17 [some (.ref 1), some (.int x1), some (.int x2), some (.int x3), some (.int x4)] [] M post := by
  refine ev_il (pc' := 19) (pt_55_17 w) rfl rfl ?_
  refine ev_il (pc' := 20) (pt_55_19 w) rfl rfl ?_
  refine ev_cge (pc' := 23) (pt_55_20 w) rfl (fun c1 => ?_) (fun c1 => ?_)
  · refine ev_il (pc' := 43) (pt_55_41 w) rfl rfl ?_
    exact ev_ri1 (pt_55_43 w) (h1 c1)
  · refine ev_al (pc' := 24) (pt_55_23 w) rfl rfl ?_
    refine ev_il (pc' := 25) (pt_55_24 w) rfl rfl ?_
    refine ev_il (pc' := 27) (pt_55_25 w) rfl rfl ?_
    refine ev_b (pc' := 28) (pt_55_27 w) rfl ?_
    refine ev_cal1 (pc' := 31) (pt_55_28 w) (vs := [.ref 1, .int (x1 + x4)]) (rest := []) (en := [some (.ref 1), some (.int (x1 + x4)), none]) rfl rfl rfl rfl rfl rfl rfl (k2 c1) ?_
    refine ev_il (pc' := 32) (pt_55_31 w) rfl rfl ?_
    refine ev_cne (pc' := 35) (pt_55_32 w) rfl (fun c2 => ?_) (fun c2 => ?_)
    · refine ev_il (pc' := 43) (pt_55_41 w) rfl rfl ?_
      exact ev_ri1 (pt_55_43 w) (h3 c1 c2)
    · refine ev_inc (pc' := 38) (loc1 := [some (.ref 1), some (.int x1), some (.int x2), some (.int x3), some (.int (x4 + 1))]) (pt_55_35 w) rfl rfl rfl ?_
      refine ev_g (pt_55_38 w) ?_
      exact (h4 c1 c2)

-- BoardDesk$Sheet.copyFrom(LBoardDesk$Sheet;)V
theorem wk_56_0 {w : qS} {M : qM} {s : Nat} (hs : isSh s) {t : Nat} (ht : isSh t) {post : qR}
    (h1 : post none (ms (ms (ms (mc (mc (mc (mc (mc (mc M (t + 1) (s + 1) 16) (t + 2) (s + 2) 24) (t + 3) (s + 3) 24) (t + 4) (s + 4) 16) (t + 5) (s + 5) 16) (t + 6) (s + 6) 240) s 6 ((mc (mc (mc (mc (mc (mc M (t + 1) (s + 1) 16) (t + 2) (s + 2) 24) (t + 3) (s + 3) 24) (t + 4) (s + 4) 16) (t + 5) (s + 5) 16) (t + 6) (s + 6) 240) t 6)) s 7 ((ms (mc (mc (mc (mc (mc (mc M (t + 1) (s + 1) 16) (t + 2) (s + 2) 24) (t + 3) (s + 3) 24) (t + 4) (s + 4) 16) (t + 5) (s + 5) 16) (t + 6) (s + 6) 240) s 6 ((mc (mc (mc (mc (mc (mc M (t + 1) (s + 1) 16) (t + 2) (s + 2) 24) (t + 3) (s + 3) 24) (t + 4) (s + 4) 16) (t + 5) (s + 5) 16) (t + 6) (s + 6) 240) t 6)) t 7)) s 8 ((ms (ms (mc (mc (mc (mc (mc (mc M (t + 1) (s + 1) 16) (t + 2) (s + 2) 24) (t + 3) (s + 3) 24) (t + 4) (s + 4) 16) (t + 5) (s + 5) 16) (t + 6) (s + 6) 240) s 6 ((mc (mc (mc (mc (mc (mc M (t + 1) (s + 1) 16) (t + 2) (s + 2) 24) (t + 3) (s + 3) 24) (t + 4) (s + 4) 16) (t + 5) (s + 5) 16) (t + 6) (s + 6) 240) t 6)) s 7 ((ms (mc (mc (mc (mc (mc (mc M (t + 1) (s + 1) 16) (t + 2) (s + 2) 24) (t + 3) (s + 3) 24) (t + 4) (s + 4) 16) (t + 5) (s + 5) 16) (t + 6) (s + 6) 240) s 6 ((mc (mc (mc (mc (mc (mc M (t + 1) (s + 1) 16) (t + 2) (s + 2) 24) (t + 3) (s + 3) 24) (t + 4) (s + 4) 16) (t + 5) (s + 5) 16) (t + 6) (s + 6) 240) t 6)) t 7)) t 8))) :
    gE w 56 0 [some (.ref s), some (.ref t)] [] M post := by
  refine ev_al (pc' := 1) (pt_56_0 w) rfl rfl ?_
  refine ev_getr (pc' := 4) (pt_56_1 w) rfl (ly_s0 ht) rfl ?_
  refine ev_k (pc' := 5) (pt_56_4 w) rfl ?_
  refine ev_al (pc' := 6) (pt_56_5 w) rfl rfl ?_
  refine ev_getr (pc' := 9) (pt_56_6 w) rfl (ly_s0 hs) rfl ?_
  refine ev_k (pc' := 10) (pt_56_9 w) rfl ?_
  refine ev_k (pc' := 12) (pt_56_10 w) rfl ?_
  refine ev_cpm (k := 16) (pc' := 15) (pt_56_12 w) rfl (ly_s1 ht) (ly_s1 hs) (Nat.le_of_ble_eq_true rfl) (by decide +kernel) (by decide +kernel) (by decide) (by decide) ?_
  refine ev_al (pc' := 16) (pt_56_15 w) rfl rfl ?_
  refine ev_getr (pc' := 19) (pt_56_16 w) rfl (ly_s0 ht) rfl ?_
  refine ev_k (pc' := 20) (pt_56_19 w) rfl ?_
  refine ev_al (pc' := 21) (pt_56_20 w) rfl rfl ?_
  refine ev_getr (pc' := 24) (pt_56_21 w) rfl (ly_s0 hs) rfl ?_
  refine ev_k (pc' := 25) (pt_56_24 w) rfl ?_
  refine ev_k (pc' := 27) (pt_56_25 w) rfl ?_
  refine ev_cpm (k := 24) (pc' := 30) (pt_56_27 w) rfl (ly_s2 ht) (ly_s2 hs) (Nat.le_of_ble_eq_true rfl) (by decide +kernel) (by decide +kernel) (by decide) (by decide) ?_
  refine ev_al (pc' := 31) (pt_56_30 w) rfl rfl ?_
  refine ev_getr (pc' := 34) (pt_56_31 w) rfl (ly_s0 ht) rfl ?_
  refine ev_k (pc' := 35) (pt_56_34 w) rfl ?_
  refine ev_al (pc' := 36) (pt_56_35 w) rfl rfl ?_
  refine ev_getr (pc' := 39) (pt_56_36 w) rfl (ly_s0 hs) rfl ?_
  refine ev_k (pc' := 40) (pt_56_39 w) rfl ?_
  refine ev_k (pc' := 42) (pt_56_40 w) rfl ?_
  refine ev_cpm (k := 24) (pc' := 45) (pt_56_42 w) rfl (ly_s3 ht) (ly_s3 hs) (Nat.le_of_ble_eq_true rfl) (by decide +kernel) (by decide +kernel) (by decide) (by decide) ?_
  refine ev_al (pc' := 46) (pt_56_45 w) rfl rfl ?_
  refine ev_getr (pc' := 49) (pt_56_46 w) rfl (ly_s0 ht) rfl ?_
  refine ev_k (pc' := 50) (pt_56_49 w) rfl ?_
  refine ev_al (pc' := 51) (pt_56_50 w) rfl rfl ?_
  refine ev_getr (pc' := 54) (pt_56_51 w) rfl (ly_s0 hs) rfl ?_
  refine ev_k (pc' := 55) (pt_56_54 w) rfl ?_
  refine ev_k (pc' := 57) (pt_56_55 w) rfl ?_
  refine ev_cpm (k := 16) (pc' := 60) (pt_56_57 w) rfl (ly_s4 ht) (ly_s4 hs) (Nat.le_of_ble_eq_true rfl) (by decide +kernel) (by decide +kernel) (by decide) (by decide) ?_
  refine ev_al (pc' := 61) (pt_56_60 w) rfl rfl ?_
  refine ev_getr (pc' := 64) (pt_56_61 w) rfl (ly_s0 ht) rfl ?_
  refine ev_k (pc' := 65) (pt_56_64 w) rfl ?_
  refine ev_al (pc' := 66) (pt_56_65 w) rfl rfl ?_
  refine ev_getr (pc' := 69) (pt_56_66 w) rfl (ly_s0 hs) rfl ?_
  refine ev_k (pc' := 70) (pt_56_69 w) rfl ?_
  refine ev_k (pc' := 72) (pt_56_70 w) rfl ?_
  refine ev_cpm (k := 16) (pc' := 75) (pt_56_72 w) rfl (ly_s5 ht) (ly_s5 hs) (Nat.le_of_ble_eq_true rfl) (by decide +kernel) (by decide +kernel) (by decide) (by decide) ?_
  refine ev_al (pc' := 76) (pt_56_75 w) rfl rfl ?_
  refine ev_getr (pc' := 79) (pt_56_76 w) rfl (ly_s0 ht) rfl ?_
  refine ev_k (pc' := 80) (pt_56_79 w) rfl ?_
  refine ev_al (pc' := 81) (pt_56_80 w) rfl rfl ?_
  refine ev_getr (pc' := 84) (pt_56_81 w) rfl (ly_s0 hs) rfl ?_
  refine ev_k (pc' := 85) (pt_56_84 w) rfl ?_
  refine ev_k (pc' := 88) (pt_56_85 w) rfl ?_
  refine ev_cpm (k := 240) (pc' := 91) (pt_56_88 w) rfl (ly_s6 ht) (ly_s6 hs) (Nat.le_of_ble_eq_true rfl) (by decide +kernel) (by decide +kernel) (by decide) (by decide) ?_
  refine ev_al (pc' := 92) (pt_56_91 w) rfl rfl ?_
  refine ev_al (pc' := 93) (pt_56_92 w) rfl rfl ?_
  refine ev_geti (pc' := 96) (pt_56_93 w) rfl (ly_s0 ht) rfl ?_
  refine ev_put (pc' := 99) (pt_56_96 w) rfl (ly_s0 hs) rfl ?_
  refine ev_al (pc' := 100) (pt_56_99 w) rfl rfl ?_
  refine ev_al (pc' := 101) (pt_56_100 w) rfl rfl ?_
  refine ev_geti (pc' := 104) (pt_56_101 w) rfl (ly_s0 ht) rfl ?_
  refine ev_put (pc' := 107) (pt_56_104 w) rfl (ly_s0 hs) rfl ?_
  refine ev_al (pc' := 108) (pt_56_107 w) rfl rfl ?_
  refine ev_al (pc' := 109) (pt_56_108 w) rfl rfl ?_
  refine ev_geti (pc' := 112) (pt_56_109 w) rfl (ly_s0 ht) rfl ?_
  refine ev_put (pc' := 115) (pt_56_112 w) rfl (ly_s0 hs) rfl ?_
  exact ev_rv (pt_56_115 w) h1

-- BoardDesk$Sheet.agreesWith(LBoardDesk$Sheet;)Z
theorem wk_57_0 {w : qS} {M : qM} {s : Nat} (hs : isSh s) {t : Nat} (ht : isSh t) {r1 : Int32} {r2 : Int32} {r3 : Int32} {post : qR}
    (h1 : post (some (.int (if (M s 6) = (M t 6) then (if (M s 7) = (M t 7) then (if (M s 8) = (M t 8) then (if r1 = 0 then 0 else (if r2 = 0 then 0 else (if r3 = 0 then 0 else 1 : Int32) : Int32) : Int32) else 0 : Int32) else 0 : Int32) else 0 : Int32))) M)
    (k2 : (c1 : (M s 6) = (M t 6)) → (c2 : (M s 7) = (M t 7)) → (c3 : (M s 8) = (M t 8)) → gE w 58 0 [some (.ref (s + 4)), some (.ref (t + 4)), none] [] M (qv1 M r1))
    (k3 : (c1 : (M s 6) = (M t 6)) → (c2 : (M s 7) = (M t 7)) → (c3 : (M s 8) = (M t 8)) → (c4 : ¬ r1 = 0) → gE w 58 0 [some (.ref (s + 5)), some (.ref (t + 5)), none] [] M (qv1 M r2))
    (k4 : (c1 : (M s 6) = (M t 6)) → (c2 : (M s 7) = (M t 7)) → (c3 : (M s 8) = (M t 8)) → (c4 : ¬ r1 = 0) → (c5 : ¬ r2 = 0) → gE w 58 0 [some (.ref (s + 6)), some (.ref (t + 6)), none] [] M (qv1 M r3)) :
    gE w 57 0 [some (.ref s), some (.ref t)] [] M post := by
  refine ev_al (pc' := 1) (pt_57_0 w) rfl rfl ?_
  refine ev_geti (pc' := 4) (pt_57_1 w) rfl (ly_s0 hs) rfl ?_
  refine ev_al (pc' := 5) (pt_57_4 w) rfl rfl ?_
  refine ev_geti (pc' := 8) (pt_57_5 w) rfl (ly_s0 ht) rfl ?_
  have j1 : ∀ v1 : Int32, v1 = (if (M s 6) = (M t 6) then (if (M s 7) = (M t 7) then (if (M s 8) = (M t 8) then (if r1 = 0 then 0 else (if r2 = 0 then 0 else (if r3 = 0 then 0 else 1 : Int32) : Int32) : Int32) else 0 : Int32) else 0 : Int32) else 0 : Int32) → gE w 57 80 [some (.ref s), some (.ref t)] [.int v1] M post := by
    intro v1 e2
    subst v1
    exact ev_rz (pt_57_80 w) (z1_ite (z1_ite (z1_ite (z1_ite z1_0 (z1_ite z1_0 (z1_ite z1_0 z1_1))) z1_0) z1_0) z1_0) h1
  refine ev_cne (pc' := 11) (pt_57_8 w) rfl (fun c1 => ?_) (fun c1 => ?_)
  · refine ev_k (pc' := 80) (pt_57_79 w) rfl ?_
    exact j1 _ (if_neg c1).symm
  · refine ev_al (pc' := 12) (pt_57_11 w) rfl rfl ?_
    refine ev_geti (pc' := 15) (pt_57_12 w) rfl (ly_s0 hs) rfl ?_
    refine ev_al (pc' := 16) (pt_57_15 w) rfl rfl ?_
    refine ev_geti (pc' := 19) (pt_57_16 w) rfl (ly_s0 ht) rfl ?_
    refine ev_cne (pc' := 22) (pt_57_19 w) rfl (fun c2 => ?_) (fun c2 => ?_)
    · refine ev_k (pc' := 80) (pt_57_79 w) rfl ?_
      exact j1 _ ((if_pos c1).trans (if_neg c2)).symm
    · refine ev_al (pc' := 23) (pt_57_22 w) rfl rfl ?_
      refine ev_geti (pc' := 26) (pt_57_23 w) rfl (ly_s0 hs) rfl ?_
      refine ev_al (pc' := 27) (pt_57_26 w) rfl rfl ?_
      refine ev_geti (pc' := 30) (pt_57_27 w) rfl (ly_s0 ht) rfl ?_
      refine ev_cne (pc' := 33) (pt_57_30 w) rfl (fun c3 => ?_) (fun c3 => ?_)
      · refine ev_k (pc' := 80) (pt_57_79 w) rfl ?_
        exact j1 _ (((if_pos c1).trans (if_pos c2)).trans (if_neg c3)).symm
      · refine ev_al (pc' := 34) (pt_57_33 w) rfl rfl ?_
        refine ev_getr (pc' := 37) (pt_57_34 w) rfl (ly_s0 hs) rfl ?_
        refine ev_al (pc' := 38) (pt_57_37 w) rfl rfl ?_
        refine ev_getr (pc' := 41) (pt_57_38 w) rfl (ly_s0 ht) rfl ?_
        refine ev_cal1 (pc' := 44) (pt_57_41 w) (vs := [.ref (s + 4), .ref (t + 4)]) (rest := []) (en := [some (.ref (s + 4)), some (.ref (t + 4)), none]) rfl rfl rfl rfl trivial rfl rfl (k2 c1 c2 c3) ?_
        refine ev_zeq (pc' := 47) (pt_57_44 w) rfl (fun c4 => ?_) (fun c4 => ?_)
        · refine ev_k (pc' := 80) (pt_57_79 w) rfl ?_
          exact j1 _ ((((if_pos c1).trans (if_pos c2)).trans (if_pos c3)).trans (if_pos c4)).symm
        · refine ev_al (pc' := 48) (pt_57_47 w) rfl rfl ?_
          refine ev_getr (pc' := 51) (pt_57_48 w) rfl (ly_s0 hs) rfl ?_
          refine ev_al (pc' := 52) (pt_57_51 w) rfl rfl ?_
          refine ev_getr (pc' := 55) (pt_57_52 w) rfl (ly_s0 ht) rfl ?_
          refine ev_cal1 (pc' := 58) (pt_57_55 w) (vs := [.ref (s + 5), .ref (t + 5)]) (rest := []) (en := [some (.ref (s + 5)), some (.ref (t + 5)), none]) rfl rfl rfl rfl trivial rfl rfl (k3 c1 c2 c3 c4) ?_
          refine ev_zeq (pc' := 61) (pt_57_58 w) rfl (fun c5 => ?_) (fun c5 => ?_)
          · refine ev_k (pc' := 80) (pt_57_79 w) rfl ?_
            exact j1 _ (((((if_pos c1).trans (if_pos c2)).trans (if_pos c3)).trans (if_neg c4)).trans (if_pos c5)).symm
          · refine ev_al (pc' := 62) (pt_57_61 w) rfl rfl ?_
            refine ev_getr (pc' := 65) (pt_57_62 w) rfl (ly_s0 hs) rfl ?_
            refine ev_al (pc' := 66) (pt_57_65 w) rfl rfl ?_
            refine ev_getr (pc' := 69) (pt_57_66 w) rfl (ly_s0 ht) rfl ?_
            refine ev_cal1 (pc' := 72) (pt_57_69 w) (vs := [.ref (s + 6), .ref (t + 6)]) (rest := []) (en := [some (.ref (s + 6)), some (.ref (t + 6)), none]) rfl rfl rfl rfl trivial rfl rfl (k4 c1 c2 c3 c4 c5) ?_
            refine ev_zeq (pc' := 75) (pt_57_72 w) rfl (fun c6 => ?_) (fun c6 => ?_)
            · refine ev_k (pc' := 80) (pt_57_79 w) rfl ?_
              exact j1 _ ((((((if_pos c1).trans (if_pos c2)).trans (if_pos c3)).trans (if_neg c4)).trans (if_neg c5)).trans (if_pos c6)).symm
            · refine ev_k (pc' := 76) (pt_57_75 w) rfl ?_
              refine ev_g (pt_57_76 w) ?_
              exact j1 _ ((((((if_pos c1).trans (if_pos c2)).trans (if_pos c3)).trans (if_neg c4)).trans (if_neg c5)).trans (if_neg c6)).symm

-- BoardDesk$Sheet.sameNumbers([I[I)Z
theorem wk_58_0 {w : qS} {M : qM} {q0 n0 : Nat} (hq0 : gL w q0 = .inl (0, n0)) {q1 n1 : Nat} (hq1 : gL w q1 = .inl (0, n1)) {post : qR}
    (h1 : gE w 58 2 [some (.ref q0), some (.ref q1), some (.int 0)] [] M post) :
    gE w 58 0 [some (.ref q0), some (.ref q1), none] [] M post := by
  refine ev_k (pc' := 1) (pt_58_0 w) rfl ?_
  refine ev_is (pc' := 2) (loc1 := [some (.ref q0), some (.ref q1), some (.int 0)]) (pt_58_1 w) rfl rfl ?_
  exact h1

theorem wk_58_2 {w : qS} {M : qM} {x2 : Int32} {q0 n0 : Nat} (hq0 : gL w q0 = .inl (0, n0)) {q1 n1 : Nat} (hq1 : gL w q1 = .inl (0, n1)) {post : qR}
    (h1 : (c1 : ¬ x2 < (Int32.ofNat n0)) → post (some (.int 1)) M)
    (h2 : (c1 : x2 < (Int32.ofNat n0)) → (c2 : ¬ x2 < (Int32.ofNat n1)) → post (some (.int 1)) M)
    (b3 : (c1 : x2 < (Int32.ofNat n0)) → (c2 : x2 < (Int32.ofNat n1)) → vp_in x2 n0)
    (b4 : (c1 : x2 < (Int32.ofNat n0)) → (c2 : x2 < (Int32.ofNat n1)) → vp_in x2 n1)
    (h5 : (c1 : x2 < (Int32.ofNat n0)) → (c2 : x2 < (Int32.ofNat n1)) → (c3 : (M q0 x2.toNatClampNeg) = (M q1 x2.toNatClampNeg)) → gE w 58 2 [some (.ref q0), some (.ref q1), some (.int (x2 + 1))] [] M post)
    (h6 : (c1 : x2 < (Int32.ofNat n0)) → (c2 : x2 < (Int32.ofNat n1)) → (c3 : ¬ (M q0 x2.toNatClampNeg) = (M q1 x2.toNatClampNeg)) → post (some (.int 0)) M) :
    gE w 58 2 [some (.ref q0), some (.ref q1), some (.int x2)] [] M post := by
  refine ev_il (pc' := 3) (pt_58_2 w) rfl rfl ?_
  refine ev_al (pc' := 4) (pt_58_3 w) rfl rfl ?_
  refine ev_len (pc' := 5) (pt_58_4 w) rfl hq0 ?_
  refine ev_cge (pc' := 8) (pt_58_5 w) rfl (fun c1 => ?_) (fun c1 => ?_)
  · refine ev_k (pc' := 32) (pt_58_31 w) rfl ?_
    exact ev_rz (pt_58_32 w) z1_1 (h1 c1)
  · refine ev_il (pc' := 9) (pt_58_8 w) rfl rfl ?_
    refine ev_al (pc' := 10) (pt_58_9 w) rfl rfl ?_
    refine ev_len (pc' := 11) (pt_58_10 w) rfl hq1 ?_
    refine ev_cge (pc' := 14) (pt_58_11 w) rfl (fun c2 => ?_) (fun c2 => ?_)
    · refine ev_k (pc' := 32) (pt_58_31 w) rfl ?_
      exact ev_rz (pt_58_32 w) z1_1 (h2 c1 c2)
    · refine ev_al (pc' := 15) (pt_58_14 w) rfl rfl ?_
      refine ev_il (pc' := 16) (pt_58_15 w) rfl rfl ?_
      refine ev_ia (pc' := 17) (pt_58_16 w) rfl hq0 (b3 c1 c2) ?_
      refine ev_al (pc' := 18) (pt_58_17 w) rfl rfl ?_
      refine ev_il (pc' := 19) (pt_58_18 w) rfl rfl ?_
      refine ev_ia (pc' := 20) (pt_58_19 w) rfl hq1 (b4 c1 c2) ?_
      refine ev_ceq (pc' := 23) (pt_58_20 w) rfl (fun c3 => ?_) (fun c3 => ?_)
      · refine ev_inc (pc' := 28) (loc1 := [some (.ref q0), some (.ref q1), some (.int (x2 + 1))]) (pt_58_25 w) rfl rfl rfl ?_
        refine ev_g (pt_58_28 w) ?_
        exact (h5 c1 c2 c3)
      · refine ev_k (pc' := 24) (pt_58_23 w) rfl ?_
        exact ev_rz (pt_58_24 w) z1_0 (h6 c1 c2 c3)

-- BoardDesk$History.begin(LBoardDesk$Sheet;)V
theorem wk_59_0 {w : qS} {M : qM} {post : qR}
    (b1 : vp_in (M 10 1) 17)
    (h2 : gE w 56 0 [some (.ref (29 + 7 * (M 10 1).toNatClampNeg)), some (.ref 2)] [] M (fun r M' => gE w 59 13 [some (.ref 10), some (.ref 2)] (r.toList ++ []) M' post)) :
    gE w 59 0 [some (.ref 10), some (.ref 2)] [] M post := by
  refine ev_al (pc' := 1) (pt_59_0 w) rfl rfl ?_
  refine ev_getr (pc' := 4) (pt_59_1 w) rfl rfl rfl ?_
  refine ev_al (pc' := 5) (pt_59_4 w) rfl rfl ?_
  refine ev_geti (pc' := 8) (pt_59_5 w) rfl rfl rfl ?_
  refine ev_aa (z := (29 + 7 * (M 10 1).toNatClampNeg)) (pc' := 9) (pt_59_8 w) rfl rfl b1 rfl ?_
  refine ev_al (pc' := 10) (pt_59_9 w) rfl rfl ?_
  exact ev_cal (pc' := 13) (pt_59_10 w) (vs := [.ref (29 + 7 * (M 10 1).toNatClampNeg), .ref 2]) (rest := []) (en := [some (.ref (29 + 7 * (M 10 1).toNatClampNeg)), some (.ref 2)]) rfl rfl rfl rfl (rc_sh (ly_kept b1)) rfl rfl h2

theorem wk_59_13 {w : qS} {M : qM} {o0 o1 : Option Value} {post : qR}
    (h1 : post none M) :
    gE w 59 13 [o0, o1] [] M post := by
  exact ev_rv (pt_59_13 w) h1

-- BoardDesk$History.finish(LBoardDesk$Sheet;)V
theorem wk_60_0 {w : qS} {M : qM} {r1 : Int32} {post : qR}
    (b1 : vp_in (M 10 1) 17)
    (k2 : gE w 57 0 [some (.ref (29 + 7 * (M 10 1).toNatClampNeg)), some (.ref 2)] [] M (qv1 M r1))
    (h3 : (c1 : r1 = 0) → post none (ms (ms M 10 1 (((M 10 1) + 1) - ((M 10 1) + 1) / (iN 17) * (iN 17))) 10 2 (if (iN 16) < (((ms M 10 1 (((M 10 1) + 1) - ((M 10 1) + 1) / (iN 17) * (iN 17))) 10 2) + 1) then (iN 16) else (((ms M 10 1 (((M 10 1) + 1) - ((M 10 1) + 1) / (iN 17) * (iN 17))) 10 2) + 1) : Int32)))
    (h4 : (c1 : ¬ r1 = 0) → post none M) :
    gE w 60 0 [some (.ref 10), some (.ref 2)] [] M post := by
  refine ev_al (pc' := 1) (pt_60_0 w) rfl rfl ?_
  refine ev_getr (pc' := 4) (pt_60_1 w) rfl rfl rfl ?_
  refine ev_al (pc' := 5) (pt_60_4 w) rfl rfl ?_
  refine ev_geti (pc' := 8) (pt_60_5 w) rfl rfl rfl ?_
  refine ev_aa (z := (29 + 7 * (M 10 1).toNatClampNeg)) (pc' := 9) (pt_60_8 w) rfl rfl b1 rfl ?_
  refine ev_al (pc' := 10) (pt_60_9 w) rfl rfl ?_
  refine ev_cal1 (pc' := 13) (pt_60_10 w) (vs := [.ref (29 + 7 * (M 10 1).toNatClampNeg), .ref 2]) (rest := []) (en := [some (.ref (29 + 7 * (M 10 1).toNatClampNeg)), some (.ref 2)]) rfl rfl rfl rfl (rc_sh (ly_kept b1)) rfl rfl k2 ?_
  refine ev_zeq (pc' := 16) (pt_60_13 w) rfl (fun c1 => ?_) (fun c1 => ?_)
  · refine ev_al (pc' := 18) (pt_60_17 w) rfl rfl ?_
    refine ev_al (pc' := 19) (pt_60_18 w) rfl rfl ?_
    refine ev_geti (pc' := 22) (pt_60_19 w) rfl rfl rfl ?_
    refine ev_k (pc' := 23) (pt_60_22 w) rfl ?_
    refine ev_b (pc' := 24) (pt_60_23 w) rfl ?_
    refine ev_k (pc' := 26) (pt_60_24 w) rfl ?_
    refine ev_d (pc' := 27) (pt_60_26 w) rfl (by decide +kernel) ?_
    refine ev_put (pc' := 30) (pt_60_27 w) rfl rfl rfl ?_
    refine ev_al (pc' := 31) (pt_60_30 w) rfl rfl ?_
    refine ev_al (pc' := 32) (pt_60_31 w) rfl rfl ?_
    refine ev_geti (pc' := 35) (pt_60_32 w) rfl rfl rfl ?_
    refine ev_k (pc' := 36) (pt_60_35 w) rfl ?_
    refine ev_b (pc' := 37) (pt_60_36 w) rfl ?_
    refine ev_k (pc' := 39) (pt_60_37 w) rfl ?_
    refine ev_mn (pc' := 42) (pt_60_39 w) rfl (Nat.le_of_ble_eq_true rfl) ?_
    refine ev_put (pc' := 45) (pt_60_42 w) rfl rfl rfl ?_
    exact ev_rv (pt_60_45 w) (h3 c1)
  · exact ev_rv (pt_60_16 w) (h4 c1)

-- BoardDesk$History.takeBack(LBoardDesk$Sheet;)V
theorem wk_61_0 {w : qS} {M : qM} {post : qR}
    (b1 : vp_in ((ms (ms M 10 1 ((((M 10 1) + (iN 17)) - 1) - (((M 10 1) + (iN 17)) - 1) / (iN 17) * (iN 17))) 10 2 (((ms M 10 1 ((((M 10 1) + (iN 17)) - 1) - (((M 10 1) + (iN 17)) - 1) / (iN 17) * (iN 17))) 10 2) - 1)) 10 1) 17)
    (h2 : gE w 56 0 [some (.ref 2), some (.ref (29 + 7 * ((ms (ms M 10 1 ((((M 10 1) + (iN 17)) - 1) - (((M 10 1) + (iN 17)) - 1) / (iN 17) * (iN 17))) 10 2 (((ms M 10 1 ((((M 10 1) + (iN 17)) - 1) - (((M 10 1) + (iN 17)) - 1) / (iN 17) * (iN 17))) 10 2) - 1)) 10 1).toNatClampNeg))] [] (ms (ms M 10 1 ((((M 10 1) + (iN 17)) - 1) - (((M 10 1) + (iN 17)) - 1) / (iN 17) * (iN 17))) 10 2 (((ms M 10 1 ((((M 10 1) + (iN 17)) - 1) - (((M 10 1) + (iN 17)) - 1) / (iN 17) * (iN 17))) 10 2) - 1)) (fun r M' => gE w 61 39 [some (.ref 10), some (.ref 2)] (r.toList ++ []) M' post)) :
    gE w 61 0 [some (.ref 10), some (.ref 2)] [] M post := by
  refine ev_al (pc' := 1) (pt_61_0 w) rfl rfl ?_
  refine ev_al (pc' := 2) (pt_61_1 w) rfl rfl ?_
  refine ev_geti (pc' := 5) (pt_61_2 w) rfl rfl rfl ?_
  refine ev_k (pc' := 7) (pt_61_5 w) rfl ?_
  refine ev_b (pc' := 8) (pt_61_7 w) rfl ?_
  refine ev_k (pc' := 9) (pt_61_8 w) rfl ?_
  refine ev_b (pc' := 10) (pt_61_9 w) rfl ?_
  refine ev_k (pc' := 12) (pt_61_10 w) rfl ?_
  refine ev_d (pc' := 13) (pt_61_12 w) rfl (by decide +kernel) ?_
  refine ev_put (pc' := 16) (pt_61_13 w) rfl rfl rfl ?_
  refine ev_al (pc' := 17) (pt_61_16 w) rfl rfl ?_
  refine ev_dup (pc' := 18) (pt_61_17 w) rfl rfl ?_
  refine ev_geti (pc' := 21) (pt_61_18 w) rfl rfl rfl ?_
  refine ev_k (pc' := 22) (pt_61_21 w) rfl ?_
  refine ev_b (pc' := 23) (pt_61_22 w) rfl ?_
  refine ev_put (pc' := 26) (pt_61_23 w) rfl rfl rfl ?_
  refine ev_al (pc' := 27) (pt_61_26 w) rfl rfl ?_
  refine ev_al (pc' := 28) (pt_61_27 w) rfl rfl ?_
  refine ev_getr (pc' := 31) (pt_61_28 w) rfl rfl rfl ?_
  refine ev_al (pc' := 32) (pt_61_31 w) rfl rfl ?_
  refine ev_geti (pc' := 35) (pt_61_32 w) rfl rfl rfl ?_
  refine ev_aa (z := (29 + 7 * ((ms (ms M 10 1 ((((M 10 1) + (iN 17)) - 1) - (((M 10 1) + (iN 17)) - 1) / (iN 17) * (iN 17))) 10 2 (((ms M 10 1 ((((M 10 1) + (iN 17)) - 1) - (((M 10 1) + (iN 17)) - 1) / (iN 17) * (iN 17))) 10 2) - 1)) 10 1).toNatClampNeg)) (pc' := 36) (pt_61_35 w) rfl rfl b1 rfl ?_
  exact ev_cal (pc' := 39) (pt_61_36 w) (vs := [.ref 2, .ref (29 + 7 * ((ms (ms M 10 1 ((((M 10 1) + (iN 17)) - 1) - (((M 10 1) + (iN 17)) - 1) / (iN 17) * (iN 17))) 10 2 (((ms M 10 1 ((((M 10 1) + (iN 17)) - 1) - (((M 10 1) + (iN 17)) - 1) / (iN 17) * (iN 17))) 10 2) - 1)) 10 1).toNatClampNeg)]) (rest := []) (en := [some (.ref 2), some (.ref (29 + 7 * ((ms (ms M 10 1 ((((M 10 1) + (iN 17)) - 1) - (((M 10 1) + (iN 17)) - 1) / (iN 17) * (iN 17))) 10 2 (((ms M 10 1 ((((M 10 1) + (iN 17)) - 1) - (((M 10 1) + (iN 17)) - 1) / (iN 17) * (iN 17))) 10 2) - 1)) 10 1).toNatClampNeg))]) rfl rfl rfl rfl rfl rfl rfl h2

theorem wk_61_39 {w : qS} {M : qM} {o0 o1 : Option Value} {post : qR}
    (h1 : post none M) :
    gE w 61 39 [o0, o1] [] M post := by
  exact ev_rv (pt_61_39 w) h1

-- BoardDesk$Router.connectWhole(LBoardDesk$Board;I)Z
theorem wk_62_0 {w : qS} {M : qM} {x2 : Int32} {post : qR}
    (h1 : gE w 62 6 [some (.ref 12), some (.ref 1), some (.int x2), some (.int (iN 1000000)), some (.int 0)] [] M post) :
    gE w 62 0 [some (.ref 12), some (.ref 1), some (.int x2), none, none] [] M post := by
  refine ev_k (pc' := 2) (pt_62_0 w) rfl ?_
  refine ev_is (pc' := 3) (loc1 := [some (.ref 12), some (.ref 1), some (.int x2), some (.int (iN 1000000)), none]) (pt_62_2 w) rfl rfl ?_
  refine ev_k (pc' := 4) (pt_62_3 w) rfl ?_
  refine ev_is (pc' := 6) (loc1 := [some (.ref 12), some (.ref 1), some (.int x2), some (.int (iN 1000000)), some (.int 0)]) (pt_62_4 w) rfl rfl ?_
  exact h1

theorem wk_62_6 {w : qS} {M : qM} {x2 x3 x4 : Int32} {post : qR}
    (h1 : (c1 : (iN 16) < x4) → post (some (.int (if x3 = 0 then 1 else 0 : Int32))) M)
    (h2 : (c1 : ¬ (iN 16) < x4) → (c3 : ¬ 0 < x3) → post (some (.int (if x3 = 0 then 1 else 0 : Int32))) M)
    (h3 : (c1 : ¬ (iN 16) < x4) → (c3 : 0 < x3) → gE w 63 0 [some (.ref 12), some (.ref 1), some (.int x2), none, none] [] M (fun r M' => gE w 62 23 [some (.ref 12), some (.ref 1), some (.int x2), some (.int x3), some (.int x4)] (r.toList ++ []) M' post)) :
    gE w 62 6 [some (.ref 12), some (.ref 1), some (.int x2), some (.int x3), some (.int x4)] [] M post := by
  refine ev_il (pc' := 8) (pt_62_6 w) rfl rfl ?_
  refine ev_k (pc' := 10) (pt_62_8 w) rfl ?_
  refine ev_cgt (pc' := 13) (pt_62_10 w) rfl (fun c1 => ?_) (fun c1 => ?_)
  · refine ev_il (pc' := 31) (pt_62_30 w) rfl rfl ?_
    have j1 : ∀ v1 : Int32, v1 = (if x3 = 0 then 1 else 0 : Int32) → gE w 62 39 [some (.ref 12), some (.ref 1), some (.int x2), some (.int x3), some (.int x4)] [.int v1] M post := by
      intro v1 e2
      subst v1
      exact ev_rz (pt_62_39 w) (z1_ite z1_1 z1_0) (h1 c1)
    refine ev_zne (pc' := 34) (pt_62_31 w) rfl (fun c2 => ?_) (fun c2 => ?_)
    · refine ev_k (pc' := 39) (pt_62_38 w) rfl ?_
      exact j1 _ (if_neg c2).symm
    · refine ev_k (pc' := 35) (pt_62_34 w) rfl ?_
      refine ev_g (pt_62_35 w) ?_
      exact j1 _ (if_pos c2).symm
  · refine ev_il (pc' := 14) (pt_62_13 w) rfl rfl ?_
    refine ev_zle (pc' := 17) (pt_62_14 w) rfl (fun c3 => ?_) (fun c3 => ?_)
    · refine ev_il (pc' := 31) (pt_62_30 w) rfl rfl ?_
      have j2 : ∀ v3 : Int32, v3 = (if x3 = 0 then 1 else 0 : Int32) → gE w 62 39 [some (.ref 12), some (.ref 1), some (.int x2), some (.int x3), some (.int x4)] [.int v3] M post := by
        intro v3 e4
        subst v3
        exact ev_rz (pt_62_39 w) (z1_ite z1_1 z1_0) (h2 c1 c3)
      refine ev_zne (pc' := 34) (pt_62_31 w) rfl (fun c4 => ?_) (fun c4 => ?_)
      · refine ev_k (pc' := 39) (pt_62_38 w) rfl ?_
        exact j2 _ (if_neg c4).symm
      · refine ev_k (pc' := 35) (pt_62_34 w) rfl ?_
        refine ev_g (pt_62_35 w) ?_
        exact j2 _ (if_pos c4).symm
    · refine ev_al (pc' := 18) (pt_62_17 w) rfl rfl ?_
      refine ev_al (pc' := 19) (pt_62_18 w) rfl rfl ?_
      refine ev_il (pc' := 20) (pt_62_19 w) rfl rfl ?_
      exact ev_cal (pc' := 23) (pt_62_20 w) (vs := [.ref 12, .ref 1, .int x2]) (rest := []) (en := [some (.ref 12), some (.ref 1), some (.int x2), none, none]) rfl rfl rfl rfl rfl rfl rfl (h3 c1 c3)

theorem wk_62_23 {w : qS} {M : qM} {x2 x4 s0 : Int32} {o3 : Option Value} {post : qR}
    (h1 : gE w 62 6 [some (.ref 12), some (.ref 1), some (.int x2), some (.int s0), some (.int (x4 + 1))] [] M post) :
    gE w 62 23 [some (.ref 12), some (.ref 1), some (.int x2), o3, some (.int x4)] [.int s0] M post := by
  refine ev_is (pc' := 24) (loc1 := [some (.ref 12), some (.ref 1), some (.int x2), some (.int s0), some (.int x4)]) (pt_62_23 w) rfl rfl ?_
  refine ev_inc (pc' := 27) (loc1 := [some (.ref 12), some (.ref 1), some (.int x2), some (.int s0), some (.int (x4 + 1))]) (pt_62_24 w) rfl rfl rfl ?_
  refine ev_g (pt_62_27 w) ?_
  exact h1

-- BoardDesk$Router.connect(LBoardDesk$Board;I)I
theorem wk_63_0 {w : qS} {M : qM} {x2 : Int32} {post : qR}
    (h1 : gE w 64 0 [some (.ref 12), some (.ref 1), some (.int x2), none, none] [] M (fun r M' => gE w 63 6 [some (.ref 12), some (.ref 1), some (.int x2), none, none] (r.toList ++ []) M' post)) :
    gE w 63 0 [some (.ref 12), some (.ref 1), some (.int x2), none, none] [] M post := by
  refine ev_al (pc' := 1) (pt_63_0 w) rfl rfl ?_
  refine ev_al (pc' := 2) (pt_63_1 w) rfl rfl ?_
  refine ev_il (pc' := 3) (pt_63_2 w) rfl rfl ?_
  exact ev_cal (pc' := 6) (pt_63_3 w) (vs := [.ref 12, .ref 1, .int x2]) (rest := []) (en := [some (.ref 12), some (.ref 1), some (.int x2), none, none]) rfl rfl rfl rfl rfl rfl rfl h1

theorem wk_63_6 {w : qS} {M : qM} {x2 s0 : Int32} {o3 o4 : Option Value} {post : qR}
    (h1 : (c1 : ¬ s0 = (-1)) → gE w 67 0 [some (.ref 12), some (.ref 1), some (.int x2), some (.int s0), none, none] [] M (fun r M' => gE w 63 21 [some (.ref 12), some (.ref 1), some (.int x2), some (.int s0), o4] (r.toList ++ []) M' post))
    (h2 : (c1 : s0 = (-1)) → post (some (.int 0)) M) :
    gE w 63 6 [some (.ref 12), some (.ref 1), some (.int x2), o3, o4] [.int s0] M post := by
  refine ev_is (pc' := 7) (loc1 := [some (.ref 12), some (.ref 1), some (.int x2), some (.int s0), o4]) (pt_63_6 w) rfl rfl ?_
  refine ev_il (pc' := 8) (pt_63_7 w) rfl rfl ?_
  refine ev_k (pc' := 9) (pt_63_8 w) rfl ?_
  refine ev_cne (pc' := 12) (pt_63_9 w) rfl (fun c1 => ?_) (fun c1 => ?_)
  · refine ev_al (pc' := 15) (pt_63_14 w) rfl rfl ?_
    refine ev_al (pc' := 16) (pt_63_15 w) rfl rfl ?_
    refine ev_il (pc' := 17) (pt_63_16 w) rfl rfl ?_
    refine ev_il (pc' := 18) (pt_63_17 w) rfl rfl ?_
    exact ev_cal (pc' := 21) (pt_63_18 w) (vs := [.ref 12, .ref 1, .int x2, .int s0]) (rest := []) (en := [some (.ref 12), some (.ref 1), some (.int x2), some (.int s0), none, none]) rfl rfl rfl rfl rfl rfl rfl (h1 c1)
  · refine ev_k (pc' := 13) (pt_63_12 w) rfl ?_
    exact ev_ri1 (pt_63_13 w) (h2 c1)

theorem wk_63_21 {w : qS} {M : qM} {x3 : Int32} {o2 o4 : Option Value} {r1 : Int32} {post : qR}
    (k1 : gE w 70 0 [some (.ref 12), some (.ref 1), some (.int x3), none, none] [] M (qv1 M r1))
    (b2 : vp_in r1 240)
    (h3 : (c1 : ¬ (M 16 r1.toNatClampNeg) = (iN 1000000)) → gE w 71 0 [some (.ref 12), some (.ref 1), some (.int r1), some (.int x3), none, none, none] [] M (fun r M' => gE w 63 52 [some (.ref 12), some (.ref 1), o2, some (.int x3), some (.int r1)] (r.toList ++ []) M' post))
    (h4 : (c1 : (M 16 r1.toNatClampNeg) = (iN 1000000)) → post (some (.int (-2))) M) :
    gE w 63 21 [some (.ref 12), some (.ref 1), o2, some (.int x3), o4] [] M post := by
  refine ev_al (pc' := 22) (pt_63_21 w) rfl rfl ?_
  refine ev_al (pc' := 23) (pt_63_22 w) rfl rfl ?_
  refine ev_il (pc' := 24) (pt_63_23 w) rfl rfl ?_
  refine ev_cal1 (pc' := 27) (pt_63_24 w) (vs := [.ref 12, .ref 1, .int x3]) (rest := []) (en := [some (.ref 12), some (.ref 1), some (.int x3), none, none]) rfl rfl rfl rfl rfl rfl rfl k1 ?_
  refine ev_is (pc' := 29) (loc1 := [some (.ref 12), some (.ref 1), o2, some (.int x3), some (.int r1)]) (pt_63_27 w) rfl rfl ?_
  refine ev_al (pc' := 30) (pt_63_29 w) rfl rfl ?_
  refine ev_getr (pc' := 33) (pt_63_30 w) rfl rfl rfl ?_
  refine ev_il (pc' := 35) (pt_63_33 w) rfl rfl ?_
  refine ev_ia (pc' := 36) (pt_63_35 w) rfl rfl b2 ?_
  refine ev_k (pc' := 38) (pt_63_36 w) rfl ?_
  refine ev_cne (pc' := 41) (pt_63_38 w) rfl (fun c1 => ?_) (fun c1 => ?_)
  · refine ev_al (pc' := 45) (pt_63_44 w) rfl rfl ?_
    refine ev_al (pc' := 46) (pt_63_45 w) rfl rfl ?_
    refine ev_il (pc' := 48) (pt_63_46 w) rfl rfl ?_
    refine ev_il (pc' := 49) (pt_63_48 w) rfl rfl ?_
    exact ev_cal (pc' := 52) (pt_63_49 w) (vs := [.ref 12, .ref 1, .int r1, .int x3]) (rest := []) (en := [some (.ref 12), some (.ref 1), some (.int r1), some (.int x3), none, none, none]) rfl rfl rfl rfl rfl rfl rfl (h3 c1)
  · refine ev_k (pc' := 43) (pt_63_41 w) rfl ?_
    exact ev_ri1 (pt_63_43 w) (h4 c1)

theorem wk_63_52 {w : qS} {M : qM} {x4 : Int32} {o1 o2 o3 : Option Value} {post : qR}
    (b1 : vp_in x4 240)
    (h2 : post (some (.int (M 16 x4.toNatClampNeg))) M) :
    gE w 63 52 [some (.ref 12), o1, o2, o3, some (.int x4)] [] M post := by
  refine ev_al (pc' := 53) (pt_63_52 w) rfl rfl ?_
  refine ev_getr (pc' := 56) (pt_63_53 w) rfl rfl rfl ?_
  refine ev_il (pc' := 58) (pt_63_56 w) rfl rfl ?_
  refine ev_ia (pc' := 59) (pt_63_58 w) rfl rfl b1 ?_
  exact ev_ri1 (pt_63_59 w) h2

-- BoardDesk$Router.missingPin(LBoardDesk$Board;I)I
theorem wk_64_0 {w : qS} {M : qM} {x2 : Int32} {post : qR}
    (h1 : gE w 64 5 [some (.ref 12), some (.ref 1), some (.int x2), some (.int 0), some (.int 0)] [] M post) :
    gE w 64 0 [some (.ref 12), some (.ref 1), some (.int x2), none, none] [] M post := by
  refine ev_k (pc' := 1) (pt_64_0 w) rfl ?_
  refine ev_is (pc' := 2) (loc1 := [some (.ref 12), some (.ref 1), some (.int x2), some (.int 0), none]) (pt_64_1 w) rfl rfl ?_
  refine ev_k (pc' := 3) (pt_64_2 w) rfl ?_
  refine ev_is (pc' := 5) (loc1 := [some (.ref 12), some (.ref 1), some (.int x2), some (.int 0), some (.int 0)]) (pt_64_3 w) rfl rfl ?_
  exact h1

theorem wk_64_5 {w : qS} {M : qM} {x2 x3 x4 : Int32} {r1 : Int32} {r2 : Int32} {r3 : Int32} {post : qR}
    (h1 : (c1 : ¬ x4 < (M 2 6)) → post (some (.int (-1))) M)
    (k2 : (c1 : x4 < (M 2 6)) → gE w 31 0 [some (.ref 1), some (.int x4)] [] M (qv1 M r1))
    (h3 : (c1 : x4 < (M 2 6)) → (c2 : ¬ r1 = x2) → gE w 64 5 [some (.ref 12), some (.ref 1), some (.int x2), some (.int x3), some (.int (x4 + 1))] [] M post)
    (k4 : (c1 : x4 < (M 2 6)) → (c2 : r1 = x2) → gE w 30 0 [some (.ref 1), some (.int x4)] [] M (qv1 M r2))
    (k5 : (c1 : x4 < (M 2 6)) → (c2 : r1 = x2) → (c3 : ¬ r2 = 0) → (c4 : ¬ x3 = 0) → gE w 35 0 [some (.ref 1), some (.int x4)] [] M (qv1 M r3))
    (b6 : (c1 : x4 < (M 2 6)) → (c2 : r1 = x2) → (c3 : ¬ r2 = 0) → (c4 : ¬ x3 = 0) → vp_in r3 240)
    (h7 : (c1 : x4 < (M 2 6)) → (c2 : r1 = x2) → (c3 : ¬ r2 = 0) → (c4 : ¬ x3 = 0) → (c5 : ¬ (M 13 r3.toNatClampNeg) = 0) → gE w 64 5 [some (.ref 12), some (.ref 1), some (.int x2), some (.int x3), some (.int (x4 + 1))] [] M post)
    (h8 : (c1 : x4 < (M 2 6)) → (c2 : r1 = x2) → (c3 : ¬ r2 = 0) → (c4 : ¬ x3 = 0) → (c5 : (M 13 r3.toNatClampNeg) = 0) → post (some (.int x4)) M)
    (k9 : (c1 : x4 < (M 2 6)) → (c2 : r1 = x2) → (c3 : ¬ r2 = 0) → (c4 : x3 = 0) → gE w 35 0 [some (.ref 1), some (.int x4)] [] M (qv1 M r3))
    (h10 : (c1 : x4 < (M 2 6)) → (c2 : r1 = x2) → (c3 : ¬ r2 = 0) → (c4 : x3 = 0) → gE w 65 0 [some (.ref 12), some (.ref 1), some (.int x2), some (.int r3), none, none, none] [] M (fun r M' => gE w 64 55 [some (.ref 12), some (.ref 1), some (.int x2), some (.int x3), some (.int x4)] (r.toList ++ []) M' post))
    (h11 : (c1 : x4 < (M 2 6)) → (c2 : r1 = x2) → (c3 : r2 = 0) → gE w 64 5 [some (.ref 12), some (.ref 1), some (.int x2), some (.int x3), some (.int (x4 + 1))] [] M post) :
    gE w 64 5 [some (.ref 12), some (.ref 1), some (.int x2), some (.int x3), some (.int x4)] [] M post := by
  refine ev_il (pc' := 7) (pt_64_5 w) rfl rfl ?_
  refine ev_al (pc' := 8) (pt_64_7 w) rfl rfl ?_
  refine ev_getr (pc' := 11) (pt_64_8 w) rfl rfl rfl ?_
  refine ev_geti (pc' := 14) (pt_64_11 w) rfl rfl rfl ?_
  refine ev_cge (pc' := 17) (pt_64_14 w) rfl (fun c1 => ?_) (fun c1 => ?_)
  · refine ev_k (pc' := 84) (pt_64_83 w) rfl ?_
    exact ev_ri1 (pt_64_84 w) (h1 c1)
  · refine ev_al (pc' := 18) (pt_64_17 w) rfl rfl ?_
    refine ev_il (pc' := 20) (pt_64_18 w) rfl rfl ?_
    refine ev_cal1 (pc' := 23) (pt_64_20 w) (vs := [.ref 1, .int x4]) (rest := []) (en := [some (.ref 1), some (.int x4)]) rfl rfl rfl rfl rfl rfl rfl (k2 c1) ?_
    refine ev_il (pc' := 24) (pt_64_23 w) rfl rfl ?_
    refine ev_cne (pc' := 27) (pt_64_24 w) rfl (fun c2 => ?_) (fun c2 => ?_)
    · refine ev_inc (pc' := 80) (loc1 := [some (.ref 12), some (.ref 1), some (.int x2), some (.int x3), some (.int (x4 + 1))]) (pt_64_77 w) rfl rfl rfl ?_
      refine ev_g (pt_64_80 w) ?_
      exact (h3 c1 c2)
    · refine ev_al (pc' := 28) (pt_64_27 w) rfl rfl ?_
      refine ev_il (pc' := 30) (pt_64_28 w) rfl rfl ?_
      refine ev_cal1 (pc' := 33) (pt_64_30 w) (vs := [.ref 1, .int x4]) (rest := []) (en := [some (.ref 1), some (.int x4)]) rfl rfl rfl rfl rfl rfl rfl (k4 c1 c2) ?_
      refine ev_zne (pc' := 36) (pt_64_33 w) rfl (fun c3 => ?_) (fun c3 => ?_)
      · refine ev_il (pc' := 40) (pt_64_39 w) rfl rfl ?_
        refine ev_zne (pc' := 43) (pt_64_40 w) rfl (fun c4 => ?_) (fun c4 => ?_)
        · refine ev_al (pc' := 61) (pt_64_60 w) rfl rfl ?_
          refine ev_getr (pc' := 64) (pt_64_61 w) rfl rfl rfl ?_
          refine ev_al (pc' := 65) (pt_64_64 w) rfl rfl ?_
          refine ev_il (pc' := 67) (pt_64_65 w) rfl rfl ?_
          refine ev_cal1 (pc' := 70) (pt_64_67 w) (vs := [.ref 1, .int x4]) (rest := [.ref 13]) (en := [some (.ref 1), some (.int x4)]) rfl rfl rfl rfl rfl rfl rfl (k5 c1 c2 c3 c4) ?_
          refine ev_za (pc' := 71) (pt_64_70 w) rfl rfl (b6 c1 c2 c3 c4) ?_
          refine ev_zne (pc' := 74) (pt_64_71 w) rfl (fun c5 => ?_) (fun c5 => ?_)
          · refine ev_inc (pc' := 80) (loc1 := [some (.ref 12), some (.ref 1), some (.int x2), some (.int x3), some (.int (x4 + 1))]) (pt_64_77 w) rfl rfl rfl ?_
            refine ev_g (pt_64_80 w) ?_
            exact (h7 c1 c2 c3 c4 c5)
          · refine ev_il (pc' := 76) (pt_64_74 w) rfl rfl ?_
            exact ev_ri1 (pt_64_76 w) (h8 c1 c2 c3 c4 c5)
        · refine ev_al (pc' := 44) (pt_64_43 w) rfl rfl ?_
          refine ev_al (pc' := 45) (pt_64_44 w) rfl rfl ?_
          refine ev_il (pc' := 46) (pt_64_45 w) rfl rfl ?_
          refine ev_al (pc' := 47) (pt_64_46 w) rfl rfl ?_
          refine ev_il (pc' := 49) (pt_64_47 w) rfl rfl ?_
          refine ev_cal1 (pc' := 52) (pt_64_49 w) (vs := [.ref 1, .int x4]) (rest := [.int x2, .ref 1, .ref 12]) (en := [some (.ref 1), some (.int x4)]) rfl rfl rfl rfl rfl rfl rfl (k9 c1 c2 c3 c4) ?_
          exact ev_cal (pc' := 55) (pt_64_52 w) (vs := [.ref 12, .ref 1, .int x2, .int r3]) (rest := []) (en := [some (.ref 12), some (.ref 1), some (.int x2), some (.int r3), none, none, none]) rfl rfl rfl rfl rfl rfl rfl (h10 c1 c2 c3 c4)
      · refine ev_g (pt_64_36 w) ?_
        refine ev_inc (pc' := 80) (loc1 := [some (.ref 12), some (.ref 1), some (.int x2), some (.int x3), some (.int (x4 + 1))]) (pt_64_77 w) rfl rfl rfl ?_
        refine ev_g (pt_64_80 w) ?_
        exact (h11 c1 c2 c3)

theorem wk_64_55 {w : qS} {M : qM} {x2 x4 : Int32} {o3 : Option Value} {post : qR}
    (h1 : gE w 64 5 [some (.ref 12), some (.ref 1), some (.int x2), some (.int 1), some (.int (x4 + 1))] [] M post) :
    gE w 64 55 [some (.ref 12), some (.ref 1), some (.int x2), o3, some (.int x4)] [] M post := by
  refine ev_k (pc' := 56) (pt_64_55 w) rfl ?_
  refine ev_is (pc' := 57) (loc1 := [some (.ref 12), some (.ref 1), some (.int x2), some (.int 1), some (.int x4)]) (pt_64_56 w) rfl rfl ?_
  refine ev_g (pt_64_57 w) ?_
  refine ev_inc (pc' := 80) (loc1 := [some (.ref 12), some (.ref 1), some (.int x2), some (.int 1), some (.int (x4 + 1))]) (pt_64_77 w) rfl rfl rfl ?_
  refine ev_g (pt_64_80 w) ?_
  exact h1

-- BoardDesk$Router.gatherPiece(LBoardDesk$Board;II)V
theorem wk_65_0 {w : qS} {M : qM} {x2 x3 : Int32} {post : qR}
    (h1 : gE w 65 3 [some (.ref 12), some (.ref 1), some (.int x2), some (.int x3), some (.int 0), none, none] [] M post) :
    gE w 65 0 [some (.ref 12), some (.ref 1), some (.int x2), some (.int x3), none, none, none] [] M post := by
  refine ev_k (pc' := 1) (pt_65_0 w) rfl ?_
  refine ev_is (pc' := 3) (loc1 := [some (.ref 12), some (.ref 1), some (.int x2), some (.int x3), some (.int 0), none, none]) (pt_65_1 w) rfl rfl ?_
  exact h1

theorem wk_65_3 {w : qS} {M : qM} {x2 x3 x4 : Int32} {o5 o6 : Option Value} {post : qR}
    (h1 : (c1 : ¬ x4 < (iN 240)) → gE w 66 0 [some (.ref 12), some (.int x3)] [] (ms M 12 2 0) (fun r M' => gE w 65 35 [some (.ref 12), some (.ref 1), some (.int x2), some (.int x3), some (.int x4), o5, o6] (r.toList ++ []) M' post))
    (b2 : (c1 : x4 < (iN 240)) → vp_in x4 240)
    (h3 : (c1 : x4 < (iN 240)) → gE w 65 3 [some (.ref 12), some (.ref 1), some (.int x2), some (.int x3), some (.int (x4 + 1)), o5, o6] [] (ms M 13 x4.toNatClampNeg 0) post) :
    gE w 65 3 [some (.ref 12), some (.ref 1), some (.int x2), some (.int x3), some (.int x4), o5, o6] [] M post := by
  refine ev_il (pc' := 5) (pt_65_3 w) rfl rfl ?_
  refine ev_k (pc' := 8) (pt_65_5 w) rfl ?_
  refine ev_cge (pc' := 11) (pt_65_8 w) rfl (fun c1 => ?_) (fun c1 => ?_)
  · refine ev_al (pc' := 26) (pt_65_25 w) rfl rfl ?_
    refine ev_k (pc' := 27) (pt_65_26 w) rfl ?_
    refine ev_put (pc' := 30) (pt_65_27 w) rfl rfl rfl ?_
    refine ev_al (pc' := 31) (pt_65_30 w) rfl rfl ?_
    refine ev_il (pc' := 32) (pt_65_31 w) rfl rfl ?_
    exact ev_cal (pc' := 35) (pt_65_32 w) (vs := [.ref 12, .int x3]) (rest := []) (en := [some (.ref 12), some (.int x3)]) rfl rfl rfl rfl rfl rfl rfl (h1 c1)
  · refine ev_al (pc' := 12) (pt_65_11 w) rfl rfl ?_
    refine ev_getr (pc' := 15) (pt_65_12 w) rfl rfl rfl ?_
    refine ev_il (pc' := 17) (pt_65_15 w) rfl rfl ?_
    refine ev_k (pc' := 18) (pt_65_17 w) rfl ?_
    refine ev_zasb (pc' := 19) (pt_65_18 w) rfl rfl (b2 c1) zb_0 ?_
    refine ev_inc (pc' := 22) (loc1 := [some (.ref 12), some (.ref 1), some (.int x2), some (.int x3), some (.int (x4 + 1)), o5, o6]) (pt_65_19 w) rfl rfl rfl ?_
    refine ev_g (pt_65_22 w) ?_
    exact (h3 c1)

theorem wk_65_35 {w : qS} {M : qM} {x2 : Int32} {o3 o4 o5 o6 : Option Value} {post : qR}
    (h1 : gE w 65 38 [some (.ref 12), some (.ref 1), some (.int x2), o3, some (.int 0), o5, o6] [] M post) :
    gE w 65 35 [some (.ref 12), some (.ref 1), some (.int x2), o3, o4, o5, o6] [] M post := by
  refine ev_k (pc' := 36) (pt_65_35 w) rfl ?_
  refine ev_is (pc' := 38) (loc1 := [some (.ref 12), some (.ref 1), some (.int x2), o3, some (.int 0), o5, o6]) (pt_65_36 w) rfl rfl ?_
  exact h1

theorem wk_65_38 {w : qS} {M : qM} {x2 x4 : Int32} {o3 o5 o6 : Option Value} {post : qR}
    (h1 : (c1 : ¬ x4 < (iN 240)) → post none M)
    (h2 : (c1 : x4 < (iN 240)) → (c2 : ¬ x4 < (M 12 2)) → post none M)
    (h3 : (c1 : x4 < (iN 240)) → (c2 : x4 < (M 12 2)) → gE w 65 58 [some (.ref 12), some (.ref 1), some (.int x2), o3, some (.int x4), some (.int 0), o6] [] M post) :
    gE w 65 38 [some (.ref 12), some (.ref 1), some (.int x2), o3, some (.int x4), o5, o6] [] M post := by
  refine ev_il (pc' := 40) (pt_65_38 w) rfl rfl ?_
  refine ev_k (pc' := 43) (pt_65_40 w) rfl ?_
  refine ev_cge (pc' := 46) (pt_65_43 w) rfl (fun c1 => ?_) (fun c1 => ?_)
  · exact ev_rv (pt_65_113 w) (h1 c1)
  · refine ev_il (pc' := 48) (pt_65_46 w) rfl rfl ?_
    refine ev_al (pc' := 49) (pt_65_48 w) rfl rfl ?_
    refine ev_geti (pc' := 52) (pt_65_49 w) rfl rfl rfl ?_
    refine ev_cge (pc' := 55) (pt_65_52 w) rfl (fun c2 => ?_) (fun c2 => ?_)
    · exact ev_rv (pt_65_113 w) (h2 c1 c2)
    · refine ev_k (pc' := 56) (pt_65_55 w) rfl ?_
      refine ev_is (pc' := 58) (loc1 := [some (.ref 12), some (.ref 1), some (.int x2), o3, some (.int x4), some (.int 0), o6]) (pt_65_56 w) rfl rfl ?_
      exact (h3 c1 c2)

theorem wk_65_58 {w : qS} {M : qM} {x2 x4 x5 : Int32} {o3 o6 : Option Value} {r1 : Int32} {r2 : Int32} {post : qR}
    (h1 : (c1 : ¬ x5 < (iN 9)) → gE w 65 38 [some (.ref 12), some (.ref 1), some (.int x2), o3, some (.int (x4 + 1)), some (.int x5), o6] [] M post)
    (b2 : (c1 : x5 < (iN 9)) → vp_in x4 240)
    (k3 : (c1 : x5 < (iN 9)) → gE w 28 0 [some (.int (M 14 x4.toNatClampNeg)), some (.int x5)] [] M (qv1 M r1))
    (h4 : (c1 : x5 < (iN 9)) → (c2 : r1 = (-1)) → gE w 65 101 [some (.ref 12), some (.ref 1), some (.int x2), o3, some (.int x4), some (.int x5), some (.int r1)] [] M post)
    (k5 : (c1 : x5 < (iN 9)) → (c2 : ¬ r1 = (-1)) → gE w 32 0 [some (.ref 1), some (.int r1), none] [] M (qv1 M r2))
    (h6 : (c1 : x5 < (iN 9)) → (c2 : ¬ r1 = (-1)) → (c3 : ¬ r2 = x2) → gE w 65 101 [some (.ref 12), some (.ref 1), some (.int x2), o3, some (.int x4), some (.int x5), some (.int r1)] [] M post)
    (h7 : (c1 : x5 < (iN 9)) → (c2 : ¬ r1 = (-1)) → (c3 : r2 = x2) → gE w 66 0 [some (.ref 12), some (.int r1)] [] M (fun r M' => gE w 65 101 [some (.ref 12), some (.ref 1), some (.int x2), o3, some (.int x4), some (.int x5), some (.int r1)] (r.toList ++ []) M' post)) :
    gE w 65 58 [some (.ref 12), some (.ref 1), some (.int x2), o3, some (.int x4), some (.int x5), o6] [] M post := by
  refine ev_il (pc' := 60) (pt_65_58 w) rfl rfl ?_
  refine ev_k (pc' := 62) (pt_65_60 w) rfl ?_
  refine ev_cge (pc' := 65) (pt_65_62 w) rfl (fun c1 => ?_) (fun c1 => ?_)
  · refine ev_inc (pc' := 110) (loc1 := [some (.ref 12), some (.ref 1), some (.int x2), o3, some (.int (x4 + 1)), some (.int x5), o6]) (pt_65_107 w) rfl rfl rfl ?_
    refine ev_g (pt_65_110 w) ?_
    exact (h1 c1)
  · refine ev_al (pc' := 66) (pt_65_65 w) rfl rfl ?_
    refine ev_getr (pc' := 69) (pt_65_66 w) rfl rfl rfl ?_
    refine ev_il (pc' := 71) (pt_65_69 w) rfl rfl ?_
    refine ev_ia (pc' := 72) (pt_65_71 w) rfl rfl (b2 c1) ?_
    refine ev_il (pc' := 74) (pt_65_72 w) rfl rfl ?_
    refine ev_cal1 (pc' := 77) (pt_65_74 w) (vs := [.int (M 14 x4.toNatClampNeg), .int x5]) (rest := []) (en := [some (.int (M 14 x4.toNatClampNeg)), some (.int x5)]) rfl rfl rfl rfl trivial rfl rfl (k3 c1) ?_
    refine ev_is (pc' := 79) (loc1 := [some (.ref 12), some (.ref 1), some (.int x2), o3, some (.int x4), some (.int x5), some (.int r1)]) (pt_65_77 w) rfl rfl ?_
    refine ev_il (pc' := 81) (pt_65_79 w) rfl rfl ?_
    refine ev_k (pc' := 82) (pt_65_81 w) rfl ?_
    refine ev_ceq (pc' := 85) (pt_65_82 w) rfl (fun c2 => ?_) (fun c2 => ?_)
    · exact (h4 c1 c2)
    · refine ev_al (pc' := 86) (pt_65_85 w) rfl rfl ?_
      refine ev_il (pc' := 88) (pt_65_86 w) rfl rfl ?_
      refine ev_cal1 (pc' := 91) (pt_65_88 w) (vs := [.ref 1, .int r1]) (rest := []) (en := [some (.ref 1), some (.int r1), none]) rfl rfl rfl rfl rfl rfl rfl (k5 c1 c2) ?_
      refine ev_il (pc' := 92) (pt_65_91 w) rfl rfl ?_
      refine ev_cne (pc' := 95) (pt_65_92 w) rfl (fun c3 => ?_) (fun c3 => ?_)
      · exact (h6 c1 c2 c3)
      · refine ev_al (pc' := 96) (pt_65_95 w) rfl rfl ?_
        refine ev_il (pc' := 98) (pt_65_96 w) rfl rfl ?_
        exact ev_cal (pc' := 101) (pt_65_98 w) (vs := [.ref 12, .int r1]) (rest := []) (en := [some (.ref 12), some (.int r1)]) rfl rfl rfl rfl rfl rfl rfl (h7 c1 c2 c3)

theorem wk_65_101 {w : qS} {M : qM} {x2 x4 x5 : Int32} {o3 o6 : Option Value} {post : qR}
    (h1 : gE w 65 58 [some (.ref 12), some (.ref 1), some (.int x2), o3, some (.int x4), some (.int (x5 + 1)), o6] [] M post) :
    gE w 65 101 [some (.ref 12), some (.ref 1), some (.int x2), o3, some (.int x4), some (.int x5), o6] [] M post := by
  refine ev_inc (pc' := 104) (loc1 := [some (.ref 12), some (.ref 1), some (.int x2), o3, some (.int x4), some (.int (x5 + 1)), o6]) (pt_65_101 w) rfl rfl rfl ?_
  refine ev_g (pt_65_104 w) ?_
  exact h1

-- BoardDesk$Router.addToPiece(I)V
theorem wk_66_0 {w : qS} {M : qM} {x1 : Int32} {post : qR}
    (b1 : vp_in x1 240)
    (h2 : (c1 : ¬ (M 13 x1.toNatClampNeg) = 0) → post none M)
    (h3 : (c1 : (M 13 x1.toNatClampNeg) = 0) → (c2 : ¬ (M 12 2) < (iN 240)) → post none M)
    (b4 : (c1 : (M 13 x1.toNatClampNeg) = 0) → (c2 : (M 12 2) < (iN 240)) → vp_in ((ms M 13 x1.toNatClampNeg 1) 12 2) 240)
    (h5 : (c1 : (M 13 x1.toNatClampNeg) = 0) → (c2 : (M 12 2) < (iN 240)) → post none (ms (ms (ms M 13 x1.toNatClampNeg 1) 14 ((ms M 13 x1.toNatClampNeg 1) 12 2).toNatClampNeg x1) 12 2 (((ms (ms M 13 x1.toNatClampNeg 1) 14 ((ms M 13 x1.toNatClampNeg 1) 12 2).toNatClampNeg x1) 12 2) + 1))) :
    gE w 66 0 [some (.ref 12), some (.int x1)] [] M post := by
  refine ev_al (pc' := 1) (pt_66_0 w) rfl rfl ?_
  refine ev_getr (pc' := 4) (pt_66_1 w) rfl rfl rfl ?_
  refine ev_il (pc' := 5) (pt_66_4 w) rfl rfl ?_
  refine ev_za (pc' := 6) (pt_66_5 w) rfl rfl b1 ?_
  refine ev_zne (pc' := 9) (pt_66_6 w) rfl (fun c1 => ?_) (fun c1 => ?_)
  · exact ev_rv (pt_66_46 w) (h2 c1)
  · refine ev_al (pc' := 10) (pt_66_9 w) rfl rfl ?_
    refine ev_geti (pc' := 13) (pt_66_10 w) rfl rfl rfl ?_
    refine ev_k (pc' := 16) (pt_66_13 w) rfl ?_
    refine ev_cge (pc' := 19) (pt_66_16 w) rfl (fun c2 => ?_) (fun c2 => ?_)
    · exact ev_rv (pt_66_46 w) (h3 c1 c2)
    · refine ev_al (pc' := 20) (pt_66_19 w) rfl rfl ?_
      refine ev_getr (pc' := 23) (pt_66_20 w) rfl rfl rfl ?_
      refine ev_il (pc' := 24) (pt_66_23 w) rfl rfl ?_
      refine ev_k (pc' := 25) (pt_66_24 w) rfl ?_
      refine ev_zasb (pc' := 26) (pt_66_25 w) rfl rfl b1 zb_1 ?_
      refine ev_al (pc' := 27) (pt_66_26 w) rfl rfl ?_
      refine ev_getr (pc' := 30) (pt_66_27 w) rfl rfl rfl ?_
      refine ev_al (pc' := 31) (pt_66_30 w) rfl rfl ?_
      refine ev_geti (pc' := 34) (pt_66_31 w) rfl rfl rfl ?_
      refine ev_il (pc' := 35) (pt_66_34 w) rfl rfl ?_
      refine ev_ias (pc' := 36) (pt_66_35 w) rfl rfl (b4 c1 c2) ?_
      refine ev_al (pc' := 37) (pt_66_36 w) rfl rfl ?_
      refine ev_dup (pc' := 38) (pt_66_37 w) rfl rfl ?_
      refine ev_geti (pc' := 41) (pt_66_38 w) rfl rfl rfl ?_
      refine ev_k (pc' := 42) (pt_66_41 w) rfl ?_
      refine ev_b (pc' := 43) (pt_66_42 w) rfl ?_
      refine ev_put (pc' := 46) (pt_66_43 w) rfl rfl rfl ?_
      exact ev_rv (pt_66_46 w) (h5 c1 c2)

-- BoardDesk$Router.measure(LBoardDesk$Board;II)V
theorem wk_67_0 {w : qS} {M : qM} {x2 x3 : Int32} {post : qR}
    (h1 : gE w 67 3 [some (.ref 12), some (.ref 1), some (.int x2), some (.int x3), some (.int 0), none] [] M post) :
    gE w 67 0 [some (.ref 12), some (.ref 1), some (.int x2), some (.int x3), none, none] [] M post := by
  refine ev_k (pc' := 1) (pt_67_0 w) rfl ?_
  refine ev_is (pc' := 3) (loc1 := [some (.ref 12), some (.ref 1), some (.int x2), some (.int x3), some (.int 0), none]) (pt_67_1 w) rfl rfl ?_
  exact h1

theorem wk_67_3 {w : qS} {M : qM} {x2 x3 x4 : Int32} {o5 : Option Value} {r1 : Int32} {post : qR}
    (h1 : (c1 : ¬ x4 < (iN 240)) → gE w 73 0 [some (.ref 17), none] [] M (fun r M' => gE w 67 47 [some (.ref 12), some (.ref 1), some (.int x2), some (.int x3), some (.int x4), o5] (r.toList ++ []) M' post))
    (k2 : (c1 : x4 < (iN 240)) → gE w 36 0 [some (.ref 1), some (.int x4), some (.int x2), none, none, none, none, none] [] M (qv1 M r1))
    (n3 : (c1 : x4 < (iN 240)) → vp_nar .boolean r1 = r1)
    (b4 : (c1 : x4 < (iN 240)) → vp_in x4 240)
    (h5 : (c1 : x4 < (iN 240)) → gE w 67 3 [some (.ref 12), some (.ref 1), some (.int x2), some (.int x3), some (.int (x4 + 1)), o5] [] (ms (ms M 15 x4.toNatClampNeg r1) 16 x4.toNatClampNeg (iN 1000000)) post) :
    gE w 67 3 [some (.ref 12), some (.ref 1), some (.int x2), some (.int x3), some (.int x4), o5] [] M post := by
  refine ev_il (pc' := 5) (pt_67_3 w) rfl rfl ?_
  refine ev_k (pc' := 8) (pt_67_5 w) rfl ?_
  refine ev_cge (pc' := 11) (pt_67_8 w) rfl (fun c1 => ?_) (fun c1 => ?_)
  · refine ev_al (pc' := 41) (pt_67_40 w) rfl rfl ?_
    refine ev_getr (pc' := 44) (pt_67_41 w) rfl rfl rfl ?_
    exact ev_cal (pc' := 47) (pt_67_44 w) (vs := [.ref 17]) (rest := []) (en := [some (.ref 17), none]) rfl rfl rfl rfl rfl rfl rfl (h1 c1)
  · refine ev_al (pc' := 12) (pt_67_11 w) rfl rfl ?_
    refine ev_getr (pc' := 15) (pt_67_12 w) rfl rfl rfl ?_
    refine ev_il (pc' := 17) (pt_67_15 w) rfl rfl ?_
    refine ev_al (pc' := 18) (pt_67_17 w) rfl rfl ?_
    refine ev_il (pc' := 20) (pt_67_18 w) rfl rfl ?_
    refine ev_il (pc' := 21) (pt_67_20 w) rfl rfl ?_
    refine ev_cal1 (pc' := 24) (pt_67_21 w) (vs := [.ref 1, .int x4, .int x2]) (rest := [.int x4, .ref 15]) (en := [some (.ref 1), some (.int x4), some (.int x2), none, none, none, none, none]) rfl rfl rfl rfl rfl rfl rfl (k2 c1) ?_
    refine ev_zasb (pc' := 25) (pt_67_24 w) rfl rfl (b4 c1) (n3 c1) ?_
    refine ev_al (pc' := 26) (pt_67_25 w) rfl rfl ?_
    refine ev_getr (pc' := 29) (pt_67_26 w) rfl rfl rfl ?_
    refine ev_il (pc' := 31) (pt_67_29 w) rfl rfl ?_
    refine ev_k (pc' := 33) (pt_67_31 w) rfl ?_
    refine ev_ias (pc' := 34) (pt_67_33 w) rfl rfl (b4 c1) ?_
    refine ev_inc (pc' := 37) (loc1 := [some (.ref 12), some (.ref 1), some (.int x2), some (.int x3), some (.int (x4 + 1)), o5]) (pt_67_34 w) rfl rfl rfl ?_
    refine ev_g (pt_67_37 w) ?_
    exact (h5 c1)

theorem wk_67_47 {w : qS} {M : qM} {x3 : Int32} {o2 o4 o5 : Option Value} {post : qR}
    (h1 : gE w 67 50 [some (.ref 12), some (.ref 1), o2, some (.int x3), some (.int 0), o5] [] M post) :
    gE w 67 47 [some (.ref 12), some (.ref 1), o2, some (.int x3), o4, o5] [] M post := by
  refine ev_k (pc' := 48) (pt_67_47 w) rfl ?_
  refine ev_is (pc' := 50) (loc1 := [some (.ref 12), some (.ref 1), o2, some (.int x3), some (.int 0), o5]) (pt_67_48 w) rfl rfl ?_
  exact h1

theorem wk_67_50 {w : qS} {M : qM} {x3 x4 : Int32} {o2 o5 : Option Value} {post : qR}
    (h1 : (c1 : ¬ x4 < (M 12 2)) → gE w 67 96 [some (.ref 12), some (.ref 1), o2, some (.int x3), some (.int 0), o5] [] M post)
    (b2 : (c1 : x4 < (M 12 2)) → vp_in x4 240)
    (b3 : (c1 : x4 < (M 12 2)) → vp_in (M 14 x4.toNatClampNeg) 240)
    (h4 : (c1 : x4 < (M 12 2)) → gE w 74 0 [some (.ref 17), some (.int 0), some (.int ((ms M 16 (M 14 x4.toNatClampNeg).toNatClampNeg 0) 14 x4.toNatClampNeg))] [] (ms M 16 (M 14 x4.toNatClampNeg).toNatClampNeg 0) (fun r M' => gE w 67 87 [some (.ref 12), some (.ref 1), o2, some (.int x3), some (.int x4), o5] (r.toList ++ []) M' post)) :
    gE w 67 50 [some (.ref 12), some (.ref 1), o2, some (.int x3), some (.int x4), o5] [] M post := by
  refine ev_il (pc' := 52) (pt_67_50 w) rfl rfl ?_
  refine ev_al (pc' := 53) (pt_67_52 w) rfl rfl ?_
  refine ev_geti (pc' := 56) (pt_67_53 w) rfl rfl rfl ?_
  refine ev_cge (pc' := 59) (pt_67_56 w) rfl (fun c1 => ?_) (fun c1 => ?_)
  · refine ev_k (pc' := 94) (pt_67_93 w) rfl ?_
    refine ev_is (pc' := 96) (loc1 := [some (.ref 12), some (.ref 1), o2, some (.int x3), some (.int 0), o5]) (pt_67_94 w) rfl rfl ?_
    exact (h1 c1)
  · refine ev_al (pc' := 60) (pt_67_59 w) rfl rfl ?_
    refine ev_getr (pc' := 63) (pt_67_60 w) rfl rfl rfl ?_
    refine ev_al (pc' := 64) (pt_67_63 w) rfl rfl ?_
    refine ev_getr (pc' := 67) (pt_67_64 w) rfl rfl rfl ?_
    refine ev_il (pc' := 69) (pt_67_67 w) rfl rfl ?_
    refine ev_ia (pc' := 70) (pt_67_69 w) rfl rfl (b2 c1) ?_
    refine ev_k (pc' := 71) (pt_67_70 w) rfl ?_
    refine ev_ias (pc' := 72) (pt_67_71 w) rfl rfl (b3 c1) ?_
    refine ev_al (pc' := 73) (pt_67_72 w) rfl rfl ?_
    refine ev_getr (pc' := 76) (pt_67_73 w) rfl rfl rfl ?_
    refine ev_k (pc' := 77) (pt_67_76 w) rfl ?_
    refine ev_al (pc' := 78) (pt_67_77 w) rfl rfl ?_
    refine ev_getr (pc' := 81) (pt_67_78 w) rfl rfl rfl ?_
    refine ev_il (pc' := 83) (pt_67_81 w) rfl rfl ?_
    refine ev_ia (pc' := 84) (pt_67_83 w) rfl rfl (b2 c1) ?_
    exact ev_cal (pc' := 87) (pt_67_84 w) (vs := [.ref 17, .int 0, .int ((ms M 16 (M 14 x4.toNatClampNeg).toNatClampNeg 0) 14 x4.toNatClampNeg)]) (rest := []) (en := [some (.ref 17), some (.int 0), some (.int ((ms M 16 (M 14 x4.toNatClampNeg).toNatClampNeg 0) 14 x4.toNatClampNeg))]) rfl rfl rfl rfl rfl rfl rfl (h4 c1)

theorem wk_67_87 {w : qS} {M : qM} {x3 x4 : Int32} {o2 o5 : Option Value} {post : qR}
    (h1 : gE w 67 50 [some (.ref 12), some (.ref 1), o2, some (.int x3), some (.int (x4 + 1)), o5] [] M post) :
    gE w 67 87 [some (.ref 12), some (.ref 1), o2, some (.int x3), some (.int x4), o5] [] M post := by
  refine ev_inc (pc' := 90) (loc1 := [some (.ref 12), some (.ref 1), o2, some (.int x3), some (.int (x4 + 1)), o5]) (pt_67_87 w) rfl rfl rfl ?_
  refine ev_g (pt_67_90 w) ?_
  exact h1

theorem wk_67_96 {w : qS} {M : qM} {x3 x4 : Int32} {o2 o5 : Option Value} {post : qR}
    (h1 : (c1 : ¬ x4 < (iN 240)) → post none M)
    (h2 : (c1 : x4 < (iN 240)) → gE w 75 0 [some (.ref 17), some (.ref 16), none, none, none] [] M (fun r M' => gE w 67 115 [some (.ref 12), some (.ref 1), o2, some (.int x3), some (.int x4), o5] (r.toList ++ []) M' post)) :
    gE w 67 96 [some (.ref 12), some (.ref 1), o2, some (.int x3), some (.int x4), o5] [] M post := by
  refine ev_il (pc' := 98) (pt_67_96 w) rfl rfl ?_
  refine ev_k (pc' := 101) (pt_67_98 w) rfl ?_
  refine ev_cge (pc' := 104) (pt_67_101 w) rfl (fun c1 => ?_) (fun c1 => ?_)
  · exact ev_rv (pt_67_149 w) (h1 c1)
  · refine ev_al (pc' := 105) (pt_67_104 w) rfl rfl ?_
    refine ev_getr (pc' := 108) (pt_67_105 w) rfl rfl rfl ?_
    refine ev_al (pc' := 109) (pt_67_108 w) rfl rfl ?_
    refine ev_getr (pc' := 112) (pt_67_109 w) rfl rfl rfl ?_
    exact ev_cal (pc' := 115) (pt_67_112 w) (vs := [.ref 17, .ref 16]) (rest := []) (en := [some (.ref 17), some (.ref 16), none, none, none]) rfl rfl rfl rfl rfl rfl rfl (h2 c1)

theorem wk_67_115 {w : qS} {M : qM} {x3 x4 s0 : Int32} {o2 o5 : Option Value} {r1 : Int32} {post : qR}
    (k1 : (c1 : ¬ s0 = (-1)) → gE w 68 0 [some (.ref 12), some (.int s0)] [] M (qv1 M r1))
    (h2 : (c1 : ¬ s0 = (-1)) → (c2 : r1 = 0) → gE w 67 143 [some (.ref 12), some (.ref 1), o2, some (.int x3), some (.int x4), some (.int s0)] [] M post)
    (h3 : (c1 : ¬ s0 = (-1)) → (c2 : ¬ r1 = 0) → gE w 69 0 [some (.ref 12), some (.ref 1), some (.int s0), some (.int x3), none, none, none] [] M (fun r M' => gE w 67 143 [some (.ref 12), some (.ref 1), o2, some (.int x3), some (.int x4), some (.int s0)] (r.toList ++ []) M' post))
    (h4 : (c1 : s0 = (-1)) → post none M) :
    gE w 67 115 [some (.ref 12), some (.ref 1), o2, some (.int x3), some (.int x4), o5] [.int s0] M post := by
  refine ev_is (pc' := 117) (loc1 := [some (.ref 12), some (.ref 1), o2, some (.int x3), some (.int x4), some (.int s0)]) (pt_67_115 w) rfl rfl ?_
  refine ev_il (pc' := 119) (pt_67_117 w) rfl rfl ?_
  refine ev_k (pc' := 120) (pt_67_119 w) rfl ?_
  refine ev_cne (pc' := 123) (pt_67_120 w) rfl (fun c1 => ?_) (fun c1 => ?_)
  · refine ev_al (pc' := 127) (pt_67_126 w) rfl rfl ?_
    refine ev_il (pc' := 129) (pt_67_127 w) rfl rfl ?_
    refine ev_cal1 (pc' := 132) (pt_67_129 w) (vs := [.ref 12, .int s0]) (rest := []) (en := [some (.ref 12), some (.int s0)]) rfl rfl rfl rfl rfl rfl rfl (k1 c1) ?_
    refine ev_zeq (pc' := 135) (pt_67_132 w) rfl (fun c2 => ?_) (fun c2 => ?_)
    · exact (h2 c1 c2)
    · refine ev_al (pc' := 136) (pt_67_135 w) rfl rfl ?_
      refine ev_al (pc' := 137) (pt_67_136 w) rfl rfl ?_
      refine ev_il (pc' := 139) (pt_67_137 w) rfl rfl ?_
      refine ev_il (pc' := 140) (pt_67_139 w) rfl rfl ?_
      exact ev_cal (pc' := 143) (pt_67_140 w) (vs := [.ref 12, .ref 1, .int s0, .int x3]) (rest := []) (en := [some (.ref 12), some (.ref 1), some (.int s0), some (.int x3), none, none, none]) rfl rfl rfl rfl rfl rfl rfl (h3 c1 c2)
  · refine ev_g (pt_67_123 w) ?_
    exact ev_rv (pt_67_149 w) (h4 c1)

theorem wk_67_143 {w : qS} {M : qM} {x3 x4 : Int32} {o2 o5 : Option Value} {post : qR}
    (h1 : gE w 67 96 [some (.ref 12), some (.ref 1), o2, some (.int x3), some (.int (x4 + 1)), o5] [] M post) :
    gE w 67 143 [some (.ref 12), some (.ref 1), o2, some (.int x3), some (.int x4), o5] [] M post := by
  refine ev_inc (pc' := 146) (loc1 := [some (.ref 12), some (.ref 1), o2, some (.int x3), some (.int (x4 + 1)), o5]) (pt_67_143 w) rfl rfl rfl ?_
  refine ev_g (pt_67_146 w) ?_
  exact h1

-- BoardDesk$Router.isPassable(I)Z
theorem wk_68_0 {w : qS} {M : qM} {x1 : Int32} {post : qR}
    (b1 : vp_in x1 240)
    (h2 : post (some (.int (if (M 13 x1.toNatClampNeg) = 0 then (if (M 15 x1.toNatClampNeg) = 0 then 0 else 1 : Int32) else 1 : Int32))) M) :
    gE w 68 0 [some (.ref 12), some (.int x1)] [] M post := by
  refine ev_al (pc' := 1) (pt_68_0 w) rfl rfl ?_
  refine ev_getr (pc' := 4) (pt_68_1 w) rfl rfl rfl ?_
  refine ev_il (pc' := 5) (pt_68_4 w) rfl rfl ?_
  refine ev_za (pc' := 6) (pt_68_5 w) rfl rfl b1 ?_
  have j1 : ∀ v1 : Int32, v1 = (if (M 13 x1.toNatClampNeg) = 0 then (if (M 15 x1.toNatClampNeg) = 0 then 0 else 1 : Int32) else 1 : Int32) → gE w 68 23 [some (.ref 12), some (.int x1)] [.int v1] M post := by
    intro v1 e2
    subst v1
    exact ev_rz (pt_68_23 w) (z1_ite (z1_ite z1_0 z1_1) z1_1) h2
  refine ev_zne (pc' := 9) (pt_68_6 w) rfl (fun c1 => ?_) (fun c1 => ?_)
  · refine ev_k (pc' := 19) (pt_68_18 w) rfl ?_
    refine ev_g (pt_68_19 w) ?_
    exact j1 _ (if_neg c1).symm
  · refine ev_al (pc' := 10) (pt_68_9 w) rfl rfl ?_
    refine ev_getr (pc' := 13) (pt_68_10 w) rfl rfl rfl ?_
    refine ev_il (pc' := 14) (pt_68_13 w) rfl rfl ?_
    refine ev_za (pc' := 15) (pt_68_14 w) rfl rfl b1 ?_
    refine ev_zeq (pc' := 18) (pt_68_15 w) rfl (fun c2 => ?_) (fun c2 => ?_)
    · refine ev_k (pc' := 23) (pt_68_22 w) rfl ?_
      exact j1 _ ((if_pos c1).trans (if_pos c2)).symm
    · refine ev_k (pc' := 19) (pt_68_18 w) rfl ?_
      refine ev_g (pt_68_19 w) ?_
      exact j1 _ ((if_pos c1).trans (if_neg c2)).symm

-- BoardDesk$Router.spread(LBoardDesk$Board;II)V
theorem wk_69_0 {w : qS} {M : qM} {x2 x3 : Int32} {post : qR}
    (h1 : gE w 69 3 [some (.ref 12), some (.ref 1), some (.int x2), some (.int x3), some (.int 0), none, none] [] M post) :
    gE w 69 0 [some (.ref 12), some (.ref 1), some (.int x2), some (.int x3), none, none, none] [] M post := by
  refine ev_k (pc' := 1) (pt_69_0 w) rfl ?_
  refine ev_is (pc' := 3) (loc1 := [some (.ref 12), some (.ref 1), some (.int x2), some (.int x3), some (.int 0), none, none]) (pt_69_1 w) rfl rfl ?_
  exact h1

theorem wk_69_3 {w : qS} {M : qM} {x2 x3 x4 : Int32} {o5 o6 : Option Value} {r1 : Int32} {r2 : Int32} {post : qR}
    (h1 : (c1 : ¬ x4 < (iN 9)) → post none M)
    (k2 : (c1 : x4 < (iN 9)) → gE w 28 0 [some (.int x2), some (.int x4)] [] M (qv1 M r1))
    (h3 : (c1 : x4 < (iN 9)) → (c2 : r1 = (-1)) → gE w 69 107 [some (.ref 12), some (.ref 1), some (.int x2), some (.int x3), some (.int x4), some (.int r1), o6] [] M post)
    (b4 : (c1 : x4 < (iN 9)) → (c2 : ¬ r1 = (-1)) → vp_in r1 240)
    (b5 : (c1 : x4 < (iN 9)) → (c2 : ¬ r1 = (-1)) → (c3 : ¬ (M 15 r1.toNatClampNeg) = 0) → vp_in x2 240)
    (b6 : (c1 : x4 < (iN 9)) → (c2 : ¬ r1 = (-1)) → (c3 : ¬ (M 15 r1.toNatClampNeg) = 0) → vp_in x4 9)
    (h7 : (c1 : x4 < (iN 9)) → (c2 : ¬ r1 = (-1)) → (c3 : ¬ (M 15 r1.toNatClampNeg) = 0) → (c4 : ¬ ((M 16 x2.toNatClampNeg) + (tb_cost x4.toNatClampNeg)) < (M 16 r1.toNatClampNeg)) → gE w 69 107 [some (.ref 12), some (.ref 1), some (.int x2), some (.int x3), some (.int x4), some (.int r1), some (.int ((M 16 x2.toNatClampNeg) + (tb_cost x4.toNatClampNeg)))] [] M post)
    (h8 : (c1 : x4 < (iN 9)) → (c2 : ¬ r1 = (-1)) → (c3 : ¬ (M 15 r1.toNatClampNeg) = 0) → (c4 : ((M 16 x2.toNatClampNeg) + (tb_cost x4.toNatClampNeg)) < (M 16 r1.toNatClampNeg)) → gE w 74 0 [some (.ref 17), some (.int (if x4 = (iN 8) then (iN 2) else (x4 &&& 1) : Int32)), some (.int r1)] [] (ms M 16 r1.toNatClampNeg ((M 16 x2.toNatClampNeg) + (tb_cost x4.toNatClampNeg))) (fun r M' => gE w 69 107 [some (.ref 12), some (.ref 1), some (.int x2), some (.int x3), some (.int x4), some (.int r1), some (.int ((M 16 x2.toNatClampNeg) + (tb_cost x4.toNatClampNeg)))] (r.toList ++ []) M' post))
    (k9 : (c1 : x4 < (iN 9)) → (c2 : ¬ r1 = (-1)) → (c3 : (M 15 r1.toNatClampNeg) = 0) → gE w 33 0 [some (.ref 1), some (.int x3), some (.int r1), none] [] M (qv1 M r2))
    (b10 : (c1 : x4 < (iN 9)) → (c2 : ¬ r1 = (-1)) → (c3 : (M 15 r1.toNatClampNeg) = 0) → (c6 : ¬ r2 = 0) → vp_in x2 240)
    (b11 : (c1 : x4 < (iN 9)) → (c2 : ¬ r1 = (-1)) → (c3 : (M 15 r1.toNatClampNeg) = 0) → (c6 : ¬ r2 = 0) → vp_in x4 9)
    (h12 : (c1 : x4 < (iN 9)) → (c2 : ¬ r1 = (-1)) → (c3 : (M 15 r1.toNatClampNeg) = 0) → (c6 : ¬ r2 = 0) → (c7 : ¬ ((M 16 x2.toNatClampNeg) + (tb_cost x4.toNatClampNeg)) < (M 16 r1.toNatClampNeg)) → gE w 69 107 [some (.ref 12), some (.ref 1), some (.int x2), some (.int x3), some (.int x4), some (.int r1), some (.int ((M 16 x2.toNatClampNeg) + (tb_cost x4.toNatClampNeg)))] [] M post)
    (h13 : (c1 : x4 < (iN 9)) → (c2 : ¬ r1 = (-1)) → (c3 : (M 15 r1.toNatClampNeg) = 0) → (c6 : ¬ r2 = 0) → (c7 : ((M 16 x2.toNatClampNeg) + (tb_cost x4.toNatClampNeg)) < (M 16 r1.toNatClampNeg)) → gE w 74 0 [some (.ref 17), some (.int (if x4 = (iN 8) then (iN 2) else (x4 &&& 1) : Int32)), some (.int r1)] [] (ms M 16 r1.toNatClampNeg ((M 16 x2.toNatClampNeg) + (tb_cost x4.toNatClampNeg))) (fun r M' => gE w 69 107 [some (.ref 12), some (.ref 1), some (.int x2), some (.int x3), some (.int x4), some (.int r1), some (.int ((M 16 x2.toNatClampNeg) + (tb_cost x4.toNatClampNeg)))] (r.toList ++ []) M' post))
    (h14 : (c1 : x4 < (iN 9)) → (c2 : ¬ r1 = (-1)) → (c3 : (M 15 r1.toNatClampNeg) = 0) → (c6 : r2 = 0) → gE w 69 107 [some (.ref 12), some (.ref 1), some (.int x2), some (.int x3), some (.int x4), some (.int r1), o6] [] M post) :
    gE w 69 3 [some (.ref 12), some (.ref 1), some (.int x2), some (.int x3), some (.int x4), o5, o6] [] M post := by
  refine ev_il (pc' := 5) (pt_69_3 w) rfl rfl ?_
  refine ev_k (pc' := 7) (pt_69_5 w) rfl ?_
  refine ev_cge (pc' := 10) (pt_69_7 w) rfl (fun c1 => ?_) (fun c1 => ?_)
  · exact ev_rv (pt_69_113 w) (h1 c1)
  · refine ev_il (pc' := 11) (pt_69_10 w) rfl rfl ?_
    refine ev_il (pc' := 13) (pt_69_11 w) rfl rfl ?_
    refine ev_cal1 (pc' := 16) (pt_69_13 w) (vs := [.int x2, .int x4]) (rest := []) (en := [some (.int x2), some (.int x4)]) rfl rfl rfl rfl trivial rfl rfl (k2 c1) ?_
    refine ev_is (pc' := 18) (loc1 := [some (.ref 12), some (.ref 1), some (.int x2), some (.int x3), some (.int x4), some (.int r1), o6]) (pt_69_16 w) rfl rfl ?_
    refine ev_il (pc' := 20) (pt_69_18 w) rfl rfl ?_
    refine ev_k (pc' := 21) (pt_69_20 w) rfl ?_
    refine ev_ceq (pc' := 24) (pt_69_21 w) rfl (fun c2 => ?_) (fun c2 => ?_)
    · exact (h3 c1 c2)
    · refine ev_al (pc' := 25) (pt_69_24 w) rfl rfl ?_
      refine ev_getr (pc' := 28) (pt_69_25 w) rfl rfl rfl ?_
      refine ev_il (pc' := 30) (pt_69_28 w) rfl rfl ?_
      refine ev_za (pc' := 31) (pt_69_30 w) rfl rfl (b4 c1 c2) ?_
      refine ev_zne (pc' := 34) (pt_69_31 w) rfl (fun c3 => ?_) (fun c3 => ?_)
      · refine ev_al (pc' := 48) (pt_69_47 w) rfl rfl ?_
        refine ev_getr (pc' := 51) (pt_69_48 w) rfl rfl rfl ?_
        refine ev_il (pc' := 52) (pt_69_51 w) rfl rfl ?_
        refine ev_ia (pc' := 53) (pt_69_52 w) rfl rfl (b5 c1 c2 c3) ?_
        refine ev_ss (pc' := 56) (pt_69_53 w) rfl ?_
        refine ev_il (pc' := 58) (pt_69_56 w) rfl rfl ?_
        refine ev_ta (pc' := 59) (pt_69_58 w) rfl rfl (b6 c1 c2 c3) ?_
        refine ev_b (pc' := 60) (pt_69_59 w) rfl ?_
        refine ev_is (pc' := 62) (loc1 := [some (.ref 12), some (.ref 1), some (.int x2), some (.int x3), some (.int x4), some (.int r1), some (.int ((M 16 x2.toNatClampNeg) + (tb_cost x4.toNatClampNeg)))]) (pt_69_60 w) rfl rfl ?_
        refine ev_il (pc' := 64) (pt_69_62 w) rfl rfl ?_
        refine ev_al (pc' := 65) (pt_69_64 w) rfl rfl ?_
        refine ev_getr (pc' := 68) (pt_69_65 w) rfl rfl rfl ?_
        refine ev_il (pc' := 70) (pt_69_68 w) rfl rfl ?_
        refine ev_ia (pc' := 71) (pt_69_70 w) rfl rfl (b4 c1 c2) ?_
        refine ev_cge (pc' := 74) (pt_69_71 w) rfl (fun c4 => ?_) (fun c4 => ?_)
        · exact (h7 c1 c2 c3 c4)
        · refine ev_al (pc' := 75) (pt_69_74 w) rfl rfl ?_
          refine ev_getr (pc' := 78) (pt_69_75 w) rfl rfl rfl ?_
          refine ev_il (pc' := 80) (pt_69_78 w) rfl rfl ?_
          refine ev_il (pc' := 82) (pt_69_80 w) rfl rfl ?_
          refine ev_ias (pc' := 83) (pt_69_82 w) rfl rfl (b4 c1 c2) ?_
          refine ev_al (pc' := 84) (pt_69_83 w) rfl rfl ?_
          refine ev_getr (pc' := 87) (pt_69_84 w) rfl rfl rfl ?_
          refine ev_il (pc' := 89) (pt_69_87 w) rfl rfl ?_
          refine ev_k (pc' := 91) (pt_69_89 w) rfl ?_
          have j1 : ∀ v1 : Int32, v1 = (if x4 = (iN 8) then (iN 2) else (x4 &&& 1) : Int32) → gE w 69 102 [some (.ref 12), some (.ref 1), some (.int x2), some (.int x3), some (.int x4), some (.int r1), some (.int ((M 16 x2.toNatClampNeg) + (tb_cost x4.toNatClampNeg)))] [.int v1, .ref 17] (ms M 16 r1.toNatClampNeg ((M 16 x2.toNatClampNeg) + (tb_cost x4.toNatClampNeg))) post := by
            intro v1 e2
            subst v1
            refine ev_il (pc' := 104) (pt_69_102 w) rfl rfl ?_
            exact ev_cal (pc' := 107) (pt_69_104 w) (vs := [.ref 17, .int (if x4 = (iN 8) then (iN 2) else (x4 &&& 1) : Int32), .int r1]) (rest := []) (en := [some (.ref 17), some (.int (if x4 = (iN 8) then (iN 2) else (x4 &&& 1) : Int32)), some (.int r1)]) rfl rfl rfl rfl rfl rfl rfl (h8 c1 c2 c3 c4)
          refine ev_cne (pc' := 94) (pt_69_91 w) rfl (fun c5 => ?_) (fun c5 => ?_)
          · refine ev_il (pc' := 100) (pt_69_98 w) rfl rfl ?_
            refine ev_k (pc' := 101) (pt_69_100 w) rfl ?_
            refine ev_b (pc' := 102) (pt_69_101 w) rfl ?_
            exact j1 _ (if_neg c5).symm
          · refine ev_k (pc' := 95) (pt_69_94 w) rfl ?_
            refine ev_g (pt_69_95 w) ?_
            exact j1 _ (if_pos c5).symm
      · refine ev_al (pc' := 35) (pt_69_34 w) rfl rfl ?_
        refine ev_il (pc' := 36) (pt_69_35 w) rfl rfl ?_
        refine ev_il (pc' := 38) (pt_69_36 w) rfl rfl ?_
        refine ev_cal1 (pc' := 41) (pt_69_38 w) (vs := [.ref 1, .int x3, .int r1]) (rest := []) (en := [some (.ref 1), some (.int x3), some (.int r1), none]) rfl rfl rfl rfl rfl rfl rfl (k9 c1 c2 c3) ?_
        refine ev_zne (pc' := 44) (pt_69_41 w) rfl (fun c6 => ?_) (fun c6 => ?_)
        · refine ev_al (pc' := 48) (pt_69_47 w) rfl rfl ?_
          refine ev_getr (pc' := 51) (pt_69_48 w) rfl rfl rfl ?_
          refine ev_il (pc' := 52) (pt_69_51 w) rfl rfl ?_
          refine ev_ia (pc' := 53) (pt_69_52 w) rfl rfl (b10 c1 c2 c3 c6) ?_
          refine ev_ss (pc' := 56) (pt_69_53 w) rfl ?_
          refine ev_il (pc' := 58) (pt_69_56 w) rfl rfl ?_
          refine ev_ta (pc' := 59) (pt_69_58 w) rfl rfl (b11 c1 c2 c3 c6) ?_
          refine ev_b (pc' := 60) (pt_69_59 w) rfl ?_
          refine ev_is (pc' := 62) (loc1 := [some (.ref 12), some (.ref 1), some (.int x2), some (.int x3), some (.int x4), some (.int r1), some (.int ((M 16 x2.toNatClampNeg) + (tb_cost x4.toNatClampNeg)))]) (pt_69_60 w) rfl rfl ?_
          refine ev_il (pc' := 64) (pt_69_62 w) rfl rfl ?_
          refine ev_al (pc' := 65) (pt_69_64 w) rfl rfl ?_
          refine ev_getr (pc' := 68) (pt_69_65 w) rfl rfl rfl ?_
          refine ev_il (pc' := 70) (pt_69_68 w) rfl rfl ?_
          refine ev_ia (pc' := 71) (pt_69_70 w) rfl rfl (b4 c1 c2) ?_
          refine ev_cge (pc' := 74) (pt_69_71 w) rfl (fun c7 => ?_) (fun c7 => ?_)
          · exact (h12 c1 c2 c3 c6 c7)
          · refine ev_al (pc' := 75) (pt_69_74 w) rfl rfl ?_
            refine ev_getr (pc' := 78) (pt_69_75 w) rfl rfl rfl ?_
            refine ev_il (pc' := 80) (pt_69_78 w) rfl rfl ?_
            refine ev_il (pc' := 82) (pt_69_80 w) rfl rfl ?_
            refine ev_ias (pc' := 83) (pt_69_82 w) rfl rfl (b4 c1 c2) ?_
            refine ev_al (pc' := 84) (pt_69_83 w) rfl rfl ?_
            refine ev_getr (pc' := 87) (pt_69_84 w) rfl rfl rfl ?_
            refine ev_il (pc' := 89) (pt_69_87 w) rfl rfl ?_
            refine ev_k (pc' := 91) (pt_69_89 w) rfl ?_
            have j2 : ∀ v3 : Int32, v3 = (if x4 = (iN 8) then (iN 2) else (x4 &&& 1) : Int32) → gE w 69 102 [some (.ref 12), some (.ref 1), some (.int x2), some (.int x3), some (.int x4), some (.int r1), some (.int ((M 16 x2.toNatClampNeg) + (tb_cost x4.toNatClampNeg)))] [.int v3, .ref 17] (ms M 16 r1.toNatClampNeg ((M 16 x2.toNatClampNeg) + (tb_cost x4.toNatClampNeg))) post := by
              intro v3 e4
              subst v3
              refine ev_il (pc' := 104) (pt_69_102 w) rfl rfl ?_
              exact ev_cal (pc' := 107) (pt_69_104 w) (vs := [.ref 17, .int (if x4 = (iN 8) then (iN 2) else (x4 &&& 1) : Int32), .int r1]) (rest := []) (en := [some (.ref 17), some (.int (if x4 = (iN 8) then (iN 2) else (x4 &&& 1) : Int32)), some (.int r1)]) rfl rfl rfl rfl rfl rfl rfl (h13 c1 c2 c3 c6 c7)
            refine ev_cne (pc' := 94) (pt_69_91 w) rfl (fun c8 => ?_) (fun c8 => ?_)
            · refine ev_il (pc' := 100) (pt_69_98 w) rfl rfl ?_
              refine ev_k (pc' := 101) (pt_69_100 w) rfl ?_
              refine ev_b (pc' := 102) (pt_69_101 w) rfl ?_
              exact j2 _ (if_neg c8).symm
            · refine ev_k (pc' := 95) (pt_69_94 w) rfl ?_
              refine ev_g (pt_69_95 w) ?_
              exact j2 _ (if_pos c8).symm
        · refine ev_g (pt_69_44 w) ?_
          exact (h14 c1 c2 c3 c6)

theorem wk_69_107 {w : qS} {M : qM} {x2 x3 x4 : Int32} {o5 o6 : Option Value} {post : qR}
    (h1 : gE w 69 3 [some (.ref 12), some (.ref 1), some (.int x2), some (.int x3), some (.int (x4 + 1)), o5, o6] [] M post) :
    gE w 69 107 [some (.ref 12), some (.ref 1), some (.int x2), some (.int x3), some (.int x4), o5, o6] [] M post := by
  refine ev_inc (pc' := 110) (loc1 := [some (.ref 12), some (.ref 1), some (.int x2), some (.int x3), some (.int (x4 + 1)), o5, o6]) (pt_69_107 w) rfl rfl rfl ?_
  refine ev_g (pt_69_110 w) ?_
  exact h1

-- BoardDesk$Router.cheapestPad(LBoardDesk$Board;I)I
theorem wk_70_0 {w : qS} {M : qM} {x2 : Int32} {r1 : Int32} {r2 : Int32} {r3 : Int32} {post : qR}
    (k1 : gE w 35 0 [some (.ref 1), some (.int x2)] [] M (qv1 M r1))
    (k2 : gE w 28 0 [some (.int r1), some (.int (iN 8))] [] M (qv1 M r2))
    (k3 : gE w 33 0 [some (.ref 1), some (.int x2), some (.int r2), none] [] M (qv1 M r3))
    (h4 : post (some (.int (if r3 = 0 then r1 else (if (M 16 r2.toNatClampNeg) < (M 16 r1.toNatClampNeg) then r2 else r1 : Int32) : Int32))) M)
    (b5 : (c1 : ¬ r3 = 0) → vp_in r2 240)
    (b6 : (c1 : ¬ r3 = 0) → vp_in r1 240) :
    gE w 70 0 [some (.ref 12), some (.ref 1), some (.int x2), none, none] [] M post := by
  refine ev_al (pc' := 1) (pt_70_0 w) rfl rfl ?_
  refine ev_il (pc' := 2) (pt_70_1 w) rfl rfl ?_
  refine ev_cal1 (pc' := 5) (pt_70_2 w) (vs := [.ref 1, .int x2]) (rest := []) (en := [some (.ref 1), some (.int x2)]) rfl rfl rfl rfl rfl rfl rfl k1 ?_
  refine ev_is (pc' := 6) (loc1 := [some (.ref 12), some (.ref 1), some (.int x2), some (.int r1), none]) (pt_70_5 w) rfl rfl ?_
  refine ev_il (pc' := 7) (pt_70_6 w) rfl rfl ?_
  refine ev_k (pc' := 9) (pt_70_7 w) rfl ?_
  refine ev_cal1 (pc' := 12) (pt_70_9 w) (vs := [.int r1, .int (iN 8)]) (rest := []) (en := [some (.int r1), some (.int (iN 8))]) rfl rfl rfl rfl trivial rfl rfl k2 ?_
  refine ev_is (pc' := 14) (loc1 := [some (.ref 12), some (.ref 1), some (.int x2), some (.int r1), some (.int r2)]) (pt_70_12 w) rfl rfl ?_
  refine ev_al (pc' := 15) (pt_70_14 w) rfl rfl ?_
  refine ev_il (pc' := 16) (pt_70_15 w) rfl rfl ?_
  refine ev_il (pc' := 18) (pt_70_16 w) rfl rfl ?_
  refine ev_cal1 (pc' := 21) (pt_70_18 w) (vs := [.ref 1, .int x2, .int r2]) (rest := []) (en := [some (.ref 1), some (.int x2), some (.int r2), none]) rfl rfl rfl rfl rfl rfl rfl k3 ?_
  have j1 : ∀ v1 : Int32, v1 = (if r3 = 0 then r1 else (if (M 16 r2.toNatClampNeg) < (M 16 r1.toNatClampNeg) then r2 else r1 : Int32) : Int32) → gE w 70 46 [some (.ref 12), some (.ref 1), some (.int x2), some (.int r1), some (.int r2)] [.int v1] M post := by
    intro v1 e2
    subst v1
    exact ev_ri1 (pt_70_46 w) h4
  refine ev_zeq (pc' := 24) (pt_70_21 w) rfl (fun c1 => ?_) (fun c1 => ?_)
  · refine ev_il (pc' := 46) (pt_70_45 w) rfl rfl ?_
    exact j1 _ (if_pos c1).symm
  · refine ev_al (pc' := 25) (pt_70_24 w) rfl rfl ?_
    refine ev_getr (pc' := 28) (pt_70_25 w) rfl rfl rfl ?_
    refine ev_il (pc' := 30) (pt_70_28 w) rfl rfl ?_
    refine ev_ia (pc' := 31) (pt_70_30 w) rfl rfl (b5 c1) ?_
    refine ev_al (pc' := 32) (pt_70_31 w) rfl rfl ?_
    refine ev_getr (pc' := 35) (pt_70_32 w) rfl rfl rfl ?_
    refine ev_il (pc' := 36) (pt_70_35 w) rfl rfl ?_
    refine ev_ia (pc' := 37) (pt_70_36 w) rfl rfl (b6 c1) ?_
    refine ev_cge (pc' := 40) (pt_70_37 w) rfl (fun c2 => ?_) (fun c2 => ?_)
    · refine ev_il (pc' := 46) (pt_70_45 w) rfl rfl ?_
      exact j1 _ ((if_neg c1).trans (if_neg c2)).symm
    · refine ev_il (pc' := 42) (pt_70_40 w) rfl rfl ?_
      refine ev_g (pt_70_42 w) ?_
      exact j1 _ ((if_neg c1).trans (if_pos c2)).symm

-- BoardDesk$Router.layWay(LBoardDesk$Board;II)V
theorem wk_71_0 {w : qS} {M : qM} {x2 x3 : Int32} {post : qR}
    (h1 : gE w 71 6 [some (.ref 12), some (.ref 1), some (.int x2), some (.int x3), some (.int x2), some (.int 0), none] [] M post) :
    gE w 71 0 [some (.ref 12), some (.ref 1), some (.int x2), some (.int x3), none, none, none] [] M post := by
  refine ev_il (pc' := 1) (pt_71_0 w) rfl rfl ?_
  refine ev_is (pc' := 3) (loc1 := [some (.ref 12), some (.ref 1), some (.int x2), some (.int x3), some (.int x2), none, none]) (pt_71_1 w) rfl rfl ?_
  refine ev_k (pc' := 4) (pt_71_3 w) rfl ?_
  refine ev_is (pc' := 6) (loc1 := [some (.ref 12), some (.ref 1), some (.int x2), some (.int x3), some (.int x2), some (.int 0), none]) (pt_71_4 w) rfl rfl ?_
  exact h1

theorem wk_71_6 {w : qS} {M : qM} {x3 x4 x5 : Int32} {o2 o6 : Option Value} {r1 : Int32} {post : qR}
    (h1 : (c1 : ¬ x5 < (iN 240)) → post none M)
    (b2 : (c1 : x5 < (iN 240)) → vp_in x4 240)
    (h3 : (c1 : x5 < (iN 240)) → (c2 : ¬ (M 13 x4.toNatClampNeg) = 0) → post none M)
    (k4 : (c1 : x5 < (iN 240)) → (c2 : (M 13 x4.toNatClampNeg) = 0) → gE w 72 0 [some (.ref 12), some (.int x4), none, none, none, none] [] M (qv1 M r1))
    (h5 : (c1 : x5 < (iN 240)) → (c2 : (M 13 x4.toNatClampNeg) = 0) → (c3 : ¬ r1 = (-1)) → gE w 50 0 [some (.ref 1), some (.int r1), some (.int x3)] [] M (fun r M' => gE w 71 46 [some (.ref 12), some (.ref 1), o2, some (.int x3), some (.int x4), some (.int x5), some (.int r1)] (r.toList ++ []) M' post))
    (h6 : (c1 : x5 < (iN 240)) → (c2 : (M 13 x4.toNatClampNeg) = 0) → (c3 : r1 = (-1)) → post none M) :
    gE w 71 6 [some (.ref 12), some (.ref 1), o2, some (.int x3), some (.int x4), some (.int x5), o6] [] M post := by
  refine ev_il (pc' := 8) (pt_71_6 w) rfl rfl ?_
  refine ev_k (pc' := 11) (pt_71_8 w) rfl ?_
  refine ev_cge (pc' := 14) (pt_71_11 w) rfl (fun c1 => ?_) (fun c1 => ?_)
  · exact ev_rv (pt_71_56 w) (h1 c1)
  · refine ev_al (pc' := 15) (pt_71_14 w) rfl rfl ?_
    refine ev_getr (pc' := 18) (pt_71_15 w) rfl rfl rfl ?_
    refine ev_il (pc' := 20) (pt_71_18 w) rfl rfl ?_
    refine ev_za (pc' := 21) (pt_71_20 w) rfl rfl (b2 c1) ?_
    refine ev_zne (pc' := 24) (pt_71_21 w) rfl (fun c2 => ?_) (fun c2 => ?_)
    · exact ev_rv (pt_71_56 w) (h3 c1 c2)
    · refine ev_al (pc' := 25) (pt_71_24 w) rfl rfl ?_
      refine ev_il (pc' := 27) (pt_71_25 w) rfl rfl ?_
      refine ev_cal1 (pc' := 30) (pt_71_27 w) (vs := [.ref 12, .int x4]) (rest := []) (en := [some (.ref 12), some (.int x4), none, none, none, none]) rfl rfl rfl rfl rfl rfl rfl (k4 c1 c2) ?_
      refine ev_is (pc' := 32) (loc1 := [some (.ref 12), some (.ref 1), o2, some (.int x3), some (.int x4), some (.int x5), some (.int r1)]) (pt_71_30 w) rfl rfl ?_
      refine ev_il (pc' := 34) (pt_71_32 w) rfl rfl ?_
      refine ev_k (pc' := 35) (pt_71_34 w) rfl ?_
      refine ev_cne (pc' := 38) (pt_71_35 w) rfl (fun c3 => ?_) (fun c3 => ?_)
      · refine ev_al (pc' := 40) (pt_71_39 w) rfl rfl ?_
        refine ev_il (pc' := 42) (pt_71_40 w) rfl rfl ?_
        refine ev_il (pc' := 43) (pt_71_42 w) rfl rfl ?_
        exact ev_cal (pc' := 46) (pt_71_43 w) (vs := [.ref 1, .int r1, .int x3]) (rest := []) (en := [some (.ref 1), some (.int r1), some (.int x3)]) rfl rfl rfl rfl rfl rfl rfl (h5 c1 c2 c3)
      · exact ev_rv (pt_71_38 w) (h6 c1 c2 c3)

theorem wk_71_46 {w : qS} {M : qM} {x3 x5 x6 : Int32} {o2 o4 : Option Value} {post : qR}
    (h1 : gE w 71 6 [some (.ref 12), some (.ref 1), o2, some (.int x3), some (.int x6), some (.int (x5 + 1)), some (.int x6)] [] M post) :
    gE w 71 46 [some (.ref 12), some (.ref 1), o2, some (.int x3), o4, some (.int x5), some (.int x6)] [] M post := by
  refine ev_il (pc' := 48) (pt_71_46 w) rfl rfl ?_
  refine ev_is (pc' := 50) (loc1 := [some (.ref 12), some (.ref 1), o2, some (.int x3), some (.int x6), some (.int x5), some (.int x6)]) (pt_71_48 w) rfl rfl ?_
  refine ev_inc (pc' := 53) (loc1 := [some (.ref 12), some (.ref 1), o2, some (.int x3), some (.int x6), some (.int (x5 + 1)), some (.int x6)]) (pt_71_50 w) rfl rfl rfl ?_
  refine ev_g (pt_71_53 w) ?_
  exact h1

-- BoardDesk$Router.nextOfWay(I)I
theorem wk_72_0 {w : qS} {M : qM} {x1 : Int32} {post : qR}
    (h1 : gE w 72 4 [some (.ref 12), some (.int x1), some (.int (-1)), some (.int 0), none, none] [] M post) :
    gE w 72 0 [some (.ref 12), some (.int x1), none, none, none, none] [] M post := by
  refine ev_k (pc' := 1) (pt_72_0 w) rfl ?_
  refine ev_is (pc' := 2) (loc1 := [some (.ref 12), some (.int x1), some (.int (-1)), none, none, none]) (pt_72_1 w) rfl rfl ?_
  refine ev_k (pc' := 3) (pt_72_2 w) rfl ?_
  refine ev_is (pc' := 4) (loc1 := [some (.ref 12), some (.int x1), some (.int (-1)), some (.int 0), none, none]) (pt_72_3 w) rfl rfl ?_
  exact h1

theorem wk_72_4 {w : qS} {M : qM} {x1 x2 x3 : Int32} {o4 o5 : Option Value} {r1 : Int32} {r2 : Int32} {post : qR}
    (h1 : (c1 : ¬ x3 < (iN 9)) → post (some (.int x2)) M)
    (k2 : (c1 : x3 < (iN 9)) → gE w 28 0 [some (.int x1), some (.int x3)] [] M (qv1 M r1))
    (h3 : (c1 : x3 < (iN 9)) → gE w 72 4 [some (.ref 12), some (.int x1), some (.int (if (if r1 = (-1) then 0 else (if r2 = 0 then 0 else (if ((M 16 r1.toNatClampNeg) + (tb_cost x3.toNatClampNeg)) = (M 16 x1.toNatClampNeg) then 1 else 0 : Int32) : Int32) : Int32) = 0 then x2 else (if x2 = (-1) then r1 else (if r1 < x2 then r1 else x2 : Int32) : Int32) : Int32)), some (.int (x3 + 1)), some (.int r1), some (.int (if r1 = (-1) then 0 else (if r2 = 0 then 0 else (if ((M 16 r1.toNatClampNeg) + (tb_cost x3.toNatClampNeg)) = (M 16 x1.toNatClampNeg) then 1 else 0 : Int32) : Int32) : Int32))] [] M post)
    (k4 : (c1 : x3 < (iN 9)) → (c5 : ¬ r1 = (-1)) → gE w 68 0 [some (.ref 12), some (.int r1)] [] M (qv1 M r2))
    (b5 : (c1 : x3 < (iN 9)) → (c5 : ¬ r1 = (-1)) → (c6 : ¬ r2 = 0) → vp_in r1 240)
    (b6 : (c1 : x3 < (iN 9)) → (c5 : ¬ r1 = (-1)) → (c6 : ¬ r2 = 0) → vp_in x3 9)
    (b7 : (c1 : x3 < (iN 9)) → (c5 : ¬ r1 = (-1)) → (c6 : ¬ r2 = 0) → vp_in x1 240) :
    gE w 72 4 [some (.ref 12), some (.int x1), some (.int x2), some (.int x3), o4, o5] [] M post := by
  refine ev_il (pc' := 5) (pt_72_4 w) rfl rfl ?_
  refine ev_k (pc' := 7) (pt_72_5 w) rfl ?_
  refine ev_cge (pc' := 10) (pt_72_7 w) rfl (fun c1 => ?_) (fun c1 => ?_)
  · refine ev_il (pc' := 87) (pt_72_86 w) rfl rfl ?_
    exact ev_ri1 (pt_72_87 w) (h1 c1)
  · refine ev_il (pc' := 11) (pt_72_10 w) rfl rfl ?_
    refine ev_il (pc' := 12) (pt_72_11 w) rfl rfl ?_
    refine ev_cal1 (pc' := 15) (pt_72_12 w) (vs := [.int x1, .int x3]) (rest := []) (en := [some (.int x1), some (.int x3)]) rfl rfl rfl rfl trivial rfl rfl (k2 c1) ?_
    refine ev_is (pc' := 17) (loc1 := [some (.ref 12), some (.int x1), some (.int x2), some (.int x3), some (.int r1), o5]) (pt_72_15 w) rfl rfl ?_
    refine ev_il (pc' := 19) (pt_72_17 w) rfl rfl ?_
    refine ev_k (pc' := 20) (pt_72_19 w) rfl ?_
    have j1 : ∀ v1 : Int32, v1 = (if r1 = (-1) then 0 else (if r2 = 0 then 0 else (if ((M 16 r1.toNatClampNeg) + (tb_cost x3.toNatClampNeg)) = (M 16 x1.toNatClampNeg) then 1 else 0 : Int32) : Int32) : Int32) → gE w 72 59 [some (.ref 12), some (.int x1), some (.int x2), some (.int x3), some (.int r1), o5] [.int v1] M post := by
      intro v1 e2
      subst v1
      refine ev_is (pc' := 61) (loc1 := [some (.ref 12), some (.int x1), some (.int x2), some (.int x3), some (.int r1), some (.int (if r1 = (-1) then 0 else (if r2 = 0 then 0 else (if ((M 16 r1.toNatClampNeg) + (tb_cost x3.toNatClampNeg)) = (M 16 x1.toNatClampNeg) then 1 else 0 : Int32) : Int32) : Int32))]) (pt_72_59 w) rfl rfl ?_
      refine ev_il (pc' := 63) (pt_72_61 w) rfl rfl ?_
      have j2 : ∀ v3 : Int32, v3 = (if (if r1 = (-1) then 0 else (if r2 = 0 then 0 else (if ((M 16 r1.toNatClampNeg) + (tb_cost x3.toNatClampNeg)) = (M 16 x1.toNatClampNeg) then 1 else 0 : Int32) : Int32) : Int32) = 0 then x2 else (if x2 = (-1) then r1 else (if r1 < x2 then r1 else x2 : Int32) : Int32) : Int32) → gE w 72 80 [some (.ref 12), some (.int x1), some (.int v3), some (.int x3), some (.int r1), some (.int (if r1 = (-1) then 0 else (if r2 = 0 then 0 else (if ((M 16 r1.toNatClampNeg) + (tb_cost x3.toNatClampNeg)) = (M 16 x1.toNatClampNeg) then 1 else 0 : Int32) : Int32) : Int32))] [] M post := by
        intro v3 e4
        subst v3
        refine ev_inc (pc' := 83) (loc1 := [some (.ref 12), some (.int x1), some (.int (if (if r1 = (-1) then 0 else (if r2 = 0 then 0 else (if ((M 16 r1.toNatClampNeg) + (tb_cost x3.toNatClampNeg)) = (M 16 x1.toNatClampNeg) then 1 else 0 : Int32) : Int32) : Int32) = 0 then x2 else (if x2 = (-1) then r1 else (if r1 < x2 then r1 else x2 : Int32) : Int32) : Int32)), some (.int (x3 + 1)), some (.int r1), some (.int (if r1 = (-1) then 0 else (if r2 = 0 then 0 else (if ((M 16 r1.toNatClampNeg) + (tb_cost x3.toNatClampNeg)) = (M 16 x1.toNatClampNeg) then 1 else 0 : Int32) : Int32) : Int32))]) (pt_72_80 w) rfl rfl rfl ?_
        refine ev_g (pt_72_83 w) ?_
        exact (h3 c1)
      refine ev_zeq (pc' := 66) (pt_72_63 w) rfl (fun c2 => ?_) (fun c2 => ?_)
      · exact j2 _ (if_pos c2).symm
      · refine ev_il (pc' := 67) (pt_72_66 w) rfl rfl ?_
        refine ev_k (pc' := 68) (pt_72_67 w) rfl ?_
        refine ev_ceq (pc' := 71) (pt_72_68 w) rfl (fun c3 => ?_) (fun c3 => ?_)
        · refine ev_il (pc' := 79) (pt_72_77 w) rfl rfl ?_
          refine ev_is (pc' := 80) (loc1 := [some (.ref 12), some (.int x1), some (.int r1), some (.int x3), some (.int r1), some (.int (if r1 = (-1) then 0 else (if r2 = 0 then 0 else (if ((M 16 r1.toNatClampNeg) + (tb_cost x3.toNatClampNeg)) = (M 16 x1.toNatClampNeg) then 1 else 0 : Int32) : Int32) : Int32))]) (pt_72_79 w) rfl rfl ?_
          exact j2 _ ((if_neg c2).trans (if_pos c3)).symm
        · refine ev_il (pc' := 73) (pt_72_71 w) rfl rfl ?_
          refine ev_il (pc' := 74) (pt_72_73 w) rfl rfl ?_
          refine ev_cge (pc' := 77) (pt_72_74 w) rfl (fun c4 => ?_) (fun c4 => ?_)
          · exact j2 _ (((if_neg c2).trans (if_neg c3)).trans (if_neg c4)).symm
          · refine ev_il (pc' := 79) (pt_72_77 w) rfl rfl ?_
            refine ev_is (pc' := 80) (loc1 := [some (.ref 12), some (.int x1), some (.int r1), some (.int x3), some (.int r1), some (.int (if r1 = (-1) then 0 else (if r2 = 0 then 0 else (if ((M 16 r1.toNatClampNeg) + (tb_cost x3.toNatClampNeg)) = (M 16 x1.toNatClampNeg) then 1 else 0 : Int32) : Int32) : Int32))]) (pt_72_79 w) rfl rfl ?_
            exact j2 _ (((if_neg c2).trans (if_neg c3)).trans (if_pos c4)).symm
    refine ev_ceq (pc' := 23) (pt_72_20 w) rfl (fun c5 => ?_) (fun c5 => ?_)
    · refine ev_k (pc' := 59) (pt_72_58 w) rfl ?_
      exact j1 _ (if_pos c5).symm
    · refine ev_al (pc' := 24) (pt_72_23 w) rfl rfl ?_
      refine ev_il (pc' := 26) (pt_72_24 w) rfl rfl ?_
      refine ev_cal1 (pc' := 29) (pt_72_26 w) (vs := [.ref 12, .int r1]) (rest := []) (en := [some (.ref 12), some (.int r1)]) rfl rfl rfl rfl rfl rfl rfl (k4 c1 c5) ?_
      refine ev_zeq (pc' := 32) (pt_72_29 w) rfl (fun c6 => ?_) (fun c6 => ?_)
      · refine ev_k (pc' := 59) (pt_72_58 w) rfl ?_
        exact j1 _ ((if_neg c5).trans (if_pos c6)).symm
      · refine ev_al (pc' := 33) (pt_72_32 w) rfl rfl ?_
        refine ev_getr (pc' := 36) (pt_72_33 w) rfl rfl rfl ?_
        refine ev_il (pc' := 38) (pt_72_36 w) rfl rfl ?_
        refine ev_ia (pc' := 39) (pt_72_38 w) rfl rfl (b5 c1 c5 c6) ?_
        refine ev_ss (pc' := 42) (pt_72_39 w) rfl ?_
        refine ev_il (pc' := 43) (pt_72_42 w) rfl rfl ?_
        refine ev_ta (pc' := 44) (pt_72_43 w) rfl rfl (b6 c1 c5 c6) ?_
        refine ev_b (pc' := 45) (pt_72_44 w) rfl ?_
        refine ev_al (pc' := 46) (pt_72_45 w) rfl rfl ?_
        refine ev_getr (pc' := 49) (pt_72_46 w) rfl rfl rfl ?_
        refine ev_il (pc' := 50) (pt_72_49 w) rfl rfl ?_
        refine ev_ia (pc' := 51) (pt_72_50 w) rfl rfl (b7 c1 c5 c6) ?_
        refine ev_cne (pc' := 54) (pt_72_51 w) rfl (fun c7 => ?_) (fun c7 => ?_)
        · refine ev_k (pc' := 59) (pt_72_58 w) rfl ?_
          exact j1 _ (((if_neg c5).trans (if_neg c6)).trans (if_neg c7)).symm
        · refine ev_k (pc' := 55) (pt_72_54 w) rfl ?_
          refine ev_g (pt_72_55 w) ?_
          exact j1 _ (((if_neg c5).trans (if_neg c6)).trans (if_pos c7)).symm

-- BoardDesk$Lanes.empty()V
theorem wk_73_0 {w : qS} {M : qM} {post : qR}
    (h1 : gE w 122 0 [some (.ref 22), some (.int 0), none, none] [] M (fun r M' => gE w 73 8 [some (.ref 17), none] (r.toList ++ []) M' post)) :
    gE w 73 0 [some (.ref 17), none] [] M post := by
  refine ev_al (pc' := 1) (pt_73_0 w) rfl rfl ?_
  refine ev_getr (pc' := 4) (pt_73_1 w) rfl rfl rfl ?_
  refine ev_k (pc' := 5) (pt_73_4 w) rfl ?_
  exact ev_cal (pc' := 8) (pt_73_5 w) (vs := [.ref 22, .int 0]) (rest := []) (en := [some (.ref 22), some (.int 0), none, none]) rfl rfl rfl rfl trivial rfl rfl h1

theorem wk_73_8 {w : qS} {M : qM} {o1 : Option Value} {post : qR}
    (h1 : gE w 122 0 [some (.ref 23), some (.int 0), none, none] [] M (fun r M' => gE w 73 16 [some (.ref 17), o1] (r.toList ++ []) M' post)) :
    gE w 73 8 [some (.ref 17), o1] [] M post := by
  refine ev_al (pc' := 9) (pt_73_8 w) rfl rfl ?_
  refine ev_getr (pc' := 12) (pt_73_9 w) rfl rfl rfl ?_
  refine ev_k (pc' := 13) (pt_73_12 w) rfl ?_
  exact ev_cal (pc' := 16) (pt_73_13 w) (vs := [.ref 23, .int 0]) (rest := []) (en := [some (.ref 23), some (.int 0), none, none]) rfl rfl rfl rfl trivial rfl rfl h1

theorem wk_73_16 {w : qS} {M : qM} {o1 : Option Value} {post : qR}
    (h1 : gE w 73 18 [some (.ref 17), some (.int 0)] [] M post) :
    gE w 73 16 [some (.ref 17), o1] [] M post := by
  refine ev_k (pc' := 17) (pt_73_16 w) rfl ?_
  refine ev_is (pc' := 18) (loc1 := [some (.ref 17), some (.int 0)]) (pt_73_17 w) rfl rfl ?_
  exact h1

theorem wk_73_18 {w : qS} {M : qM} {x1 : Int32} {post : qR}
    (h1 : (c1 : ¬ x1 < (iN 240)) → post none M)
    (b2 : (c1 : x1 < (iN 240)) → vp_in x1 240)
    (h3 : (c1 : x1 < (iN 240)) → gE w 73 18 [some (.ref 17), some (.int (x1 + 1))] [] (ms M 24 x1.toNatClampNeg 0) post) :
    gE w 73 18 [some (.ref 17), some (.int x1)] [] M post := by
  refine ev_il (pc' := 19) (pt_73_18 w) rfl rfl ?_
  refine ev_k (pc' := 22) (pt_73_19 w) rfl ?_
  refine ev_cge (pc' := 25) (pt_73_22 w) rfl (fun c1 => ?_) (fun c1 => ?_)
  · exact ev_rv (pt_73_38 w) (h1 c1)
  · refine ev_al (pc' := 26) (pt_73_25 w) rfl rfl ?_
    refine ev_getr (pc' := 29) (pt_73_26 w) rfl rfl rfl ?_
    refine ev_il (pc' := 30) (pt_73_29 w) rfl rfl ?_
    refine ev_k (pc' := 31) (pt_73_30 w) rfl ?_
    refine ev_zasb (pc' := 32) (pt_73_31 w) rfl rfl (b2 c1) zb_0 ?_
    refine ev_inc (pc' := 35) (loc1 := [some (.ref 17), some (.int (x1 + 1))]) (pt_73_32 w) rfl rfl rfl ?_
    refine ev_g (pt_73_35 w) ?_
    exact (h3 c1)

-- BoardDesk$Lanes.add(II)V
theorem wk_74_0 {w : qS} {M : qM} {x1 x2 : Int32} {post : qR}
    (b1 : vp_in x1 3)
    (h2 : (c1 : ¬ (M 23 x1.toNatClampNeg) < (iN 240)) → post none M)
    (b3 : (c1 : (M 23 x1.toNatClampNeg) < (iN 240)) → vp_in (M 23 x1.toNatClampNeg) 240)
    (h4 : (c1 : (M 23 x1.toNatClampNeg) < (iN 240)) → post none (ms (ms M (19 + x1.toNatClampNeg) (M 23 x1.toNatClampNeg).toNatClampNeg x2) 23 x1.toNatClampNeg (((ms M (19 + x1.toNatClampNeg) (M 23 x1.toNatClampNeg).toNatClampNeg x2) 23 x1.toNatClampNeg) + 1))) :
    gE w 74 0 [some (.ref 17), some (.int x1), some (.int x2)] [] M post := by
  refine ev_al (pc' := 1) (pt_74_0 w) rfl rfl ?_
  refine ev_getr (pc' := 4) (pt_74_1 w) rfl rfl rfl ?_
  refine ev_il (pc' := 5) (pt_74_4 w) rfl rfl ?_
  refine ev_ia (pc' := 6) (pt_74_5 w) rfl rfl b1 ?_
  refine ev_k (pc' := 9) (pt_74_6 w) rfl ?_
  refine ev_cge (pc' := 12) (pt_74_9 w) rfl (fun c1 => ?_) (fun c1 => ?_)
  · exact ev_rv (pt_74_36 w) (h2 c1)
  · refine ev_al (pc' := 13) (pt_74_12 w) rfl rfl ?_
    refine ev_getr (pc' := 16) (pt_74_13 w) rfl rfl rfl ?_
    refine ev_il (pc' := 17) (pt_74_16 w) rfl rfl ?_
    refine ev_aa (z := (19 + x1.toNatClampNeg)) (pc' := 18) (pt_74_17 w) rfl rfl b1 rfl ?_
    refine ev_al (pc' := 19) (pt_74_18 w) rfl rfl ?_
    refine ev_getr (pc' := 22) (pt_74_19 w) rfl rfl rfl ?_
    refine ev_il (pc' := 23) (pt_74_22 w) rfl rfl ?_
    refine ev_ia (pc' := 24) (pt_74_23 w) rfl rfl b1 ?_
    refine ev_il (pc' := 25) (pt_74_24 w) rfl rfl ?_
    refine ev_ias (pc' := 26) (pt_74_25 w) rfl (ly_row b1) (b3 c1) ?_
    refine ev_al (pc' := 27) (pt_74_26 w) rfl rfl ?_
    refine ev_getr (pc' := 30) (pt_74_27 w) rfl rfl rfl ?_
    refine ev_il (pc' := 31) (pt_74_30 w) rfl rfl ?_
    refine ev_dup2 (pc' := 32) (pt_74_31 w) rfl rfl rfl ?_
    refine ev_ia (pc' := 33) (pt_74_32 w) rfl rfl b1 ?_
    refine ev_k (pc' := 34) (pt_74_33 w) rfl ?_
    refine ev_b (pc' := 35) (pt_74_34 w) rfl ?_
    refine ev_ias (pc' := 36) (pt_74_35 w) rfl rfl b1 ?_
    exact ev_rv (pt_74_36 w) (h4 c1)

-- BoardDesk$Lanes.takeNearest([I)I
theorem wk_75_0 {w : qS} {M : qM} {post : qR}
    (h1 : gE w 75 4 [some (.ref 17), some (.ref 16), some (.int (-1)), some (.int 0), none] [] M post) :
    gE w 75 0 [some (.ref 17), some (.ref 16), none, none, none] [] M post := by
  refine ev_k (pc' := 1) (pt_75_0 w) rfl ?_
  refine ev_is (pc' := 2) (loc1 := [some (.ref 17), some (.ref 16), some (.int (-1)), none, none]) (pt_75_1 w) rfl rfl ?_
  refine ev_k (pc' := 3) (pt_75_2 w) rfl ?_
  refine ev_is (pc' := 4) (loc1 := [some (.ref 17), some (.ref 16), some (.int (-1)), some (.int 0), none]) (pt_75_3 w) rfl rfl ?_
  exact h1

theorem wk_75_4 {w : qS} {M : qM} {x2 x3 : Int32} {o4 : Option Value} {post : qR}
    (h1 : (c1 : ¬ x3 < (iN 3)) → (c2 : x2 = (-1)) → post (some (.int x2)) M)
    (b2 : (c1 : ¬ x3 < (iN 3)) → (c2 : ¬ x2 = (-1)) → vp_in x2 240)
    (h3 : (c1 : ¬ x3 < (iN 3)) → (c2 : ¬ x2 = (-1)) → post (some (.int x2)) (ms M 24 x2.toNatClampNeg 1))
    (h4 : (c1 : x3 < (iN 3)) → gE w 76 0 [some (.ref 17), some (.int x3)] [] M (fun r M' => gE w 75 14 [some (.ref 17), some (.ref 16), some (.int x2), some (.int x3), o4] (r.toList ++ []) M' post)) :
    gE w 75 4 [some (.ref 17), some (.ref 16), some (.int x2), some (.int x3), o4] [] M post := by
  refine ev_il (pc' := 5) (pt_75_4 w) rfl rfl ?_
  refine ev_k (pc' := 6) (pt_75_5 w) rfl ?_
  refine ev_cge (pc' := 9) (pt_75_6 w) rfl (fun c1 => ?_) (fun c1 => ?_)
  · refine ev_il (pc' := 47) (pt_75_46 w) rfl rfl ?_
    refine ev_k (pc' := 48) (pt_75_47 w) rfl ?_
    refine ev_ceq (pc' := 51) (pt_75_48 w) rfl (fun c2 => ?_) (fun c2 => ?_)
    · refine ev_il (pc' := 59) (pt_75_58 w) rfl rfl ?_
      exact ev_ri1 (pt_75_59 w) (h1 c1 c2)
    · refine ev_al (pc' := 52) (pt_75_51 w) rfl rfl ?_
      refine ev_getr (pc' := 55) (pt_75_52 w) rfl rfl rfl ?_
      refine ev_il (pc' := 56) (pt_75_55 w) rfl rfl ?_
      refine ev_k (pc' := 57) (pt_75_56 w) rfl ?_
      refine ev_zasb (pc' := 58) (pt_75_57 w) rfl rfl (b2 c1 c2) zb_1 ?_
      refine ev_il (pc' := 59) (pt_75_58 w) rfl rfl ?_
      exact ev_ri1 (pt_75_59 w) (h3 c1 c2)
  · refine ev_al (pc' := 10) (pt_75_9 w) rfl rfl ?_
    refine ev_il (pc' := 11) (pt_75_10 w) rfl rfl ?_
    exact ev_cal (pc' := 14) (pt_75_11 w) (vs := [.ref 17, .int x3]) (rest := []) (en := [some (.ref 17), some (.int x3)]) rfl rfl rfl rfl rfl rfl rfl (h4 c1)

theorem wk_75_14 {w : qS} {M : qM} {x2 x3 s0 : Int32} {o4 : Option Value} {post : qR}
    (h1 : gE w 75 4 [some (.ref 17), some (.ref 16), some (.int (if s0 = (-1) then x2 else (if x2 = (-1) then s0 else (if (M 16 s0.toNatClampNeg) < (M 16 x2.toNatClampNeg) then s0 else x2 : Int32) : Int32) : Int32)), some (.int (x3 + 1)), some (.int s0)] [] M post)
    (b2 : (c1 : ¬ s0 = (-1)) → (c2 : ¬ x2 = (-1)) → vp_in s0 240)
    (b3 : (c1 : ¬ s0 = (-1)) → (c2 : ¬ x2 = (-1)) → vp_in x2 240) :
    gE w 75 14 [some (.ref 17), some (.ref 16), some (.int x2), some (.int x3), o4] [.int s0] M post := by
  refine ev_is (pc' := 16) (loc1 := [some (.ref 17), some (.ref 16), some (.int x2), some (.int x3), some (.int s0)]) (pt_75_14 w) rfl rfl ?_
  refine ev_il (pc' := 18) (pt_75_16 w) rfl rfl ?_
  refine ev_k (pc' := 19) (pt_75_18 w) rfl ?_
  have j1 : ∀ v1 : Int32, v1 = (if s0 = (-1) then x2 else (if x2 = (-1) then s0 else (if (M 16 s0.toNatClampNeg) < (M 16 x2.toNatClampNeg) then s0 else x2 : Int32) : Int32) : Int32) → gE w 75 40 [some (.ref 17), some (.ref 16), some (.int v1), some (.int x3), some (.int s0)] [] M post := by
    intro v1 e2
    subst v1
    refine ev_inc (pc' := 43) (loc1 := [some (.ref 17), some (.ref 16), some (.int (if s0 = (-1) then x2 else (if x2 = (-1) then s0 else (if (M 16 s0.toNatClampNeg) < (M 16 x2.toNatClampNeg) then s0 else x2 : Int32) : Int32) : Int32)), some (.int (x3 + 1)), some (.int s0)]) (pt_75_40 w) rfl rfl rfl ?_
    refine ev_g (pt_75_43 w) ?_
    exact h1
  refine ev_ceq (pc' := 22) (pt_75_19 w) rfl (fun c1 => ?_) (fun c1 => ?_)
  · exact j1 _ (if_pos c1).symm
  · refine ev_il (pc' := 23) (pt_75_22 w) rfl rfl ?_
    refine ev_k (pc' := 24) (pt_75_23 w) rfl ?_
    refine ev_ceq (pc' := 27) (pt_75_24 w) rfl (fun c2 => ?_) (fun c2 => ?_)
    · refine ev_il (pc' := 39) (pt_75_37 w) rfl rfl ?_
      refine ev_is (pc' := 40) (loc1 := [some (.ref 17), some (.ref 16), some (.int s0), some (.int x3), some (.int s0)]) (pt_75_39 w) rfl rfl ?_
      exact j1 _ ((if_neg c1).trans (if_pos c2)).symm
    · refine ev_al (pc' := 28) (pt_75_27 w) rfl rfl ?_
      refine ev_il (pc' := 30) (pt_75_28 w) rfl rfl ?_
      refine ev_ia (pc' := 31) (pt_75_30 w) rfl rfl (b2 c1 c2) ?_
      refine ev_al (pc' := 32) (pt_75_31 w) rfl rfl ?_
      refine ev_il (pc' := 33) (pt_75_32 w) rfl rfl ?_
      refine ev_ia (pc' := 34) (pt_75_33 w) rfl rfl (b3 c1 c2) ?_
      refine ev_cge (pc' := 37) (pt_75_34 w) rfl (fun c3 => ?_) (fun c3 => ?_)
      · exact j1 _ (((if_neg c1).trans (if_neg c2)).trans (if_neg c3)).symm
      · refine ev_il (pc' := 39) (pt_75_37 w) rfl rfl ?_
        refine ev_is (pc' := 40) (loc1 := [some (.ref 17), some (.ref 16), some (.int s0), some (.int x3), some (.int s0)]) (pt_75_39 w) rfl rfl ?_
        exact j1 _ (((if_neg c1).trans (if_neg c2)).trans (if_pos c3)).symm

-- BoardDesk$Lanes.head(I)I
theorem wk_76_0 {w : qS} {M : qM} {x1 : Int32} {post : qR}
    (b1 : vp_in x1 3)
    (h2 : (c1 : ¬ (M 22 x1.toNatClampNeg) < (M 23 x1.toNatClampNeg)) → post (some (.int (if (M 22 x1.toNatClampNeg) < (M 23 x1.toNatClampNeg) then (M (19 + x1.toNatClampNeg) (M 22 x1.toNatClampNeg).toNatClampNeg) else (-1) : Int32))) M)
    (b3 : (c1 : ¬ (M 22 x1.toNatClampNeg) < (M 23 x1.toNatClampNeg)) → (c2 : (M 22 x1.toNatClampNeg) < (M 23 x1.toNatClampNeg)) → vp_in (M 22 x1.toNatClampNeg) 240)
    (b4 : (c1 : (M 22 x1.toNatClampNeg) < (M 23 x1.toNatClampNeg)) → vp_in (M 22 x1.toNatClampNeg) 240)
    (b5 : (c1 : (M 22 x1.toNatClampNeg) < (M 23 x1.toNatClampNeg)) → vp_in (M (19 + x1.toNatClampNeg) (M 22 x1.toNatClampNeg).toNatClampNeg) 240)
    (h6 : (c1 : (M 22 x1.toNatClampNeg) < (M 23 x1.toNatClampNeg)) → (c3 : (M 24 (M (19 + x1.toNatClampNeg) (M 22 x1.toNatClampNeg).toNatClampNeg).toNatClampNeg) = 0) → post (some (.int (if (M 22 x1.toNatClampNeg) < (M 23 x1.toNatClampNeg) then (M (19 + x1.toNatClampNeg) (M 22 x1.toNatClampNeg).toNatClampNeg) else (-1) : Int32))) M)
    (h7 : (c1 : (M 22 x1.toNatClampNeg) < (M 23 x1.toNatClampNeg)) → (c3 : ¬ (M 24 (M (19 + x1.toNatClampNeg) (M 22 x1.toNatClampNeg).toNatClampNeg).toNatClampNeg) = 0) → gE w 76 0 [some (.ref 17), some (.int x1)] [] (ms M 22 x1.toNatClampNeg ((M 22 x1.toNatClampNeg) + 1)) post) :
    gE w 76 0 [some (.ref 17), some (.int x1)] [] M post := by
  refine ev_al (pc' := 1) (pt_76_0 w) rfl rfl ?_
  refine ev_getr (pc' := 4) (pt_76_1 w) rfl rfl rfl ?_
  refine ev_il (pc' := 5) (pt_76_4 w) rfl rfl ?_
  refine ev_ia (pc' := 6) (pt_76_5 w) rfl rfl b1 ?_
  refine ev_al (pc' := 7) (pt_76_6 w) rfl rfl ?_
  refine ev_getr (pc' := 10) (pt_76_7 w) rfl rfl rfl ?_
  refine ev_il (pc' := 11) (pt_76_10 w) rfl rfl ?_
  refine ev_ia (pc' := 12) (pt_76_11 w) rfl rfl b1 ?_
  refine ev_cge (pc' := 15) (pt_76_12 w) rfl (fun c1 => ?_) (fun c1 => ?_)
  · refine ev_al (pc' := 50) (pt_76_49 w) rfl rfl ?_
    refine ev_getr (pc' := 53) (pt_76_50 w) rfl rfl rfl ?_
    refine ev_il (pc' := 54) (pt_76_53 w) rfl rfl ?_
    refine ev_ia (pc' := 55) (pt_76_54 w) rfl rfl b1 ?_
    refine ev_al (pc' := 56) (pt_76_55 w) rfl rfl ?_
    refine ev_getr (pc' := 59) (pt_76_56 w) rfl rfl rfl ?_
    refine ev_il (pc' := 60) (pt_76_59 w) rfl rfl ?_
    refine ev_ia (pc' := 61) (pt_76_60 w) rfl rfl b1 ?_
    have j1 : ∀ v1 : Int32, v1 = (if (M 22 x1.toNatClampNeg) < (M 23 x1.toNatClampNeg) then (M (19 + x1.toNatClampNeg) (M 22 x1.toNatClampNeg).toNatClampNeg) else (-1) : Int32) → gE w 76 81 [some (.ref 17), some (.int x1)] [.int v1] M post := by
      intro v1 e2
      subst v1
      exact ev_ri1 (pt_76_81 w) (h2 c1)
    refine ev_cge (pc' := 64) (pt_76_61 w) rfl (fun c2 => ?_) (fun c2 => ?_)
    · refine ev_k (pc' := 81) (pt_76_80 w) rfl ?_
      exact j1 _ (if_neg c2).symm
    · refine ev_al (pc' := 65) (pt_76_64 w) rfl rfl ?_
      refine ev_getr (pc' := 68) (pt_76_65 w) rfl rfl rfl ?_
      refine ev_il (pc' := 69) (pt_76_68 w) rfl rfl ?_
      refine ev_aa (z := (19 + x1.toNatClampNeg)) (pc' := 70) (pt_76_69 w) rfl rfl b1 rfl ?_
      refine ev_al (pc' := 71) (pt_76_70 w) rfl rfl ?_
      refine ev_getr (pc' := 74) (pt_76_71 w) rfl rfl rfl ?_
      refine ev_il (pc' := 75) (pt_76_74 w) rfl rfl ?_
      refine ev_ia (pc' := 76) (pt_76_75 w) rfl rfl b1 ?_
      refine ev_ia (pc' := 77) (pt_76_76 w) rfl (ly_row b1) (b3 c1 c2) ?_
      refine ev_g (pt_76_77 w) ?_
      exact j1 _ (if_pos c2).symm
  · refine ev_al (pc' := 16) (pt_76_15 w) rfl rfl ?_
    refine ev_getr (pc' := 19) (pt_76_16 w) rfl rfl rfl ?_
    refine ev_al (pc' := 20) (pt_76_19 w) rfl rfl ?_
    refine ev_getr (pc' := 23) (pt_76_20 w) rfl rfl rfl ?_
    refine ev_il (pc' := 24) (pt_76_23 w) rfl rfl ?_
    refine ev_aa (z := (19 + x1.toNatClampNeg)) (pc' := 25) (pt_76_24 w) rfl rfl b1 rfl ?_
    refine ev_al (pc' := 26) (pt_76_25 w) rfl rfl ?_
    refine ev_getr (pc' := 29) (pt_76_26 w) rfl rfl rfl ?_
    refine ev_il (pc' := 30) (pt_76_29 w) rfl rfl ?_
    refine ev_ia (pc' := 31) (pt_76_30 w) rfl rfl b1 ?_
    refine ev_ia (pc' := 32) (pt_76_31 w) rfl (ly_row b1) (b4 c1) ?_
    refine ev_za (pc' := 33) (pt_76_32 w) rfl rfl (b5 c1) ?_
    refine ev_zeq (pc' := 36) (pt_76_33 w) rfl (fun c3 => ?_) (fun c3 => ?_)
    · refine ev_al (pc' := 50) (pt_76_49 w) rfl rfl ?_
      refine ev_getr (pc' := 53) (pt_76_50 w) rfl rfl rfl ?_
      refine ev_il (pc' := 54) (pt_76_53 w) rfl rfl ?_
      refine ev_ia (pc' := 55) (pt_76_54 w) rfl rfl b1 ?_
      refine ev_al (pc' := 56) (pt_76_55 w) rfl rfl ?_
      refine ev_getr (pc' := 59) (pt_76_56 w) rfl rfl rfl ?_
      refine ev_il (pc' := 60) (pt_76_59 w) rfl rfl ?_
      refine ev_ia (pc' := 61) (pt_76_60 w) rfl rfl b1 ?_
      have j2 : ∀ v3 : Int32, v3 = (if (M 22 x1.toNatClampNeg) < (M 23 x1.toNatClampNeg) then (M (19 + x1.toNatClampNeg) (M 22 x1.toNatClampNeg).toNatClampNeg) else (-1) : Int32) → gE w 76 81 [some (.ref 17), some (.int x1)] [.int v3] M post := by
        intro v3 e4
        subst v3
        exact ev_ri1 (pt_76_81 w) (h6 c1 c3)
      refine ev_cge (pc' := 64) (pt_76_61 w) rfl (fun c4 => ?_) (fun c4 => ?_)
      · refine ev_k (pc' := 81) (pt_76_80 w) rfl ?_
        exact j2 _ (if_neg c4).symm
      · refine ev_al (pc' := 65) (pt_76_64 w) rfl rfl ?_
        refine ev_getr (pc' := 68) (pt_76_65 w) rfl rfl rfl ?_
        refine ev_il (pc' := 69) (pt_76_68 w) rfl rfl ?_
        refine ev_aa (z := (19 + x1.toNatClampNeg)) (pc' := 70) (pt_76_69 w) rfl rfl b1 rfl ?_
        refine ev_al (pc' := 71) (pt_76_70 w) rfl rfl ?_
        refine ev_getr (pc' := 74) (pt_76_71 w) rfl rfl rfl ?_
        refine ev_il (pc' := 75) (pt_76_74 w) rfl rfl ?_
        refine ev_ia (pc' := 76) (pt_76_75 w) rfl rfl b1 ?_
        refine ev_ia (pc' := 77) (pt_76_76 w) rfl (ly_row b1) (b4 c1) ?_
        refine ev_g (pt_76_77 w) ?_
        exact j2 _ (if_pos c4).symm
    · refine ev_al (pc' := 37) (pt_76_36 w) rfl rfl ?_
      refine ev_getr (pc' := 40) (pt_76_37 w) rfl rfl rfl ?_
      refine ev_il (pc' := 41) (pt_76_40 w) rfl rfl ?_
      refine ev_dup2 (pc' := 42) (pt_76_41 w) rfl rfl rfl ?_
      refine ev_ia (pc' := 43) (pt_76_42 w) rfl rfl b1 ?_
      refine ev_k (pc' := 44) (pt_76_43 w) rfl ?_
      refine ev_b (pc' := 45) (pt_76_44 w) rfl ?_
      refine ev_ias (pc' := 46) (pt_76_45 w) rfl rfl b1 ?_
      refine ev_g (pt_76_46 w) ?_
      exact (h7 c1 c3)

-- BoardDesk$Tape.add(I)Z
theorem wk_77_0 {w : qS} {M : qM} {x1 : Int32} {post : qR}
    (b1 : (c1 : (M 25 1) < (iN 400)) → vp_in (M 25 1) 400)
    (h2 : (c1 : (M 25 1) < (iN 400)) → post (some (.int 1)) (ms (ms M 26 (M 25 1).toNatClampNeg x1) 25 1 (((ms M 26 (M 25 1).toNatClampNeg x1) 25 1) + 1)))
    (h3 : (c1 : ¬ (M 25 1) < (iN 400)) → post (some (.int 0)) M) :
    gE w 77 0 [some (.ref 25), some (.int x1)] [] M post := by
  refine ev_al (pc' := 1) (pt_77_0 w) rfl rfl ?_
  refine ev_geti (pc' := 4) (pt_77_1 w) rfl rfl rfl ?_
  refine ev_k (pc' := 7) (pt_77_4 w) rfl ?_
  refine ev_clt (pc' := 10) (pt_77_7 w) rfl (fun c1 => ?_) (fun c1 => ?_)
  · refine ev_al (pc' := 13) (pt_77_12 w) rfl rfl ?_
    refine ev_getr (pc' := 16) (pt_77_13 w) rfl rfl rfl ?_
    refine ev_al (pc' := 17) (pt_77_16 w) rfl rfl ?_
    refine ev_geti (pc' := 20) (pt_77_17 w) rfl rfl rfl ?_
    refine ev_il (pc' := 21) (pt_77_20 w) rfl rfl ?_
    refine ev_ias (pc' := 22) (pt_77_21 w) rfl rfl (b1 c1) ?_
    refine ev_al (pc' := 23) (pt_77_22 w) rfl rfl ?_
    refine ev_dup (pc' := 24) (pt_77_23 w) rfl rfl ?_
    refine ev_geti (pc' := 27) (pt_77_24 w) rfl rfl rfl ?_
    refine ev_k (pc' := 28) (pt_77_27 w) rfl ?_
    refine ev_b (pc' := 29) (pt_77_28 w) rfl ?_
    refine ev_put (pc' := 32) (pt_77_29 w) rfl rfl rfl ?_
    refine ev_k (pc' := 33) (pt_77_32 w) rfl ?_
    exact ev_rz (pt_77_33 w) z1_1 (h2 c1)
  · refine ev_k (pc' := 11) (pt_77_10 w) rfl ?_
    exact ev_rz (pt_77_11 w) z1_0 (h3 c1)

-- BoardDesk$Tape.paint()V
theorem wk_78_0 {w : qS} {M : qM} {post : qR}
    (h1 : gE w 122 0 [some (.ref 27), some (.int (-1)), none, none] [] M (fun r M' => gE w 78 8 [some (.ref 25), none, none] (r.toList ++ []) M' post)) :
    gE w 78 0 [some (.ref 25), none, none] [] M post := by
  refine ev_al (pc' := 1) (pt_78_0 w) rfl rfl ?_
  refine ev_getr (pc' := 4) (pt_78_1 w) rfl rfl rfl ?_
  refine ev_k (pc' := 5) (pt_78_4 w) rfl ?_
  exact ev_cal (pc' := 8) (pt_78_5 w) (vs := [.ref 27, .int (-1)]) (rest := []) (en := [some (.ref 27), some (.int (-1)), none, none]) rfl rfl rfl rfl trivial rfl rfl h1

theorem wk_78_8 {w : qS} {M : qM} {o1 o2 : Option Value} {post : qR}
    (h1 : gE w 78 22 [some (.ref 25), some (.int ((M 25 1) - ((M 25 1) - (M 25 1) / (iN 4) * (iN 4)))), some (.int 0)] [] M post) :
    gE w 78 8 [some (.ref 25), o1, o2] [] M post := by
  refine ev_al (pc' := 9) (pt_78_8 w) rfl rfl ?_
  refine ev_geti (pc' := 12) (pt_78_9 w) rfl rfl rfl ?_
  refine ev_al (pc' := 13) (pt_78_12 w) rfl rfl ?_
  refine ev_geti (pc' := 16) (pt_78_13 w) rfl rfl rfl ?_
  refine ev_k (pc' := 17) (pt_78_16 w) rfl ?_
  refine ev_d (pc' := 18) (pt_78_17 w) rfl (by decide +kernel) ?_
  refine ev_b (pc' := 19) (pt_78_18 w) rfl ?_
  refine ev_is (pc' := 20) (loc1 := [some (.ref 25), some (.int ((M 25 1) - ((M 25 1) - (M 25 1) / (iN 4) * (iN 4)))), o2]) (pt_78_19 w) rfl rfl ?_
  refine ev_k (pc' := 21) (pt_78_20 w) rfl ?_
  refine ev_is (pc' := 22) (loc1 := [some (.ref 25), some (.int ((M 25 1) - ((M 25 1) - (M 25 1) / (iN 4) * (iN 4)))), some (.int 0)]) (pt_78_21 w) rfl rfl ?_
  exact h1

theorem wk_78_22 {w : qS} {M : qM} {x1 x2 : Int32} {post : qR}
    (h1 : (c1 : ¬ x2 < x1) → post none M)
    (b2 : (c1 : x2 < x1) → vp_in x2 400)
    (h3 : (c1 : x2 < x1) → (c2 : (M 26 x2.toNatClampNeg) = (iN 255)) → post none M)
    (b4 : (c1 : x2 < x1) → (c2 : ¬ (M 26 x2.toNatClampNeg) = (iN 255)) → vp_in (x2 + 1) 400)
    (b5 : (c1 : x2 < x1) → (c2 : ¬ (M 26 x2.toNatClampNeg) = (iN 255)) → vp_in (x2 + (iN 2)) 400)
    (b6 : (c1 : x2 < x1) → (c2 : ¬ (M 26 x2.toNatClampNeg) = (iN 255)) → vp_in (x2 + (iN 3)) 400)
    (h7 : (c1 : x2 < x1) → (c2 : ¬ (M 26 x2.toNatClampNeg) = (iN 255)) → gE w 79 0 [some (.ref 25), some (.int (M 26 x2.toNatClampNeg)), some (.int (M 26 (x2 + 1).toNatClampNeg)), some (.int (M 26 (x2 + (iN 2)).toNatClampNeg)), some (.int ((M 26 (x2 + (iN 3)).toNatClampNeg) - 1)), none, none] [] M (fun r M' => gE w 78 75 [some (.ref 25), some (.int x1), some (.int x2)] (r.toList ++ []) M' post)) :
    gE w 78 22 [some (.ref 25), some (.int x1), some (.int x2)] [] M post := by
  refine ev_il (pc' := 23) (pt_78_22 w) rfl rfl ?_
  refine ev_il (pc' := 24) (pt_78_23 w) rfl rfl ?_
  refine ev_cge (pc' := 27) (pt_78_24 w) rfl (fun c1 => ?_) (fun c1 => ?_)
  · exact ev_rv (pt_78_81 w) (h1 c1)
  · refine ev_al (pc' := 28) (pt_78_27 w) rfl rfl ?_
    refine ev_getr (pc' := 31) (pt_78_28 w) rfl rfl rfl ?_
    refine ev_il (pc' := 32) (pt_78_31 w) rfl rfl ?_
    refine ev_ia (pc' := 33) (pt_78_32 w) rfl rfl (b2 c1) ?_
    refine ev_k (pc' := 36) (pt_78_33 w) rfl ?_
    refine ev_ceq (pc' := 39) (pt_78_36 w) rfl (fun c2 => ?_) (fun c2 => ?_)
    · exact ev_rv (pt_78_81 w) (h3 c1 c2)
    · refine ev_al (pc' := 40) (pt_78_39 w) rfl rfl ?_
      refine ev_al (pc' := 41) (pt_78_40 w) rfl rfl ?_
      refine ev_getr (pc' := 44) (pt_78_41 w) rfl rfl rfl ?_
      refine ev_il (pc' := 45) (pt_78_44 w) rfl rfl ?_
      refine ev_ia (pc' := 46) (pt_78_45 w) rfl rfl (b2 c1) ?_
      refine ev_al (pc' := 47) (pt_78_46 w) rfl rfl ?_
      refine ev_getr (pc' := 50) (pt_78_47 w) rfl rfl rfl ?_
      refine ev_il (pc' := 51) (pt_78_50 w) rfl rfl ?_
      refine ev_k (pc' := 52) (pt_78_51 w) rfl ?_
      refine ev_b (pc' := 53) (pt_78_52 w) rfl ?_
      refine ev_ia (pc' := 54) (pt_78_53 w) rfl rfl (b4 c1 c2) ?_
      refine ev_al (pc' := 55) (pt_78_54 w) rfl rfl ?_
      refine ev_getr (pc' := 58) (pt_78_55 w) rfl rfl rfl ?_
      refine ev_il (pc' := 59) (pt_78_58 w) rfl rfl ?_
      refine ev_k (pc' := 60) (pt_78_59 w) rfl ?_
      refine ev_b (pc' := 61) (pt_78_60 w) rfl ?_
      refine ev_ia (pc' := 62) (pt_78_61 w) rfl rfl (b5 c1 c2) ?_
      refine ev_al (pc' := 63) (pt_78_62 w) rfl rfl ?_
      refine ev_getr (pc' := 66) (pt_78_63 w) rfl rfl rfl ?_
      refine ev_il (pc' := 67) (pt_78_66 w) rfl rfl ?_
      refine ev_k (pc' := 68) (pt_78_67 w) rfl ?_
      refine ev_b (pc' := 69) (pt_78_68 w) rfl ?_
      refine ev_ia (pc' := 70) (pt_78_69 w) rfl rfl (b6 c1 c2) ?_
      refine ev_k (pc' := 71) (pt_78_70 w) rfl ?_
      refine ev_b (pc' := 72) (pt_78_71 w) rfl ?_
      exact ev_cal (pc' := 75) (pt_78_72 w) (vs := [.ref 25, .int (M 26 x2.toNatClampNeg), .int (M 26 (x2 + 1).toNatClampNeg), .int (M 26 (x2 + (iN 2)).toNatClampNeg), .int ((M 26 (x2 + (iN 3)).toNatClampNeg) - 1)]) (rest := []) (en := [some (.ref 25), some (.int (M 26 x2.toNatClampNeg)), some (.int (M 26 (x2 + 1).toNatClampNeg)), some (.int (M 26 (x2 + (iN 2)).toNatClampNeg)), some (.int ((M 26 (x2 + (iN 3)).toNatClampNeg) - 1)), none, none]) rfl rfl rfl rfl rfl rfl rfl (h7 c1 c2)

theorem wk_78_75 {w : qS} {M : qM} {x1 x2 : Int32} {post : qR}
    (h1 : gE w 78 22 [some (.ref 25), some (.int x1), some (.int (x2 + (iN 4)))] [] M post) :
    gE w 78 75 [some (.ref 25), some (.int x1), some (.int x2)] [] M post := by
  refine ev_inc (pc' := 78) (loc1 := [some (.ref 25), some (.int x1), some (.int (x2 + (iN 4)))]) (pt_78_75 w) rfl rfl rfl ?_
  refine ev_g (pt_78_78 w) ?_
  exact h1

-- BoardDesk$Tape.paintRun(IIII)V
theorem wk_79_0 {w : qS} {M : qM} {x1 x2 x3 x4 : Int32} {post : qR}
    (h1 : gE w 79 13 [some (.ref 25), some (.int x1), some (.int x2), some (.int x3), some (.int x4), some (.int (if (iN 12) < (x2 + x3) then (iN 12) else (x2 + x3) : Int32)), some (.int x2)] [] M post) :
    gE w 79 0 [some (.ref 25), some (.int x1), some (.int x2), some (.int x3), some (.int x4), none, none] [] M post := by
  refine ev_il (pc' := 1) (pt_79_0 w) rfl rfl ?_
  refine ev_il (pc' := 2) (pt_79_1 w) rfl rfl ?_
  refine ev_b (pc' := 3) (pt_79_2 w) rfl ?_
  refine ev_k (pc' := 5) (pt_79_3 w) rfl ?_
  refine ev_mn (pc' := 8) (pt_79_5 w) rfl (Nat.le_of_ble_eq_true rfl) ?_
  refine ev_is (pc' := 10) (loc1 := [some (.ref 25), some (.int x1), some (.int x2), some (.int x3), some (.int x4), some (.int (if (iN 12) < (x2 + x3) then (iN 12) else (x2 + x3) : Int32)), none]) (pt_79_8 w) rfl rfl ?_
  refine ev_il (pc' := 11) (pt_79_10 w) rfl rfl ?_
  refine ev_is (pc' := 13) (loc1 := [some (.ref 25), some (.int x1), some (.int x2), some (.int x3), some (.int x4), some (.int (if (iN 12) < (x2 + x3) then (iN 12) else (x2 + x3) : Int32)), some (.int x2)]) (pt_79_11 w) rfl rfl ?_
  exact h1

theorem wk_79_13 {w : qS} {M : qM} {x1 x4 x5 x6 : Int32} {o2 o3 : Option Value} {post : qR}
    (h1 : (c1 : ¬ x1 < (iN 10)) → post none M)
    (h2 : (c1 : x1 < (iN 10)) → (c2 : ¬ x6 < x5) → post none M)
    (b3 : (c1 : x1 < (iN 10)) → (c2 : x6 < x5) → vp_in ((x1 * (iN 12)) + x6) 120)
    (h4 : (c1 : x1 < (iN 10)) → (c2 : x6 < x5) → gE w 79 13 [some (.ref 25), some (.int x1), o2, o3, some (.int x4), some (.int x5), some (.int (x6 + 1))] [] (ms M 27 ((x1 * (iN 12)) + x6).toNatClampNeg x4) post) :
    gE w 79 13 [some (.ref 25), some (.int x1), o2, o3, some (.int x4), some (.int x5), some (.int x6)] [] M post := by
  refine ev_il (pc' := 14) (pt_79_13 w) rfl rfl ?_
  refine ev_k (pc' := 16) (pt_79_14 w) rfl ?_
  refine ev_cge (pc' := 19) (pt_79_16 w) rfl (fun c1 => ?_) (fun c1 => ?_)
  · exact ev_rv (pt_79_46 w) (h1 c1)
  · refine ev_il (pc' := 21) (pt_79_19 w) rfl rfl ?_
    refine ev_il (pc' := 23) (pt_79_21 w) rfl rfl ?_
    refine ev_cge (pc' := 26) (pt_79_23 w) rfl (fun c2 => ?_) (fun c2 => ?_)
    · exact ev_rv (pt_79_46 w) (h2 c1 c2)
    · refine ev_al (pc' := 27) (pt_79_26 w) rfl rfl ?_
      refine ev_getr (pc' := 30) (pt_79_27 w) rfl rfl rfl ?_
      refine ev_il (pc' := 31) (pt_79_30 w) rfl rfl ?_
      refine ev_k (pc' := 33) (pt_79_31 w) rfl ?_
      refine ev_b (pc' := 34) (pt_79_33 w) rfl ?_
      refine ev_il (pc' := 36) (pt_79_34 w) rfl rfl ?_
      refine ev_b (pc' := 37) (pt_79_36 w) rfl ?_
      refine ev_il (pc' := 39) (pt_79_37 w) rfl rfl ?_
      refine ev_ias (pc' := 40) (pt_79_39 w) rfl rfl (b3 c1 c2) ?_
      refine ev_inc (pc' := 43) (loc1 := [some (.ref 25), some (.int x1), o2, o3, some (.int x4), some (.int x5), some (.int (x6 + 1))]) (pt_79_40 w) rfl rfl rfl ?_
      refine ev_g (pt_79_43 w) ?_
      exact (h4 c1 c2)

-- java/util/Arrays.fill([II)V
theorem wk_122_0 {w : qS} {M : qM} {x1 : Int32} {q0 n0 : Nat} (hq0 : gL w q0 = .inl (0, n0)) {post : qR}
    (h1 : gE w 122 5 [some (.ref q0), some (.int x1), some (.int 0), some (.int (Int32.ofNat n0))] [] M post) :
    gE w 122 0 [some (.ref q0), some (.int x1), none, none] [] M post := by
  refine ev_k (pc' := 1) (pt_122_0 w) rfl ?_
  refine ev_is (pc' := 2) (loc1 := [some (.ref q0), some (.int x1), some (.int 0), none]) (pt_122_1 w) rfl rfl ?_
  refine ev_al (pc' := 3) (pt_122_2 w) rfl rfl ?_
  refine ev_len (pc' := 4) (pt_122_3 w) rfl hq0 ?_
  refine ev_is (pc' := 5) (loc1 := [some (.ref q0), some (.int x1), some (.int 0), some (.int (Int32.ofNat n0))]) (pt_122_4 w) rfl rfl ?_
  exact h1

theorem wk_122_5 {w : qS} {M : qM} {x1 x2 x3 : Int32} {q0 n0 : Nat} (hq0 : gL w q0 = .inl (0, n0)) {post : qR}
    (h1 : (c1 : ¬ x2 < x3) → post none M)
    (b2 : (c1 : x2 < x3) → vp_in x2 n0)
    (h3 : (c1 : x2 < x3) → gE w 122 5 [some (.ref q0), some (.int x1), some (.int (x2 + 1)), some (.int x3)] [] (ms M q0 x2.toNatClampNeg x1) post) :
    gE w 122 5 [some (.ref q0), some (.int x1), some (.int x2), some (.int x3)] [] M post := by
  refine ev_il (pc' := 6) (pt_122_5 w) rfl rfl ?_
  refine ev_il (pc' := 7) (pt_122_6 w) rfl rfl ?_
  refine ev_cge (pc' := 10) (pt_122_7 w) rfl (fun c1 => ?_) (fun c1 => ?_)
  · exact ev_rv (pt_122_20 w) (h1 c1)
  · refine ev_al (pc' := 11) (pt_122_10 w) rfl rfl ?_
    refine ev_il (pc' := 12) (pt_122_11 w) rfl rfl ?_
    refine ev_il (pc' := 13) (pt_122_12 w) rfl rfl ?_
    refine ev_ias (pc' := 14) (pt_122_13 w) rfl hq0 (b2 c1) ?_
    refine ev_inc (pc' := 17) (loc1 := [some (.ref q0), some (.int x1), some (.int (x2 + 1)), some (.int x3)]) (pt_122_14 w) rfl rfl rfl ?_
    refine ev_g (pt_122_17 w) ?_
    exact (h3 c1)
