/-! Printed: a row a place. -/
theorem pt_0_0 (w : qS) : gP w 0 0 = some (.inl (qo_il 1 1)) := rfl
theorem pt_0_1 (w : qS) : gP w 0 1 = some (.inl (qo_z (fun x => x < 0) 9)) := rfl
theorem pt_0_4 (w : qS) : gP w 0 4 = some (.inl (qo_il 1 1)) := rfl
theorem pt_0_5 (w : qS) : gP w 0 5 = some (.inl (qo_k (iN 4) 1)) := rfl
theorem pt_0_6 (w : qS) : gP w 0 6 = some (.inl (qo_c (fun x y => x < y) 11)) := rfl
theorem pt_0_9 (w : qS) : gP w 0 9 = some (.inl (qo_k (-1) 1)) := rfl
theorem pt_0_10 (w : qS) : gP w 0 10 = some (.inr (.inr 1)) := rfl
theorem pt_0_11 (w : qS) : gP w 0 11 = some (.inl (qo_al 0 1)) := rfl
theorem pt_0_12 (w : qS) : gP w 0 12 = some (.inl (qo_get (gL w) 0 0)) := rfl
theorem pt_0_15 (w : qS) : gP w 0 15 = some (.inl (qo_get (gL w) 1 0)) := rfl
theorem pt_0_18 (w : qS) : gP w 0 18 = some (.inl (qo_get (gL w) 2 6)) := rfl
theorem pt_0_21 (w : qS) : gP w 0 21 = some (.inl (qo_k (iN 16) 2)) := rfl
theorem pt_0_23 (w : qS) : gP w 0 23 = some (.inl (qo_c (fun x y => x < y) 29)) := rfl
theorem pt_0_26 (w : qS) : gP w 0 26 = some (.inl (qo_k (-2) 2)) := rfl
theorem pt_0_28 (w : qS) : gP w 0 28 = some (.inr (.inr 1)) := rfl
theorem pt_0_29 (w : qS) : gP w 0 29 = some (.inl (qo_al 0 1)) := rfl
theorem pt_0_30 (w : qS) : gP w 0 30 = some (.inl (qo_get (gL w) 0 1)) := rfl
theorem pt_0_33 (w : qS) : gP w 0 33 = some (.inl (qo_al 0 1)) := rfl
theorem pt_0_34 (w : qS) : gP w 0 34 = some (.inl (qo_get (gL w) 0 0)) := rfl
theorem pt_0_37 (w : qS) : gP w 0 37 = some (.inl (qo_get (gL w) 1 0)) := rfl
theorem pt_0_40 (w : qS) : gP w 0 40 = some (.inr (.inl (59, 2, some 3))) := rfl
theorem pt_0_43 (w : qS) : gP w 0 43 = some (.inl (qo_al 0 1)) := rfl
theorem pt_0_44 (w : qS) : gP w 0 44 = some (.inl (qo_get (gL w) 0 0)) := rfl
theorem pt_0_47 (w : qS) : gP w 0 47 = some (.inl (qo_il 1 1)) := rfl
theorem pt_0_48 (w : qS) : gP w 0 48 = some (.inr (.inl (37, 2, some 1))) := rfl
theorem pt_0_51 (w : qS) : gP w 0 51 = some (.inl (qo_is 2 1)) := rfl
theorem pt_0_52 (w : qS) : gP w 0 52 = some (.inl (qo_al 0 1)) := rfl
theorem pt_0_53 (w : qS) : gP w 0 53 = some (.inl (qo_get (gL w) 0 1)) := rfl
theorem pt_0_56 (w : qS) : gP w 0 56 = some (.inl (qo_al 0 1)) := rfl
theorem pt_0_57 (w : qS) : gP w 0 57 = some (.inl (qo_get (gL w) 0 0)) := rfl
theorem pt_0_60 (w : qS) : gP w 0 60 = some (.inl (qo_get (gL w) 1 0)) := rfl
theorem pt_0_63 (w : qS) : gP w 0 63 = some (.inr (.inl (60, 2, some 3))) := rfl
theorem pt_0_66 (w : qS) : gP w 0 66 = some (.inl (qo_il 2 1)) := rfl
theorem pt_0_67 (w : qS) : gP w 0 67 = some (.inr (.inr 1)) := rfl
theorem pt_1_0 (w : qS) : gP w 1 0 = some (.inl (qo_al 0 1)) := rfl
theorem pt_1_1 (w : qS) : gP w 1 1 = some (.inl (qo_get (gL w) 0 0)) := rfl
theorem pt_1_4 (w : qS) : gP w 1 4 = some (.inl (qo_il 1 1)) := rfl
theorem pt_1_5 (w : qS) : gP w 1 5 = some (.inr (.inl (29, 2, some 1))) := rfl
theorem pt_1_8 (w : qS) : gP w 1 8 = some (.inl (qo_z (fun x => x = 0) 27)) := rfl
theorem pt_1_11 (w : qS) : gP w 1 11 = some (.inl (qo_al 0 1)) := rfl
theorem pt_1_12 (w : qS) : gP w 1 12 = some (.inl (qo_get (gL w) 0 0)) := rfl
theorem pt_1_15 (w : qS) : gP w 1 15 = some (.inl (qo_il 2 1)) := rfl
theorem pt_1_16 (w : qS) : gP w 1 16 = some (.inr (.inl (29, 2, some 1))) := rfl
theorem pt_1_19 (w : qS) : gP w 1 19 = some (.inl (qo_z (fun x => x = 0) 27)) := rfl
theorem pt_1_22 (w : qS) : gP w 1 22 = some (.inl (qo_il 1 1)) := rfl
theorem pt_1_23 (w : qS) : gP w 1 23 = some (.inl (qo_il 2 1)) := rfl
theorem pt_1_24 (w : qS) : gP w 1 24 = some (.inl (qo_c (fun x y => ¬ x = y) 29)) := rfl
theorem pt_1_27 (w : qS) : gP w 1 27 = some (.inl (qo_k (-1) 1)) := rfl
theorem pt_1_28 (w : qS) : gP w 1 28 = some (.inr (.inr 1)) := rfl
theorem pt_1_29 (w : qS) : gP w 1 29 = some (.inl (qo_al 0 1)) := rfl
theorem pt_1_30 (w : qS) : gP w 1 30 = some (.inl (qo_get (gL w) 0 0)) := rfl
theorem pt_1_33 (w : qS) : gP w 1 33 = some (.inl (qo_get (gL w) 1 0)) := rfl
theorem pt_1_36 (w : qS) : gP w 1 36 = some (.inl (qo_get (gL w) 2 7)) := rfl
theorem pt_1_39 (w : qS) : gP w 1 39 = some (.inl (qo_k (iN 24) 2)) := rfl
theorem pt_1_41 (w : qS) : gP w 1 41 = some (.inl (qo_c (fun x y => x < y) 47)) := rfl
theorem pt_1_44 (w : qS) : gP w 1 44 = some (.inl (qo_k (-2) 2)) := rfl
theorem pt_1_46 (w : qS) : gP w 1 46 = some (.inr (.inr 1)) := rfl
theorem pt_1_47 (w : qS) : gP w 1 47 = some (.inl (qo_al 0 1)) := rfl
theorem pt_1_48 (w : qS) : gP w 1 48 = some (.inl (qo_get (gL w) 0 1)) := rfl
theorem pt_1_51 (w : qS) : gP w 1 51 = some (.inl (qo_al 0 1)) := rfl
theorem pt_1_52 (w : qS) : gP w 1 52 = some (.inl (qo_get (gL w) 0 0)) := rfl
theorem pt_1_55 (w : qS) : gP w 1 55 = some (.inl (qo_get (gL w) 1 0)) := rfl
theorem pt_1_58 (w : qS) : gP w 1 58 = some (.inr (.inl (59, 2, some 3))) := rfl
theorem pt_1_61 (w : qS) : gP w 1 61 = some (.inl (qo_al 0 1)) := rfl
theorem pt_1_62 (w : qS) : gP w 1 62 = some (.inl (qo_get (gL w) 0 0)) := rfl
theorem pt_1_65 (w : qS) : gP w 1 65 = some (.inl (qo_il 1 1)) := rfl
theorem pt_1_66 (w : qS) : gP w 1 66 = some (.inl (qo_il 2 1)) := rfl
theorem pt_1_67 (w : qS) : gP w 1 67 = some (.inr (.inl (38, 3, some 1))) := rfl
theorem pt_1_70 (w : qS) : gP w 1 70 = some (.inl (qo_is 3 1)) := rfl
theorem pt_1_71 (w : qS) : gP w 1 71 = some (.inl (qo_al 0 1)) := rfl
theorem pt_1_72 (w : qS) : gP w 1 72 = some (.inl (qo_get (gL w) 0 1)) := rfl
theorem pt_1_75 (w : qS) : gP w 1 75 = some (.inl (qo_al 0 1)) := rfl
theorem pt_1_76 (w : qS) : gP w 1 76 = some (.inl (qo_get (gL w) 0 0)) := rfl
theorem pt_1_79 (w : qS) : gP w 1 79 = some (.inl (qo_get (gL w) 1 0)) := rfl
theorem pt_1_82 (w : qS) : gP w 1 82 = some (.inr (.inl (60, 2, some 3))) := rfl
theorem pt_1_85 (w : qS) : gP w 1 85 = some (.inl (qo_il 3 1)) := rfl
theorem pt_1_86 (w : qS) : gP w 1 86 = some (.inr (.inr 1)) := rfl
theorem pt_2_0 (w : qS) : gP w 2 0 = some (.inl (qo_il 1 1)) := rfl
theorem pt_2_1 (w : qS) : gP w 2 1 = some (.inl (qo_z (fun x => x < 0) 18)) := rfl
theorem pt_2_4 (w : qS) : gP w 2 4 = some (.inl (qo_il 1 1)) := rfl
theorem pt_2_5 (w : qS) : gP w 2 5 = some (.inl (qo_al 0 1)) := rfl
theorem pt_2_6 (w : qS) : gP w 2 6 = some (.inl (qo_get (gL w) 0 0)) := rfl
theorem pt_2_9 (w : qS) : gP w 2 9 = some (.inl (qo_get (gL w) 1 0)) := rfl
theorem pt_2_12 (w : qS) : gP w 2 12 = some (.inl (qo_get (gL w) 2 7)) := rfl
theorem pt_2_15 (w : qS) : gP w 2 15 = some (.inl (qo_c (fun x y => x < y) 20)) := rfl
theorem pt_2_18 (w : qS) : gP w 2 18 = some (.inl (qo_k (-1) 1)) := rfl
theorem pt_2_19 (w : qS) : gP w 2 19 = some (.inr (.inr 1)) := rfl
theorem pt_2_20 (w : qS) : gP w 2 20 = some (.inl (qo_al 0 1)) := rfl
theorem pt_2_21 (w : qS) : gP w 2 21 = some (.inl (qo_get (gL w) 0 1)) := rfl
theorem pt_2_24 (w : qS) : gP w 2 24 = some (.inl (qo_al 0 1)) := rfl
theorem pt_2_25 (w : qS) : gP w 2 25 = some (.inl (qo_get (gL w) 0 0)) := rfl
theorem pt_2_28 (w : qS) : gP w 2 28 = some (.inl (qo_get (gL w) 1 0)) := rfl
theorem pt_2_31 (w : qS) : gP w 2 31 = some (.inr (.inl (59, 2, some 3))) := rfl
theorem pt_2_34 (w : qS) : gP w 2 34 = some (.inl (qo_al 0 1)) := rfl
theorem pt_2_35 (w : qS) : gP w 2 35 = some (.inl (qo_get (gL w) 0 0)) := rfl
theorem pt_2_38 (w : qS) : gP w 2 38 = some (.inl (qo_il 1 1)) := rfl
theorem pt_2_39 (w : qS) : gP w 2 39 = some (.inr (.inl (39, 2, some 1))) := rfl
theorem pt_2_42 (w : qS) : gP w 2 42 = some (.inl (qo_al 0 1)) := rfl
theorem pt_2_43 (w : qS) : gP w 2 43 = some (.inl (qo_get (gL w) 0 1)) := rfl
theorem pt_2_46 (w : qS) : gP w 2 46 = some (.inl (qo_al 0 1)) := rfl
theorem pt_2_47 (w : qS) : gP w 2 47 = some (.inl (qo_get (gL w) 0 0)) := rfl
theorem pt_2_50 (w : qS) : gP w 2 50 = some (.inl (qo_get (gL w) 1 0)) := rfl
theorem pt_2_53 (w : qS) : gP w 2 53 = some (.inr (.inl (60, 2, some 3))) := rfl
theorem pt_2_56 (w : qS) : gP w 2 56 = some (.inl (qo_al 0 1)) := rfl
theorem pt_2_57 (w : qS) : gP w 2 57 = some (.inl (qo_get (gL w) 0 0)) := rfl
theorem pt_2_60 (w : qS) : gP w 2 60 = some (.inl (qo_get (gL w) 1 0)) := rfl
theorem pt_2_63 (w : qS) : gP w 2 63 = some (.inl (qo_get (gL w) 2 7)) := rfl
theorem pt_2_66 (w : qS) : gP w 2 66 = some (.inr (.inr 1)) := rfl
theorem pt_3_0 (w : qS) : gP w 3 0 = some (.inl (qo_al 0 1)) := rfl
theorem pt_3_1 (w : qS) : gP w 3 1 = some (.inl (qo_get (gL w) 0 0)) := rfl
theorem pt_3_4 (w : qS) : gP w 3 4 = some (.inl (qo_il 1 1)) := rfl
theorem pt_3_5 (w : qS) : gP w 3 5 = some (.inr (.inl (29, 2, some 1))) := rfl
theorem pt_3_8 (w : qS) : gP w 3 8 = some (.inl (qo_z (fun x => x = 0) 22)) := rfl
theorem pt_3_11 (w : qS) : gP w 3 11 = some (.inl (qo_al 0 1)) := rfl
theorem pt_3_12 (w : qS) : gP w 3 12 = some (.inl (qo_get (gL w) 0 0)) := rfl
theorem pt_3_15 (w : qS) : gP w 3 15 = some (.inl (qo_il 1 1)) := rfl
theorem pt_3_16 (w : qS) : gP w 3 16 = some (.inr (.inl (31, 2, some 1))) := rfl
theorem pt_3_19 (w : qS) : gP w 3 19 = some (.inl (qo_g 23)) := rfl
theorem pt_3_22 (w : qS) : gP w 3 22 = some (.inl (qo_k (-1) 1)) := rfl
theorem pt_3_23 (w : qS) : gP w 3 23 = some (.inr (.inr 1)) := rfl
theorem pt_4_0 (w : qS) : gP w 4 0 = some (.inl (qo_il 1 1)) := rfl
theorem pt_4_1 (w : qS) : gP w 4 1 = some (.inl (qo_z (fun x => x < 0) 13)) := rfl
theorem pt_4_4 (w : qS) : gP w 4 4 = some (.inl (qo_il 2 1)) := rfl
theorem pt_4_5 (w : qS) : gP w 4 5 = some (.inl (qo_z (fun x => x < 0) 13)) := rfl
theorem pt_4_8 (w : qS) : gP w 4 8 = some (.inl (qo_il 2 1)) := rfl
theorem pt_4_9 (w : qS) : gP w 4 9 = some (.inl (qo_k 1 1)) := rfl
theorem pt_4_10 (w : qS) : gP w 4 10 = some (.inl (qo_c (fun x y => x ≤ y) 15)) := rfl
theorem pt_4_13 (w : qS) : gP w 4 13 = some (.inl (qo_k (-1) 1)) := rfl
theorem pt_4_14 (w : qS) : gP w 4 14 = some (.inr (.inr 1)) := rfl
theorem pt_4_15 (w : qS) : gP w 4 15 = some (.inl (qo_il 1 1)) := rfl
theorem pt_4_16 (w : qS) : gP w 4 16 = some (.inl (qo_is 3 1)) := rfl
theorem pt_4_17 (w : qS) : gP w 4 17 = some (.inl (qo_k 0 1)) := rfl
theorem pt_4_18 (w : qS) : gP w 4 18 = some (.inl (qo_is 4 2)) := rfl
theorem pt_4_20 (w : qS) : gP w 4 20 = some (.inl (qo_il 4 2)) := rfl
theorem pt_4_22 (w : qS) : gP w 4 22 = some (.inl (qo_al 0 1)) := rfl
theorem pt_4_23 (w : qS) : gP w 4 23 = some (.inl (qo_get (gL w) 0 0)) := rfl
theorem pt_4_26 (w : qS) : gP w 4 26 = some (.inl (qo_get (gL w) 1 0)) := rfl
theorem pt_4_29 (w : qS) : gP w 4 29 = some (.inl (qo_get (gL w) 2 6)) := rfl
theorem pt_4_32 (w : qS) : gP w 4 32 = some (.inl (qo_c (fun x y => y ≤ x) 80)) := rfl
theorem pt_4_35 (w : qS) : gP w 4 35 = some (.inl (qo_al 0 1)) := rfl
theorem pt_4_36 (w : qS) : gP w 4 36 = some (.inl (qo_get (gL w) 0 0)) := rfl
theorem pt_4_39 (w : qS) : gP w 4 39 = some (.inl (qo_il 4 2)) := rfl
theorem pt_4_41 (w : qS) : gP w 4 41 = some (.inr (.inl (42, 2, some 1))) := rfl
theorem pt_4_44 (w : qS) : gP w 4 44 = some (.inl (qo_is 5 2)) := rfl
theorem pt_4_46 (w : qS) : gP w 4 46 = some (.inl (qo_il 5 2)) := rfl
theorem pt_4_48 (w : qS) : gP w 4 48 = some (.inl (qo_k (-1) 1)) := rfl
theorem pt_4_49 (w : qS) : gP w 4 49 = some (.inl (qo_c (fun x y => ¬ x = y) 55)) := rfl
theorem pt_4_52 (w : qS) : gP w 4 52 = some (.inl (qo_g 74)) := rfl
theorem pt_4_55 (w : qS) : gP w 4 55 = some (.inl (qo_il 3 1)) := rfl
theorem pt_4_56 (w : qS) : gP w 4 56 = some (.inl (qo_z (fun x => ¬ x = 0) 71)) := rfl
theorem pt_4_59 (w : qS) : gP w 4 59 = some (.inl (qo_il 2 1)) := rfl
theorem pt_4_60 (w : qS) : gP w 4 60 = some (.inl (qo_z (fun x => ¬ x = 0) 68)) := rfl
theorem pt_4_63 (w : qS) : gP w 4 63 = some (.inl (qo_il 5 2)) := rfl
theorem pt_4_65 (w : qS) : gP w 4 65 = some (.inl (qo_g 70)) := rfl
theorem pt_4_68 (w : qS) : gP w 4 68 = some (.inl (qo_il 4 2)) := rfl
theorem pt_4_70 (w : qS) : gP w 4 70 = some (.inr (.inr 1)) := rfl
theorem pt_4_71 (w : qS) : gP w 4 71 = some (.inl (qo_inc 3 (-1))) := rfl
theorem pt_4_74 (w : qS) : gP w 4 74 = some (.inl (qo_inc 4 1)) := rfl
theorem pt_4_77 (w : qS) : gP w 4 77 = some (.inl (qo_g 20)) := rfl
theorem pt_4_80 (w : qS) : gP w 4 80 = some (.inl (qo_k (-1) 1)) := rfl
theorem pt_4_81 (w : qS) : gP w 4 81 = some (.inr (.inr 1)) := rfl
theorem pt_5_0 (w : qS) : gP w 5 0 = some (.inl (qo_al 0 1)) := rfl
theorem pt_5_1 (w : qS) : gP w 5 1 = some (.inl (qo_get (gL w) 0 0)) := rfl
theorem pt_5_4 (w : qS) : gP w 5 4 = some (.inl (qo_il 1 1)) := rfl
theorem pt_5_5 (w : qS) : gP w 5 5 = some (.inr (.inl (29, 2, some 1))) := rfl
theorem pt_5_8 (w : qS) : gP w 5 8 = some (.inl (qo_z (fun x => x = 0) 34)) := rfl
theorem pt_5_11 (w : qS) : gP w 5 11 = some (.inl (qo_al 0 1)) := rfl
theorem pt_5_12 (w : qS) : gP w 5 12 = some (.inl (qo_get (gL w) 0 0)) := rfl
theorem pt_5_15 (w : qS) : gP w 5 15 = some (.inl (qo_il 1 1)) := rfl
theorem pt_5_16 (w : qS) : gP w 5 16 = some (.inr (.inl (30, 2, some 1))) := rfl
theorem pt_5_19 (w : qS) : gP w 5 19 = some (.inl (qo_z (fun x => ¬ x = 0) 34)) := rfl
theorem pt_5_22 (w : qS) : gP w 5 22 = some (.inl (qo_il 4 2)) := rfl
theorem pt_5_24 (w : qS) : gP w 5 24 = some (.inl (qo_k 1 1)) := rfl
theorem pt_5_25 (w : qS) : gP w 5 25 = some (.inl (qo_c (fun x y => x < y) 34)) := rfl
theorem pt_5_28 (w : qS) : gP w 5 28 = some (.inl (qo_il 4 2)) := rfl
theorem pt_5_30 (w : qS) : gP w 5 30 = some (.inl (qo_k (iN 3) 1)) := rfl
theorem pt_5_31 (w : qS) : gP w 5 31 = some (.inl (qo_c (fun x y => x ≤ y) 36)) := rfl
theorem pt_5_34 (w : qS) : gP w 5 34 = some (.inl (qo_k 0 1)) := rfl
theorem pt_5_35 (w : qS) : gP w 5 35 = some (.inr (.inr 2)) := rfl
theorem pt_5_36 (w : qS) : gP w 5 36 = some (.inl (qo_il 2 1)) := rfl
theorem pt_5_37 (w : qS) : gP w 5 37 = some (.inl (qo_z (fun x => x < 0) 56)) := rfl
theorem pt_5_40 (w : qS) : gP w 5 40 = some (.inl (qo_il 2 1)) := rfl
theorem pt_5_41 (w : qS) : gP w 5 41 = some (.inl (qo_k (iN 12) 2)) := rfl
theorem pt_5_43 (w : qS) : gP w 5 43 = some (.inl (qo_c (fun x y => y ≤ x) 56)) := rfl
theorem pt_5_46 (w : qS) : gP w 5 46 = some (.inl (qo_il 3 1)) := rfl
theorem pt_5_47 (w : qS) : gP w 5 47 = some (.inl (qo_z (fun x => x < 0) 56)) := rfl
theorem pt_5_50 (w : qS) : gP w 5 50 = some (.inl (qo_il 3 1)) := rfl
theorem pt_5_51 (w : qS) : gP w 5 51 = some (.inl (qo_k (iN 10) 2)) := rfl
theorem pt_5_53 (w : qS) : gP w 5 53 = some (.inl (qo_c (fun x y => x < y) 58)) := rfl
theorem pt_5_56 (w : qS) : gP w 5 56 = some (.inl (qo_k 0 1)) := rfl
theorem pt_5_57 (w : qS) : gP w 5 57 = some (.inr (.inr 2)) := rfl
theorem pt_5_58 (w : qS) : gP w 5 58 = some (.inl (qo_il 3 1)) := rfl
theorem pt_5_59 (w : qS) : gP w 5 59 = some (.inl (qo_k (iN 12) 2)) := rfl
theorem pt_5_61 (w : qS) : gP w 5 61 = some (.inl (qo_b (fun x y => x * y))) := rfl
theorem pt_5_62 (w : qS) : gP w 5 62 = some (.inl (qo_il 2 1)) := rfl
theorem pt_5_63 (w : qS) : gP w 5 63 = some (.inl (qo_b (fun x y => x + y))) := rfl
theorem pt_5_64 (w : qS) : gP w 5 64 = some (.inl (qo_is 5 2)) := rfl
theorem pt_5_66 (w : qS) : gP w 5 66 = some (.inl (qo_al 0 1)) := rfl
theorem pt_5_67 (w : qS) : gP w 5 67 = some (.inl (qo_get (gL w) 0 0)) := rfl
theorem pt_5_70 (w : qS) : gP w 5 70 = some (.inl (qo_il 5 2)) := rfl
theorem pt_5_72 (w : qS) : gP w 5 72 = some (.inl (qo_il 4 2)) := rfl
theorem pt_5_74 (w : qS) : gP w 5 74 = some (.inl (qo_al 0 1)) := rfl
theorem pt_5_75 (w : qS) : gP w 5 75 = some (.inl (qo_get (gL w) 0 0)) := rfl
theorem pt_5_78 (w : qS) : gP w 5 78 = some (.inl (qo_il 1 1)) := rfl
theorem pt_5_79 (w : qS) : gP w 5 79 = some (.inr (.inl (31, 2, some 1))) := rfl
theorem pt_5_82 (w : qS) : gP w 5 82 = some (.inr (.inl (44, 4, some 1))) := rfl
theorem pt_5_85 (w : qS) : gP w 5 85 = some (.inl (qo_z (fun x => ¬ x = 0) 90)) := rfl
theorem pt_5_88 (w : qS) : gP w 5 88 = some (.inl (qo_k 0 1)) := rfl
theorem pt_5_89 (w : qS) : gP w 5 89 = some (.inr (.inr 2)) := rfl
theorem pt_5_90 (w : qS) : gP w 5 90 = some (.inl (qo_al 0 1)) := rfl
theorem pt_5_91 (w : qS) : gP w 5 91 = some (.inl (qo_get (gL w) 0 1)) := rfl
theorem pt_5_94 (w : qS) : gP w 5 94 = some (.inl (qo_al 0 1)) := rfl
theorem pt_5_95 (w : qS) : gP w 5 95 = some (.inl (qo_get (gL w) 0 0)) := rfl
theorem pt_5_98 (w : qS) : gP w 5 98 = some (.inl (qo_get (gL w) 1 0)) := rfl
theorem pt_5_101 (w : qS) : gP w 5 101 = some (.inr (.inl (59, 2, some 3))) := rfl
theorem pt_5_104 (w : qS) : gP w 5 104 = some (.inl (qo_al 0 1)) := rfl
theorem pt_5_105 (w : qS) : gP w 5 105 = some (.inl (qo_get (gL w) 0 0)) := rfl
theorem pt_5_108 (w : qS) : gP w 5 108 = some (.inl (qo_il 1 1)) := rfl
theorem pt_5_109 (w : qS) : gP w 5 109 = some (.inl (qo_il 5 2)) := rfl
theorem pt_5_111 (w : qS) : gP w 5 111 = some (.inl (qo_il 4 2)) := rfl
theorem pt_5_113 (w : qS) : gP w 5 113 = some (.inr (.inl (45, 4, some 1))) := rfl
theorem pt_5_116 (w : qS) : gP w 5 116 = some (.inl (qo_al 0 1)) := rfl
theorem pt_5_117 (w : qS) : gP w 5 117 = some (.inl (qo_get (gL w) 0 1)) := rfl
theorem pt_5_120 (w : qS) : gP w 5 120 = some (.inl (qo_al 0 1)) := rfl
theorem pt_5_121 (w : qS) : gP w 5 121 = some (.inl (qo_get (gL w) 0 0)) := rfl
theorem pt_5_124 (w : qS) : gP w 5 124 = some (.inl (qo_get (gL w) 1 0)) := rfl
theorem pt_5_127 (w : qS) : gP w 5 127 = some (.inr (.inl (60, 2, some 3))) := rfl
theorem pt_5_130 (w : qS) : gP w 5 130 = some (.inl (qo_k 1 1)) := rfl
theorem pt_5_131 (w : qS) : gP w 5 131 = some (.inr (.inr 2)) := rfl
theorem pt_6_0 (w : qS) : gP w 6 0 = some (.inl (qo_al 0 1)) := rfl
theorem pt_6_1 (w : qS) : gP w 6 1 = some (.inl (qo_get (gL w) 0 0)) := rfl
theorem pt_6_4 (w : qS) : gP w 6 4 = some (.inl (qo_il 1 1)) := rfl
theorem pt_6_5 (w : qS) : gP w 6 5 = some (.inr (.inl (29, 2, some 1))) := rfl
theorem pt_6_8 (w : qS) : gP w 6 8 = some (.inl (qo_z (fun x => x = 0) 22)) := rfl
theorem pt_6_11 (w : qS) : gP w 6 11 = some (.inl (qo_al 0 1)) := rfl
theorem pt_6_12 (w : qS) : gP w 6 12 = some (.inl (qo_get (gL w) 0 0)) := rfl
theorem pt_6_15 (w : qS) : gP w 6 15 = some (.inl (qo_il 1 1)) := rfl
theorem pt_6_16 (w : qS) : gP w 6 16 = some (.inr (.inl (30, 2, some 1))) := rfl
theorem pt_6_19 (w : qS) : gP w 6 19 = some (.inl (qo_z (fun x => ¬ x = 0) 24)) := rfl
theorem pt_6_22 (w : qS) : gP w 6 22 = some (.inl (qo_k 0 1)) := rfl
theorem pt_6_23 (w : qS) : gP w 6 23 = some (.inr (.inr 2)) := rfl
theorem pt_6_24 (w : qS) : gP w 6 24 = some (.inl (qo_al 0 1)) := rfl
theorem pt_6_25 (w : qS) : gP w 6 25 = some (.inl (qo_get (gL w) 0 1)) := rfl
theorem pt_6_28 (w : qS) : gP w 6 28 = some (.inl (qo_al 0 1)) := rfl
theorem pt_6_29 (w : qS) : gP w 6 29 = some (.inl (qo_get (gL w) 0 0)) := rfl
theorem pt_6_32 (w : qS) : gP w 6 32 = some (.inl (qo_get (gL w) 1 0)) := rfl
theorem pt_6_35 (w : qS) : gP w 6 35 = some (.inr (.inl (59, 2, some 3))) := rfl
theorem pt_6_38 (w : qS) : gP w 6 38 = some (.inl (qo_al 0 1)) := rfl
theorem pt_6_39 (w : qS) : gP w 6 39 = some (.inl (qo_get (gL w) 0 0)) := rfl
theorem pt_6_42 (w : qS) : gP w 6 42 = some (.inl (qo_il 1 1)) := rfl
theorem pt_6_43 (w : qS) : gP w 6 43 = some (.inr (.inl (46, 2, some 1))) := rfl
theorem pt_6_46 (w : qS) : gP w 6 46 = some (.inl (qo_al 0 1)) := rfl
theorem pt_6_47 (w : qS) : gP w 6 47 = some (.inl (qo_get (gL w) 0 1)) := rfl
theorem pt_6_50 (w : qS) : gP w 6 50 = some (.inl (qo_al 0 1)) := rfl
theorem pt_6_51 (w : qS) : gP w 6 51 = some (.inl (qo_get (gL w) 0 0)) := rfl
theorem pt_6_54 (w : qS) : gP w 6 54 = some (.inl (qo_get (gL w) 1 0)) := rfl
theorem pt_6_57 (w : qS) : gP w 6 57 = some (.inr (.inl (60, 2, some 3))) := rfl
theorem pt_6_60 (w : qS) : gP w 6 60 = some (.inl (qo_k 1 1)) := rfl
theorem pt_6_61 (w : qS) : gP w 6 61 = some (.inr (.inr 2)) := rfl
theorem pt_7_0 (w : qS) : gP w 7 0 = some (.inl (qo_il 1 1)) := rfl
theorem pt_7_1 (w : qS) : gP w 7 1 = some (.inl (qo_k 1 1)) := rfl
theorem pt_7_2 (w : qS) : gP w 7 2 = some (.inl (qo_c (fun x y => x < y) 10)) := rfl
theorem pt_7_5 (w : qS) : gP w 7 5 = some (.inl (qo_il 1 1)) := rfl
theorem pt_7_6 (w : qS) : gP w 7 6 = some (.inl (qo_k (iN 2) 1)) := rfl
theorem pt_7_7 (w : qS) : gP w 7 7 = some (.inl (qo_c (fun x y => x ≤ y) 12)) := rfl
theorem pt_7_10 (w : qS) : gP w 7 10 = some (.inl (qo_k (-1) 1)) := rfl
theorem pt_7_11 (w : qS) : gP w 7 11 = some (.inr (.inr 1)) := rfl
theorem pt_7_12 (w : qS) : gP w 7 12 = some (.inl (qo_al 0 1)) := rfl
theorem pt_7_13 (w : qS) : gP w 7 13 = some (.inl (qo_get (gL w) 0 0)) := rfl
theorem pt_7_16 (w : qS) : gP w 7 16 = some (.inl (qo_get (gL w) 1 0)) := rfl
theorem pt_7_19 (w : qS) : gP w 7 19 = some (.inl (qo_get (gL w) 2 8)) := rfl
theorem pt_7_22 (w : qS) : gP w 7 22 = some (.inl (qo_is 2 1)) := rfl
theorem pt_7_23 (w : qS) : gP w 7 23 = some (.inl (qo_al 0 1)) := rfl
theorem pt_7_24 (w : qS) : gP w 7 24 = some (.inl (qo_get (gL w) 0 1)) := rfl
theorem pt_7_27 (w : qS) : gP w 7 27 = some (.inl (qo_al 0 1)) := rfl
theorem pt_7_28 (w : qS) : gP w 7 28 = some (.inl (qo_get (gL w) 0 0)) := rfl
theorem pt_7_31 (w : qS) : gP w 7 31 = some (.inl (qo_get (gL w) 1 0)) := rfl
theorem pt_7_34 (w : qS) : gP w 7 34 = some (.inr (.inl (59, 2, some 3))) := rfl
theorem pt_7_37 (w : qS) : gP w 7 37 = some (.inl (qo_al 0 1)) := rfl
theorem pt_7_38 (w : qS) : gP w 7 38 = some (.inl (qo_get (gL w) 0 0)) := rfl
theorem pt_7_41 (w : qS) : gP w 7 41 = some (.inl (qo_get (gL w) 1 0)) := rfl
theorem pt_7_44 (w : qS) : gP w 7 44 = some (.inl (qo_il 1 1)) := rfl
theorem pt_7_45 (w : qS) : gP w 7 45 = some (.inl (qo_put (gL w) 2 8)) := rfl
theorem pt_7_48 (w : qS) : gP w 7 48 = some (.inl (qo_al 0 1)) := rfl
theorem pt_7_49 (w : qS) : gP w 7 49 = some (.inl (qo_get (gL w) 0 1)) := rfl
theorem pt_7_52 (w : qS) : gP w 7 52 = some (.inl (qo_al 0 1)) := rfl
theorem pt_7_53 (w : qS) : gP w 7 53 = some (.inl (qo_get (gL w) 0 0)) := rfl
theorem pt_7_56 (w : qS) : gP w 7 56 = some (.inl (qo_get (gL w) 1 0)) := rfl
theorem pt_7_59 (w : qS) : gP w 7 59 = some (.inr (.inl (60, 2, some 3))) := rfl
theorem pt_7_62 (w : qS) : gP w 7 62 = some (.inl (qo_il 2 1)) := rfl
theorem pt_7_63 (w : qS) : gP w 7 63 = some (.inr (.inr 1)) := rfl
theorem pt_8_0 (w : qS) : gP w 8 0 = some (.inl (qo_il 1 1)) := rfl
theorem pt_8_1 (w : qS) : gP w 8 1 = some (.inr (.inl (24, 1, none))) := rfl
theorem pt_8_4 (w : qS) : gP w 8 4 = some (.inl (qo_z (fun x => x = 0) 19)) := rfl
theorem pt_8_7 (w : qS) : gP w 8 7 = some (.inl (qo_al 0 1)) := rfl
theorem pt_8_8 (w : qS) : gP w 8 8 = some (.inl (qo_get (gL w) 0 0)) := rfl
theorem pt_8_11 (w : qS) : gP w 8 11 = some (.inl (qo_il 1 1)) := rfl
theorem pt_8_12 (w : qS) : gP w 8 12 = some (.inr (.inl (32, 2, some 1))) := rfl
theorem pt_8_15 (w : qS) : gP w 8 15 = some (.inl (qo_k (-1) 1)) := rfl
theorem pt_8_16 (w : qS) : gP w 8 16 = some (.inl (qo_c (fun x y => x = y) 21)) := rfl
theorem pt_8_19 (w : qS) : gP w 8 19 = some (.inl (qo_k 0 1)) := rfl
theorem pt_8_20 (w : qS) : gP w 8 20 = some (.inr (.inr 2)) := rfl
theorem pt_8_21 (w : qS) : gP w 8 21 = some (.inl (qo_al 0 1)) := rfl
theorem pt_8_22 (w : qS) : gP w 8 22 = some (.inl (qo_get (gL w) 0 1)) := rfl
theorem pt_8_25 (w : qS) : gP w 8 25 = some (.inl (qo_al 0 1)) := rfl
theorem pt_8_26 (w : qS) : gP w 8 26 = some (.inl (qo_get (gL w) 0 0)) := rfl
theorem pt_8_29 (w : qS) : gP w 8 29 = some (.inl (qo_get (gL w) 1 0)) := rfl
theorem pt_8_32 (w : qS) : gP w 8 32 = some (.inr (.inl (59, 2, some 3))) := rfl
theorem pt_8_35 (w : qS) : gP w 8 35 = some (.inl (qo_al 0 1)) := rfl
theorem pt_8_36 (w : qS) : gP w 8 36 = some (.inl (qo_get (gL w) 0 0)) := rfl
theorem pt_8_39 (w : qS) : gP w 8 39 = some (.inl (qo_get (gL w) 1 0)) := rfl
theorem pt_8_42 (w : qS) : gP w 8 42 = some (.inl (qo_get (gL w) 2 5)) := rfl
theorem pt_8_45 (w : qS) : gP w 8 45 = some (.inl (qo_il 1 1)) := rfl
theorem pt_8_46 (w : qS) : gP w 8 46 = some (.inl (qo_il 2 1)) := rfl
theorem pt_8_47 (w : qS) : gP w 8 47 = some (.inl (qo_z (fun x => x = 0) 55)) := rfl
theorem pt_8_50 (w : qS) : gP w 8 50 = some (.inl (qo_k (-2) 2)) := rfl
theorem pt_8_52 (w : qS) : gP w 8 52 = some (.inl (qo_g 56)) := rfl
theorem pt_8_55 (w : qS) : gP w 8 55 = some (.inl (qo_k (-1) 1)) := rfl
theorem pt_8_56 (w : qS) : gP w 8 56 = some (.inl (qo_ias (gL w))) := rfl
theorem pt_8_57 (w : qS) : gP w 8 57 = some (.inl (qo_al 0 1)) := rfl
theorem pt_8_58 (w : qS) : gP w 8 58 = some (.inl (qo_get (gL w) 0 1)) := rfl
theorem pt_8_61 (w : qS) : gP w 8 61 = some (.inl (qo_al 0 1)) := rfl
theorem pt_8_62 (w : qS) : gP w 8 62 = some (.inl (qo_get (gL w) 0 0)) := rfl
theorem pt_8_65 (w : qS) : gP w 8 65 = some (.inl (qo_get (gL w) 1 0)) := rfl
theorem pt_8_68 (w : qS) : gP w 8 68 = some (.inr (.inl (60, 2, some 3))) := rfl
theorem pt_8_71 (w : qS) : gP w 8 71 = some (.inl (qo_il 2 1)) := rfl
theorem pt_8_72 (w : qS) : gP w 8 72 = some (.inr (.inr 2)) := rfl
theorem pt_9_0 (w : qS) : gP w 9 0 = some (.inl (qo_al 0 1)) := rfl
theorem pt_9_1 (w : qS) : gP w 9 1 = some (.inl (qo_get (gL w) 0 0)) := rfl
theorem pt_9_4 (w : qS) : gP w 9 4 = some (.inl (qo_il 1 1)) := rfl
theorem pt_9_5 (w : qS) : gP w 9 5 = some (.inr (.inl (29, 2, some 1))) := rfl
theorem pt_9_8 (w : qS) : gP w 9 8 = some (.inl (qo_z (fun x => x = 0) 28)) := rfl
theorem pt_9_11 (w : qS) : gP w 9 11 = some (.inl (qo_il 2 1)) := rfl
theorem pt_9_12 (w : qS) : gP w 9 12 = some (.inr (.inl (24, 1, none))) := rfl
theorem pt_9_15 (w : qS) : gP w 9 15 = some (.inl (qo_z (fun x => x = 0) 28)) := rfl
theorem pt_9_18 (w : qS) : gP w 9 18 = some (.inl (qo_il 3 1)) := rfl
theorem pt_9_19 (w : qS) : gP w 9 19 = some (.inl (qo_z (fun x => x < 0) 28)) := rfl
theorem pt_9_22 (w : qS) : gP w 9 22 = some (.inl (qo_il 3 1)) := rfl
theorem pt_9_23 (w : qS) : gP w 9 23 = some (.inl (qo_k (iN 9) 2)) := rfl
theorem pt_9_25 (w : qS) : gP w 9 25 = some (.inl (qo_c (fun x y => x < y) 30)) := rfl
theorem pt_9_28 (w : qS) : gP w 9 28 = some (.inl (qo_k (-1) 1)) := rfl
theorem pt_9_29 (w : qS) : gP w 9 29 = some (.inr (.inr 1)) := rfl
theorem pt_9_30 (w : qS) : gP w 9 30 = some (.inl (qo_il 3 1)) := rfl
theorem pt_9_31 (w : qS) : gP w 9 31 = some (.inl (qo_k (iN 8) 2)) := rfl
theorem pt_9_33 (w : qS) : gP w 9 33 = some (.inl (qo_c (fun x y => ¬ x = y) 40)) := rfl
theorem pt_9_36 (w : qS) : gP w 9 36 = some (.inl (qo_k 1 1)) := rfl
theorem pt_9_37 (w : qS) : gP w 9 37 = some (.inl (qo_g 42)) := rfl
theorem pt_9_40 (w : qS) : gP w 9 40 = some (.inl (qo_k (iN 11) 2)) := rfl
theorem pt_9_42 (w : qS) : gP w 9 42 = some (.inl (qo_is 5 2)) := rfl
theorem pt_9_44 (w : qS) : gP w 9 44 = some (.inl (qo_il 4 2)) := rfl
theorem pt_9_46 (w : qS) : gP w 9 46 = some (.inl (qo_z (fun x => x < 0) 56)) := rfl
theorem pt_9_49 (w : qS) : gP w 9 49 = some (.inl (qo_il 4 2)) := rfl
theorem pt_9_51 (w : qS) : gP w 9 51 = some (.inl (qo_il 5 2)) := rfl
theorem pt_9_53 (w : qS) : gP w 9 53 = some (.inl (qo_c (fun x y => x ≤ y) 58)) := rfl
theorem pt_9_56 (w : qS) : gP w 9 56 = some (.inl (qo_k (-1) 1)) := rfl
theorem pt_9_57 (w : qS) : gP w 9 57 = some (.inr (.inr 1)) := rfl
theorem pt_9_58 (w : qS) : gP w 9 58 = some (.inl (qo_al 0 1)) := rfl
theorem pt_9_59 (w : qS) : gP w 9 59 = some (.inl (qo_get (gL w) 0 0)) := rfl
theorem pt_9_62 (w : qS) : gP w 9 62 = some (.inl (qo_al 0 1)) := rfl
theorem pt_9_63 (w : qS) : gP w 9 63 = some (.inl (qo_get (gL w) 0 0)) := rfl
theorem pt_9_66 (w : qS) : gP w 9 66 = some (.inl (qo_il 1 1)) := rfl
theorem pt_9_67 (w : qS) : gP w 9 67 = some (.inr (.inl (31, 2, some 1))) := rfl
theorem pt_9_70 (w : qS) : gP w 9 70 = some (.inl (qo_il 2 1)) := rfl
theorem pt_9_71 (w : qS) : gP w 9 71 = some (.inl (qo_il 3 1)) := rfl
theorem pt_9_72 (w : qS) : gP w 9 72 = some (.inl (qo_il 4 2)) := rfl
theorem pt_9_74 (w : qS) : gP w 9 74 = some (.inr (.inl (48, 5, some 1))) := rfl
theorem pt_9_77 (w : qS) : gP w 9 77 = some (.inl (qo_z (fun x => ¬ x = 0) 82)) := rfl
theorem pt_9_80 (w : qS) : gP w 9 80 = some (.inl (qo_k (-1) 1)) := rfl
theorem pt_9_81 (w : qS) : gP w 9 81 = some (.inr (.inr 1)) := rfl
theorem pt_9_82 (w : qS) : gP w 9 82 = some (.inl (qo_al 0 1)) := rfl
theorem pt_9_83 (w : qS) : gP w 9 83 = some (.inl (qo_get (gL w) 0 1)) := rfl
theorem pt_9_86 (w : qS) : gP w 9 86 = some (.inl (qo_al 0 1)) := rfl
theorem pt_9_87 (w : qS) : gP w 9 87 = some (.inl (qo_get (gL w) 0 0)) := rfl
theorem pt_9_90 (w : qS) : gP w 9 90 = some (.inl (qo_get (gL w) 1 0)) := rfl
theorem pt_9_93 (w : qS) : gP w 9 93 = some (.inr (.inl (59, 2, some 3))) := rfl
theorem pt_9_96 (w : qS) : gP w 9 96 = some (.inl (qo_al 0 1)) := rfl
theorem pt_9_97 (w : qS) : gP w 9 97 = some (.inl (qo_get (gL w) 0 0)) := rfl
theorem pt_9_100 (w : qS) : gP w 9 100 = some (.inl (qo_il 1 1)) := rfl
theorem pt_9_101 (w : qS) : gP w 9 101 = some (.inl (qo_il 2 1)) := rfl
theorem pt_9_102 (w : qS) : gP w 9 102 = some (.inl (qo_il 3 1)) := rfl
theorem pt_9_103 (w : qS) : gP w 9 103 = some (.inl (qo_il 4 2)) := rfl
theorem pt_9_105 (w : qS) : gP w 9 105 = some (.inr (.inl (49, 5, some 1))) := rfl
theorem pt_9_108 (w : qS) : gP w 9 108 = some (.inl (qo_is 6 2)) := rfl
theorem pt_9_110 (w : qS) : gP w 9 110 = some (.inl (qo_al 0 1)) := rfl
theorem pt_9_111 (w : qS) : gP w 9 111 = some (.inl (qo_get (gL w) 0 1)) := rfl
theorem pt_9_114 (w : qS) : gP w 9 114 = some (.inl (qo_al 0 1)) := rfl
theorem pt_9_115 (w : qS) : gP w 9 115 = some (.inl (qo_get (gL w) 0 0)) := rfl
theorem pt_9_118 (w : qS) : gP w 9 118 = some (.inl (qo_get (gL w) 1 0)) := rfl
theorem pt_9_121 (w : qS) : gP w 9 121 = some (.inr (.inl (60, 2, some 3))) := rfl
theorem pt_9_124 (w : qS) : gP w 9 124 = some (.inl (qo_il 6 2)) := rfl
theorem pt_9_126 (w : qS) : gP w 9 126 = some (.inr (.inr 1)) := rfl
theorem pt_10_0 (w : qS) : gP w 10 0 = some (.inl (qo_il 1 1)) := rfl
theorem pt_10_1 (w : qS) : gP w 10 1 = some (.inr (.inl (24, 1, none))) := rfl
theorem pt_10_4 (w : qS) : gP w 10 4 = some (.inl (qo_z (fun x => x = 0) 18)) := rfl
theorem pt_10_7 (w : qS) : gP w 10 7 = some (.inl (qo_al 0 1)) := rfl
theorem pt_10_8 (w : qS) : gP w 10 8 = some (.inl (qo_get (gL w) 0 0)) := rfl
theorem pt_10_11 (w : qS) : gP w 10 11 = some (.inl (qo_il 1 1)) := rfl
theorem pt_10_12 (w : qS) : gP w 10 12 = some (.inr (.inl (34, 2, some 1))) := rfl
theorem pt_10_15 (w : qS) : gP w 10 15 = some (.inl (qo_z (fun x => ¬ x = 0) 20)) := rfl
theorem pt_10_18 (w : qS) : gP w 10 18 = some (.inl (qo_k 0 1)) := rfl
theorem pt_10_19 (w : qS) : gP w 10 19 = some (.inr (.inr 2)) := rfl
theorem pt_10_20 (w : qS) : gP w 10 20 = some (.inl (qo_al 0 1)) := rfl
theorem pt_10_21 (w : qS) : gP w 10 21 = some (.inl (qo_get (gL w) 0 1)) := rfl
theorem pt_10_24 (w : qS) : gP w 10 24 = some (.inl (qo_al 0 1)) := rfl
theorem pt_10_25 (w : qS) : gP w 10 25 = some (.inl (qo_get (gL w) 0 0)) := rfl
theorem pt_10_28 (w : qS) : gP w 10 28 = some (.inl (qo_get (gL w) 1 0)) := rfl
theorem pt_10_31 (w : qS) : gP w 10 31 = some (.inr (.inl (59, 2, some 3))) := rfl
theorem pt_10_34 (w : qS) : gP w 10 34 = some (.inl (qo_al 0 1)) := rfl
theorem pt_10_35 (w : qS) : gP w 10 35 = some (.inl (qo_get (gL w) 0 0)) := rfl
theorem pt_10_38 (w : qS) : gP w 10 38 = some (.inl (qo_get (gL w) 1 0)) := rfl
theorem pt_10_41 (w : qS) : gP w 10 41 = some (.inl (qo_get (gL w) 2 5)) := rfl
theorem pt_10_44 (w : qS) : gP w 10 44 = some (.inl (qo_il 1 1)) := rfl
theorem pt_10_45 (w : qS) : gP w 10 45 = some (.inl (qo_k (-1) 1)) := rfl
theorem pt_10_46 (w : qS) : gP w 10 46 = some (.inl (qo_ias (gL w))) := rfl
theorem pt_10_47 (w : qS) : gP w 10 47 = some (.inl (qo_al 0 1)) := rfl
theorem pt_10_48 (w : qS) : gP w 10 48 = some (.inl (qo_get (gL w) 0 1)) := rfl
theorem pt_10_51 (w : qS) : gP w 10 51 = some (.inl (qo_al 0 1)) := rfl
theorem pt_10_52 (w : qS) : gP w 10 52 = some (.inl (qo_get (gL w) 0 0)) := rfl
theorem pt_10_55 (w : qS) : gP w 10 55 = some (.inl (qo_get (gL w) 1 0)) := rfl
theorem pt_10_58 (w : qS) : gP w 10 58 = some (.inr (.inl (60, 2, some 3))) := rfl
theorem pt_10_61 (w : qS) : gP w 10 61 = some (.inl (qo_k 1 1)) := rfl
theorem pt_10_62 (w : qS) : gP w 10 62 = some (.inr (.inr 2)) := rfl
theorem pt_11_0 (w : qS) : gP w 11 0 = some (.inl (qo_al 0 1)) := rfl
theorem pt_11_1 (w : qS) : gP w 11 1 = some (.inl (qo_get (gL w) 0 0)) := rfl
theorem pt_11_4 (w : qS) : gP w 11 4 = some (.inl (qo_il 1 1)) := rfl
theorem pt_11_5 (w : qS) : gP w 11 5 = some (.inr (.inl (29, 2, some 1))) := rfl
theorem pt_11_8 (w : qS) : gP w 11 8 = some (.inl (qo_z (fun x => ¬ x = 0) 13)) := rfl
theorem pt_11_11 (w : qS) : gP w 11 11 = some (.inl (qo_k (-1) 1)) := rfl
theorem pt_11_12 (w : qS) : gP w 11 12 = some (.inr (.inr 1)) := rfl
theorem pt_11_13 (w : qS) : gP w 11 13 = some (.inl (qo_al 0 1)) := rfl
theorem pt_11_14 (w : qS) : gP w 11 14 = some (.inl (qo_get (gL w) 0 1)) := rfl
theorem pt_11_17 (w : qS) : gP w 11 17 = some (.inl (qo_al 0 1)) := rfl
theorem pt_11_18 (w : qS) : gP w 11 18 = some (.inl (qo_get (gL w) 0 0)) := rfl
theorem pt_11_21 (w : qS) : gP w 11 21 = some (.inl (qo_get (gL w) 1 0)) := rfl
theorem pt_11_24 (w : qS) : gP w 11 24 = some (.inr (.inl (59, 2, some 3))) := rfl
theorem pt_11_27 (w : qS) : gP w 11 27 = some (.inl (qo_al 0 1)) := rfl
theorem pt_11_28 (w : qS) : gP w 11 28 = some (.inl (qo_get (gL w) 0 2)) := rfl
theorem pt_11_31 (w : qS) : gP w 11 31 = some (.inl (qo_al 0 1)) := rfl
theorem pt_11_32 (w : qS) : gP w 11 32 = some (.inl (qo_get (gL w) 0 0)) := rfl
theorem pt_11_35 (w : qS) : gP w 11 35 = some (.inl (qo_al 0 1)) := rfl
theorem pt_11_36 (w : qS) : gP w 11 36 = some (.inl (qo_get (gL w) 0 0)) := rfl
theorem pt_11_39 (w : qS) : gP w 11 39 = some (.inl (qo_il 1 1)) := rfl
theorem pt_11_40 (w : qS) : gP w 11 40 = some (.inr (.inl (31, 2, some 1))) := rfl
theorem pt_11_43 (w : qS) : gP w 11 43 = some (.inr (.inl (63, 3, some 4))) := rfl
theorem pt_11_46 (w : qS) : gP w 11 46 = some (.inl (qo_is 2 1)) := rfl
theorem pt_11_47 (w : qS) : gP w 11 47 = some (.inl (qo_al 0 1)) := rfl
theorem pt_11_48 (w : qS) : gP w 11 48 = some (.inl (qo_get (gL w) 0 1)) := rfl
theorem pt_11_51 (w : qS) : gP w 11 51 = some (.inl (qo_al 0 1)) := rfl
theorem pt_11_52 (w : qS) : gP w 11 52 = some (.inl (qo_get (gL w) 0 0)) := rfl
theorem pt_11_55 (w : qS) : gP w 11 55 = some (.inl (qo_get (gL w) 1 0)) := rfl
theorem pt_11_58 (w : qS) : gP w 11 58 = some (.inr (.inl (60, 2, some 3))) := rfl
theorem pt_11_61 (w : qS) : gP w 11 61 = some (.inl (qo_il 2 1)) := rfl
theorem pt_11_62 (w : qS) : gP w 11 62 = some (.inr (.inr 1)) := rfl
theorem pt_12_0 (w : qS) : gP w 12 0 = some (.inl (qo_al 0 1)) := rfl
theorem pt_12_1 (w : qS) : gP w 12 1 = some (.inl (qo_get (gL w) 0 0)) := rfl
theorem pt_12_4 (w : qS) : gP w 12 4 = some (.inl (qo_il 1 1)) := rfl
theorem pt_12_5 (w : qS) : gP w 12 5 = some (.inr (.inl (29, 2, some 1))) := rfl
theorem pt_12_8 (w : qS) : gP w 12 8 = some (.inl (qo_z (fun x => ¬ x = 0) 13)) := rfl
theorem pt_12_11 (w : qS) : gP w 12 11 = some (.inl (qo_k (-1) 1)) := rfl
theorem pt_12_12 (w : qS) : gP w 12 12 = some (.inr (.inr 1)) := rfl
theorem pt_12_13 (w : qS) : gP w 12 13 = some (.inl (qo_al 0 1)) := rfl
theorem pt_12_14 (w : qS) : gP w 12 14 = some (.inl (qo_get (gL w) 0 1)) := rfl
theorem pt_12_17 (w : qS) : gP w 12 17 = some (.inl (qo_al 0 1)) := rfl
theorem pt_12_18 (w : qS) : gP w 12 18 = some (.inl (qo_get (gL w) 0 0)) := rfl
theorem pt_12_21 (w : qS) : gP w 12 21 = some (.inl (qo_get (gL w) 1 0)) := rfl
theorem pt_12_24 (w : qS) : gP w 12 24 = some (.inr (.inl (59, 2, some 3))) := rfl
theorem pt_12_27 (w : qS) : gP w 12 27 = some (.inl (qo_al 0 1)) := rfl
theorem pt_12_28 (w : qS) : gP w 12 28 = some (.inl (qo_get (gL w) 0 0)) := rfl
theorem pt_12_31 (w : qS) : gP w 12 31 = some (.inl (qo_al 0 1)) := rfl
theorem pt_12_32 (w : qS) : gP w 12 32 = some (.inl (qo_get (gL w) 0 0)) := rfl
theorem pt_12_35 (w : qS) : gP w 12 35 = some (.inl (qo_il 1 1)) := rfl
theorem pt_12_36 (w : qS) : gP w 12 36 = some (.inr (.inl (31, 2, some 1))) := rfl
theorem pt_12_39 (w : qS) : gP w 12 39 = some (.inr (.inl (51, 2, some 1))) := rfl
theorem pt_12_42 (w : qS) : gP w 12 42 = some (.inl (qo_is 2 1)) := rfl
theorem pt_12_43 (w : qS) : gP w 12 43 = some (.inl (qo_al 0 1)) := rfl
theorem pt_12_44 (w : qS) : gP w 12 44 = some (.inl (qo_get (gL w) 0 1)) := rfl
theorem pt_12_47 (w : qS) : gP w 12 47 = some (.inl (qo_al 0 1)) := rfl
theorem pt_12_48 (w : qS) : gP w 12 48 = some (.inl (qo_get (gL w) 0 0)) := rfl
theorem pt_12_51 (w : qS) : gP w 12 51 = some (.inl (qo_get (gL w) 1 0)) := rfl
theorem pt_12_54 (w : qS) : gP w 12 54 = some (.inr (.inl (60, 2, some 3))) := rfl
theorem pt_12_57 (w : qS) : gP w 12 57 = some (.inl (qo_il 2 1)) := rfl
theorem pt_12_58 (w : qS) : gP w 12 58 = some (.inr (.inr 1)) := rfl
theorem pt_13_0 (w : qS) : gP w 13 0 = some (.inl (qo_al 0 1)) := rfl
theorem pt_13_1 (w : qS) : gP w 13 1 = some (.inl (qo_get (gL w) 0 1)) := rfl
theorem pt_13_4 (w : qS) : gP w 13 4 = some (.inl (qo_al 0 1)) := rfl
theorem pt_13_5 (w : qS) : gP w 13 5 = some (.inl (qo_get (gL w) 0 0)) := rfl
theorem pt_13_8 (w : qS) : gP w 13 8 = some (.inl (qo_get (gL w) 1 0)) := rfl
theorem pt_13_11 (w : qS) : gP w 13 11 = some (.inr (.inl (59, 2, some 3))) := rfl
theorem pt_13_14 (w : qS) : gP w 13 14 = some (.inl (qo_k 0 1)) := rfl
theorem pt_13_15 (w : qS) : gP w 13 15 = some (.inl (qo_is 1 1)) := rfl
theorem pt_13_16 (w : qS) : gP w 13 16 = some (.inl (qo_il 1 1)) := rfl
theorem pt_13_17 (w : qS) : gP w 13 17 = some (.inl (qo_k (iN 16) 2)) := rfl
theorem pt_13_19 (w : qS) : gP w 13 19 = some (.inl (qo_c (fun x y => y ≤ x) 42)) := rfl
theorem pt_13_22 (w : qS) : gP w 13 22 = some (.inl (qo_al 0 1)) := rfl
theorem pt_13_23 (w : qS) : gP w 13 23 = some (.inl (qo_get (gL w) 0 4)) := rfl
theorem pt_13_26 (w : qS) : gP w 13 26 = some (.inl (qo_il 1 1)) := rfl
theorem pt_13_27 (w : qS) : gP w 13 27 = some (.inl (qo_al 0 1)) := rfl
theorem pt_13_28 (w : qS) : gP w 13 28 = some (.inl (qo_get (gL w) 0 0)) := rfl
theorem pt_13_31 (w : qS) : gP w 13 31 = some (.inl (qo_il 1 1)) := rfl
theorem pt_13_32 (w : qS) : gP w 13 32 = some (.inr (.inl (52, 2, some 1))) := rfl
theorem pt_13_35 (w : qS) : gP w 13 35 = some (.inl (qo_ias (gL w))) := rfl
theorem pt_13_36 (w : qS) : gP w 13 36 = some (.inl (qo_inc 1 1)) := rfl
theorem pt_13_39 (w : qS) : gP w 13 39 = some (.inl (qo_g 16)) := rfl
theorem pt_13_42 (w : qS) : gP w 13 42 = some (.inl (qo_k 0 1)) := rfl
theorem pt_13_43 (w : qS) : gP w 13 43 = some (.inl (qo_is 1 1)) := rfl
theorem pt_13_44 (w : qS) : gP w 13 44 = some (.inl (qo_k 0 1)) := rfl
theorem pt_13_45 (w : qS) : gP w 13 45 = some (.inl (qo_is 2 1)) := rfl
theorem pt_13_46 (w : qS) : gP w 13 46 = some (.inl (qo_il 2 1)) := rfl
theorem pt_13_47 (w : qS) : gP w 13 47 = some (.inl (qo_k (iN 16) 2)) := rfl
theorem pt_13_49 (w : qS) : gP w 13 49 = some (.inl (qo_c (fun x y => y ≤ x) 96)) := rfl
theorem pt_13_52 (w : qS) : gP w 13 52 = some (.inl (qo_al 0 1)) := rfl
theorem pt_13_53 (w : qS) : gP w 13 53 = some (.inr (.inl (20, 1, some 0))) := rfl
theorem pt_13_56 (w : qS) : gP w 13 56 = some (.inl (qo_is 3 1)) := rfl
theorem pt_13_57 (w : qS) : gP w 13 57 = some (.inl (qo_il 3 1)) := rfl
theorem pt_13_58 (w : qS) : gP w 13 58 = some (.inl (qo_k (-1) 1)) := rfl
theorem pt_13_59 (w : qS) : gP w 13 59 = some (.inl (qo_c (fun x y => ¬ x = y) 65)) := rfl
theorem pt_13_62 (w : qS) : gP w 13 62 = some (.inl (qo_g 96)) := rfl
theorem pt_13_65 (w : qS) : gP w 13 65 = some (.inl (qo_al 0 1)) := rfl
theorem pt_13_66 (w : qS) : gP w 13 66 = some (.inl (qo_get (gL w) 0 4)) := rfl
theorem pt_13_69 (w : qS) : gP w 13 69 = some (.inl (qo_il 3 1)) := rfl
theorem pt_13_70 (w : qS) : gP w 13 70 = some (.inl (qo_k (-1) 1)) := rfl
theorem pt_13_71 (w : qS) : gP w 13 71 = some (.inl (qo_ias (gL w))) := rfl
theorem pt_13_72 (w : qS) : gP w 13 72 = some (.inl (qo_al 0 1)) := rfl
theorem pt_13_73 (w : qS) : gP w 13 73 = some (.inl (qo_get (gL w) 0 2)) := rfl
theorem pt_13_76 (w : qS) : gP w 13 76 = some (.inl (qo_al 0 1)) := rfl
theorem pt_13_77 (w : qS) : gP w 13 77 = some (.inl (qo_get (gL w) 0 0)) := rfl
theorem pt_13_80 (w : qS) : gP w 13 80 = some (.inl (qo_il 3 1)) := rfl
theorem pt_13_81 (w : qS) : gP w 13 81 = some (.inr (.inl (62, 3, some 4))) := rfl
theorem pt_13_84 (w : qS) : gP w 13 84 = some (.inl (qo_z (fun x => x = 0) 90)) := rfl
theorem pt_13_87 (w : qS) : gP w 13 87 = some (.inl (qo_inc 1 1)) := rfl
theorem pt_13_90 (w : qS) : gP w 13 90 = some (.inl (qo_inc 2 1)) := rfl
theorem pt_13_93 (w : qS) : gP w 13 93 = some (.inl (qo_g 46)) := rfl
theorem pt_13_96 (w : qS) : gP w 13 96 = some (.inl (qo_al 0 1)) := rfl
theorem pt_13_97 (w : qS) : gP w 13 97 = some (.inl (qo_get (gL w) 0 1)) := rfl
theorem pt_13_100 (w : qS) : gP w 13 100 = some (.inl (qo_al 0 1)) := rfl
theorem pt_13_101 (w : qS) : gP w 13 101 = some (.inl (qo_get (gL w) 0 0)) := rfl
theorem pt_13_104 (w : qS) : gP w 13 104 = some (.inl (qo_get (gL w) 1 0)) := rfl
theorem pt_13_107 (w : qS) : gP w 13 107 = some (.inr (.inl (60, 2, some 3))) := rfl
theorem pt_13_110 (w : qS) : gP w 13 110 = some (.inl (qo_il 1 1)) := rfl
theorem pt_13_111 (w : qS) : gP w 13 111 = some (.inr (.inr 1)) := rfl
theorem pt_14_0 (w : qS) : gP w 14 0 = some (.inl (qo_il 1 1)) := rfl
theorem pt_14_1 (w : qS) : gP w 14 1 = some (.inr (.inl (24, 1, none))) := rfl
theorem pt_14_4 (w : qS) : gP w 14 4 = some (.inl (qo_z (fun x => x = 0) 18)) := rfl
theorem pt_14_7 (w : qS) : gP w 14 7 = some (.inl (qo_al 0 1)) := rfl
theorem pt_14_8 (w : qS) : gP w 14 8 = some (.inl (qo_get (gL w) 0 0)) := rfl
theorem pt_14_11 (w : qS) : gP w 14 11 = some (.inl (qo_il 1 1)) := rfl
theorem pt_14_12 (w : qS) : gP w 14 12 = some (.inr (.inl (32, 2, some 1))) := rfl
theorem pt_14_15 (w : qS) : gP w 14 15 = some (.inl (qo_g 19)) := rfl
theorem pt_14_18 (w : qS) : gP w 14 18 = some (.inl (qo_k (-1) 1)) := rfl
theorem pt_14_19 (w : qS) : gP w 14 19 = some (.inr (.inr 1)) := rfl
theorem pt_15_0 (w : qS) : gP w 15 0 = some (.inl (qo_il 1 1)) := rfl
theorem pt_15_1 (w : qS) : gP w 15 1 = some (.inl (qo_z (fun x => x < 0) 13)) := rfl
theorem pt_15_4 (w : qS) : gP w 15 4 = some (.inl (qo_il 2 1)) := rfl
theorem pt_15_5 (w : qS) : gP w 15 5 = some (.inl (qo_z (fun x => x < 0) 13)) := rfl
theorem pt_15_8 (w : qS) : gP w 15 8 = some (.inl (qo_il 2 1)) := rfl
theorem pt_15_9 (w : qS) : gP w 15 9 = some (.inl (qo_k (iN 3) 1)) := rfl
theorem pt_15_10 (w : qS) : gP w 15 10 = some (.inl (qo_c (fun x y => x ≤ y) 15)) := rfl
theorem pt_15_13 (w : qS) : gP w 15 13 = some (.inl (qo_k (-1) 1)) := rfl
theorem pt_15_14 (w : qS) : gP w 15 14 = some (.inr (.inr 1)) := rfl
theorem pt_15_15 (w : qS) : gP w 15 15 = some (.inl (qo_il 1 1)) := rfl
theorem pt_15_16 (w : qS) : gP w 15 16 = some (.inl (qo_is 3 1)) := rfl
theorem pt_15_17 (w : qS) : gP w 15 17 = some (.inl (qo_k 0 1)) := rfl
theorem pt_15_18 (w : qS) : gP w 15 18 = some (.inl (qo_is 4 2)) := rfl
theorem pt_15_20 (w : qS) : gP w 15 20 = some (.inl (qo_il 4 2)) := rfl
theorem pt_15_22 (w : qS) : gP w 15 22 = some (.inl (qo_al 0 1)) := rfl
theorem pt_15_23 (w : qS) : gP w 15 23 = some (.inl (qo_get (gL w) 0 0)) := rfl
theorem pt_15_26 (w : qS) : gP w 15 26 = some (.inl (qo_get (gL w) 1 0)) := rfl
theorem pt_15_29 (w : qS) : gP w 15 29 = some (.inl (qo_get (gL w) 2 6)) := rfl
theorem pt_15_32 (w : qS) : gP w 15 32 = some (.inl (qo_c (fun x y => y ≤ x) 83)) := rfl
theorem pt_15_35 (w : qS) : gP w 15 35 = some (.inl (qo_al 0 1)) := rfl
theorem pt_15_36 (w : qS) : gP w 15 36 = some (.inl (qo_get (gL w) 0 2)) := rfl
theorem pt_15_39 (w : qS) : gP w 15 39 = some (.inl (qo_al 0 1)) := rfl
theorem pt_15_40 (w : qS) : gP w 15 40 = some (.inl (qo_get (gL w) 0 0)) := rfl
theorem pt_15_43 (w : qS) : gP w 15 43 = some (.inl (qo_il 4 2)) := rfl
theorem pt_15_45 (w : qS) : gP w 15 45 = some (.inr (.inl (64, 3, some 4))) := rfl
theorem pt_15_48 (w : qS) : gP w 15 48 = some (.inl (qo_is 5 2)) := rfl
theorem pt_15_50 (w : qS) : gP w 15 50 = some (.inl (qo_il 5 2)) := rfl
theorem pt_15_52 (w : qS) : gP w 15 52 = some (.inl (qo_k (-1) 1)) := rfl
theorem pt_15_53 (w : qS) : gP w 15 53 = some (.inl (qo_c (fun x y => ¬ x = y) 59)) := rfl
theorem pt_15_56 (w : qS) : gP w 15 56 = some (.inl (qo_g 77)) := rfl
theorem pt_15_59 (w : qS) : gP w 15 59 = some (.inl (qo_il 3 1)) := rfl
theorem pt_15_60 (w : qS) : gP w 15 60 = some (.inl (qo_z (fun x => ¬ x = 0) 74)) := rfl
theorem pt_15_63 (w : qS) : gP w 15 63 = some (.inl (qo_il 2 1)) := rfl
theorem pt_15_64 (w : qS) : gP w 15 64 = some (.inl (qo_k 1 1)) := rfl
theorem pt_15_65 (w : qS) : gP w 15 65 = some (.inl (qo_il 4 2)) := rfl
theorem pt_15_67 (w : qS) : gP w 15 67 = some (.inl (qo_il 5 2)) := rfl
theorem pt_15_69 (w : qS) : gP w 15 69 = some (.inl (qo_k (-1) 1)) := rfl
theorem pt_15_70 (w : qS) : gP w 15 70 = some (.inr (.inl (22, 5, none))) := rfl
theorem pt_15_73 (w : qS) : gP w 15 73 = some (.inr (.inr 1)) := rfl
theorem pt_15_74 (w : qS) : gP w 15 74 = some (.inl (qo_inc 3 (-1))) := rfl
theorem pt_15_77 (w : qS) : gP w 15 77 = some (.inl (qo_inc 4 1)) := rfl
theorem pt_15_80 (w : qS) : gP w 15 80 = some (.inl (qo_g 20)) := rfl
theorem pt_15_83 (w : qS) : gP w 15 83 = some (.inl (qo_al 0 1)) := rfl
theorem pt_15_84 (w : qS) : gP w 15 84 = some (.inl (qo_il 3 1)) := rfl
theorem pt_15_85 (w : qS) : gP w 15 85 = some (.inl (qo_il 2 1)) := rfl
theorem pt_15_86 (w : qS) : gP w 15 86 = some (.inr (.inl (21, 3, some 0))) := rfl
theorem pt_15_89 (w : qS) : gP w 15 89 = some (.inr (.inr 1)) := rfl
theorem pt_16_0 (w : qS) : gP w 16 0 = some (.inl (qo_il 1 1)) := rfl
theorem pt_16_1 (w : qS) : gP w 16 1 = some (.inr (.inl (23, 1, none))) := rfl
theorem pt_16_4 (w : qS) : gP w 16 4 = some (.inl (qo_z (fun x => x = 0) 11)) := rfl
theorem pt_16_7 (w : qS) : gP w 16 7 = some (.inl (qo_il 2 1)) := rfl
theorem pt_16_8 (w : qS) : gP w 16 8 = some (.inl (qo_z (fun x => 0 ≤ x) 13)) := rfl
theorem pt_16_11 (w : qS) : gP w 16 11 = some (.inl (qo_k (-1) 1)) := rfl
theorem pt_16_12 (w : qS) : gP w 16 12 = some (.inr (.inr 1)) := rfl
theorem pt_16_13 (w : qS) : gP w 16 13 = some (.inl (qo_il 2 1)) := rfl
theorem pt_16_14 (w : qS) : gP w 16 14 = some (.inl (qo_is 3 1)) := rfl
theorem pt_16_15 (w : qS) : gP w 16 15 = some (.inl (qo_il 1 1)) := rfl
theorem pt_16_16 (w : qS) : gP w 16 16 = some (.inl (qo_k (iN 120) 2)) := rfl
theorem pt_16_18 (w : qS) : gP w 16 18 = some (.inl (qo_b (fun x y => x * y))) := rfl
theorem pt_16_19 (w : qS) : gP w 16 19 = some (.inl (qo_is 4 2)) := rfl
theorem pt_16_21 (w : qS) : gP w 16 21 = some (.inl (qo_il 4 2)) := rfl
theorem pt_16_23 (w : qS) : gP w 16 23 = some (.inl (qo_k (iN 120) 2)) := rfl
theorem pt_16_25 (w : qS) : gP w 16 25 = some (.inl (qo_b (fun x y => x + y))) := rfl
theorem pt_16_26 (w : qS) : gP w 16 26 = some (.inl (qo_is 5 2)) := rfl
theorem pt_16_28 (w : qS) : gP w 16 28 = some (.inl (qo_k 0 1)) := rfl
theorem pt_16_29 (w : qS) : gP w 16 29 = some (.inl (qo_is 6 2)) := rfl
theorem pt_16_31 (w : qS) : gP w 16 31 = some (.inl (qo_il 6 2)) := rfl
theorem pt_16_33 (w : qS) : gP w 16 33 = some (.inl (qo_k (iN 120) 2)) := rfl
theorem pt_16_35 (w : qS) : gP w 16 35 = some (.inl (qo_c (fun x y => y ≤ x) 115)) := rfl
theorem pt_16_38 (w : qS) : gP w 16 38 = some (.inl (qo_il 4 2)) := rfl
theorem pt_16_40 (w : qS) : gP w 16 40 = some (.inl (qo_il 5 2)) := rfl
theorem pt_16_42 (w : qS) : gP w 16 42 = some (.inl (qo_c (fun x y => y ≤ x) 115)) := rfl
theorem pt_16_45 (w : qS) : gP w 16 45 = some (.inl (qo_al 0 1)) := rfl
theorem pt_16_46 (w : qS) : gP w 16 46 = some (.inl (qo_get (gL w) 0 0)) := rfl
theorem pt_16_49 (w : qS) : gP w 16 49 = some (.inl (qo_il 4 2)) := rfl
theorem pt_16_51 (w : qS) : gP w 16 51 = some (.inr (.inl (55, 2, some 1))) := rfl
theorem pt_16_54 (w : qS) : gP w 16 54 = some (.inl (qo_is 7 2)) := rfl
theorem pt_16_56 (w : qS) : gP w 16 56 = some (.inl (qo_al 0 1)) := rfl
theorem pt_16_57 (w : qS) : gP w 16 57 = some (.inl (qo_get (gL w) 0 0)) := rfl
theorem pt_16_60 (w : qS) : gP w 16 60 = some (.inl (qo_il 4 2)) := rfl
theorem pt_16_62 (w : qS) : gP w 16 62 = some (.inr (.inl (32, 2, some 1))) := rfl
theorem pt_16_65 (w : qS) : gP w 16 65 = some (.inl (qo_is 8 2)) := rfl
theorem pt_16_67 (w : qS) : gP w 16 67 = some (.inl (qo_il 8 2)) := rfl
theorem pt_16_69 (w : qS) : gP w 16 69 = some (.inl (qo_k (-1) 1)) := rfl
theorem pt_16_70 (w : qS) : gP w 16 70 = some (.inl (qo_c (fun x y => x = y) 102)) := rfl
theorem pt_16_73 (w : qS) : gP w 16 73 = some (.inl (qo_il 3 1)) := rfl
theorem pt_16_74 (w : qS) : gP w 16 74 = some (.inl (qo_k (iN 4) 1)) := rfl
theorem pt_16_75 (w : qS) : gP w 16 75 = some (.inl (qo_c (fun x y => y ≤ x) 99)) := rfl
theorem pt_16_78 (w : qS) : gP w 16 78 = some (.inl (qo_il 3 1)) := rfl
theorem pt_16_79 (w : qS) : gP w 16 79 = some (.inl (qo_il 4 2)) := rfl
theorem pt_16_81 (w : qS) : gP w 16 81 = some (.inr (.inl (25, 1, none))) := rfl
theorem pt_16_84 (w : qS) : gP w 16 84 = some (.inl (qo_il 4 2)) := rfl
theorem pt_16_86 (w : qS) : gP w 16 86 = some (.inr (.inl (26, 1, none))) := rfl
theorem pt_16_89 (w : qS) : gP w 16 89 = some (.inl (qo_il 7 2)) := rfl
theorem pt_16_91 (w : qS) : gP w 16 91 = some (.inl (qo_il 8 2)) := rfl
theorem pt_16_93 (w : qS) : gP w 16 93 = some (.inl (qo_k 1 1)) := rfl
theorem pt_16_94 (w : qS) : gP w 16 94 = some (.inl (qo_b (fun x y => x + y))) := rfl
theorem pt_16_95 (w : qS) : gP w 16 95 = some (.inr (.inl (22, 5, none))) := rfl
theorem pt_16_98 (w : qS) : gP w 16 98 = some (.inr (.inr 1)) := rfl
theorem pt_16_99 (w : qS) : gP w 16 99 = some (.inl (qo_inc 3 (-4))) := rfl
theorem pt_16_102 (w : qS) : gP w 16 102 = some (.inl (qo_il 4 2)) := rfl
theorem pt_16_104 (w : qS) : gP w 16 104 = some (.inl (qo_il 7 2)) := rfl
theorem pt_16_106 (w : qS) : gP w 16 106 = some (.inl (qo_b (fun x y => x + y))) := rfl
theorem pt_16_107 (w : qS) : gP w 16 107 = some (.inl (qo_is 4 2)) := rfl
theorem pt_16_109 (w : qS) : gP w 16 109 = some (.inl (qo_inc 6 1)) := rfl
theorem pt_16_112 (w : qS) : gP w 16 112 = some (.inl (qo_g 31)) := rfl
theorem pt_16_115 (w : qS) : gP w 16 115 = some (.inl (qo_il 3 1)) := rfl
theorem pt_16_116 (w : qS) : gP w 16 116 = some (.inl (qo_z (fun x => ¬ x = 0) 125)) := rfl
theorem pt_16_119 (w : qS) : gP w 16 119 = some (.inl (qo_k (iN 255) 3)) := rfl
theorem pt_16_122 (w : qS) : gP w 16 122 = some (.inl (qo_g 126)) := rfl
theorem pt_16_125 (w : qS) : gP w 16 125 = some (.inl (qo_k (-1) 1)) := rfl
theorem pt_16_126 (w : qS) : gP w 16 126 = some (.inr (.inr 1)) := rfl
theorem pt_17_0 (w : qS) : gP w 17 0 = some (.inl (qo_il 1 1)) := rfl
theorem pt_17_1 (w : qS) : gP w 17 1 = some (.inl (qo_z (fun x => x < 0) 11)) := rfl
theorem pt_17_4 (w : qS) : gP w 17 4 = some (.inl (qo_il 1 1)) := rfl
theorem pt_17_5 (w : qS) : gP w 17 5 = some (.inl (qo_k (iN 255) 3)) := rfl
theorem pt_17_8 (w : qS) : gP w 17 8 = some (.inl (qo_c (fun x y => x ≤ y) 13)) := rfl
theorem pt_17_11 (w : qS) : gP w 17 11 = some (.inl (qo_k (-1) 1)) := rfl
theorem pt_17_12 (w : qS) : gP w 17 12 = some (.inr (.inr 1)) := rfl
theorem pt_17_13 (w : qS) : gP w 17 13 = some (.inl (qo_al 0 1)) := rfl
theorem pt_17_14 (w : qS) : gP w 17 14 = some (.inl (qo_get (gL w) 0 3)) := rfl
theorem pt_17_17 (w : qS) : gP w 17 17 = some (.inl (qo_il 1 1)) := rfl
theorem pt_17_18 (w : qS) : gP w 17 18 = some (.inr (.inl (77, 2, some 6))) := rfl
theorem pt_17_21 (w : qS) : gP w 17 21 = some (.inl (qo_z (fun x => x = 0) 34)) := rfl
theorem pt_17_24 (w : qS) : gP w 17 24 = some (.inl (qo_al 0 1)) := rfl
theorem pt_17_25 (w : qS) : gP w 17 25 = some (.inl (qo_get (gL w) 0 3)) := rfl
theorem pt_17_28 (w : qS) : gP w 17 28 = some (.inl (qo_get (gL w) 6 1)) := rfl
theorem pt_17_31 (w : qS) : gP w 17 31 = some (.inl (qo_g 36)) := rfl
theorem pt_17_34 (w : qS) : gP w 17 34 = some (.inl (qo_k (-2) 2)) := rfl
theorem pt_17_36 (w : qS) : gP w 17 36 = some (.inr (.inr 1)) := rfl
theorem pt_18_0 (w : qS) : gP w 18 0 = some (.inl (qo_il 1 1)) := rfl
theorem pt_18_1 (w : qS) : gP w 18 1 = some (.inr (.inl (23, 1, none))) := rfl
theorem pt_18_4 (w : qS) : gP w 18 4 = some (.inl (qo_z (fun x => ¬ x = 0) 9)) := rfl
theorem pt_18_7 (w : qS) : gP w 18 7 = some (.inl (qo_k (-1) 1)) := rfl
theorem pt_18_8 (w : qS) : gP w 18 8 = some (.inr (.inr 1)) := rfl
theorem pt_18_9 (w : qS) : gP w 18 9 = some (.inl (qo_al 0 1)) := rfl
theorem pt_18_10 (w : qS) : gP w 18 10 = some (.inl (qo_get (gL w) 0 3)) := rfl
theorem pt_18_13 (w : qS) : gP w 18 13 = some (.inr (.inl (78, 1, some 6))) := rfl
theorem pt_18_16 (w : qS) : gP w 18 16 = some (.inl (qo_al 0 1)) := rfl
theorem pt_18_17 (w : qS) : gP w 18 17 = some (.inl (qo_get (gL w) 0 3)) := rfl
theorem pt_18_20 (w : qS) : gP w 18 20 = some (.inl (qo_k 0 1)) := rfl
theorem pt_18_21 (w : qS) : gP w 18 21 = some (.inl (qo_put (gL w) 6 1)) := rfl
theorem pt_18_24 (w : qS) : gP w 18 24 = some (.inl (qo_k 0 1)) := rfl
theorem pt_18_25 (w : qS) : gP w 18 25 = some (.inl (qo_is 2 1)) := rfl
theorem pt_18_26 (w : qS) : gP w 18 26 = some (.inl (qo_k 0 1)) := rfl
theorem pt_18_27 (w : qS) : gP w 18 27 = some (.inl (qo_is 3 1)) := rfl
theorem pt_18_28 (w : qS) : gP w 18 28 = some (.inl (qo_il 3 1)) := rfl
theorem pt_18_29 (w : qS) : gP w 18 29 = some (.inl (qo_k (iN 120) 2)) := rfl
theorem pt_18_31 (w : qS) : gP w 18 31 = some (.inl (qo_c (fun x y => y ≤ x) 68)) := rfl
theorem pt_18_34 (w : qS) : gP w 18 34 = some (.inl (qo_al 0 1)) := rfl
theorem pt_18_35 (w : qS) : gP w 18 35 = some (.inl (qo_get (gL w) 0 3)) := rfl
theorem pt_18_38 (w : qS) : gP w 18 38 = some (.inl (qo_get (gL w) 6 2)) := rfl
theorem pt_18_41 (w : qS) : gP w 18 41 = some (.inl (qo_il 3 1)) := rfl
theorem pt_18_42 (w : qS) : gP w 18 42 = some (.inl (qo_ia (gL w))) := rfl
theorem pt_18_43 (w : qS) : gP w 18 43 = some (.inl (qo_al 0 1)) := rfl
theorem pt_18_44 (w : qS) : gP w 18 44 = some (.inl (qo_get (gL w) 0 0)) := rfl
theorem pt_18_47 (w : qS) : gP w 18 47 = some (.inl (qo_il 1 1)) := rfl
theorem pt_18_48 (w : qS) : gP w 18 48 = some (.inl (qo_k (iN 120) 2)) := rfl
theorem pt_18_50 (w : qS) : gP w 18 50 = some (.inl (qo_b (fun x y => x * y))) := rfl
theorem pt_18_51 (w : qS) : gP w 18 51 = some (.inl (qo_il 3 1)) := rfl
theorem pt_18_52 (w : qS) : gP w 18 52 = some (.inl (qo_b (fun x y => x + y))) := rfl
theorem pt_18_53 (w : qS) : gP w 18 53 = some (.inr (.inl (32, 2, some 1))) := rfl
theorem pt_18_56 (w : qS) : gP w 18 56 = some (.inl (qo_c (fun x y => x = y) 62)) := rfl
theorem pt_18_59 (w : qS) : gP w 18 59 = some (.inl (qo_inc 2 1)) := rfl
theorem pt_18_62 (w : qS) : gP w 18 62 = some (.inl (qo_inc 3 1)) := rfl
theorem pt_18_65 (w : qS) : gP w 18 65 = some (.inl (qo_g 28)) := rfl
theorem pt_18_68 (w : qS) : gP w 18 68 = some (.inl (qo_il 2 1)) := rfl
theorem pt_18_69 (w : qS) : gP w 18 69 = some (.inr (.inr 1)) := rfl
theorem pt_19_0 (w : qS) : gP w 19 0 = some (.inl (qo_al 0 1)) := rfl
theorem pt_19_1 (w : qS) : gP w 19 1 = some (.inl (qo_get (gL w) 0 1)) := rfl
theorem pt_19_4 (w : qS) : gP w 19 4 = some (.inl (qo_get (gL w) 3 2)) := rfl
theorem pt_19_7 (w : qS) : gP w 19 7 = some (.inl (qo_z (fun x => ¬ x = 0) 12)) := rfl
theorem pt_19_10 (w : qS) : gP w 19 10 = some (.inl (qo_k (-1) 1)) := rfl
theorem pt_19_11 (w : qS) : gP w 19 11 = some (.inr (.inr 1)) := rfl
theorem pt_19_12 (w : qS) : gP w 19 12 = some (.inl (qo_al 0 1)) := rfl
theorem pt_19_13 (w : qS) : gP w 19 13 = some (.inl (qo_get (gL w) 0 1)) := rfl
theorem pt_19_16 (w : qS) : gP w 19 16 = some (.inl (qo_al 0 1)) := rfl
theorem pt_19_17 (w : qS) : gP w 19 17 = some (.inl (qo_get (gL w) 0 0)) := rfl
theorem pt_19_20 (w : qS) : gP w 19 20 = some (.inl (qo_get (gL w) 1 0)) := rfl
theorem pt_19_23 (w : qS) : gP w 19 23 = some (.inr (.inl (61, 2, some 3))) := rfl
theorem pt_19_26 (w : qS) : gP w 19 26 = some (.inl (qo_al 0 1)) := rfl
theorem pt_19_27 (w : qS) : gP w 19 27 = some (.inl (qo_get (gL w) 0 0)) := rfl
theorem pt_19_30 (w : qS) : gP w 19 30 = some (.inr (.inl (40, 1, some 1))) := rfl
theorem pt_19_33 (w : qS) : gP w 19 33 = some (.inl (qo_al 0 1)) := rfl
theorem pt_19_34 (w : qS) : gP w 19 34 = some (.inl (qo_get (gL w) 0 1)) := rfl
theorem pt_19_37 (w : qS) : gP w 19 37 = some (.inl (qo_get (gL w) 3 2)) := rfl
theorem pt_19_40 (w : qS) : gP w 19 40 = some (.inr (.inr 1)) := rfl
theorem pt_20_0 (w : qS) : gP w 20 0 = some (.inl (qo_k (-1) 1)) := rfl
theorem pt_20_1 (w : qS) : gP w 20 1 = some (.inl (qo_is 1 1)) := rfl
theorem pt_20_2 (w : qS) : gP w 20 2 = some (.inl (qo_k 0 1)) := rfl
theorem pt_20_3 (w : qS) : gP w 20 3 = some (.inl (qo_is 2 1)) := rfl
theorem pt_20_4 (w : qS) : gP w 20 4 = some (.inl (qo_il 2 1)) := rfl
theorem pt_20_5 (w : qS) : gP w 20 5 = some (.inl (qo_k (iN 16) 2)) := rfl
theorem pt_20_7 (w : qS) : gP w 20 7 = some (.inl (qo_c (fun x y => y ≤ x) 48)) := rfl
theorem pt_20_10 (w : qS) : gP w 20 10 = some (.inl (qo_al 0 1)) := rfl
theorem pt_20_11 (w : qS) : gP w 20 11 = some (.inl (qo_get (gL w) 0 4)) := rfl
theorem pt_20_14 (w : qS) : gP w 20 14 = some (.inl (qo_il 2 1)) := rfl
theorem pt_20_15 (w : qS) : gP w 20 15 = some (.inl (qo_ia (gL w))) := rfl
theorem pt_20_16 (w : qS) : gP w 20 16 = some (.inl (qo_k (-1) 1)) := rfl
theorem pt_20_17 (w : qS) : gP w 20 17 = some (.inl (qo_c (fun x y => x = y) 42)) := rfl
theorem pt_20_20 (w : qS) : gP w 20 20 = some (.inl (qo_il 1 1)) := rfl
theorem pt_20_21 (w : qS) : gP w 20 21 = some (.inl (qo_k (-1) 1)) := rfl
theorem pt_20_22 (w : qS) : gP w 20 22 = some (.inl (qo_c (fun x y => x = y) 40)) := rfl
theorem pt_20_25 (w : qS) : gP w 20 25 = some (.inl (qo_al 0 1)) := rfl
theorem pt_20_26 (w : qS) : gP w 20 26 = some (.inl (qo_get (gL w) 0 4)) := rfl
theorem pt_20_29 (w : qS) : gP w 20 29 = some (.inl (qo_il 2 1)) := rfl
theorem pt_20_30 (w : qS) : gP w 20 30 = some (.inl (qo_ia (gL w))) := rfl
theorem pt_20_31 (w : qS) : gP w 20 31 = some (.inl (qo_al 0 1)) := rfl
theorem pt_20_32 (w : qS) : gP w 20 32 = some (.inl (qo_get (gL w) 0 4)) := rfl
theorem pt_20_35 (w : qS) : gP w 20 35 = some (.inl (qo_il 1 1)) := rfl
theorem pt_20_36 (w : qS) : gP w 20 36 = some (.inl (qo_ia (gL w))) := rfl
theorem pt_20_37 (w : qS) : gP w 20 37 = some (.inl (qo_c (fun x y => y ≤ x) 42)) := rfl
theorem pt_20_40 (w : qS) : gP w 20 40 = some (.inl (qo_il 2 1)) := rfl
theorem pt_20_41 (w : qS) : gP w 20 41 = some (.inl (qo_is 1 1)) := rfl
theorem pt_20_42 (w : qS) : gP w 20 42 = some (.inl (qo_inc 2 1)) := rfl
theorem pt_20_45 (w : qS) : gP w 20 45 = some (.inl (qo_g 4)) := rfl
theorem pt_20_48 (w : qS) : gP w 20 48 = some (.inl (qo_il 1 1)) := rfl
theorem pt_20_49 (w : qS) : gP w 20 49 = some (.inr (.inr 1)) := rfl
theorem pt_21_0 (w : qS) : gP w 21 0 = some (.inl (qo_il 1 1)) := rfl
theorem pt_21_1 (w : qS) : gP w 21 1 = some (.inl (qo_is 3 1)) := rfl
theorem pt_21_2 (w : qS) : gP w 21 2 = some (.inl (qo_k 0 1)) := rfl
theorem pt_21_3 (w : qS) : gP w 21 3 = some (.inl (qo_is 4 2)) := rfl
theorem pt_21_5 (w : qS) : gP w 21 5 = some (.inl (qo_il 4 2)) := rfl
theorem pt_21_7 (w : qS) : gP w 21 7 = some (.inl (qo_al 0 1)) := rfl
theorem pt_21_8 (w : qS) : gP w 21 8 = some (.inl (qo_get (gL w) 0 0)) := rfl
theorem pt_21_11 (w : qS) : gP w 21 11 = some (.inl (qo_get (gL w) 1 0)) := rfl
theorem pt_21_14 (w : qS) : gP w 21 14 = some (.inl (qo_get (gL w) 2 6)) := rfl
theorem pt_21_17 (w : qS) : gP w 21 17 = some (.inl (qo_c (fun x y => y ≤ x) 104)) := rfl
theorem pt_21_20 (w : qS) : gP w 21 20 = some (.inl (qo_al 0 1)) := rfl
theorem pt_21_21 (w : qS) : gP w 21 21 = some (.inl (qo_get (gL w) 0 0)) := rfl
theorem pt_21_24 (w : qS) : gP w 21 24 = some (.inl (qo_il 4 2)) := rfl
theorem pt_21_26 (w : qS) : gP w 21 26 = some (.inl (qo_al 0 1)) := rfl
theorem pt_21_27 (w : qS) : gP w 21 27 = some (.inl (qo_get (gL w) 0 4)) := rfl
theorem pt_21_30 (w : qS) : gP w 21 30 = some (.inr (.inl (53, 3, some 1))) := rfl
theorem pt_21_33 (w : qS) : gP w 21 33 = some (.inl (qo_il 4 2)) := rfl
theorem pt_21_35 (w : qS) : gP w 21 35 = some (.inl (qo_k 1 1)) := rfl
theorem pt_21_36 (w : qS) : gP w 21 36 = some (.inl (qo_b (fun x y => x + y))) := rfl
theorem pt_21_37 (w : qS) : gP w 21 37 = some (.inl (qo_is 5 2)) := rfl
theorem pt_21_39 (w : qS) : gP w 21 39 = some (.inl (qo_il 5 2)) := rfl
theorem pt_21_41 (w : qS) : gP w 21 41 = some (.inl (qo_al 0 1)) := rfl
theorem pt_21_42 (w : qS) : gP w 21 42 = some (.inl (qo_get (gL w) 0 0)) := rfl
theorem pt_21_45 (w : qS) : gP w 21 45 = some (.inl (qo_get (gL w) 1 0)) := rfl
theorem pt_21_48 (w : qS) : gP w 21 48 = some (.inl (qo_get (gL w) 2 6)) := rfl
theorem pt_21_51 (w : qS) : gP w 21 51 = some (.inl (qo_c (fun x y => y ≤ x) 98)) := rfl
theorem pt_21_54 (w : qS) : gP w 21 54 = some (.inl (qo_al 0 1)) := rfl
theorem pt_21_55 (w : qS) : gP w 21 55 = some (.inl (qo_get (gL w) 0 4)) := rfl
theorem pt_21_58 (w : qS) : gP w 21 58 = some (.inl (qo_il 5 2)) := rfl
theorem pt_21_60 (w : qS) : gP w 21 60 = some (.inl (qo_ia (gL w))) := rfl
theorem pt_21_61 (w : qS) : gP w 21 61 = some (.inl (qo_k (-1) 1)) := rfl
theorem pt_21_62 (w : qS) : gP w 21 62 = some (.inl (qo_c (fun x y => ¬ x = y) 68)) := rfl
theorem pt_21_65 (w : qS) : gP w 21 65 = some (.inl (qo_g 92)) := rfl
theorem pt_21_68 (w : qS) : gP w 21 68 = some (.inl (qo_il 3 1)) := rfl
theorem pt_21_69 (w : qS) : gP w 21 69 = some (.inl (qo_z (fun x => ¬ x = 0) 89)) := rfl
theorem pt_21_72 (w : qS) : gP w 21 72 = some (.inl (qo_il 2 1)) := rfl
theorem pt_21_73 (w : qS) : gP w 21 73 = some (.inl (qo_k (iN 2) 1)) := rfl
theorem pt_21_74 (w : qS) : gP w 21 74 = some (.inl (qo_il 4 2)) := rfl
theorem pt_21_76 (w : qS) : gP w 21 76 = some (.inl (qo_il 5 2)) := rfl
theorem pt_21_78 (w : qS) : gP w 21 78 = some (.inl (qo_al 0 1)) := rfl
theorem pt_21_79 (w : qS) : gP w 21 79 = some (.inl (qo_get (gL w) 0 4)) := rfl
theorem pt_21_82 (w : qS) : gP w 21 82 = some (.inl (qo_il 5 2)) := rfl
theorem pt_21_84 (w : qS) : gP w 21 84 = some (.inl (qo_ia (gL w))) := rfl
theorem pt_21_85 (w : qS) : gP w 21 85 = some (.inr (.inl (22, 5, none))) := rfl
theorem pt_21_88 (w : qS) : gP w 21 88 = some (.inr (.inr 1)) := rfl
theorem pt_21_89 (w : qS) : gP w 21 89 = some (.inl (qo_inc 3 (-1))) := rfl
theorem pt_21_92 (w : qS) : gP w 21 92 = some (.inl (qo_inc 5 1)) := rfl
theorem pt_21_95 (w : qS) : gP w 21 95 = some (.inl (qo_g 39)) := rfl
theorem pt_21_98 (w : qS) : gP w 21 98 = some (.inl (qo_inc 4 1)) := rfl
theorem pt_21_101 (w : qS) : gP w 21 101 = some (.inl (qo_g 5)) := rfl
theorem pt_21_104 (w : qS) : gP w 21 104 = some (.inl (qo_k (-1) 1)) := rfl
theorem pt_21_105 (w : qS) : gP w 21 105 = some (.inr (.inr 1)) := rfl
theorem pt_22_0 (w : qS) : gP w 22 0 = some (.inl (qo_il 0 1)) := rfl
theorem pt_22_1 (w : qS) : gP w 22 1 = some (.inl (qo_sw 0 [32, 34, 36, 38] 41)) := rfl
theorem pt_22_32 (w : qS) : gP w 22 32 = some (.inl (qo_il 1 1)) := rfl
theorem pt_22_33 (w : qS) : gP w 22 33 = some (.inr (.inr 1)) := rfl
theorem pt_22_34 (w : qS) : gP w 22 34 = some (.inl (qo_il 2 1)) := rfl
theorem pt_22_35 (w : qS) : gP w 22 35 = some (.inr (.inr 1)) := rfl
theorem pt_22_36 (w : qS) : gP w 22 36 = some (.inl (qo_il 3 1)) := rfl
theorem pt_22_37 (w : qS) : gP w 22 37 = some (.inr (.inr 1)) := rfl
theorem pt_22_38 (w : qS) : gP w 22 38 = some (.inl (qo_il 4 2)) := rfl
theorem pt_22_40 (w : qS) : gP w 22 40 = some (.inr (.inr 1)) := rfl
theorem pt_22_41 (w : qS) : gP w 22 41 = some (.inl (qo_k (-1) 1)) := rfl
theorem pt_22_42 (w : qS) : gP w 22 42 = some (.inr (.inr 1)) := rfl
theorem pt_23_0 (w : qS) : gP w 23 0 = some (.inl (qo_il 0 1)) := rfl
theorem pt_23_1 (w : qS) : gP w 23 1 = some (.inl (qo_z (fun x => x < 0) 13)) := rfl
theorem pt_23_4 (w : qS) : gP w 23 4 = some (.inl (qo_il 0 1)) := rfl
theorem pt_23_5 (w : qS) : gP w 23 5 = some (.inl (qo_k (iN 2) 1)) := rfl
theorem pt_23_6 (w : qS) : gP w 23 6 = some (.inl (qo_c (fun x y => y ≤ x) 13)) := rfl
theorem pt_23_9 (w : qS) : gP w 23 9 = some (.inl (qo_k 1 1)) := rfl
theorem pt_23_10 (w : qS) : gP w 23 10 = some (.inl (qo_g 14)) := rfl
theorem pt_23_13 (w : qS) : gP w 23 13 = some (.inl (qo_k 0 1)) := rfl
theorem pt_23_14 (w : qS) : gP w 23 14 = some (.inr (.inr 2)) := rfl
theorem pt_24_0 (w : qS) : gP w 24 0 = some (.inl (qo_il 0 1)) := rfl
theorem pt_24_1 (w : qS) : gP w 24 1 = some (.inl (qo_z (fun x => x < 0) 15)) := rfl
theorem pt_24_4 (w : qS) : gP w 24 4 = some (.inl (qo_il 0 1)) := rfl
theorem pt_24_5 (w : qS) : gP w 24 5 = some (.inl (qo_k (iN 240) 3)) := rfl
theorem pt_24_8 (w : qS) : gP w 24 8 = some (.inl (qo_c (fun x y => y ≤ x) 15)) := rfl
theorem pt_24_11 (w : qS) : gP w 24 11 = some (.inl (qo_k 1 1)) := rfl
theorem pt_24_12 (w : qS) : gP w 24 12 = some (.inl (qo_g 16)) := rfl
theorem pt_24_15 (w : qS) : gP w 24 15 = some (.inl (qo_k 0 1)) := rfl
theorem pt_24_16 (w : qS) : gP w 24 16 = some (.inr (.inr 2)) := rfl
theorem pt_25_0 (w : qS) : gP w 25 0 = some (.inl (qo_il 0 1)) := rfl
theorem pt_25_1 (w : qS) : gP w 25 1 = some (.inl (qo_k (iN 120) 2)) := rfl
theorem pt_25_3 (w : qS) : gP w 25 3 = some (.inl (qo_d (fun x y => x - x / y * y))) := rfl
theorem pt_25_4 (w : qS) : gP w 25 4 = some (.inl (qo_k (iN 12) 2)) := rfl
theorem pt_25_6 (w : qS) : gP w 25 6 = some (.inl (qo_d (fun x y => x / y))) := rfl
theorem pt_25_7 (w : qS) : gP w 25 7 = some (.inr (.inr 1)) := rfl
theorem pt_26_0 (w : qS) : gP w 26 0 = some (.inl (qo_il 0 1)) := rfl
theorem pt_26_1 (w : qS) : gP w 26 1 = some (.inl (qo_k (iN 12) 2)) := rfl
theorem pt_26_3 (w : qS) : gP w 26 3 = some (.inl (qo_d (fun x y => x - x / y * y))) := rfl
theorem pt_26_4 (w : qS) : gP w 26 4 = some (.inr (.inr 1)) := rfl
theorem pt_27_0 (w : qS) : gP w 27 0 = some (.inl (qo_il 0 1)) := rfl
theorem pt_27_1 (w : qS) : gP w 27 1 = some (.inl (qo_k (iN 12) 2)) := rfl
theorem pt_27_3 (w : qS) : gP w 27 3 = some (.inl (qo_d (fun x y => x - x / y * y))) := rfl
theorem pt_27_4 (w : qS) : gP w 27 4 = some (.inl (qo_il 1 1)) := rfl
theorem pt_27_5 (w : qS) : gP w 27 5 = some (.inl (qo_b (fun x y => x + y))) := rfl
theorem pt_27_6 (w : qS) : gP w 27 6 = some (.inl (qo_is 3 1)) := rfl
theorem pt_27_7 (w : qS) : gP w 27 7 = some (.inl (qo_il 0 1)) := rfl
theorem pt_27_8 (w : qS) : gP w 27 8 = some (.inl (qo_k (iN 120) 2)) := rfl
theorem pt_27_10 (w : qS) : gP w 27 10 = some (.inl (qo_d (fun x y => x - x / y * y))) := rfl
theorem pt_27_11 (w : qS) : gP w 27 11 = some (.inl (qo_k (iN 12) 2)) := rfl
theorem pt_27_13 (w : qS) : gP w 27 13 = some (.inl (qo_d (fun x y => x / y))) := rfl
theorem pt_27_14 (w : qS) : gP w 27 14 = some (.inl (qo_il 2 1)) := rfl
theorem pt_27_15 (w : qS) : gP w 27 15 = some (.inl (qo_b (fun x y => x + y))) := rfl
theorem pt_27_16 (w : qS) : gP w 27 16 = some (.inl (qo_is 4 2)) := rfl
theorem pt_27_18 (w : qS) : gP w 27 18 = some (.inl (qo_il 3 1)) := rfl
theorem pt_27_19 (w : qS) : gP w 27 19 = some (.inl (qo_z (fun x => x < 0) 40)) := rfl
theorem pt_27_22 (w : qS) : gP w 27 22 = some (.inl (qo_il 3 1)) := rfl
theorem pt_27_23 (w : qS) : gP w 27 23 = some (.inl (qo_k (iN 12) 2)) := rfl
theorem pt_27_25 (w : qS) : gP w 27 25 = some (.inl (qo_c (fun x y => y ≤ x) 40)) := rfl
theorem pt_27_28 (w : qS) : gP w 27 28 = some (.inl (qo_il 4 2)) := rfl
theorem pt_27_30 (w : qS) : gP w 27 30 = some (.inl (qo_z (fun x => x < 0) 40)) := rfl
theorem pt_27_33 (w : qS) : gP w 27 33 = some (.inl (qo_il 4 2)) := rfl
theorem pt_27_35 (w : qS) : gP w 27 35 = some (.inl (qo_k (iN 10) 2)) := rfl
theorem pt_27_37 (w : qS) : gP w 27 37 = some (.inl (qo_c (fun x y => x < y) 42)) := rfl
theorem pt_27_40 (w : qS) : gP w 27 40 = some (.inl (qo_k (-1) 1)) := rfl
theorem pt_27_41 (w : qS) : gP w 27 41 = some (.inr (.inr 1)) := rfl
theorem pt_27_42 (w : qS) : gP w 27 42 = some (.inl (qo_il 0 1)) := rfl
theorem pt_27_43 (w : qS) : gP w 27 43 = some (.inl (qo_il 2 1)) := rfl
theorem pt_27_44 (w : qS) : gP w 27 44 = some (.inl (qo_k (iN 12) 2)) := rfl
theorem pt_27_46 (w : qS) : gP w 27 46 = some (.inl (qo_b (fun x y => x * y))) := rfl
theorem pt_27_47 (w : qS) : gP w 27 47 = some (.inl (qo_b (fun x y => x + y))) := rfl
theorem pt_27_48 (w : qS) : gP w 27 48 = some (.inl (qo_il 1 1)) := rfl
theorem pt_27_49 (w : qS) : gP w 27 49 = some (.inl (qo_b (fun x y => x + y))) := rfl
theorem pt_27_50 (w : qS) : gP w 27 50 = some (.inr (.inr 1)) := rfl
theorem pt_28_0 (w : qS) : gP w 28 0 = some (.inl (qo_il 1 1)) := rfl
theorem pt_28_1 (w : qS) : gP w 28 1 = some (.inl (qo_k (iN 8) 2)) := rfl
theorem pt_28_3 (w : qS) : gP w 28 3 = some (.inl (qo_c (fun x y => ¬ x = y) 24)) := rfl
theorem pt_28_6 (w : qS) : gP w 28 6 = some (.inl (qo_il 0 1)) := rfl
theorem pt_28_7 (w : qS) : gP w 28 7 = some (.inl (qo_k (iN 120) 2)) := rfl
theorem pt_28_9 (w : qS) : gP w 28 9 = some (.inl (qo_c (fun x y => y ≤ x) 19)) := rfl
theorem pt_28_12 (w : qS) : gP w 28 12 = some (.inl (qo_il 0 1)) := rfl
theorem pt_28_13 (w : qS) : gP w 28 13 = some (.inl (qo_k (iN 120) 2)) := rfl
theorem pt_28_15 (w : qS) : gP w 28 15 = some (.inl (qo_b (fun x y => x + y))) := rfl
theorem pt_28_16 (w : qS) : gP w 28 16 = some (.inl (qo_g 23)) := rfl
theorem pt_28_19 (w : qS) : gP w 28 19 = some (.inl (qo_il 0 1)) := rfl
theorem pt_28_20 (w : qS) : gP w 28 20 = some (.inl (qo_k (iN 120) 2)) := rfl
theorem pt_28_22 (w : qS) : gP w 28 22 = some (.inl (qo_b (fun x y => x - y))) := rfl
theorem pt_28_23 (w : qS) : gP w 28 23 = some (.inr (.inr 1)) := rfl
theorem pt_28_24 (w : qS) : gP w 28 24 = some (.inl (qo_il 0 1)) := rfl
theorem pt_28_25 (w : qS) : gP w 28 25 = some (.inl (qo_ss 200)) := rfl
theorem pt_28_28 (w : qS) : gP w 28 28 = some (.inl (qo_il 1 1)) := rfl
theorem pt_28_29 (w : qS) : gP w 28 29 = some (.inl (qo_ia (gL w))) := rfl
theorem pt_28_30 (w : qS) : gP w 28 30 = some (.inl (qo_ss 201)) := rfl
theorem pt_28_33 (w : qS) : gP w 28 33 = some (.inl (qo_il 1 1)) := rfl
theorem pt_28_34 (w : qS) : gP w 28 34 = some (.inl (qo_ia (gL w))) := rfl
theorem pt_28_35 (w : qS) : gP w 28 35 = some (.inr (.inl (27, 3, none))) := rfl
theorem pt_28_38 (w : qS) : gP w 28 38 = some (.inr (.inr 1)) := rfl
theorem pt_29_0 (w : qS) : gP w 29 0 = some (.inl (qo_il 1 1)) := rfl
theorem pt_29_1 (w : qS) : gP w 29 1 = some (.inl (qo_z (fun x => x < 0) 19)) := rfl
theorem pt_29_4 (w : qS) : gP w 29 4 = some (.inl (qo_il 1 1)) := rfl
theorem pt_29_5 (w : qS) : gP w 29 5 = some (.inl (qo_al 0 1)) := rfl
theorem pt_29_6 (w : qS) : gP w 29 6 = some (.inl (qo_get (gL w) 1 0)) := rfl
theorem pt_29_9 (w : qS) : gP w 29 9 = some (.inl (qo_get (gL w) 2 6)) := rfl
theorem pt_29_12 (w : qS) : gP w 29 12 = some (.inl (qo_c (fun x y => y ≤ x) 19)) := rfl
theorem pt_29_15 (w : qS) : gP w 29 15 = some (.inl (qo_k 1 1)) := rfl
theorem pt_29_16 (w : qS) : gP w 29 16 = some (.inl (qo_g 20)) := rfl
theorem pt_29_19 (w : qS) : gP w 29 19 = some (.inl (qo_k 0 1)) := rfl
theorem pt_29_20 (w : qS) : gP w 29 20 = some (.inr (.inr 2)) := rfl
theorem pt_30_0 (w : qS) : gP w 30 0 = some (.inl (qo_al 0 1)) := rfl
theorem pt_30_1 (w : qS) : gP w 30 1 = some (.inl (qo_get (gL w) 1 0)) := rfl
theorem pt_30_4 (w : qS) : gP w 30 4 = some (.inl (qo_get (gL w) 2 4)) := rfl
theorem pt_30_7 (w : qS) : gP w 30 7 = some (.inl (qo_il 1 1)) := rfl
theorem pt_30_8 (w : qS) : gP w 30 8 = some (.inl (qo_ia (gL w))) := rfl
theorem pt_30_9 (w : qS) : gP w 30 9 = some (.inl (qo_z (fun x => x = 0) 16)) := rfl
theorem pt_30_12 (w : qS) : gP w 30 12 = some (.inl (qo_k 1 1)) := rfl
theorem pt_30_13 (w : qS) : gP w 30 13 = some (.inl (qo_g 17)) := rfl
theorem pt_30_16 (w : qS) : gP w 30 16 = some (.inl (qo_k 0 1)) := rfl
theorem pt_30_17 (w : qS) : gP w 30 17 = some (.inr (.inr 2)) := rfl
theorem pt_31_0 (w : qS) : gP w 31 0 = some (.inl (qo_al 0 1)) := rfl
theorem pt_31_1 (w : qS) : gP w 31 1 = some (.inl (qo_get (gL w) 1 1)) := rfl
theorem pt_31_4 (w : qS) : gP w 31 4 = some (.inl (qo_il 1 1)) := rfl
theorem pt_31_5 (w : qS) : gP w 31 5 = some (.inl (qo_ia (gL w))) := rfl
theorem pt_31_6 (w : qS) : gP w 31 6 = some (.inr (.inr 1)) := rfl
theorem pt_32_0 (w : qS) : gP w 32 0 = some (.inl (qo_al 0 1)) := rfl
theorem pt_32_1 (w : qS) : gP w 32 1 = some (.inl (qo_get (gL w) 1 0)) := rfl
theorem pt_32_4 (w : qS) : gP w 32 4 = some (.inl (qo_get (gL w) 2 5)) := rfl
theorem pt_32_7 (w : qS) : gP w 32 7 = some (.inl (qo_il 1 1)) := rfl
theorem pt_32_8 (w : qS) : gP w 32 8 = some (.inl (qo_ia (gL w))) := rfl
theorem pt_32_9 (w : qS) : gP w 32 9 = some (.inl (qo_is 2 1)) := rfl
theorem pt_32_10 (w : qS) : gP w 32 10 = some (.inl (qo_il 2 1)) := rfl
theorem pt_32_11 (w : qS) : gP w 32 11 = some (.inl (qo_z (fun x => 0 ≤ x) 18)) := rfl
theorem pt_32_14 (w : qS) : gP w 32 14 = some (.inl (qo_k (-1) 1)) := rfl
theorem pt_32_15 (w : qS) : gP w 32 15 = some (.inl (qo_g 24)) := rfl
theorem pt_32_18 (w : qS) : gP w 32 18 = some (.inl (qo_al 0 1)) := rfl
theorem pt_32_19 (w : qS) : gP w 32 19 = some (.inl (qo_get (gL w) 1 1)) := rfl
theorem pt_32_22 (w : qS) : gP w 32 22 = some (.inl (qo_il 2 1)) := rfl
theorem pt_32_23 (w : qS) : gP w 32 23 = some (.inl (qo_ia (gL w))) := rfl
theorem pt_32_24 (w : qS) : gP w 32 24 = some (.inr (.inr 1)) := rfl
theorem pt_33_0 (w : qS) : gP w 33 0 = some (.inl (qo_al 0 1)) := rfl
theorem pt_33_1 (w : qS) : gP w 33 1 = some (.inl (qo_get (gL w) 1 0)) := rfl
theorem pt_33_4 (w : qS) : gP w 33 4 = some (.inl (qo_get (gL w) 2 4)) := rfl
theorem pt_33_7 (w : qS) : gP w 33 7 = some (.inl (qo_il 1 1)) := rfl
theorem pt_33_8 (w : qS) : gP w 33 8 = some (.inl (qo_ia (gL w))) := rfl
theorem pt_33_9 (w : qS) : gP w 33 9 = some (.inl (qo_il 2 1)) := rfl
theorem pt_33_10 (w : qS) : gP w 33 10 = some (.inl (qo_k (iN 120) 2)) := rfl
theorem pt_33_12 (w : qS) : gP w 33 12 = some (.inl (qo_d (fun x y => x / y))) := rfl
theorem pt_33_13 (w : qS) : gP w 33 13 = some (.inl (qo_b (fun x y => x >>> (y &&& 31)))) := rfl
theorem pt_33_14 (w : qS) : gP w 33 14 = some (.inl (qo_k 1 1)) := rfl
theorem pt_33_15 (w : qS) : gP w 33 15 = some (.inl (qo_b (fun x y => x &&& y))) := rfl
theorem pt_33_16 (w : qS) : gP w 33 16 = some (.inl (qo_z (fun x => x = 0) 23)) := rfl
theorem pt_33_19 (w : qS) : gP w 33 19 = some (.inl (qo_k 1 1)) := rfl
theorem pt_33_20 (w : qS) : gP w 33 20 = some (.inl (qo_g 24)) := rfl
theorem pt_33_23 (w : qS) : gP w 33 23 = some (.inl (qo_k 0 1)) := rfl
theorem pt_33_24 (w : qS) : gP w 33 24 = some (.inl (qo_is 3 1)) := rfl
theorem pt_33_25 (w : qS) : gP w 33 25 = some (.inl (qo_il 3 1)) := rfl
theorem pt_33_26 (w : qS) : gP w 33 26 = some (.inl (qo_z (fun x => x = 0) 49)) := rfl
theorem pt_33_29 (w : qS) : gP w 33 29 = some (.inl (qo_al 0 1)) := rfl
theorem pt_33_30 (w : qS) : gP w 33 30 = some (.inl (qo_get (gL w) 1 0)) := rfl
theorem pt_33_33 (w : qS) : gP w 33 33 = some (.inl (qo_get (gL w) 2 3)) := rfl
theorem pt_33_36 (w : qS) : gP w 33 36 = some (.inl (qo_il 1 1)) := rfl
theorem pt_33_37 (w : qS) : gP w 33 37 = some (.inl (qo_ia (gL w))) := rfl
theorem pt_33_38 (w : qS) : gP w 33 38 = some (.inl (qo_il 2 1)) := rfl
theorem pt_33_39 (w : qS) : gP w 33 39 = some (.inl (qo_k (iN 120) 2)) := rfl
theorem pt_33_41 (w : qS) : gP w 33 41 = some (.inl (qo_d (fun x y => x - x / y * y))) := rfl
theorem pt_33_42 (w : qS) : gP w 33 42 = some (.inl (qo_c (fun x y => ¬ x = y) 49)) := rfl
theorem pt_33_45 (w : qS) : gP w 33 45 = some (.inl (qo_k 1 1)) := rfl
theorem pt_33_46 (w : qS) : gP w 33 46 = some (.inl (qo_g 50)) := rfl
theorem pt_33_49 (w : qS) : gP w 33 49 = some (.inl (qo_k 0 1)) := rfl
theorem pt_33_50 (w : qS) : gP w 33 50 = some (.inr (.inr 2)) := rfl
theorem pt_34_0 (w : qS) : gP w 34 0 = some (.inl (qo_al 0 1)) := rfl
theorem pt_34_1 (w : qS) : gP w 34 1 = some (.inl (qo_get (gL w) 1 0)) := rfl
theorem pt_34_4 (w : qS) : gP w 34 4 = some (.inl (qo_get (gL w) 2 5)) := rfl
theorem pt_34_7 (w : qS) : gP w 34 7 = some (.inl (qo_il 1 1)) := rfl
theorem pt_34_8 (w : qS) : gP w 34 8 = some (.inl (qo_ia (gL w))) := rfl
theorem pt_34_9 (w : qS) : gP w 34 9 = some (.inl (qo_is 2 1)) := rfl
theorem pt_34_10 (w : qS) : gP w 34 10 = some (.inl (qo_il 2 1)) := rfl
theorem pt_34_11 (w : qS) : gP w 34 11 = some (.inl (qo_z (fun x => x < 0) 27)) := rfl
theorem pt_34_14 (w : qS) : gP w 34 14 = some (.inl (qo_al 0 1)) := rfl
theorem pt_34_15 (w : qS) : gP w 34 15 = some (.inl (qo_il 2 1)) := rfl
theorem pt_34_16 (w : qS) : gP w 34 16 = some (.inl (qo_il 1 1)) := rfl
theorem pt_34_17 (w : qS) : gP w 34 17 = some (.inr (.inl (33, 3, some 1))) := rfl
theorem pt_34_20 (w : qS) : gP w 34 20 = some (.inl (qo_z (fun x => ¬ x = 0) 27)) := rfl
theorem pt_34_23 (w : qS) : gP w 34 23 = some (.inl (qo_k 1 1)) := rfl
theorem pt_34_24 (w : qS) : gP w 34 24 = some (.inl (qo_g 28)) := rfl
theorem pt_34_27 (w : qS) : gP w 34 27 = some (.inl (qo_k 0 1)) := rfl
theorem pt_34_28 (w : qS) : gP w 34 28 = some (.inr (.inr 2)) := rfl
theorem pt_35_0 (w : qS) : gP w 35 0 = some (.inl (qo_al 0 1)) := rfl
theorem pt_35_1 (w : qS) : gP w 35 1 = some (.inl (qo_get (gL w) 1 0)) := rfl
theorem pt_35_4 (w : qS) : gP w 35 4 = some (.inl (qo_get (gL w) 2 4)) := rfl
theorem pt_35_7 (w : qS) : gP w 35 7 = some (.inl (qo_il 1 1)) := rfl
theorem pt_35_8 (w : qS) : gP w 35 8 = some (.inl (qo_ia (gL w))) := rfl
theorem pt_35_9 (w : qS) : gP w 35 9 = some (.inl (qo_k 1 1)) := rfl
theorem pt_35_10 (w : qS) : gP w 35 10 = some (.inl (qo_b (fun x y => x &&& y))) := rfl
theorem pt_35_11 (w : qS) : gP w 35 11 = some (.inl (qo_z (fun x => x = 0) 26)) := rfl
theorem pt_35_14 (w : qS) : gP w 35 14 = some (.inl (qo_al 0 1)) := rfl
theorem pt_35_15 (w : qS) : gP w 35 15 = some (.inl (qo_get (gL w) 1 0)) := rfl
theorem pt_35_18 (w : qS) : gP w 35 18 = some (.inl (qo_get (gL w) 2 3)) := rfl
theorem pt_35_21 (w : qS) : gP w 35 21 = some (.inl (qo_il 1 1)) := rfl
theorem pt_35_22 (w : qS) : gP w 35 22 = some (.inl (qo_ia (gL w))) := rfl
theorem pt_35_23 (w : qS) : gP w 35 23 = some (.inl (qo_g 38)) := rfl
theorem pt_35_26 (w : qS) : gP w 35 26 = some (.inl (qo_al 0 1)) := rfl
theorem pt_35_27 (w : qS) : gP w 35 27 = some (.inl (qo_get (gL w) 1 0)) := rfl
theorem pt_35_30 (w : qS) : gP w 35 30 = some (.inl (qo_get (gL w) 2 3)) := rfl
theorem pt_35_33 (w : qS) : gP w 35 33 = some (.inl (qo_il 1 1)) := rfl
theorem pt_35_34 (w : qS) : gP w 35 34 = some (.inl (qo_ia (gL w))) := rfl
theorem pt_35_35 (w : qS) : gP w 35 35 = some (.inl (qo_k (iN 120) 2)) := rfl
theorem pt_35_37 (w : qS) : gP w 35 37 = some (.inl (qo_b (fun x y => x + y))) := rfl
theorem pt_35_38 (w : qS) : gP w 35 38 = some (.inr (.inr 1)) := rfl
theorem pt_36_0 (w : qS) : gP w 36 0 = some (.inl (qo_al 0 1)) := rfl
theorem pt_36_1 (w : qS) : gP w 36 1 = some (.inl (qo_get (gL w) 1 0)) := rfl
theorem pt_36_4 (w : qS) : gP w 36 4 = some (.inl (qo_get (gL w) 2 5)) := rfl
theorem pt_36_7 (w : qS) : gP w 36 7 = some (.inl (qo_il 1 1)) := rfl
theorem pt_36_8 (w : qS) : gP w 36 8 = some (.inl (qo_ia (gL w))) := rfl
theorem pt_36_9 (w : qS) : gP w 36 9 = some (.inl (qo_k (-2) 2)) := rfl
theorem pt_36_11 (w : qS) : gP w 36 11 = some (.inl (qo_c (fun x y => ¬ x = y) 16)) := rfl
theorem pt_36_14 (w : qS) : gP w 36 14 = some (.inl (qo_k 0 1)) := rfl
theorem pt_36_15 (w : qS) : gP w 36 15 = some (.inr (.inr 2)) := rfl
theorem pt_36_16 (w : qS) : gP w 36 16 = some (.inl (qo_al 0 1)) := rfl
theorem pt_36_17 (w : qS) : gP w 36 17 = some (.inl (qo_get (gL w) 1 0)) := rfl
theorem pt_36_20 (w : qS) : gP w 36 20 = some (.inl (qo_get (gL w) 2 8)) := rfl
theorem pt_36_23 (w : qS) : gP w 36 23 = some (.inl (qo_is 3 1)) := rfl
theorem pt_36_24 (w : qS) : gP w 36 24 = some (.inl (qo_il 3 1)) := rfl
theorem pt_36_25 (w : qS) : gP w 36 25 = some (.inl (qo_u (fun x => -x))) := rfl
theorem pt_36_26 (w : qS) : gP w 36 26 = some (.inl (qo_is 4 2)) := rfl
theorem pt_36_28 (w : qS) : gP w 36 28 = some (.inl (qo_il 4 2)) := rfl
theorem pt_36_30 (w : qS) : gP w 36 30 = some (.inl (qo_il 3 1)) := rfl
theorem pt_36_31 (w : qS) : gP w 36 31 = some (.inl (qo_c (fun x y => y < x) 98)) := rfl
theorem pt_36_34 (w : qS) : gP w 36 34 = some (.inl (qo_il 3 1)) := rfl
theorem pt_36_35 (w : qS) : gP w 36 35 = some (.inl (qo_u (fun x => -x))) := rfl
theorem pt_36_36 (w : qS) : gP w 36 36 = some (.inl (qo_is 5 2)) := rfl
theorem pt_36_38 (w : qS) : gP w 36 38 = some (.inl (qo_il 5 2)) := rfl
theorem pt_36_40 (w : qS) : gP w 36 40 = some (.inl (qo_il 3 1)) := rfl
theorem pt_36_41 (w : qS) : gP w 36 41 = some (.inl (qo_c (fun x y => y < x) 92)) := rfl
theorem pt_36_44 (w : qS) : gP w 36 44 = some (.inl (qo_il 1 1)) := rfl
theorem pt_36_45 (w : qS) : gP w 36 45 = some (.inl (qo_il 5 2)) := rfl
theorem pt_36_47 (w : qS) : gP w 36 47 = some (.inl (qo_il 4 2)) := rfl
theorem pt_36_49 (w : qS) : gP w 36 49 = some (.inr (.inl (27, 3, none))) := rfl
theorem pt_36_52 (w : qS) : gP w 36 52 = some (.inl (qo_is 6 2)) := rfl
theorem pt_36_54 (w : qS) : gP w 36 54 = some (.inl (qo_il 6 2)) := rfl
theorem pt_36_56 (w : qS) : gP w 36 56 = some (.inl (qo_k (-1) 1)) := rfl
theorem pt_36_57 (w : qS) : gP w 36 57 = some (.inl (qo_c (fun x y => ¬ x = y) 64)) := rfl
theorem pt_36_60 (w : qS) : gP w 36 60 = some (.inl (qo_k (-1) 1)) := rfl
theorem pt_36_61 (w : qS) : gP w 36 61 = some (.inl (qo_g 70)) := rfl
theorem pt_36_64 (w : qS) : gP w 36 64 = some (.inl (qo_al 0 1)) := rfl
theorem pt_36_65 (w : qS) : gP w 36 65 = some (.inl (qo_il 6 2)) := rfl
theorem pt_36_67 (w : qS) : gP w 36 67 = some (.inr (.inl (32, 2, some 1))) := rfl
theorem pt_36_70 (w : qS) : gP w 36 70 = some (.inl (qo_is 7 2)) := rfl
theorem pt_36_72 (w : qS) : gP w 36 72 = some (.inl (qo_il 7 2)) := rfl
theorem pt_36_74 (w : qS) : gP w 36 74 = some (.inl (qo_k (-1) 1)) := rfl
theorem pt_36_75 (w : qS) : gP w 36 75 = some (.inl (qo_c (fun x y => x = y) 86)) := rfl
theorem pt_36_78 (w : qS) : gP w 36 78 = some (.inl (qo_il 7 2)) := rfl
theorem pt_36_80 (w : qS) : gP w 36 80 = some (.inl (qo_il 2 1)) := rfl
theorem pt_36_81 (w : qS) : gP w 36 81 = some (.inl (qo_c (fun x y => x = y) 86)) := rfl
theorem pt_36_84 (w : qS) : gP w 36 84 = some (.inl (qo_k 0 1)) := rfl
theorem pt_36_85 (w : qS) : gP w 36 85 = some (.inr (.inr 2)) := rfl
theorem pt_36_86 (w : qS) : gP w 36 86 = some (.inl (qo_inc 5 1)) := rfl
theorem pt_36_89 (w : qS) : gP w 36 89 = some (.inl (qo_g 38)) := rfl
theorem pt_36_92 (w : qS) : gP w 36 92 = some (.inl (qo_inc 4 1)) := rfl
theorem pt_36_95 (w : qS) : gP w 36 95 = some (.inl (qo_g 28)) := rfl
theorem pt_36_98 (w : qS) : gP w 36 98 = some (.inl (qo_k 1 1)) := rfl
theorem pt_36_99 (w : qS) : gP w 36 99 = some (.inr (.inr 2)) := rfl
theorem pt_37_0 (w : qS) : gP w 37 0 = some (.inl (qo_al 0 1)) := rfl
theorem pt_37_1 (w : qS) : gP w 37 1 = some (.inl (qo_get (gL w) 1 0)) := rfl
theorem pt_37_4 (w : qS) : gP w 37 4 = some (.inl (qo_get (gL w) 2 6)) := rfl
theorem pt_37_7 (w : qS) : gP w 37 7 = some (.inl (qo_is 2 1)) := rfl
theorem pt_37_8 (w : qS) : gP w 37 8 = some (.inl (qo_al 0 1)) := rfl
theorem pt_37_9 (w : qS) : gP w 37 9 = some (.inl (qo_get (gL w) 1 0)) := rfl
theorem pt_37_12 (w : qS) : gP w 37 12 = some (.inl (qo_get (gL w) 2 0)) := rfl
theorem pt_37_15 (w : qS) : gP w 37 15 = some (.inl (qo_il 2 1)) := rfl
theorem pt_37_16 (w : qS) : gP w 37 16 = some (.inl (qo_il 1 1)) := rfl
theorem pt_37_17 (w : qS) : gP w 37 17 = some (.inl (qo_ias (gL w))) := rfl
theorem pt_37_18 (w : qS) : gP w 37 18 = some (.inl (qo_al 0 1)) := rfl
theorem pt_37_19 (w : qS) : gP w 37 19 = some (.inl (qo_get (gL w) 1 0)) := rfl
theorem pt_37_22 (w : qS) : gP w 37 22 = some (.inl qo_dup) := rfl
theorem pt_37_23 (w : qS) : gP w 37 23 = some (.inl (qo_get (gL w) 2 6)) := rfl
theorem pt_37_26 (w : qS) : gP w 37 26 = some (.inl (qo_k 1 1)) := rfl
theorem pt_37_27 (w : qS) : gP w 37 27 = some (.inl (qo_b (fun x y => x + y))) := rfl
theorem pt_37_28 (w : qS) : gP w 37 28 = some (.inl (qo_put (gL w) 2 6)) := rfl
theorem pt_37_31 (w : qS) : gP w 37 31 = some (.inl (qo_al 0 1)) := rfl
theorem pt_37_32 (w : qS) : gP w 37 32 = some (.inr (.inl (40, 1, some 1))) := rfl
theorem pt_37_35 (w : qS) : gP w 37 35 = some (.inl (qo_il 2 1)) := rfl
theorem pt_37_36 (w : qS) : gP w 37 36 = some (.inr (.inr 1)) := rfl
theorem pt_38_0 (w : qS) : gP w 38 0 = some (.inl (qo_al 0 1)) := rfl
theorem pt_38_1 (w : qS) : gP w 38 1 = some (.inl (qo_get (gL w) 1 0)) := rfl
theorem pt_38_4 (w : qS) : gP w 38 4 = some (.inl (qo_get (gL w) 2 7)) := rfl
theorem pt_38_7 (w : qS) : gP w 38 7 = some (.inl (qo_is 3 1)) := rfl
theorem pt_38_8 (w : qS) : gP w 38 8 = some (.inl (qo_al 0 1)) := rfl
theorem pt_38_9 (w : qS) : gP w 38 9 = some (.inl (qo_get (gL w) 1 0)) := rfl
theorem pt_38_12 (w : qS) : gP w 38 12 = some (.inl (qo_get (gL w) 2 1)) := rfl
theorem pt_38_15 (w : qS) : gP w 38 15 = some (.inl (qo_il 3 1)) := rfl
theorem pt_38_16 (w : qS) : gP w 38 16 = some (.inl (qo_il 1 1)) := rfl
theorem pt_38_17 (w : qS) : gP w 38 17 = some (.inl (qo_ias (gL w))) := rfl
theorem pt_38_18 (w : qS) : gP w 38 18 = some (.inl (qo_al 0 1)) := rfl
theorem pt_38_19 (w : qS) : gP w 38 19 = some (.inl (qo_get (gL w) 1 0)) := rfl
theorem pt_38_22 (w : qS) : gP w 38 22 = some (.inl (qo_get (gL w) 2 2)) := rfl
theorem pt_38_25 (w : qS) : gP w 38 25 = some (.inl (qo_il 3 1)) := rfl
theorem pt_38_26 (w : qS) : gP w 38 26 = some (.inl (qo_il 2 1)) := rfl
theorem pt_38_27 (w : qS) : gP w 38 27 = some (.inl (qo_ias (gL w))) := rfl
theorem pt_38_28 (w : qS) : gP w 38 28 = some (.inl (qo_al 0 1)) := rfl
theorem pt_38_29 (w : qS) : gP w 38 29 = some (.inl (qo_get (gL w) 1 0)) := rfl
theorem pt_38_32 (w : qS) : gP w 38 32 = some (.inl qo_dup) := rfl
theorem pt_38_33 (w : qS) : gP w 38 33 = some (.inl (qo_get (gL w) 2 7)) := rfl
theorem pt_38_36 (w : qS) : gP w 38 36 = some (.inl (qo_k 1 1)) := rfl
theorem pt_38_37 (w : qS) : gP w 38 37 = some (.inl (qo_b (fun x y => x + y))) := rfl
theorem pt_38_38 (w : qS) : gP w 38 38 = some (.inl (qo_put (gL w) 2 7)) := rfl
theorem pt_38_41 (w : qS) : gP w 38 41 = some (.inl (qo_al 0 1)) := rfl
theorem pt_38_42 (w : qS) : gP w 38 42 = some (.inr (.inl (40, 1, some 1))) := rfl
theorem pt_38_45 (w : qS) : gP w 38 45 = some (.inl (qo_il 3 1)) := rfl
theorem pt_38_46 (w : qS) : gP w 38 46 = some (.inr (.inr 1)) := rfl
theorem pt_39_0 (w : qS) : gP w 39 0 = some (.inl (qo_al 0 1)) := rfl
theorem pt_39_1 (w : qS) : gP w 39 1 = some (.inl (qo_get (gL w) 1 0)) := rfl
theorem pt_39_4 (w : qS) : gP w 39 4 = some (.inl qo_dup) := rfl
theorem pt_39_5 (w : qS) : gP w 39 5 = some (.inl (qo_get (gL w) 2 7)) := rfl
theorem pt_39_8 (w : qS) : gP w 39 8 = some (.inl (qo_k 1 1)) := rfl
theorem pt_39_9 (w : qS) : gP w 39 9 = some (.inl (qo_b (fun x y => x - y))) := rfl
theorem pt_39_10 (w : qS) : gP w 39 10 = some (.inl (qo_put (gL w) 2 7)) := rfl
theorem pt_39_13 (w : qS) : gP w 39 13 = some (.inl (qo_il 1 1)) := rfl
theorem pt_39_14 (w : qS) : gP w 39 14 = some (.inl (qo_is 2 1)) := rfl
theorem pt_39_15 (w : qS) : gP w 39 15 = some (.inl (qo_il 2 1)) := rfl
theorem pt_39_16 (w : qS) : gP w 39 16 = some (.inl (qo_al 0 1)) := rfl
theorem pt_39_17 (w : qS) : gP w 39 17 = some (.inl (qo_get (gL w) 1 0)) := rfl
theorem pt_39_20 (w : qS) : gP w 39 20 = some (.inl (qo_get (gL w) 2 7)) := rfl
theorem pt_39_23 (w : qS) : gP w 39 23 = some (.inl (qo_c (fun x y => y ≤ x) 72)) := rfl
theorem pt_39_26 (w : qS) : gP w 39 26 = some (.inl (qo_al 0 1)) := rfl
theorem pt_39_27 (w : qS) : gP w 39 27 = some (.inl (qo_get (gL w) 1 0)) := rfl
theorem pt_39_30 (w : qS) : gP w 39 30 = some (.inl (qo_get (gL w) 2 1)) := rfl
theorem pt_39_33 (w : qS) : gP w 39 33 = some (.inl (qo_il 2 1)) := rfl
theorem pt_39_34 (w : qS) : gP w 39 34 = some (.inl (qo_al 0 1)) := rfl
theorem pt_39_35 (w : qS) : gP w 39 35 = some (.inl (qo_get (gL w) 1 0)) := rfl
theorem pt_39_38 (w : qS) : gP w 39 38 = some (.inl (qo_get (gL w) 2 1)) := rfl
theorem pt_39_41 (w : qS) : gP w 39 41 = some (.inl (qo_il 2 1)) := rfl
theorem pt_39_42 (w : qS) : gP w 39 42 = some (.inl (qo_k 1 1)) := rfl
theorem pt_39_43 (w : qS) : gP w 39 43 = some (.inl (qo_b (fun x y => x + y))) := rfl
theorem pt_39_44 (w : qS) : gP w 39 44 = some (.inl (qo_ia (gL w))) := rfl
theorem pt_39_45 (w : qS) : gP w 39 45 = some (.inl (qo_ias (gL w))) := rfl
theorem pt_39_46 (w : qS) : gP w 39 46 = some (.inl (qo_al 0 1)) := rfl
theorem pt_39_47 (w : qS) : gP w 39 47 = some (.inl (qo_get (gL w) 1 0)) := rfl
theorem pt_39_50 (w : qS) : gP w 39 50 = some (.inl (qo_get (gL w) 2 2)) := rfl
theorem pt_39_53 (w : qS) : gP w 39 53 = some (.inl (qo_il 2 1)) := rfl
theorem pt_39_54 (w : qS) : gP w 39 54 = some (.inl (qo_al 0 1)) := rfl
theorem pt_39_55 (w : qS) : gP w 39 55 = some (.inl (qo_get (gL w) 1 0)) := rfl
theorem pt_39_58 (w : qS) : gP w 39 58 = some (.inl (qo_get (gL w) 2 2)) := rfl
theorem pt_39_61 (w : qS) : gP w 39 61 = some (.inl (qo_il 2 1)) := rfl
theorem pt_39_62 (w : qS) : gP w 39 62 = some (.inl (qo_k 1 1)) := rfl
theorem pt_39_63 (w : qS) : gP w 39 63 = some (.inl (qo_b (fun x y => x + y))) := rfl
theorem pt_39_64 (w : qS) : gP w 39 64 = some (.inl (qo_ia (gL w))) := rfl
theorem pt_39_65 (w : qS) : gP w 39 65 = some (.inl (qo_ias (gL w))) := rfl
theorem pt_39_66 (w : qS) : gP w 39 66 = some (.inl (qo_inc 2 1)) := rfl
theorem pt_39_69 (w : qS) : gP w 39 69 = some (.inl (qo_g 15)) := rfl
theorem pt_39_72 (w : qS) : gP w 39 72 = some (.inl (qo_al 0 1)) := rfl
theorem pt_39_73 (w : qS) : gP w 39 73 = some (.inr (.inl (40, 1, some 1))) := rfl
theorem pt_39_76 (w : qS) : gP w 39 76 = some (.inr (.inr 0)) := rfl
theorem pt_40_0 (w : qS) : gP w 40 0 = some (.inl (qo_k 0 1)) := rfl
theorem pt_40_1 (w : qS) : gP w 40 1 = some (.inl (qo_is 1 1)) := rfl
theorem pt_40_2 (w : qS) : gP w 40 2 = some (.inl (qo_il 1 1)) := rfl
theorem pt_40_3 (w : qS) : gP w 40 3 = some (.inl (qo_k (iN 16) 2)) := rfl
theorem pt_40_5 (w : qS) : gP w 40 5 = some (.inl (qo_c (fun x y => y ≤ x) 21)) := rfl
theorem pt_40_8 (w : qS) : gP w 40 8 = some (.inl (qo_al 0 1)) := rfl
theorem pt_40_9 (w : qS) : gP w 40 9 = some (.inl (qo_get (gL w) 1 1)) := rfl
theorem pt_40_12 (w : qS) : gP w 40 12 = some (.inl (qo_il 1 1)) := rfl
theorem pt_40_13 (w : qS) : gP w 40 13 = some (.inl (qo_il 1 1)) := rfl
theorem pt_40_14 (w : qS) : gP w 40 14 = some (.inl (qo_ias (gL w))) := rfl
theorem pt_40_15 (w : qS) : gP w 40 15 = some (.inl (qo_inc 1 1)) := rfl
theorem pt_40_18 (w : qS) : gP w 40 18 = some (.inl (qo_g 2)) := rfl
theorem pt_40_21 (w : qS) : gP w 40 21 = some (.inl (qo_k 0 1)) := rfl
theorem pt_40_22 (w : qS) : gP w 40 22 = some (.inl (qo_is 1 1)) := rfl
theorem pt_40_23 (w : qS) : gP w 40 23 = some (.inl (qo_il 1 1)) := rfl
theorem pt_40_24 (w : qS) : gP w 40 24 = some (.inl (qo_al 0 1)) := rfl
theorem pt_40_25 (w : qS) : gP w 40 25 = some (.inl (qo_get (gL w) 1 0)) := rfl
theorem pt_40_28 (w : qS) : gP w 40 28 = some (.inl (qo_get (gL w) 2 7)) := rfl
theorem pt_40_31 (w : qS) : gP w 40 31 = some (.inl (qo_c (fun x y => y ≤ x) 84)) := rfl
theorem pt_40_34 (w : qS) : gP w 40 34 = some (.inl (qo_al 0 1)) := rfl
theorem pt_40_35 (w : qS) : gP w 40 35 = some (.inl (qo_get (gL w) 1 1)) := rfl
theorem pt_40_38 (w : qS) : gP w 40 38 = some (.inl (qo_al 0 1)) := rfl
theorem pt_40_39 (w : qS) : gP w 40 39 = some (.inl (qo_get (gL w) 1 0)) := rfl
theorem pt_40_42 (w : qS) : gP w 40 42 = some (.inl (qo_get (gL w) 2 1)) := rfl
theorem pt_40_45 (w : qS) : gP w 40 45 = some (.inl (qo_il 1 1)) := rfl
theorem pt_40_46 (w : qS) : gP w 40 46 = some (.inl (qo_ia (gL w))) := rfl
theorem pt_40_47 (w : qS) : gP w 40 47 = some (.inl (qo_ia (gL w))) := rfl
theorem pt_40_48 (w : qS) : gP w 40 48 = some (.inl (qo_is 2 1)) := rfl
theorem pt_40_49 (w : qS) : gP w 40 49 = some (.inl (qo_al 0 1)) := rfl
theorem pt_40_50 (w : qS) : gP w 40 50 = some (.inl (qo_get (gL w) 1 1)) := rfl
theorem pt_40_53 (w : qS) : gP w 40 53 = some (.inl (qo_al 0 1)) := rfl
theorem pt_40_54 (w : qS) : gP w 40 54 = some (.inl (qo_get (gL w) 1 0)) := rfl
theorem pt_40_57 (w : qS) : gP w 40 57 = some (.inl (qo_get (gL w) 2 2)) := rfl
theorem pt_40_60 (w : qS) : gP w 40 60 = some (.inl (qo_il 1 1)) := rfl
theorem pt_40_61 (w : qS) : gP w 40 61 = some (.inl (qo_ia (gL w))) := rfl
theorem pt_40_62 (w : qS) : gP w 40 62 = some (.inl (qo_ia (gL w))) := rfl
theorem pt_40_63 (w : qS) : gP w 40 63 = some (.inl (qo_is 3 1)) := rfl
theorem pt_40_64 (w : qS) : gP w 40 64 = some (.inl (qo_al 0 1)) := rfl
theorem pt_40_65 (w : qS) : gP w 40 65 = some (.inl (qo_il 2 1)) := rfl
theorem pt_40_66 (w : qS) : gP w 40 66 = some (.inl (qo_il 3 1)) := rfl
theorem pt_40_67 (w : qS) : gP w 40 67 = some (.inl qo_mx) := rfl
theorem pt_40_70 (w : qS) : gP w 40 70 = some (.inl (qo_il 2 1)) := rfl
theorem pt_40_71 (w : qS) : gP w 40 71 = some (.inl (qo_il 3 1)) := rfl
theorem pt_40_72 (w : qS) : gP w 40 72 = some (.inl qo_mn) := rfl
theorem pt_40_75 (w : qS) : gP w 40 75 = some (.inr (.inl (41, 3, some 1))) := rfl
theorem pt_40_78 (w : qS) : gP w 40 78 = some (.inl (qo_inc 1 1)) := rfl
theorem pt_40_81 (w : qS) : gP w 40 81 = some (.inl (qo_g 23)) := rfl
theorem pt_40_84 (w : qS) : gP w 40 84 = some (.inr (.inr 0)) := rfl
theorem pt_41_0 (w : qS) : gP w 41 0 = some (.inl (qo_k 0 1)) := rfl
theorem pt_41_1 (w : qS) : gP w 41 1 = some (.inl (qo_is 3 1)) := rfl
theorem pt_41_2 (w : qS) : gP w 41 2 = some (.inl (qo_il 3 1)) := rfl
theorem pt_41_3 (w : qS) : gP w 41 3 = some (.inl (qo_k (iN 16) 2)) := rfl
theorem pt_41_5 (w : qS) : gP w 41 5 = some (.inl (qo_c (fun x y => y ≤ x) 31)) := rfl
theorem pt_41_8 (w : qS) : gP w 41 8 = some (.inl (qo_al 0 1)) := rfl
theorem pt_41_9 (w : qS) : gP w 41 9 = some (.inl (qo_get (gL w) 1 1)) := rfl
theorem pt_41_12 (w : qS) : gP w 41 12 = some (.inl (qo_il 3 1)) := rfl
theorem pt_41_13 (w : qS) : gP w 41 13 = some (.inl (qo_ia (gL w))) := rfl
theorem pt_41_14 (w : qS) : gP w 41 14 = some (.inl (qo_il 1 1)) := rfl
theorem pt_41_15 (w : qS) : gP w 41 15 = some (.inl (qo_c (fun x y => ¬ x = y) 25)) := rfl
theorem pt_41_18 (w : qS) : gP w 41 18 = some (.inl (qo_al 0 1)) := rfl
theorem pt_41_19 (w : qS) : gP w 41 19 = some (.inl (qo_get (gL w) 1 1)) := rfl
theorem pt_41_22 (w : qS) : gP w 41 22 = some (.inl (qo_il 3 1)) := rfl
theorem pt_41_23 (w : qS) : gP w 41 23 = some (.inl (qo_il 2 1)) := rfl
theorem pt_41_24 (w : qS) : gP w 41 24 = some (.inl (qo_ias (gL w))) := rfl
theorem pt_41_25 (w : qS) : gP w 41 25 = some (.inl (qo_inc 3 1)) := rfl
theorem pt_41_28 (w : qS) : gP w 41 28 = some (.inl (qo_g 2)) := rfl
theorem pt_41_31 (w : qS) : gP w 41 31 = some (.inr (.inr 0)) := rfl
theorem pt_42_0 (w : qS) : gP w 42 0 = some (.inl (qo_al 0 1)) := rfl
theorem pt_42_1 (w : qS) : gP w 42 1 = some (.inl (qo_il 1 1)) := rfl
theorem pt_42_2 (w : qS) : gP w 42 2 = some (.inl (qo_k 1 1)) := rfl
theorem pt_42_3 (w : qS) : gP w 42 3 = some (.inr (.inl (43, 3, some 1))) := rfl
theorem pt_42_6 (w : qS) : gP w 42 6 = some (.inl (qo_is 2 1)) := rfl
theorem pt_42_7 (w : qS) : gP w 42 7 = some (.inl (qo_il 2 1)) := rfl
theorem pt_42_8 (w : qS) : gP w 42 8 = some (.inl (qo_k (iN 2) 1)) := rfl
theorem pt_42_9 (w : qS) : gP w 42 9 = some (.inl (qo_c (fun x y => x < y) 14)) := rfl
theorem pt_42_12 (w : qS) : gP w 42 12 = some (.inl (qo_k 1 1)) := rfl
theorem pt_42_13 (w : qS) : gP w 42 13 = some (.inr (.inr 1)) := rfl
theorem pt_42_14 (w : qS) : gP w 42 14 = some (.inl (qo_il 2 1)) := rfl
theorem pt_42_15 (w : qS) : gP w 42 15 = some (.inl (qo_z (fun x => 0 < x) 27)) := rfl
theorem pt_42_18 (w : qS) : gP w 42 18 = some (.inl (qo_al 0 1)) := rfl
theorem pt_42_19 (w : qS) : gP w 42 19 = some (.inl (qo_il 1 1)) := rfl
theorem pt_42_20 (w : qS) : gP w 42 20 = some (.inl (qo_k (iN 3) 1)) := rfl
theorem pt_42_21 (w : qS) : gP w 42 21 = some (.inr (.inl (43, 3, some 1))) := rfl
theorem pt_42_24 (w : qS) : gP w 42 24 = some (.inl (qo_z (fun x => x ≤ 0) 31)) := rfl
theorem pt_42_27 (w : qS) : gP w 42 27 = some (.inl (qo_k 1 1)) := rfl
theorem pt_42_28 (w : qS) : gP w 42 28 = some (.inl (qo_g 32)) := rfl
theorem pt_42_31 (w : qS) : gP w 42 31 = some (.inl (qo_k 0 1)) := rfl
theorem pt_42_32 (w : qS) : gP w 42 32 = some (.inl (qo_is 3 1)) := rfl
theorem pt_42_33 (w : qS) : gP w 42 33 = some (.inl (qo_il 3 1)) := rfl
theorem pt_42_34 (w : qS) : gP w 42 34 = some (.inl (qo_z (fun x => ¬ x = 0) 50)) := rfl
theorem pt_42_37 (w : qS) : gP w 42 37 = some (.inl (qo_al 0 1)) := rfl
theorem pt_42_38 (w : qS) : gP w 42 38 = some (.inl (qo_il 1 1)) := rfl
theorem pt_42_39 (w : qS) : gP w 42 39 = some (.inl (qo_k 0 1)) := rfl
theorem pt_42_40 (w : qS) : gP w 42 40 = some (.inr (.inl (43, 3, some 1))) := rfl
theorem pt_42_43 (w : qS) : gP w 42 43 = some (.inl (qo_z (fun x => x ≤ 0) 50)) := rfl
theorem pt_42_46 (w : qS) : gP w 42 46 = some (.inl (qo_k (iN 2) 1)) := rfl
theorem pt_42_47 (w : qS) : gP w 42 47 = some (.inl (qo_g 51)) := rfl
theorem pt_42_50 (w : qS) : gP w 42 50 = some (.inl (qo_k (-1) 1)) := rfl
theorem pt_42_51 (w : qS) : gP w 42 51 = some (.inr (.inr 1)) := rfl
theorem pt_43_0 (w : qS) : gP w 43 0 = some (.inl (qo_k 0 1)) := rfl
theorem pt_43_1 (w : qS) : gP w 43 1 = some (.inl (qo_is 3 1)) := rfl
theorem pt_43_2 (w : qS) : gP w 43 2 = some (.inl (qo_k 0 1)) := rfl
theorem pt_43_3 (w : qS) : gP w 43 3 = some (.inl (qo_is 4 2)) := rfl
theorem pt_43_5 (w : qS) : gP w 43 5 = some (.inl (qo_il 4 2)) := rfl
theorem pt_43_7 (w : qS) : gP w 43 7 = some (.inl (qo_al 0 1)) := rfl
theorem pt_43_8 (w : qS) : gP w 43 8 = some (.inl (qo_get (gL w) 1 0)) := rfl
theorem pt_43_11 (w : qS) : gP w 43 11 = some (.inl (qo_get (gL w) 2 6)) := rfl
theorem pt_43_14 (w : qS) : gP w 43 14 = some (.inl (qo_c (fun x y => y ≤ x) 51)) := rfl
theorem pt_43_17 (w : qS) : gP w 43 17 = some (.inl (qo_al 0 1)) := rfl
theorem pt_43_18 (w : qS) : gP w 43 18 = some (.inl (qo_get (gL w) 1 1)) := rfl
theorem pt_43_21 (w : qS) : gP w 43 21 = some (.inl (qo_il 4 2)) := rfl
theorem pt_43_23 (w : qS) : gP w 43 23 = some (.inl (qo_ia (gL w))) := rfl
theorem pt_43_24 (w : qS) : gP w 43 24 = some (.inl (qo_il 1 1)) := rfl
theorem pt_43_25 (w : qS) : gP w 43 25 = some (.inl (qo_c (fun x y => ¬ x = y) 45)) := rfl
theorem pt_43_28 (w : qS) : gP w 43 28 = some (.inl (qo_al 0 1)) := rfl
theorem pt_43_29 (w : qS) : gP w 43 29 = some (.inl (qo_get (gL w) 1 0)) := rfl
theorem pt_43_32 (w : qS) : gP w 43 32 = some (.inl (qo_get (gL w) 2 0)) := rfl
theorem pt_43_35 (w : qS) : gP w 43 35 = some (.inl (qo_il 4 2)) := rfl
theorem pt_43_37 (w : qS) : gP w 43 37 = some (.inl (qo_ia (gL w))) := rfl
theorem pt_43_38 (w : qS) : gP w 43 38 = some (.inl (qo_il 2 1)) := rfl
theorem pt_43_39 (w : qS) : gP w 43 39 = some (.inl (qo_c (fun x y => ¬ x = y) 45)) := rfl
theorem pt_43_42 (w : qS) : gP w 43 42 = some (.inl (qo_inc 3 1)) := rfl
theorem pt_43_45 (w : qS) : gP w 43 45 = some (.inl (qo_inc 4 1)) := rfl
theorem pt_43_48 (w : qS) : gP w 43 48 = some (.inl (qo_g 5)) := rfl
theorem pt_43_51 (w : qS) : gP w 43 51 = some (.inl (qo_il 3 1)) := rfl
theorem pt_43_52 (w : qS) : gP w 43 52 = some (.inr (.inr 1)) := rfl
theorem pt_44_0 (w : qS) : gP w 44 0 = some (.inl (qo_k 0 1)) := rfl
theorem pt_44_1 (w : qS) : gP w 44 1 = some (.inl (qo_is 4 2)) := rfl
theorem pt_44_3 (w : qS) : gP w 44 3 = some (.inl (qo_il 4 2)) := rfl
theorem pt_44_5 (w : qS) : gP w 44 5 = some (.inl (qo_k (iN 2) 1)) := rfl
theorem pt_44_6 (w : qS) : gP w 44 6 = some (.inl (qo_c (fun x y => y ≤ x) 71)) := rfl
theorem pt_44_9 (w : qS) : gP w 44 9 = some (.inl (qo_il 4 2)) := rfl
theorem pt_44_11 (w : qS) : gP w 44 11 = some (.inl (qo_k (iN 120) 2)) := rfl
theorem pt_44_13 (w : qS) : gP w 44 13 = some (.inl (qo_b (fun x y => x * y))) := rfl
theorem pt_44_14 (w : qS) : gP w 44 14 = some (.inl (qo_il 1 1)) := rfl
theorem pt_44_15 (w : qS) : gP w 44 15 = some (.inl (qo_b (fun x y => x + y))) := rfl
theorem pt_44_16 (w : qS) : gP w 44 16 = some (.inl (qo_is 5 2)) := rfl
theorem pt_44_18 (w : qS) : gP w 44 18 = some (.inl (qo_il 2 1)) := rfl
theorem pt_44_19 (w : qS) : gP w 44 19 = some (.inl (qo_il 4 2)) := rfl
theorem pt_44_21 (w : qS) : gP w 44 21 = some (.inl (qo_b (fun x y => x >>> (y &&& 31)))) := rfl
theorem pt_44_22 (w : qS) : gP w 44 22 = some (.inl (qo_k 1 1)) := rfl
theorem pt_44_23 (w : qS) : gP w 44 23 = some (.inl (qo_b (fun x y => x &&& y))) := rfl
theorem pt_44_24 (w : qS) : gP w 44 24 = some (.inl (qo_z (fun x => x = 0) 31)) := rfl
theorem pt_44_27 (w : qS) : gP w 44 27 = some (.inl (qo_k 1 1)) := rfl
theorem pt_44_28 (w : qS) : gP w 44 28 = some (.inl (qo_g 32)) := rfl
theorem pt_44_31 (w : qS) : gP w 44 31 = some (.inl (qo_k 0 1)) := rfl
theorem pt_44_32 (w : qS) : gP w 44 32 = some (.inl (qo_is 6 2)) := rfl
theorem pt_44_34 (w : qS) : gP w 44 34 = some (.inl (qo_il 6 2)) := rfl
theorem pt_44_36 (w : qS) : gP w 44 36 = some (.inl (qo_z (fun x => x = 0) 65)) := rfl
theorem pt_44_39 (w : qS) : gP w 44 39 = some (.inl (qo_al 0 1)) := rfl
theorem pt_44_40 (w : qS) : gP w 44 40 = some (.inl (qo_get (gL w) 1 0)) := rfl
theorem pt_44_43 (w : qS) : gP w 44 43 = some (.inl (qo_get (gL w) 2 5)) := rfl
theorem pt_44_46 (w : qS) : gP w 44 46 = some (.inl (qo_il 5 2)) := rfl
theorem pt_44_48 (w : qS) : gP w 44 48 = some (.inl (qo_ia (gL w))) := rfl
theorem pt_44_49 (w : qS) : gP w 44 49 = some (.inl (qo_k (-1) 1)) := rfl
theorem pt_44_50 (w : qS) : gP w 44 50 = some (.inl (qo_c (fun x y => ¬ x = y) 63)) := rfl
theorem pt_44_53 (w : qS) : gP w 44 53 = some (.inl (qo_al 0 1)) := rfl
theorem pt_44_54 (w : qS) : gP w 44 54 = some (.inl (qo_il 5 2)) := rfl
theorem pt_44_56 (w : qS) : gP w 44 56 = some (.inl (qo_il 3 1)) := rfl
theorem pt_44_57 (w : qS) : gP w 44 57 = some (.inr (.inl (36, 3, some 1))) := rfl
theorem pt_44_60 (w : qS) : gP w 44 60 = some (.inl (qo_z (fun x => ¬ x = 0) 65)) := rfl
theorem pt_44_63 (w : qS) : gP w 44 63 = some (.inl (qo_k 0 1)) := rfl
theorem pt_44_64 (w : qS) : gP w 44 64 = some (.inr (.inr 2)) := rfl
theorem pt_44_65 (w : qS) : gP w 44 65 = some (.inl (qo_inc 4 1)) := rfl
theorem pt_44_68 (w : qS) : gP w 44 68 = some (.inl (qo_g 3)) := rfl
theorem pt_44_71 (w : qS) : gP w 44 71 = some (.inl (qo_k 1 1)) := rfl
theorem pt_44_72 (w : qS) : gP w 44 72 = some (.inr (.inr 2)) := rfl
theorem pt_45_0 (w : qS) : gP w 45 0 = some (.inl (qo_al 0 1)) := rfl
theorem pt_45_1 (w : qS) : gP w 45 1 = some (.inl (qo_get (gL w) 1 0)) := rfl
theorem pt_45_4 (w : qS) : gP w 45 4 = some (.inl (qo_get (gL w) 2 3)) := rfl
theorem pt_45_7 (w : qS) : gP w 45 7 = some (.inl (qo_il 1 1)) := rfl
theorem pt_45_8 (w : qS) : gP w 45 8 = some (.inl (qo_il 2 1)) := rfl
theorem pt_45_9 (w : qS) : gP w 45 9 = some (.inl (qo_ias (gL w))) := rfl
theorem pt_45_10 (w : qS) : gP w 45 10 = some (.inl (qo_al 0 1)) := rfl
theorem pt_45_11 (w : qS) : gP w 45 11 = some (.inl (qo_get (gL w) 1 0)) := rfl
theorem pt_45_14 (w : qS) : gP w 45 14 = some (.inl (qo_get (gL w) 2 4)) := rfl
theorem pt_45_17 (w : qS) : gP w 45 17 = some (.inl (qo_il 1 1)) := rfl
theorem pt_45_18 (w : qS) : gP w 45 18 = some (.inl (qo_il 3 1)) := rfl
theorem pt_45_19 (w : qS) : gP w 45 19 = some (.inl (qo_ias (gL w))) := rfl
theorem pt_45_20 (w : qS) : gP w 45 20 = some (.inl (qo_al 0 1)) := rfl
theorem pt_45_21 (w : qS) : gP w 45 21 = some (.inl (qo_il 1 1)) := rfl
theorem pt_45_22 (w : qS) : gP w 45 22 = some (.inl (qo_il 1 1)) := rfl
theorem pt_45_23 (w : qS) : gP w 45 23 = some (.inr (.inl (47, 3, some 1))) := rfl
theorem pt_45_26 (w : qS) : gP w 45 26 = some (.inr (.inr 0)) := rfl
theorem pt_46_0 (w : qS) : gP w 46 0 = some (.inl (qo_al 0 1)) := rfl
theorem pt_46_1 (w : qS) : gP w 46 1 = some (.inl (qo_il 1 1)) := rfl
theorem pt_46_2 (w : qS) : gP w 46 2 = some (.inl (qo_k (-1) 1)) := rfl
theorem pt_46_3 (w : qS) : gP w 46 3 = some (.inr (.inl (47, 3, some 1))) := rfl
theorem pt_46_6 (w : qS) : gP w 46 6 = some (.inl (qo_al 0 1)) := rfl
theorem pt_46_7 (w : qS) : gP w 46 7 = some (.inl (qo_get (gL w) 1 0)) := rfl
theorem pt_46_10 (w : qS) : gP w 46 10 = some (.inl (qo_get (gL w) 2 3)) := rfl
theorem pt_46_13 (w : qS) : gP w 46 13 = some (.inl (qo_il 1 1)) := rfl
theorem pt_46_14 (w : qS) : gP w 46 14 = some (.inl (qo_k 0 1)) := rfl
theorem pt_46_15 (w : qS) : gP w 46 15 = some (.inl (qo_ias (gL w))) := rfl
theorem pt_46_16 (w : qS) : gP w 46 16 = some (.inl (qo_al 0 1)) := rfl
theorem pt_46_17 (w : qS) : gP w 46 17 = some (.inl (qo_get (gL w) 1 0)) := rfl
theorem pt_46_20 (w : qS) : gP w 46 20 = some (.inl (qo_get (gL w) 2 4)) := rfl
theorem pt_46_23 (w : qS) : gP w 46 23 = some (.inl (qo_il 1 1)) := rfl
theorem pt_46_24 (w : qS) : gP w 46 24 = some (.inl (qo_k 0 1)) := rfl
theorem pt_46_25 (w : qS) : gP w 46 25 = some (.inl (qo_ias (gL w))) := rfl
theorem pt_46_26 (w : qS) : gP w 46 26 = some (.inr (.inr 0)) := rfl
theorem pt_47_0 (w : qS) : gP w 47 0 = some (.inl (qo_k 0 1)) := rfl
theorem pt_47_1 (w : qS) : gP w 47 1 = some (.inl (qo_is 3 1)) := rfl
theorem pt_47_2 (w : qS) : gP w 47 2 = some (.inl (qo_il 3 1)) := rfl
theorem pt_47_3 (w : qS) : gP w 47 3 = some (.inl (qo_k (iN 2) 1)) := rfl
theorem pt_47_4 (w : qS) : gP w 47 4 = some (.inl (qo_c (fun x y => y ≤ x) 52)) := rfl
theorem pt_47_7 (w : qS) : gP w 47 7 = some (.inl (qo_al 0 1)) := rfl
theorem pt_47_8 (w : qS) : gP w 47 8 = some (.inl (qo_get (gL w) 1 0)) := rfl
theorem pt_47_11 (w : qS) : gP w 47 11 = some (.inl (qo_get (gL w) 2 4)) := rfl
theorem pt_47_14 (w : qS) : gP w 47 14 = some (.inl (qo_il 1 1)) := rfl
theorem pt_47_15 (w : qS) : gP w 47 15 = some (.inl (qo_ia (gL w))) := rfl
theorem pt_47_16 (w : qS) : gP w 47 16 = some (.inl (qo_il 3 1)) := rfl
theorem pt_47_17 (w : qS) : gP w 47 17 = some (.inl (qo_b (fun x y => x >>> (y &&& 31)))) := rfl
theorem pt_47_18 (w : qS) : gP w 47 18 = some (.inl (qo_k 1 1)) := rfl
theorem pt_47_19 (w : qS) : gP w 47 19 = some (.inl (qo_b (fun x y => x &&& y))) := rfl
theorem pt_47_20 (w : qS) : gP w 47 20 = some (.inl (qo_z (fun x => x = 0) 46)) := rfl
theorem pt_47_23 (w : qS) : gP w 47 23 = some (.inl (qo_al 0 1)) := rfl
theorem pt_47_24 (w : qS) : gP w 47 24 = some (.inl (qo_get (gL w) 1 0)) := rfl
theorem pt_47_27 (w : qS) : gP w 47 27 = some (.inl (qo_get (gL w) 2 5)) := rfl
theorem pt_47_30 (w : qS) : gP w 47 30 = some (.inl (qo_il 3 1)) := rfl
theorem pt_47_31 (w : qS) : gP w 47 31 = some (.inl (qo_k (iN 120) 2)) := rfl
theorem pt_47_33 (w : qS) : gP w 47 33 = some (.inl (qo_b (fun x y => x * y))) := rfl
theorem pt_47_34 (w : qS) : gP w 47 34 = some (.inl (qo_al 0 1)) := rfl
theorem pt_47_35 (w : qS) : gP w 47 35 = some (.inl (qo_get (gL w) 1 0)) := rfl
theorem pt_47_38 (w : qS) : gP w 47 38 = some (.inl (qo_get (gL w) 2 3)) := rfl
theorem pt_47_41 (w : qS) : gP w 47 41 = some (.inl (qo_il 1 1)) := rfl
theorem pt_47_42 (w : qS) : gP w 47 42 = some (.inl (qo_ia (gL w))) := rfl
theorem pt_47_43 (w : qS) : gP w 47 43 = some (.inl (qo_b (fun x y => x + y))) := rfl
theorem pt_47_44 (w : qS) : gP w 47 44 = some (.inl (qo_il 2 1)) := rfl
theorem pt_47_45 (w : qS) : gP w 47 45 = some (.inl (qo_ias (gL w))) := rfl
theorem pt_47_46 (w : qS) : gP w 47 46 = some (.inl (qo_inc 3 1)) := rfl
theorem pt_47_49 (w : qS) : gP w 47 49 = some (.inl (qo_g 2)) := rfl
theorem pt_47_52 (w : qS) : gP w 47 52 = some (.inr (.inr 0)) := rfl
theorem pt_48_0 (w : qS) : gP w 48 0 = some (.inl (qo_il 2 1)) := rfl
theorem pt_48_1 (w : qS) : gP w 48 1 = some (.inl (qo_is 5 2)) := rfl
theorem pt_48_3 (w : qS) : gP w 48 3 = some (.inl (qo_k 0 1)) := rfl
theorem pt_48_4 (w : qS) : gP w 48 4 = some (.inl (qo_is 6 2)) := rfl
theorem pt_48_6 (w : qS) : gP w 48 6 = some (.inl (qo_il 6 2)) := rfl
theorem pt_48_8 (w : qS) : gP w 48 8 = some (.inl (qo_il 4 2)) := rfl
theorem pt_48_10 (w : qS) : gP w 48 10 = some (.inl (qo_c (fun x y => y < x) 45)) := rfl
theorem pt_48_13 (w : qS) : gP w 48 13 = some (.inl (qo_il 5 2)) := rfl
theorem pt_48_15 (w : qS) : gP w 48 15 = some (.inl (qo_k (-1) 1)) := rfl
theorem pt_48_16 (w : qS) : gP w 48 16 = some (.inl (qo_c (fun x y => x = y) 29)) := rfl
theorem pt_48_19 (w : qS) : gP w 48 19 = some (.inl (qo_al 0 1)) := rfl
theorem pt_48_20 (w : qS) : gP w 48 20 = some (.inl (qo_il 5 2)) := rfl
theorem pt_48_22 (w : qS) : gP w 48 22 = some (.inl (qo_il 1 1)) := rfl
theorem pt_48_23 (w : qS) : gP w 48 23 = some (.inr (.inl (36, 3, some 1))) := rfl
theorem pt_48_26 (w : qS) : gP w 48 26 = some (.inl (qo_z (fun x => ¬ x = 0) 31)) := rfl
theorem pt_48_29 (w : qS) : gP w 48 29 = some (.inl (qo_k 0 1)) := rfl
theorem pt_48_30 (w : qS) : gP w 48 30 = some (.inr (.inr 2)) := rfl
theorem pt_48_31 (w : qS) : gP w 48 31 = some (.inl (qo_il 5 2)) := rfl
theorem pt_48_33 (w : qS) : gP w 48 33 = some (.inl (qo_il 3 1)) := rfl
theorem pt_48_34 (w : qS) : gP w 48 34 = some (.inr (.inl (28, 2, none))) := rfl
theorem pt_48_37 (w : qS) : gP w 48 37 = some (.inl (qo_is 5 2)) := rfl
theorem pt_48_39 (w : qS) : gP w 48 39 = some (.inl (qo_inc 6 1)) := rfl
theorem pt_48_42 (w : qS) : gP w 48 42 = some (.inl (qo_g 6)) := rfl
theorem pt_48_45 (w : qS) : gP w 48 45 = some (.inl (qo_k 1 1)) := rfl
theorem pt_48_46 (w : qS) : gP w 48 46 = some (.inr (.inr 2)) := rfl
theorem pt_49_0 (w : qS) : gP w 49 0 = some (.inl (qo_k 0 1)) := rfl
theorem pt_49_1 (w : qS) : gP w 49 1 = some (.inl (qo_is 5 2)) := rfl
theorem pt_49_3 (w : qS) : gP w 49 3 = some (.inl (qo_il 2 1)) := rfl
theorem pt_49_4 (w : qS) : gP w 49 4 = some (.inl (qo_is 6 2)) := rfl
theorem pt_49_6 (w : qS) : gP w 49 6 = some (.inl (qo_k 0 1)) := rfl
theorem pt_49_7 (w : qS) : gP w 49 7 = some (.inl (qo_is 7 2)) := rfl
theorem pt_49_9 (w : qS) : gP w 49 9 = some (.inl (qo_il 7 2)) := rfl
theorem pt_49_11 (w : qS) : gP w 49 11 = some (.inl (qo_il 4 2)) := rfl
theorem pt_49_13 (w : qS) : gP w 49 13 = some (.inl (qo_c (fun x y => y < x) 60)) := rfl
theorem pt_49_16 (w : qS) : gP w 49 16 = some (.inl (qo_il 6 2)) := rfl
theorem pt_49_18 (w : qS) : gP w 49 18 = some (.inl (qo_k (-1) 1)) := rfl
theorem pt_49_19 (w : qS) : gP w 49 19 = some (.inl (qo_c (fun x y => x = y) 60)) := rfl
theorem pt_49_22 (w : qS) : gP w 49 22 = some (.inl (qo_al 0 1)) := rfl
theorem pt_49_23 (w : qS) : gP w 49 23 = some (.inl (qo_get (gL w) 1 0)) := rfl
theorem pt_49_26 (w : qS) : gP w 49 26 = some (.inl (qo_get (gL w) 2 5)) := rfl
theorem pt_49_29 (w : qS) : gP w 49 29 = some (.inl (qo_il 6 2)) := rfl
theorem pt_49_31 (w : qS) : gP w 49 31 = some (.inl (qo_ia (gL w))) := rfl
theorem pt_49_32 (w : qS) : gP w 49 32 = some (.inl (qo_k (-1) 1)) := rfl
theorem pt_49_33 (w : qS) : gP w 49 33 = some (.inl (qo_c (fun x y => ¬ x = y) 39)) := rfl
theorem pt_49_36 (w : qS) : gP w 49 36 = some (.inl (qo_inc 5 1)) := rfl
theorem pt_49_39 (w : qS) : gP w 49 39 = some (.inl (qo_al 0 1)) := rfl
theorem pt_49_40 (w : qS) : gP w 49 40 = some (.inl (qo_il 6 2)) := rfl
theorem pt_49_42 (w : qS) : gP w 49 42 = some (.inl (qo_il 1 1)) := rfl
theorem pt_49_43 (w : qS) : gP w 49 43 = some (.inr (.inl (50, 3, some 1))) := rfl
theorem pt_49_46 (w : qS) : gP w 49 46 = some (.inl (qo_il 6 2)) := rfl
theorem pt_49_48 (w : qS) : gP w 49 48 = some (.inl (qo_il 3 1)) := rfl
theorem pt_49_49 (w : qS) : gP w 49 49 = some (.inr (.inl (28, 2, none))) := rfl
theorem pt_49_52 (w : qS) : gP w 49 52 = some (.inl (qo_is 6 2)) := rfl
theorem pt_49_54 (w : qS) : gP w 49 54 = some (.inl (qo_inc 7 1)) := rfl
theorem pt_49_57 (w : qS) : gP w 49 57 = some (.inl (qo_g 9)) := rfl
theorem pt_49_60 (w : qS) : gP w 49 60 = some (.inl (qo_il 5 2)) := rfl
theorem pt_49_62 (w : qS) : gP w 49 62 = some (.inr (.inr 1)) := rfl
theorem pt_50_0 (w : qS) : gP w 50 0 = some (.inl (qo_al 0 1)) := rfl
theorem pt_50_1 (w : qS) : gP w 50 1 = some (.inl (qo_get (gL w) 1 0)) := rfl
theorem pt_50_4 (w : qS) : gP w 50 4 = some (.inl (qo_get (gL w) 2 5)) := rfl
theorem pt_50_7 (w : qS) : gP w 50 7 = some (.inl (qo_il 1 1)) := rfl
theorem pt_50_8 (w : qS) : gP w 50 8 = some (.inl (qo_ia (gL w))) := rfl
theorem pt_50_9 (w : qS) : gP w 50 9 = some (.inl (qo_k (-1) 1)) := rfl
theorem pt_50_10 (w : qS) : gP w 50 10 = some (.inl (qo_c (fun x y => x = y) 21)) := rfl
theorem pt_50_13 (w : qS) : gP w 50 13 = some (.inl (qo_al 0 1)) := rfl
theorem pt_50_14 (w : qS) : gP w 50 14 = some (.inl (qo_il 1 1)) := rfl
theorem pt_50_15 (w : qS) : gP w 50 15 = some (.inr (.inl (34, 2, some 1))) := rfl
theorem pt_50_18 (w : qS) : gP w 50 18 = some (.inl (qo_z (fun x => x = 0) 31)) := rfl
theorem pt_50_21 (w : qS) : gP w 50 21 = some (.inl (qo_al 0 1)) := rfl
theorem pt_50_22 (w : qS) : gP w 50 22 = some (.inl (qo_get (gL w) 1 0)) := rfl
theorem pt_50_25 (w : qS) : gP w 50 25 = some (.inl (qo_get (gL w) 2 5)) := rfl
theorem pt_50_28 (w : qS) : gP w 50 28 = some (.inl (qo_il 1 1)) := rfl
theorem pt_50_29 (w : qS) : gP w 50 29 = some (.inl (qo_il 2 1)) := rfl
theorem pt_50_30 (w : qS) : gP w 50 30 = some (.inl (qo_ias (gL w))) := rfl
theorem pt_50_31 (w : qS) : gP w 50 31 = some (.inr (.inr 0)) := rfl
theorem pt_51_0 (w : qS) : gP w 51 0 = some (.inl (qo_k 0 1)) := rfl
theorem pt_51_1 (w : qS) : gP w 51 1 = some (.inl (qo_is 2 1)) := rfl
theorem pt_51_2 (w : qS) : gP w 51 2 = some (.inl (qo_k 0 1)) := rfl
theorem pt_51_3 (w : qS) : gP w 51 3 = some (.inl (qo_is 3 1)) := rfl
theorem pt_51_4 (w : qS) : gP w 51 4 = some (.inl (qo_il 3 1)) := rfl
theorem pt_51_5 (w : qS) : gP w 51 5 = some (.inl (qo_k (iN 240) 3)) := rfl
theorem pt_51_8 (w : qS) : gP w 51 8 = some (.inl (qo_c (fun x y => y ≤ x) 47)) := rfl
theorem pt_51_11 (w : qS) : gP w 51 11 = some (.inl (qo_al 0 1)) := rfl
theorem pt_51_12 (w : qS) : gP w 51 12 = some (.inl (qo_il 3 1)) := rfl
theorem pt_51_13 (w : qS) : gP w 51 13 = some (.inr (.inl (34, 2, some 1))) := rfl
theorem pt_51_16 (w : qS) : gP w 51 16 = some (.inl (qo_z (fun x => x = 0) 41)) := rfl
theorem pt_51_19 (w : qS) : gP w 51 19 = some (.inl (qo_al 0 1)) := rfl
theorem pt_51_20 (w : qS) : gP w 51 20 = some (.inl (qo_il 3 1)) := rfl
theorem pt_51_21 (w : qS) : gP w 51 21 = some (.inr (.inl (32, 2, some 1))) := rfl
theorem pt_51_24 (w : qS) : gP w 51 24 = some (.inl (qo_il 1 1)) := rfl
theorem pt_51_25 (w : qS) : gP w 51 25 = some (.inl (qo_c (fun x y => ¬ x = y) 41)) := rfl
theorem pt_51_28 (w : qS) : gP w 51 28 = some (.inl (qo_al 0 1)) := rfl
theorem pt_51_29 (w : qS) : gP w 51 29 = some (.inl (qo_get (gL w) 1 0)) := rfl
theorem pt_51_32 (w : qS) : gP w 51 32 = some (.inl (qo_get (gL w) 2 5)) := rfl
theorem pt_51_35 (w : qS) : gP w 51 35 = some (.inl (qo_il 3 1)) := rfl
theorem pt_51_36 (w : qS) : gP w 51 36 = some (.inl (qo_k (-1) 1)) := rfl
theorem pt_51_37 (w : qS) : gP w 51 37 = some (.inl (qo_ias (gL w))) := rfl
theorem pt_51_38 (w : qS) : gP w 51 38 = some (.inl (qo_inc 2 1)) := rfl
theorem pt_51_41 (w : qS) : gP w 51 41 = some (.inl (qo_inc 3 1)) := rfl
theorem pt_51_44 (w : qS) : gP w 51 44 = some (.inl (qo_g 4)) := rfl
theorem pt_51_47 (w : qS) : gP w 51 47 = some (.inl (qo_il 2 1)) := rfl
theorem pt_51_48 (w : qS) : gP w 51 48 = some (.inr (.inr 1)) := rfl
theorem pt_52_0 (w : qS) : gP w 52 0 = some (.inl (qo_k 0 1)) := rfl
theorem pt_52_1 (w : qS) : gP w 52 1 = some (.inl (qo_is 2 1)) := rfl
theorem pt_52_2 (w : qS) : gP w 52 2 = some (.inl (qo_k (iN 12) 2)) := rfl
theorem pt_52_4 (w : qS) : gP w 52 4 = some (.inl (qo_is 3 1)) := rfl
theorem pt_52_5 (w : qS) : gP w 52 5 = some (.inl (qo_k 0 1)) := rfl
theorem pt_52_6 (w : qS) : gP w 52 6 = some (.inl (qo_is 4 2)) := rfl
theorem pt_52_8 (w : qS) : gP w 52 8 = some (.inl (qo_k (iN 10) 2)) := rfl
theorem pt_52_10 (w : qS) : gP w 52 10 = some (.inl (qo_is 5 2)) := rfl
theorem pt_52_12 (w : qS) : gP w 52 12 = some (.inl (qo_k 0 1)) := rfl
theorem pt_52_13 (w : qS) : gP w 52 13 = some (.inl (qo_is 6 2)) := rfl
theorem pt_52_15 (w : qS) : gP w 52 15 = some (.inl (qo_k 0 1)) := rfl
theorem pt_52_16 (w : qS) : gP w 52 16 = some (.inl (qo_is 7 2)) := rfl
theorem pt_52_18 (w : qS) : gP w 52 18 = some (.inl (qo_il 7 2)) := rfl
theorem pt_52_20 (w : qS) : gP w 52 20 = some (.inl (qo_al 0 1)) := rfl
theorem pt_52_21 (w : qS) : gP w 52 21 = some (.inl (qo_get (gL w) 1 0)) := rfl
theorem pt_52_24 (w : qS) : gP w 52 24 = some (.inl (qo_get (gL w) 2 6)) := rfl
theorem pt_52_27 (w : qS) : gP w 52 27 = some (.inl (qo_c (fun x y => y ≤ x) 140)) := rfl
theorem pt_52_30 (w : qS) : gP w 52 30 = some (.inl (qo_al 0 1)) := rfl
theorem pt_52_31 (w : qS) : gP w 52 31 = some (.inl (qo_get (gL w) 1 1)) := rfl
theorem pt_52_34 (w : qS) : gP w 52 34 = some (.inl (qo_il 7 2)) := rfl
theorem pt_52_36 (w : qS) : gP w 52 36 = some (.inl (qo_ia (gL w))) := rfl
theorem pt_52_37 (w : qS) : gP w 52 37 = some (.inl (qo_il 1 1)) := rfl
theorem pt_52_38 (w : qS) : gP w 52 38 = some (.inl (qo_c (fun x y => ¬ x = y) 134)) := rfl
theorem pt_52_41 (w : qS) : gP w 52 41 = some (.inl (qo_al 0 1)) := rfl
theorem pt_52_42 (w : qS) : gP w 52 42 = some (.inl (qo_il 7 2)) := rfl
theorem pt_52_44 (w : qS) : gP w 52 44 = some (.inr (.inl (30, 2, some 1))) := rfl
theorem pt_52_47 (w : qS) : gP w 52 47 = some (.inl (qo_z (fun x => ¬ x = 0) 53)) := rfl
theorem pt_52_50 (w : qS) : gP w 52 50 = some (.inl (qo_g 134)) := rfl
theorem pt_52_53 (w : qS) : gP w 52 53 = some (.inl (qo_inc 2 1)) := rfl
theorem pt_52_56 (w : qS) : gP w 52 56 = some (.inl (qo_il 3 1)) := rfl
theorem pt_52_57 (w : qS) : gP w 52 57 = some (.inl (qo_al 0 1)) := rfl
theorem pt_52_58 (w : qS) : gP w 52 58 = some (.inl (qo_get (gL w) 1 0)) := rfl
theorem pt_52_61 (w : qS) : gP w 52 61 = some (.inl (qo_get (gL w) 2 3)) := rfl
theorem pt_52_64 (w : qS) : gP w 52 64 = some (.inl (qo_il 7 2)) := rfl
theorem pt_52_66 (w : qS) : gP w 52 66 = some (.inl (qo_ia (gL w))) := rfl
theorem pt_52_67 (w : qS) : gP w 52 67 = some (.inr (.inl (26, 1, none))) := rfl
theorem pt_52_70 (w : qS) : gP w 52 70 = some (.inl qo_mn) := rfl
theorem pt_52_73 (w : qS) : gP w 52 73 = some (.inl (qo_is 3 1)) := rfl
theorem pt_52_74 (w : qS) : gP w 52 74 = some (.inl (qo_il 4 2)) := rfl
theorem pt_52_76 (w : qS) : gP w 52 76 = some (.inl (qo_al 0 1)) := rfl
theorem pt_52_77 (w : qS) : gP w 52 77 = some (.inl (qo_get (gL w) 1 0)) := rfl
theorem pt_52_80 (w : qS) : gP w 52 80 = some (.inl (qo_get (gL w) 2 3)) := rfl
theorem pt_52_83 (w : qS) : gP w 52 83 = some (.inl (qo_il 7 2)) := rfl
theorem pt_52_85 (w : qS) : gP w 52 85 = some (.inl (qo_ia (gL w))) := rfl
theorem pt_52_86 (w : qS) : gP w 52 86 = some (.inr (.inl (26, 1, none))) := rfl
theorem pt_52_89 (w : qS) : gP w 52 89 = some (.inl qo_mx) := rfl
theorem pt_52_92 (w : qS) : gP w 52 92 = some (.inl (qo_is 4 2)) := rfl
theorem pt_52_94 (w : qS) : gP w 52 94 = some (.inl (qo_il 5 2)) := rfl
theorem pt_52_96 (w : qS) : gP w 52 96 = some (.inl (qo_al 0 1)) := rfl
theorem pt_52_97 (w : qS) : gP w 52 97 = some (.inl (qo_get (gL w) 1 0)) := rfl
theorem pt_52_100 (w : qS) : gP w 52 100 = some (.inl (qo_get (gL w) 2 3)) := rfl
theorem pt_52_103 (w : qS) : gP w 52 103 = some (.inl (qo_il 7 2)) := rfl
theorem pt_52_105 (w : qS) : gP w 52 105 = some (.inl (qo_ia (gL w))) := rfl
theorem pt_52_106 (w : qS) : gP w 52 106 = some (.inr (.inl (25, 1, none))) := rfl
theorem pt_52_109 (w : qS) : gP w 52 109 = some (.inl qo_mn) := rfl
theorem pt_52_112 (w : qS) : gP w 52 112 = some (.inl (qo_is 5 2)) := rfl
theorem pt_52_114 (w : qS) : gP w 52 114 = some (.inl (qo_il 6 2)) := rfl
theorem pt_52_116 (w : qS) : gP w 52 116 = some (.inl (qo_al 0 1)) := rfl
theorem pt_52_117 (w : qS) : gP w 52 117 = some (.inl (qo_get (gL w) 1 0)) := rfl
theorem pt_52_120 (w : qS) : gP w 52 120 = some (.inl (qo_get (gL w) 2 3)) := rfl
theorem pt_52_123 (w : qS) : gP w 52 123 = some (.inl (qo_il 7 2)) := rfl
theorem pt_52_125 (w : qS) : gP w 52 125 = some (.inl (qo_ia (gL w))) := rfl
theorem pt_52_126 (w : qS) : gP w 52 126 = some (.inr (.inl (25, 1, none))) := rfl
theorem pt_52_129 (w : qS) : gP w 52 129 = some (.inl qo_mx) := rfl
theorem pt_52_132 (w : qS) : gP w 52 132 = some (.inl (qo_is 6 2)) := rfl
theorem pt_52_134 (w : qS) : gP w 52 134 = some (.inl (qo_inc 7 1)) := rfl
theorem pt_52_137 (w : qS) : gP w 52 137 = some (.inl (qo_g 18)) := rfl
theorem pt_52_140 (w : qS) : gP w 52 140 = some (.inl (qo_il 2 1)) := rfl
theorem pt_52_141 (w : qS) : gP w 52 141 = some (.inl (qo_k (iN 2) 1)) := rfl
theorem pt_52_142 (w : qS) : gP w 52 142 = some (.inl (qo_c (fun x y => y ≤ x) 149)) := rfl
theorem pt_52_145 (w : qS) : gP w 52 145 = some (.inl (qo_k (-1) 1)) := rfl
theorem pt_52_146 (w : qS) : gP w 52 146 = some (.inl (qo_g 159)) := rfl
theorem pt_52_149 (w : qS) : gP w 52 149 = some (.inl (qo_il 4 2)) := rfl
theorem pt_52_151 (w : qS) : gP w 52 151 = some (.inl (qo_il 3 1)) := rfl
theorem pt_52_152 (w : qS) : gP w 52 152 = some (.inl (qo_b (fun x y => x - y))) := rfl
theorem pt_52_153 (w : qS) : gP w 52 153 = some (.inl (qo_il 6 2)) := rfl
theorem pt_52_155 (w : qS) : gP w 52 155 = some (.inl (qo_b (fun x y => x + y))) := rfl
theorem pt_52_156 (w : qS) : gP w 52 156 = some (.inl (qo_il 5 2)) := rfl
theorem pt_52_158 (w : qS) : gP w 52 158 = some (.inl (qo_b (fun x y => x - y))) := rfl
theorem pt_52_159 (w : qS) : gP w 52 159 = some (.inr (.inr 1)) := rfl
theorem pt_53_0 (w : qS) : gP w 53 0 = some (.inl (qo_al 2 1)) := rfl
theorem pt_53_1 (w : qS) : gP w 53 1 = some (.inl (qo_k (-1) 1)) := rfl
theorem pt_53_2 (w : qS) : gP w 53 2 = some (.inr (.inl (122, 2, none))) := rfl
theorem pt_53_5 (w : qS) : gP w 53 5 = some (.inl (qo_k 0 1)) := rfl
theorem pt_53_6 (w : qS) : gP w 53 6 = some (.inl (qo_is 3 1)) := rfl
theorem pt_53_7 (w : qS) : gP w 53 7 = some (.inl (qo_il 3 1)) := rfl
theorem pt_53_8 (w : qS) : gP w 53 8 = some (.inl (qo_k (iN 240) 3)) := rfl
theorem pt_53_11 (w : qS) : gP w 53 11 = some (.inl (qo_c (fun x y => y ≤ x) 36)) := rfl
theorem pt_53_14 (w : qS) : gP w 53 14 = some (.inl (qo_al 0 1)) := rfl
theorem pt_53_15 (w : qS) : gP w 53 15 = some (.inl (qo_il 3 1)) := rfl
theorem pt_53_16 (w : qS) : gP w 53 16 = some (.inr (.inl (32, 2, some 1))) := rfl
theorem pt_53_19 (w : qS) : gP w 53 19 = some (.inl (qo_il 1 1)) := rfl
theorem pt_53_20 (w : qS) : gP w 53 20 = some (.inl (qo_c (fun x y => ¬ x = y) 30)) := rfl
theorem pt_53_23 (w : qS) : gP w 53 23 = some (.inl (qo_al 0 1)) := rfl
theorem pt_53_24 (w : qS) : gP w 53 24 = some (.inl (qo_il 3 1)) := rfl
theorem pt_53_25 (w : qS) : gP w 53 25 = some (.inl (qo_il 1 1)) := rfl
theorem pt_53_26 (w : qS) : gP w 53 26 = some (.inl (qo_al 2 1)) := rfl
theorem pt_53_27 (w : qS) : gP w 53 27 = some (.inr (.inl (54, 4, some 1))) := rfl
theorem pt_53_30 (w : qS) : gP w 53 30 = some (.inl (qo_inc 3 1)) := rfl
theorem pt_53_33 (w : qS) : gP w 53 33 = some (.inl (qo_g 7)) := rfl
theorem pt_53_36 (w : qS) : gP w 53 36 = some (.inr (.inr 0)) := rfl
theorem pt_54_0 (w : qS) : gP w 54 0 = some (.inl (qo_al 0 1)) := rfl
theorem pt_54_1 (w : qS) : gP w 54 1 = some (.inl (qo_get (gL w) 1 0)) := rfl
theorem pt_54_4 (w : qS) : gP w 54 4 = some (.inl (qo_get (gL w) 2 8)) := rfl
theorem pt_54_7 (w : qS) : gP w 54 7 = some (.inl (qo_is 4 2)) := rfl
theorem pt_54_9 (w : qS) : gP w 54 9 = some (.inl (qo_il 4 2)) := rfl
theorem pt_54_11 (w : qS) : gP w 54 11 = some (.inl (qo_u (fun x => -x))) := rfl
theorem pt_54_12 (w : qS) : gP w 54 12 = some (.inl (qo_is 5 2)) := rfl
theorem pt_54_14 (w : qS) : gP w 54 14 = some (.inl (qo_il 5 2)) := rfl
theorem pt_54_16 (w : qS) : gP w 54 16 = some (.inl (qo_il 4 2)) := rfl
theorem pt_54_18 (w : qS) : gP w 54 18 = some (.inl (qo_c (fun x y => y < x) 92)) := rfl
theorem pt_54_21 (w : qS) : gP w 54 21 = some (.inl (qo_il 4 2)) := rfl
theorem pt_54_23 (w : qS) : gP w 54 23 = some (.inl (qo_u (fun x => -x))) := rfl
theorem pt_54_24 (w : qS) : gP w 54 24 = some (.inl (qo_is 6 2)) := rfl
theorem pt_54_26 (w : qS) : gP w 54 26 = some (.inl (qo_il 6 2)) := rfl
theorem pt_54_28 (w : qS) : gP w 54 28 = some (.inl (qo_il 4 2)) := rfl
theorem pt_54_30 (w : qS) : gP w 54 30 = some (.inl (qo_c (fun x y => y < x) 86)) := rfl
theorem pt_54_33 (w : qS) : gP w 54 33 = some (.inl (qo_il 1 1)) := rfl
theorem pt_54_34 (w : qS) : gP w 54 34 = some (.inl (qo_il 6 2)) := rfl
theorem pt_54_36 (w : qS) : gP w 54 36 = some (.inl (qo_il 5 2)) := rfl
theorem pt_54_38 (w : qS) : gP w 54 38 = some (.inr (.inl (27, 3, none))) := rfl
theorem pt_54_41 (w : qS) : gP w 54 41 = some (.inl (qo_is 7 2)) := rfl
theorem pt_54_43 (w : qS) : gP w 54 43 = some (.inl (qo_il 7 2)) := rfl
theorem pt_54_45 (w : qS) : gP w 54 45 = some (.inl (qo_k (-1) 1)) := rfl
theorem pt_54_46 (w : qS) : gP w 54 46 = some (.inl (qo_c (fun x y => ¬ x = y) 53)) := rfl
theorem pt_54_49 (w : qS) : gP w 54 49 = some (.inl (qo_k (-1) 1)) := rfl
theorem pt_54_50 (w : qS) : gP w 54 50 = some (.inl (qo_g 59)) := rfl
theorem pt_54_53 (w : qS) : gP w 54 53 = some (.inl (qo_al 0 1)) := rfl
theorem pt_54_54 (w : qS) : gP w 54 54 = some (.inl (qo_il 7 2)) := rfl
theorem pt_54_56 (w : qS) : gP w 54 56 = some (.inr (.inl (32, 2, some 1))) := rfl
theorem pt_54_59 (w : qS) : gP w 54 59 = some (.inl (qo_is 8 2)) := rfl
theorem pt_54_61 (w : qS) : gP w 54 61 = some (.inl (qo_il 8 2)) := rfl
theorem pt_54_63 (w : qS) : gP w 54 63 = some (.inl (qo_il 2 1)) := rfl
theorem pt_54_64 (w : qS) : gP w 54 64 = some (.inl (qo_c (fun x y => x ≤ y) 80)) := rfl
theorem pt_54_67 (w : qS) : gP w 54 67 = some (.inl (qo_al 3 1)) := rfl
theorem pt_54_68 (w : qS) : gP w 54 68 = some (.inl (qo_il 8 2)) := rfl
theorem pt_54_70 (w : qS) : gP w 54 70 = some (.inl (qo_ia (gL w))) := rfl
theorem pt_54_71 (w : qS) : gP w 54 71 = some (.inl (qo_k (-1) 1)) := rfl
theorem pt_54_72 (w : qS) : gP w 54 72 = some (.inl (qo_c (fun x y => ¬ x = y) 80)) := rfl
theorem pt_54_75 (w : qS) : gP w 54 75 = some (.inl (qo_al 3 1)) := rfl
theorem pt_54_76 (w : qS) : gP w 54 76 = some (.inl (qo_il 8 2)) := rfl
theorem pt_54_78 (w : qS) : gP w 54 78 = some (.inl (qo_il 1 1)) := rfl
theorem pt_54_79 (w : qS) : gP w 54 79 = some (.inl (qo_ias (gL w))) := rfl
theorem pt_54_80 (w : qS) : gP w 54 80 = some (.inl (qo_inc 6 1)) := rfl
theorem pt_54_83 (w : qS) : gP w 54 83 = some (.inl (qo_g 26)) := rfl
theorem pt_54_86 (w : qS) : gP w 54 86 = some (.inl (qo_inc 5 1)) := rfl
theorem pt_54_89 (w : qS) : gP w 54 89 = some (.inl (qo_g 14)) := rfl
theorem pt_54_92 (w : qS) : gP w 54 92 = some (.inr (.inr 0)) := rfl
theorem pt_55_0 (w : qS) : gP w 55 0 = some (.inl (qo_al 0 1)) := rfl
theorem pt_55_1 (w : qS) : gP w 55 1 = some (.inl (qo_il 1 1)) := rfl
theorem pt_55_2 (w : qS) : gP w 55 2 = some (.inr (.inl (32, 2, some 1))) := rfl
theorem pt_55_5 (w : qS) : gP w 55 5 = some (.inl (qo_is 2 1)) := rfl
theorem pt_55_6 (w : qS) : gP w 55 6 = some (.inl (qo_k (iN 12) 2)) := rfl
theorem pt_55_8 (w : qS) : gP w 55 8 = some (.inl (qo_il 1 1)) := rfl
theorem pt_55_9 (w : qS) : gP w 55 9 = some (.inr (.inl (26, 1, none))) := rfl
theorem pt_55_12 (w : qS) : gP w 55 12 = some (.inl (qo_b (fun x y => x - y))) := rfl
theorem pt_55_13 (w : qS) : gP w 55 13 = some (.inl (qo_is 3 1)) := rfl
theorem pt_55_14 (w : qS) : gP w 55 14 = some (.inl (qo_k 1 1)) := rfl
theorem pt_55_15 (w : qS) : gP w 55 15 = some (.inl (qo_is 4 2)) := rfl
theorem pt_55_17 (w : qS) : gP w 55 17 = some (.inl (qo_il 4 2)) := rfl
theorem pt_55_19 (w : qS) : gP w 55 19 = some (.inl (qo_il 3 1)) := rfl
theorem pt_55_20 (w : qS) : gP w 55 20 = some (.inl (qo_c (fun x y => y ≤ x) 41)) := rfl
theorem pt_55_23 (w : qS) : gP w 55 23 = some (.inl (qo_al 0 1)) := rfl
theorem pt_55_24 (w : qS) : gP w 55 24 = some (.inl (qo_il 1 1)) := rfl
theorem pt_55_25 (w : qS) : gP w 55 25 = some (.inl (qo_il 4 2)) := rfl
theorem pt_55_27 (w : qS) : gP w 55 27 = some (.inl (qo_b (fun x y => x + y))) := rfl
theorem pt_55_28 (w : qS) : gP w 55 28 = some (.inr (.inl (32, 2, some 1))) := rfl
theorem pt_55_31 (w : qS) : gP w 55 31 = some (.inl (qo_il 2 1)) := rfl
theorem pt_55_32 (w : qS) : gP w 55 32 = some (.inl (qo_c (fun x y => ¬ x = y) 41)) := rfl
theorem pt_55_35 (w : qS) : gP w 55 35 = some (.inl (qo_inc 4 1)) := rfl
theorem pt_55_38 (w : qS) : gP w 55 38 = some (.inl (qo_g 17)) := rfl
theorem pt_55_41 (w : qS) : gP w 55 41 = some (.inl (qo_il 4 2)) := rfl
theorem pt_55_43 (w : qS) : gP w 55 43 = some (.inr (.inr 1)) := rfl
theorem pt_56_0 (w : qS) : gP w 56 0 = some (.inl (qo_al 1 1)) := rfl
theorem pt_56_1 (w : qS) : gP w 56 1 = some (.inl (qo_get (gL w) 2 0)) := rfl
theorem pt_56_4 (w : qS) : gP w 56 4 = some (.inl (qo_k 0 1)) := rfl
theorem pt_56_5 (w : qS) : gP w 56 5 = some (.inl (qo_al 0 1)) := rfl
theorem pt_56_6 (w : qS) : gP w 56 6 = some (.inl (qo_get (gL w) 2 0)) := rfl
theorem pt_56_9 (w : qS) : gP w 56 9 = some (.inl (qo_k 0 1)) := rfl
theorem pt_56_10 (w : qS) : gP w 56 10 = some (.inl (qo_k (iN 16) 2)) := rfl
theorem pt_56_12 (w : qS) : gP w 56 12 = some (.inl (qo_cp (gL w))) := rfl
theorem pt_56_15 (w : qS) : gP w 56 15 = some (.inl (qo_al 1 1)) := rfl
theorem pt_56_16 (w : qS) : gP w 56 16 = some (.inl (qo_get (gL w) 2 1)) := rfl
theorem pt_56_19 (w : qS) : gP w 56 19 = some (.inl (qo_k 0 1)) := rfl
theorem pt_56_20 (w : qS) : gP w 56 20 = some (.inl (qo_al 0 1)) := rfl
theorem pt_56_21 (w : qS) : gP w 56 21 = some (.inl (qo_get (gL w) 2 1)) := rfl
theorem pt_56_24 (w : qS) : gP w 56 24 = some (.inl (qo_k 0 1)) := rfl
theorem pt_56_25 (w : qS) : gP w 56 25 = some (.inl (qo_k (iN 24) 2)) := rfl
theorem pt_56_27 (w : qS) : gP w 56 27 = some (.inl (qo_cp (gL w))) := rfl
theorem pt_56_30 (w : qS) : gP w 56 30 = some (.inl (qo_al 1 1)) := rfl
theorem pt_56_31 (w : qS) : gP w 56 31 = some (.inl (qo_get (gL w) 2 2)) := rfl
theorem pt_56_34 (w : qS) : gP w 56 34 = some (.inl (qo_k 0 1)) := rfl
theorem pt_56_35 (w : qS) : gP w 56 35 = some (.inl (qo_al 0 1)) := rfl
theorem pt_56_36 (w : qS) : gP w 56 36 = some (.inl (qo_get (gL w) 2 2)) := rfl
theorem pt_56_39 (w : qS) : gP w 56 39 = some (.inl (qo_k 0 1)) := rfl
theorem pt_56_40 (w : qS) : gP w 56 40 = some (.inl (qo_k (iN 24) 2)) := rfl
theorem pt_56_42 (w : qS) : gP w 56 42 = some (.inl (qo_cp (gL w))) := rfl
theorem pt_56_45 (w : qS) : gP w 56 45 = some (.inl (qo_al 1 1)) := rfl
theorem pt_56_46 (w : qS) : gP w 56 46 = some (.inl (qo_get (gL w) 2 3)) := rfl
theorem pt_56_49 (w : qS) : gP w 56 49 = some (.inl (qo_k 0 1)) := rfl
theorem pt_56_50 (w : qS) : gP w 56 50 = some (.inl (qo_al 0 1)) := rfl
theorem pt_56_51 (w : qS) : gP w 56 51 = some (.inl (qo_get (gL w) 2 3)) := rfl
theorem pt_56_54 (w : qS) : gP w 56 54 = some (.inl (qo_k 0 1)) := rfl
theorem pt_56_55 (w : qS) : gP w 56 55 = some (.inl (qo_k (iN 16) 2)) := rfl
theorem pt_56_57 (w : qS) : gP w 56 57 = some (.inl (qo_cp (gL w))) := rfl
theorem pt_56_60 (w : qS) : gP w 56 60 = some (.inl (qo_al 1 1)) := rfl
theorem pt_56_61 (w : qS) : gP w 56 61 = some (.inl (qo_get (gL w) 2 4)) := rfl
theorem pt_56_64 (w : qS) : gP w 56 64 = some (.inl (qo_k 0 1)) := rfl
theorem pt_56_65 (w : qS) : gP w 56 65 = some (.inl (qo_al 0 1)) := rfl
theorem pt_56_66 (w : qS) : gP w 56 66 = some (.inl (qo_get (gL w) 2 4)) := rfl
theorem pt_56_69 (w : qS) : gP w 56 69 = some (.inl (qo_k 0 1)) := rfl
theorem pt_56_70 (w : qS) : gP w 56 70 = some (.inl (qo_k (iN 16) 2)) := rfl
theorem pt_56_72 (w : qS) : gP w 56 72 = some (.inl (qo_cp (gL w))) := rfl
theorem pt_56_75 (w : qS) : gP w 56 75 = some (.inl (qo_al 1 1)) := rfl
theorem pt_56_76 (w : qS) : gP w 56 76 = some (.inl (qo_get (gL w) 2 5)) := rfl
theorem pt_56_79 (w : qS) : gP w 56 79 = some (.inl (qo_k 0 1)) := rfl
theorem pt_56_80 (w : qS) : gP w 56 80 = some (.inl (qo_al 0 1)) := rfl
theorem pt_56_81 (w : qS) : gP w 56 81 = some (.inl (qo_get (gL w) 2 5)) := rfl
theorem pt_56_84 (w : qS) : gP w 56 84 = some (.inl (qo_k 0 1)) := rfl
theorem pt_56_85 (w : qS) : gP w 56 85 = some (.inl (qo_k (iN 240) 3)) := rfl
theorem pt_56_88 (w : qS) : gP w 56 88 = some (.inl (qo_cp (gL w))) := rfl
theorem pt_56_91 (w : qS) : gP w 56 91 = some (.inl (qo_al 0 1)) := rfl
theorem pt_56_92 (w : qS) : gP w 56 92 = some (.inl (qo_al 1 1)) := rfl
theorem pt_56_93 (w : qS) : gP w 56 93 = some (.inl (qo_get (gL w) 2 6)) := rfl
theorem pt_56_96 (w : qS) : gP w 56 96 = some (.inl (qo_put (gL w) 2 6)) := rfl
theorem pt_56_99 (w : qS) : gP w 56 99 = some (.inl (qo_al 0 1)) := rfl
theorem pt_56_100 (w : qS) : gP w 56 100 = some (.inl (qo_al 1 1)) := rfl
theorem pt_56_101 (w : qS) : gP w 56 101 = some (.inl (qo_get (gL w) 2 7)) := rfl
theorem pt_56_104 (w : qS) : gP w 56 104 = some (.inl (qo_put (gL w) 2 7)) := rfl
theorem pt_56_107 (w : qS) : gP w 56 107 = some (.inl (qo_al 0 1)) := rfl
theorem pt_56_108 (w : qS) : gP w 56 108 = some (.inl (qo_al 1 1)) := rfl
theorem pt_56_109 (w : qS) : gP w 56 109 = some (.inl (qo_get (gL w) 2 8)) := rfl
theorem pt_56_112 (w : qS) : gP w 56 112 = some (.inl (qo_put (gL w) 2 8)) := rfl
theorem pt_56_115 (w : qS) : gP w 56 115 = some (.inr (.inr 0)) := rfl
theorem pt_57_0 (w : qS) : gP w 57 0 = some (.inl (qo_al 0 1)) := rfl
theorem pt_57_1 (w : qS) : gP w 57 1 = some (.inl (qo_get (gL w) 2 6)) := rfl
theorem pt_57_4 (w : qS) : gP w 57 4 = some (.inl (qo_al 1 1)) := rfl
theorem pt_57_5 (w : qS) : gP w 57 5 = some (.inl (qo_get (gL w) 2 6)) := rfl
theorem pt_57_8 (w : qS) : gP w 57 8 = some (.inl (qo_c (fun x y => ¬ x = y) 79)) := rfl
theorem pt_57_11 (w : qS) : gP w 57 11 = some (.inl (qo_al 0 1)) := rfl
theorem pt_57_12 (w : qS) : gP w 57 12 = some (.inl (qo_get (gL w) 2 7)) := rfl
theorem pt_57_15 (w : qS) : gP w 57 15 = some (.inl (qo_al 1 1)) := rfl
theorem pt_57_16 (w : qS) : gP w 57 16 = some (.inl (qo_get (gL w) 2 7)) := rfl
theorem pt_57_19 (w : qS) : gP w 57 19 = some (.inl (qo_c (fun x y => ¬ x = y) 79)) := rfl
theorem pt_57_22 (w : qS) : gP w 57 22 = some (.inl (qo_al 0 1)) := rfl
theorem pt_57_23 (w : qS) : gP w 57 23 = some (.inl (qo_get (gL w) 2 8)) := rfl
theorem pt_57_26 (w : qS) : gP w 57 26 = some (.inl (qo_al 1 1)) := rfl
theorem pt_57_27 (w : qS) : gP w 57 27 = some (.inl (qo_get (gL w) 2 8)) := rfl
theorem pt_57_30 (w : qS) : gP w 57 30 = some (.inl (qo_c (fun x y => ¬ x = y) 79)) := rfl
theorem pt_57_33 (w : qS) : gP w 57 33 = some (.inl (qo_al 0 1)) := rfl
theorem pt_57_34 (w : qS) : gP w 57 34 = some (.inl (qo_get (gL w) 2 3)) := rfl
theorem pt_57_37 (w : qS) : gP w 57 37 = some (.inl (qo_al 1 1)) := rfl
theorem pt_57_38 (w : qS) : gP w 57 38 = some (.inl (qo_get (gL w) 2 3)) := rfl
theorem pt_57_41 (w : qS) : gP w 57 41 = some (.inr (.inl (58, 2, none))) := rfl
theorem pt_57_44 (w : qS) : gP w 57 44 = some (.inl (qo_z (fun x => x = 0) 79)) := rfl
theorem pt_57_47 (w : qS) : gP w 57 47 = some (.inl (qo_al 0 1)) := rfl
theorem pt_57_48 (w : qS) : gP w 57 48 = some (.inl (qo_get (gL w) 2 4)) := rfl
theorem pt_57_51 (w : qS) : gP w 57 51 = some (.inl (qo_al 1 1)) := rfl
theorem pt_57_52 (w : qS) : gP w 57 52 = some (.inl (qo_get (gL w) 2 4)) := rfl
theorem pt_57_55 (w : qS) : gP w 57 55 = some (.inr (.inl (58, 2, none))) := rfl
theorem pt_57_58 (w : qS) : gP w 57 58 = some (.inl (qo_z (fun x => x = 0) 79)) := rfl
theorem pt_57_61 (w : qS) : gP w 57 61 = some (.inl (qo_al 0 1)) := rfl
theorem pt_57_62 (w : qS) : gP w 57 62 = some (.inl (qo_get (gL w) 2 5)) := rfl
theorem pt_57_65 (w : qS) : gP w 57 65 = some (.inl (qo_al 1 1)) := rfl
theorem pt_57_66 (w : qS) : gP w 57 66 = some (.inl (qo_get (gL w) 2 5)) := rfl
theorem pt_57_69 (w : qS) : gP w 57 69 = some (.inr (.inl (58, 2, none))) := rfl
theorem pt_57_72 (w : qS) : gP w 57 72 = some (.inl (qo_z (fun x => x = 0) 79)) := rfl
theorem pt_57_75 (w : qS) : gP w 57 75 = some (.inl (qo_k 1 1)) := rfl
theorem pt_57_76 (w : qS) : gP w 57 76 = some (.inl (qo_g 80)) := rfl
theorem pt_57_79 (w : qS) : gP w 57 79 = some (.inl (qo_k 0 1)) := rfl
theorem pt_57_80 (w : qS) : gP w 57 80 = some (.inr (.inr 2)) := rfl
theorem pt_58_0 (w : qS) : gP w 58 0 = some (.inl (qo_k 0 1)) := rfl
theorem pt_58_1 (w : qS) : gP w 58 1 = some (.inl (qo_is 2 1)) := rfl
theorem pt_58_2 (w : qS) : gP w 58 2 = some (.inl (qo_il 2 1)) := rfl
theorem pt_58_3 (w : qS) : gP w 58 3 = some (.inl (qo_al 0 1)) := rfl
theorem pt_58_4 (w : qS) : gP w 58 4 = some (.inl (qo_len (gL w))) := rfl
theorem pt_58_5 (w : qS) : gP w 58 5 = some (.inl (qo_c (fun x y => y ≤ x) 31)) := rfl
theorem pt_58_8 (w : qS) : gP w 58 8 = some (.inl (qo_il 2 1)) := rfl
theorem pt_58_9 (w : qS) : gP w 58 9 = some (.inl (qo_al 1 1)) := rfl
theorem pt_58_10 (w : qS) : gP w 58 10 = some (.inl (qo_len (gL w))) := rfl
theorem pt_58_11 (w : qS) : gP w 58 11 = some (.inl (qo_c (fun x y => y ≤ x) 31)) := rfl
theorem pt_58_14 (w : qS) : gP w 58 14 = some (.inl (qo_al 0 1)) := rfl
theorem pt_58_15 (w : qS) : gP w 58 15 = some (.inl (qo_il 2 1)) := rfl
theorem pt_58_16 (w : qS) : gP w 58 16 = some (.inl (qo_ia (gL w))) := rfl
theorem pt_58_17 (w : qS) : gP w 58 17 = some (.inl (qo_al 1 1)) := rfl
theorem pt_58_18 (w : qS) : gP w 58 18 = some (.inl (qo_il 2 1)) := rfl
theorem pt_58_19 (w : qS) : gP w 58 19 = some (.inl (qo_ia (gL w))) := rfl
theorem pt_58_20 (w : qS) : gP w 58 20 = some (.inl (qo_c (fun x y => x = y) 25)) := rfl
theorem pt_58_23 (w : qS) : gP w 58 23 = some (.inl (qo_k 0 1)) := rfl
theorem pt_58_24 (w : qS) : gP w 58 24 = some (.inr (.inr 2)) := rfl
theorem pt_58_25 (w : qS) : gP w 58 25 = some (.inl (qo_inc 2 1)) := rfl
theorem pt_58_28 (w : qS) : gP w 58 28 = some (.inl (qo_g 2)) := rfl
theorem pt_58_31 (w : qS) : gP w 58 31 = some (.inl (qo_k 1 1)) := rfl
theorem pt_58_32 (w : qS) : gP w 58 32 = some (.inr (.inr 2)) := rfl
theorem pt_59_0 (w : qS) : gP w 59 0 = some (.inl (qo_al 0 1)) := rfl
theorem pt_59_1 (w : qS) : gP w 59 1 = some (.inl (qo_get (gL w) 3 0)) := rfl
theorem pt_59_4 (w : qS) : gP w 59 4 = some (.inl (qo_al 0 1)) := rfl
theorem pt_59_5 (w : qS) : gP w 59 5 = some (.inl (qo_get (gL w) 3 1)) := rfl
theorem pt_59_8 (w : qS) : gP w 59 8 = some (.inl (qo_aa (gL w))) := rfl
theorem pt_59_9 (w : qS) : gP w 59 9 = some (.inl (qo_al 1 1)) := rfl
theorem pt_59_10 (w : qS) : gP w 59 10 = some (.inr (.inl (56, 2, some 2))) := rfl
theorem pt_59_13 (w : qS) : gP w 59 13 = some (.inr (.inr 0)) := rfl
theorem pt_60_0 (w : qS) : gP w 60 0 = some (.inl (qo_al 0 1)) := rfl
theorem pt_60_1 (w : qS) : gP w 60 1 = some (.inl (qo_get (gL w) 3 0)) := rfl
theorem pt_60_4 (w : qS) : gP w 60 4 = some (.inl (qo_al 0 1)) := rfl
theorem pt_60_5 (w : qS) : gP w 60 5 = some (.inl (qo_get (gL w) 3 1)) := rfl
theorem pt_60_8 (w : qS) : gP w 60 8 = some (.inl (qo_aa (gL w))) := rfl
theorem pt_60_9 (w : qS) : gP w 60 9 = some (.inl (qo_al 1 1)) := rfl
theorem pt_60_10 (w : qS) : gP w 60 10 = some (.inr (.inl (57, 2, some 2))) := rfl
theorem pt_60_13 (w : qS) : gP w 60 13 = some (.inl (qo_z (fun x => x = 0) 17)) := rfl
theorem pt_60_16 (w : qS) : gP w 60 16 = some (.inr (.inr 0)) := rfl
theorem pt_60_17 (w : qS) : gP w 60 17 = some (.inl (qo_al 0 1)) := rfl
theorem pt_60_18 (w : qS) : gP w 60 18 = some (.inl (qo_al 0 1)) := rfl
theorem pt_60_19 (w : qS) : gP w 60 19 = some (.inl (qo_get (gL w) 3 1)) := rfl
theorem pt_60_22 (w : qS) : gP w 60 22 = some (.inl (qo_k 1 1)) := rfl
theorem pt_60_23 (w : qS) : gP w 60 23 = some (.inl (qo_b (fun x y => x + y))) := rfl
theorem pt_60_24 (w : qS) : gP w 60 24 = some (.inl (qo_k (iN 17) 2)) := rfl
theorem pt_60_26 (w : qS) : gP w 60 26 = some (.inl (qo_d (fun x y => x - x / y * y))) := rfl
theorem pt_60_27 (w : qS) : gP w 60 27 = some (.inl (qo_put (gL w) 3 1)) := rfl
theorem pt_60_30 (w : qS) : gP w 60 30 = some (.inl (qo_al 0 1)) := rfl
theorem pt_60_31 (w : qS) : gP w 60 31 = some (.inl (qo_al 0 1)) := rfl
theorem pt_60_32 (w : qS) : gP w 60 32 = some (.inl (qo_get (gL w) 3 2)) := rfl
theorem pt_60_35 (w : qS) : gP w 60 35 = some (.inl (qo_k 1 1)) := rfl
theorem pt_60_36 (w : qS) : gP w 60 36 = some (.inl (qo_b (fun x y => x + y))) := rfl
theorem pt_60_37 (w : qS) : gP w 60 37 = some (.inl (qo_k (iN 16) 2)) := rfl
theorem pt_60_39 (w : qS) : gP w 60 39 = some (.inl qo_mn) := rfl
theorem pt_60_42 (w : qS) : gP w 60 42 = some (.inl (qo_put (gL w) 3 2)) := rfl
theorem pt_60_45 (w : qS) : gP w 60 45 = some (.inr (.inr 0)) := rfl
theorem pt_61_0 (w : qS) : gP w 61 0 = some (.inl (qo_al 0 1)) := rfl
theorem pt_61_1 (w : qS) : gP w 61 1 = some (.inl (qo_al 0 1)) := rfl
theorem pt_61_2 (w : qS) : gP w 61 2 = some (.inl (qo_get (gL w) 3 1)) := rfl
theorem pt_61_5 (w : qS) : gP w 61 5 = some (.inl (qo_k (iN 17) 2)) := rfl
theorem pt_61_7 (w : qS) : gP w 61 7 = some (.inl (qo_b (fun x y => x + y))) := rfl
theorem pt_61_8 (w : qS) : gP w 61 8 = some (.inl (qo_k 1 1)) := rfl
theorem pt_61_9 (w : qS) : gP w 61 9 = some (.inl (qo_b (fun x y => x - y))) := rfl
theorem pt_61_10 (w : qS) : gP w 61 10 = some (.inl (qo_k (iN 17) 2)) := rfl
theorem pt_61_12 (w : qS) : gP w 61 12 = some (.inl (qo_d (fun x y => x - x / y * y))) := rfl
theorem pt_61_13 (w : qS) : gP w 61 13 = some (.inl (qo_put (gL w) 3 1)) := rfl
theorem pt_61_16 (w : qS) : gP w 61 16 = some (.inl (qo_al 0 1)) := rfl
theorem pt_61_17 (w : qS) : gP w 61 17 = some (.inl qo_dup) := rfl
theorem pt_61_18 (w : qS) : gP w 61 18 = some (.inl (qo_get (gL w) 3 2)) := rfl
theorem pt_61_21 (w : qS) : gP w 61 21 = some (.inl (qo_k 1 1)) := rfl
theorem pt_61_22 (w : qS) : gP w 61 22 = some (.inl (qo_b (fun x y => x - y))) := rfl
theorem pt_61_23 (w : qS) : gP w 61 23 = some (.inl (qo_put (gL w) 3 2)) := rfl
theorem pt_61_26 (w : qS) : gP w 61 26 = some (.inl (qo_al 1 1)) := rfl
theorem pt_61_27 (w : qS) : gP w 61 27 = some (.inl (qo_al 0 1)) := rfl
theorem pt_61_28 (w : qS) : gP w 61 28 = some (.inl (qo_get (gL w) 3 0)) := rfl
theorem pt_61_31 (w : qS) : gP w 61 31 = some (.inl (qo_al 0 1)) := rfl
theorem pt_61_32 (w : qS) : gP w 61 32 = some (.inl (qo_get (gL w) 3 1)) := rfl
theorem pt_61_35 (w : qS) : gP w 61 35 = some (.inl (qo_aa (gL w))) := rfl
theorem pt_61_36 (w : qS) : gP w 61 36 = some (.inr (.inl (56, 2, some 2))) := rfl
theorem pt_61_39 (w : qS) : gP w 61 39 = some (.inr (.inr 0)) := rfl
theorem pt_62_0 (w : qS) : gP w 62 0 = some (.inl (qo_k (iN 1000000) 2)) := rfl
theorem pt_62_2 (w : qS) : gP w 62 2 = some (.inl (qo_is 3 1)) := rfl
theorem pt_62_3 (w : qS) : gP w 62 3 = some (.inl (qo_k 0 1)) := rfl
theorem pt_62_4 (w : qS) : gP w 62 4 = some (.inl (qo_is 4 2)) := rfl
theorem pt_62_6 (w : qS) : gP w 62 6 = some (.inl (qo_il 4 2)) := rfl
theorem pt_62_8 (w : qS) : gP w 62 8 = some (.inl (qo_k (iN 16) 2)) := rfl
theorem pt_62_10 (w : qS) : gP w 62 10 = some (.inl (qo_c (fun x y => y < x) 30)) := rfl
theorem pt_62_13 (w : qS) : gP w 62 13 = some (.inl (qo_il 3 1)) := rfl
theorem pt_62_14 (w : qS) : gP w 62 14 = some (.inl (qo_z (fun x => x ≤ 0) 30)) := rfl
theorem pt_62_17 (w : qS) : gP w 62 17 = some (.inl (qo_al 0 1)) := rfl
theorem pt_62_18 (w : qS) : gP w 62 18 = some (.inl (qo_al 1 1)) := rfl
theorem pt_62_19 (w : qS) : gP w 62 19 = some (.inl (qo_il 2 1)) := rfl
theorem pt_62_20 (w : qS) : gP w 62 20 = some (.inr (.inl (63, 3, some 4))) := rfl
theorem pt_62_23 (w : qS) : gP w 62 23 = some (.inl (qo_is 3 1)) := rfl
theorem pt_62_24 (w : qS) : gP w 62 24 = some (.inl (qo_inc 4 1)) := rfl
theorem pt_62_27 (w : qS) : gP w 62 27 = some (.inl (qo_g 6)) := rfl
theorem pt_62_30 (w : qS) : gP w 62 30 = some (.inl (qo_il 3 1)) := rfl
theorem pt_62_31 (w : qS) : gP w 62 31 = some (.inl (qo_z (fun x => ¬ x = 0) 38)) := rfl
theorem pt_62_34 (w : qS) : gP w 62 34 = some (.inl (qo_k 1 1)) := rfl
theorem pt_62_35 (w : qS) : gP w 62 35 = some (.inl (qo_g 39)) := rfl
theorem pt_62_38 (w : qS) : gP w 62 38 = some (.inl (qo_k 0 1)) := rfl
theorem pt_62_39 (w : qS) : gP w 62 39 = some (.inr (.inr 2)) := rfl
theorem pt_63_0 (w : qS) : gP w 63 0 = some (.inl (qo_al 0 1)) := rfl
theorem pt_63_1 (w : qS) : gP w 63 1 = some (.inl (qo_al 1 1)) := rfl
theorem pt_63_2 (w : qS) : gP w 63 2 = some (.inl (qo_il 2 1)) := rfl
theorem pt_63_3 (w : qS) : gP w 63 3 = some (.inr (.inl (64, 3, some 4))) := rfl
theorem pt_63_6 (w : qS) : gP w 63 6 = some (.inl (qo_is 3 1)) := rfl
theorem pt_63_7 (w : qS) : gP w 63 7 = some (.inl (qo_il 3 1)) := rfl
theorem pt_63_8 (w : qS) : gP w 63 8 = some (.inl (qo_k (-1) 1)) := rfl
theorem pt_63_9 (w : qS) : gP w 63 9 = some (.inl (qo_c (fun x y => ¬ x = y) 14)) := rfl
theorem pt_63_12 (w : qS) : gP w 63 12 = some (.inl (qo_k 0 1)) := rfl
theorem pt_63_13 (w : qS) : gP w 63 13 = some (.inr (.inr 1)) := rfl
theorem pt_63_14 (w : qS) : gP w 63 14 = some (.inl (qo_al 0 1)) := rfl
theorem pt_63_15 (w : qS) : gP w 63 15 = some (.inl (qo_al 1 1)) := rfl
theorem pt_63_16 (w : qS) : gP w 63 16 = some (.inl (qo_il 2 1)) := rfl
theorem pt_63_17 (w : qS) : gP w 63 17 = some (.inl (qo_il 3 1)) := rfl
theorem pt_63_18 (w : qS) : gP w 63 18 = some (.inr (.inl (67, 4, some 4))) := rfl
theorem pt_63_21 (w : qS) : gP w 63 21 = some (.inl (qo_al 0 1)) := rfl
theorem pt_63_22 (w : qS) : gP w 63 22 = some (.inl (qo_al 1 1)) := rfl
theorem pt_63_23 (w : qS) : gP w 63 23 = some (.inl (qo_il 3 1)) := rfl
theorem pt_63_24 (w : qS) : gP w 63 24 = some (.inr (.inl (70, 3, some 4))) := rfl
theorem pt_63_27 (w : qS) : gP w 63 27 = some (.inl (qo_is 4 2)) := rfl
theorem pt_63_29 (w : qS) : gP w 63 29 = some (.inl (qo_al 0 1)) := rfl
theorem pt_63_30 (w : qS) : gP w 63 30 = some (.inl (qo_get (gL w) 4 4)) := rfl
theorem pt_63_33 (w : qS) : gP w 63 33 = some (.inl (qo_il 4 2)) := rfl
theorem pt_63_35 (w : qS) : gP w 63 35 = some (.inl (qo_ia (gL w))) := rfl
theorem pt_63_36 (w : qS) : gP w 63 36 = some (.inl (qo_k (iN 1000000) 2)) := rfl
theorem pt_63_38 (w : qS) : gP w 63 38 = some (.inl (qo_c (fun x y => ¬ x = y) 44)) := rfl
theorem pt_63_41 (w : qS) : gP w 63 41 = some (.inl (qo_k (-2) 2)) := rfl
theorem pt_63_43 (w : qS) : gP w 63 43 = some (.inr (.inr 1)) := rfl
theorem pt_63_44 (w : qS) : gP w 63 44 = some (.inl (qo_al 0 1)) := rfl
theorem pt_63_45 (w : qS) : gP w 63 45 = some (.inl (qo_al 1 1)) := rfl
theorem pt_63_46 (w : qS) : gP w 63 46 = some (.inl (qo_il 4 2)) := rfl
theorem pt_63_48 (w : qS) : gP w 63 48 = some (.inl (qo_il 3 1)) := rfl
theorem pt_63_49 (w : qS) : gP w 63 49 = some (.inr (.inl (71, 4, some 4))) := rfl
theorem pt_63_52 (w : qS) : gP w 63 52 = some (.inl (qo_al 0 1)) := rfl
theorem pt_63_53 (w : qS) : gP w 63 53 = some (.inl (qo_get (gL w) 4 4)) := rfl
theorem pt_63_56 (w : qS) : gP w 63 56 = some (.inl (qo_il 4 2)) := rfl
theorem pt_63_58 (w : qS) : gP w 63 58 = some (.inl (qo_ia (gL w))) := rfl
theorem pt_63_59 (w : qS) : gP w 63 59 = some (.inr (.inr 1)) := rfl
theorem pt_64_0 (w : qS) : gP w 64 0 = some (.inl (qo_k 0 1)) := rfl
theorem pt_64_1 (w : qS) : gP w 64 1 = some (.inl (qo_is 3 1)) := rfl
theorem pt_64_2 (w : qS) : gP w 64 2 = some (.inl (qo_k 0 1)) := rfl
theorem pt_64_3 (w : qS) : gP w 64 3 = some (.inl (qo_is 4 2)) := rfl
theorem pt_64_5 (w : qS) : gP w 64 5 = some (.inl (qo_il 4 2)) := rfl
theorem pt_64_7 (w : qS) : gP w 64 7 = some (.inl (qo_al 1 1)) := rfl
theorem pt_64_8 (w : qS) : gP w 64 8 = some (.inl (qo_get (gL w) 1 0)) := rfl
theorem pt_64_11 (w : qS) : gP w 64 11 = some (.inl (qo_get (gL w) 2 6)) := rfl
theorem pt_64_14 (w : qS) : gP w 64 14 = some (.inl (qo_c (fun x y => y ≤ x) 83)) := rfl
theorem pt_64_17 (w : qS) : gP w 64 17 = some (.inl (qo_al 1 1)) := rfl
theorem pt_64_18 (w : qS) : gP w 64 18 = some (.inl (qo_il 4 2)) := rfl
theorem pt_64_20 (w : qS) : gP w 64 20 = some (.inr (.inl (31, 2, some 1))) := rfl
theorem pt_64_23 (w : qS) : gP w 64 23 = some (.inl (qo_il 2 1)) := rfl
theorem pt_64_24 (w : qS) : gP w 64 24 = some (.inl (qo_c (fun x y => ¬ x = y) 77)) := rfl
theorem pt_64_27 (w : qS) : gP w 64 27 = some (.inl (qo_al 1 1)) := rfl
theorem pt_64_28 (w : qS) : gP w 64 28 = some (.inl (qo_il 4 2)) := rfl
theorem pt_64_30 (w : qS) : gP w 64 30 = some (.inr (.inl (30, 2, some 1))) := rfl
theorem pt_64_33 (w : qS) : gP w 64 33 = some (.inl (qo_z (fun x => ¬ x = 0) 39)) := rfl
theorem pt_64_36 (w : qS) : gP w 64 36 = some (.inl (qo_g 77)) := rfl
theorem pt_64_39 (w : qS) : gP w 64 39 = some (.inl (qo_il 3 1)) := rfl
theorem pt_64_40 (w : qS) : gP w 64 40 = some (.inl (qo_z (fun x => ¬ x = 0) 60)) := rfl
theorem pt_64_43 (w : qS) : gP w 64 43 = some (.inl (qo_al 0 1)) := rfl
theorem pt_64_44 (w : qS) : gP w 64 44 = some (.inl (qo_al 1 1)) := rfl
theorem pt_64_45 (w : qS) : gP w 64 45 = some (.inl (qo_il 2 1)) := rfl
theorem pt_64_46 (w : qS) : gP w 64 46 = some (.inl (qo_al 1 1)) := rfl
theorem pt_64_47 (w : qS) : gP w 64 47 = some (.inl (qo_il 4 2)) := rfl
theorem pt_64_49 (w : qS) : gP w 64 49 = some (.inr (.inl (35, 2, some 1))) := rfl
theorem pt_64_52 (w : qS) : gP w 64 52 = some (.inr (.inl (65, 4, some 4))) := rfl
theorem pt_64_55 (w : qS) : gP w 64 55 = some (.inl (qo_k 1 1)) := rfl
theorem pt_64_56 (w : qS) : gP w 64 56 = some (.inl (qo_is 3 1)) := rfl
theorem pt_64_57 (w : qS) : gP w 64 57 = some (.inl (qo_g 77)) := rfl
theorem pt_64_60 (w : qS) : gP w 64 60 = some (.inl (qo_al 0 1)) := rfl
theorem pt_64_61 (w : qS) : gP w 64 61 = some (.inl (qo_get (gL w) 4 0)) := rfl
theorem pt_64_64 (w : qS) : gP w 64 64 = some (.inl (qo_al 1 1)) := rfl
theorem pt_64_65 (w : qS) : gP w 64 65 = some (.inl (qo_il 4 2)) := rfl
theorem pt_64_67 (w : qS) : gP w 64 67 = some (.inr (.inl (35, 2, some 1))) := rfl
theorem pt_64_70 (w : qS) : gP w 64 70 = some (.inl (qo_za (gL w))) := rfl
theorem pt_64_71 (w : qS) : gP w 64 71 = some (.inl (qo_z (fun x => ¬ x = 0) 77)) := rfl
theorem pt_64_74 (w : qS) : gP w 64 74 = some (.inl (qo_il 4 2)) := rfl
theorem pt_64_76 (w : qS) : gP w 64 76 = some (.inr (.inr 1)) := rfl
theorem pt_64_77 (w : qS) : gP w 64 77 = some (.inl (qo_inc 4 1)) := rfl
theorem pt_64_80 (w : qS) : gP w 64 80 = some (.inl (qo_g 5)) := rfl
theorem pt_64_83 (w : qS) : gP w 64 83 = some (.inl (qo_k (-1) 1)) := rfl
theorem pt_64_84 (w : qS) : gP w 64 84 = some (.inr (.inr 1)) := rfl
theorem pt_65_0 (w : qS) : gP w 65 0 = some (.inl (qo_k 0 1)) := rfl
theorem pt_65_1 (w : qS) : gP w 65 1 = some (.inl (qo_is 4 2)) := rfl
theorem pt_65_3 (w : qS) : gP w 65 3 = some (.inl (qo_il 4 2)) := rfl
theorem pt_65_5 (w : qS) : gP w 65 5 = some (.inl (qo_k (iN 240) 3)) := rfl
theorem pt_65_8 (w : qS) : gP w 65 8 = some (.inl (qo_c (fun x y => y ≤ x) 25)) := rfl
theorem pt_65_11 (w : qS) : gP w 65 11 = some (.inl (qo_al 0 1)) := rfl
theorem pt_65_12 (w : qS) : gP w 65 12 = some (.inl (qo_get (gL w) 4 0)) := rfl
theorem pt_65_15 (w : qS) : gP w 65 15 = some (.inl (qo_il 4 2)) := rfl
theorem pt_65_17 (w : qS) : gP w 65 17 = some (.inl (qo_k 0 1)) := rfl
theorem pt_65_18 (w : qS) : gP w 65 18 = some (.inl (qo_zas (gL w))) := rfl
theorem pt_65_19 (w : qS) : gP w 65 19 = some (.inl (qo_inc 4 1)) := rfl
theorem pt_65_22 (w : qS) : gP w 65 22 = some (.inl (qo_g 3)) := rfl
theorem pt_65_25 (w : qS) : gP w 65 25 = some (.inl (qo_al 0 1)) := rfl
theorem pt_65_26 (w : qS) : gP w 65 26 = some (.inl (qo_k 0 1)) := rfl
theorem pt_65_27 (w : qS) : gP w 65 27 = some (.inl (qo_put (gL w) 4 2)) := rfl
theorem pt_65_30 (w : qS) : gP w 65 30 = some (.inl (qo_al 0 1)) := rfl
theorem pt_65_31 (w : qS) : gP w 65 31 = some (.inl (qo_il 3 1)) := rfl
theorem pt_65_32 (w : qS) : gP w 65 32 = some (.inr (.inl (66, 2, some 4))) := rfl
theorem pt_65_35 (w : qS) : gP w 65 35 = some (.inl (qo_k 0 1)) := rfl
theorem pt_65_36 (w : qS) : gP w 65 36 = some (.inl (qo_is 4 2)) := rfl
theorem pt_65_38 (w : qS) : gP w 65 38 = some (.inl (qo_il 4 2)) := rfl
theorem pt_65_40 (w : qS) : gP w 65 40 = some (.inl (qo_k (iN 240) 3)) := rfl
theorem pt_65_43 (w : qS) : gP w 65 43 = some (.inl (qo_c (fun x y => y ≤ x) 113)) := rfl
theorem pt_65_46 (w : qS) : gP w 65 46 = some (.inl (qo_il 4 2)) := rfl
theorem pt_65_48 (w : qS) : gP w 65 48 = some (.inl (qo_al 0 1)) := rfl
theorem pt_65_49 (w : qS) : gP w 65 49 = some (.inl (qo_get (gL w) 4 2)) := rfl
theorem pt_65_52 (w : qS) : gP w 65 52 = some (.inl (qo_c (fun x y => y ≤ x) 113)) := rfl
theorem pt_65_55 (w : qS) : gP w 65 55 = some (.inl (qo_k 0 1)) := rfl
theorem pt_65_56 (w : qS) : gP w 65 56 = some (.inl (qo_is 5 2)) := rfl
theorem pt_65_58 (w : qS) : gP w 65 58 = some (.inl (qo_il 5 2)) := rfl
theorem pt_65_60 (w : qS) : gP w 65 60 = some (.inl (qo_k (iN 9) 2)) := rfl
theorem pt_65_62 (w : qS) : gP w 65 62 = some (.inl (qo_c (fun x y => y ≤ x) 107)) := rfl
theorem pt_65_65 (w : qS) : gP w 65 65 = some (.inl (qo_al 0 1)) := rfl
theorem pt_65_66 (w : qS) : gP w 65 66 = some (.inl (qo_get (gL w) 4 1)) := rfl
theorem pt_65_69 (w : qS) : gP w 65 69 = some (.inl (qo_il 4 2)) := rfl
theorem pt_65_71 (w : qS) : gP w 65 71 = some (.inl (qo_ia (gL w))) := rfl
theorem pt_65_72 (w : qS) : gP w 65 72 = some (.inl (qo_il 5 2)) := rfl
theorem pt_65_74 (w : qS) : gP w 65 74 = some (.inr (.inl (28, 2, none))) := rfl
theorem pt_65_77 (w : qS) : gP w 65 77 = some (.inl (qo_is 6 2)) := rfl
theorem pt_65_79 (w : qS) : gP w 65 79 = some (.inl (qo_il 6 2)) := rfl
theorem pt_65_81 (w : qS) : gP w 65 81 = some (.inl (qo_k (-1) 1)) := rfl
theorem pt_65_82 (w : qS) : gP w 65 82 = some (.inl (qo_c (fun x y => x = y) 101)) := rfl
theorem pt_65_85 (w : qS) : gP w 65 85 = some (.inl (qo_al 1 1)) := rfl
theorem pt_65_86 (w : qS) : gP w 65 86 = some (.inl (qo_il 6 2)) := rfl
theorem pt_65_88 (w : qS) : gP w 65 88 = some (.inr (.inl (32, 2, some 1))) := rfl
theorem pt_65_91 (w : qS) : gP w 65 91 = some (.inl (qo_il 2 1)) := rfl
theorem pt_65_92 (w : qS) : gP w 65 92 = some (.inl (qo_c (fun x y => ¬ x = y) 101)) := rfl
theorem pt_65_95 (w : qS) : gP w 65 95 = some (.inl (qo_al 0 1)) := rfl
theorem pt_65_96 (w : qS) : gP w 65 96 = some (.inl (qo_il 6 2)) := rfl
theorem pt_65_98 (w : qS) : gP w 65 98 = some (.inr (.inl (66, 2, some 4))) := rfl
theorem pt_65_101 (w : qS) : gP w 65 101 = some (.inl (qo_inc 5 1)) := rfl
theorem pt_65_104 (w : qS) : gP w 65 104 = some (.inl (qo_g 58)) := rfl
theorem pt_65_107 (w : qS) : gP w 65 107 = some (.inl (qo_inc 4 1)) := rfl
theorem pt_65_110 (w : qS) : gP w 65 110 = some (.inl (qo_g 38)) := rfl
theorem pt_65_113 (w : qS) : gP w 65 113 = some (.inr (.inr 0)) := rfl
theorem pt_66_0 (w : qS) : gP w 66 0 = some (.inl (qo_al 0 1)) := rfl
theorem pt_66_1 (w : qS) : gP w 66 1 = some (.inl (qo_get (gL w) 4 0)) := rfl
theorem pt_66_4 (w : qS) : gP w 66 4 = some (.inl (qo_il 1 1)) := rfl
theorem pt_66_5 (w : qS) : gP w 66 5 = some (.inl (qo_za (gL w))) := rfl
theorem pt_66_6 (w : qS) : gP w 66 6 = some (.inl (qo_z (fun x => ¬ x = 0) 46)) := rfl
theorem pt_66_9 (w : qS) : gP w 66 9 = some (.inl (qo_al 0 1)) := rfl
theorem pt_66_10 (w : qS) : gP w 66 10 = some (.inl (qo_get (gL w) 4 2)) := rfl
theorem pt_66_13 (w : qS) : gP w 66 13 = some (.inl (qo_k (iN 240) 3)) := rfl
theorem pt_66_16 (w : qS) : gP w 66 16 = some (.inl (qo_c (fun x y => y ≤ x) 46)) := rfl
theorem pt_66_19 (w : qS) : gP w 66 19 = some (.inl (qo_al 0 1)) := rfl
theorem pt_66_20 (w : qS) : gP w 66 20 = some (.inl (qo_get (gL w) 4 0)) := rfl
theorem pt_66_23 (w : qS) : gP w 66 23 = some (.inl (qo_il 1 1)) := rfl
theorem pt_66_24 (w : qS) : gP w 66 24 = some (.inl (qo_k 1 1)) := rfl
theorem pt_66_25 (w : qS) : gP w 66 25 = some (.inl (qo_zas (gL w))) := rfl
theorem pt_66_26 (w : qS) : gP w 66 26 = some (.inl (qo_al 0 1)) := rfl
theorem pt_66_27 (w : qS) : gP w 66 27 = some (.inl (qo_get (gL w) 4 1)) := rfl
theorem pt_66_30 (w : qS) : gP w 66 30 = some (.inl (qo_al 0 1)) := rfl
theorem pt_66_31 (w : qS) : gP w 66 31 = some (.inl (qo_get (gL w) 4 2)) := rfl
theorem pt_66_34 (w : qS) : gP w 66 34 = some (.inl (qo_il 1 1)) := rfl
theorem pt_66_35 (w : qS) : gP w 66 35 = some (.inl (qo_ias (gL w))) := rfl
theorem pt_66_36 (w : qS) : gP w 66 36 = some (.inl (qo_al 0 1)) := rfl
theorem pt_66_37 (w : qS) : gP w 66 37 = some (.inl qo_dup) := rfl
theorem pt_66_38 (w : qS) : gP w 66 38 = some (.inl (qo_get (gL w) 4 2)) := rfl
theorem pt_66_41 (w : qS) : gP w 66 41 = some (.inl (qo_k 1 1)) := rfl
theorem pt_66_42 (w : qS) : gP w 66 42 = some (.inl (qo_b (fun x y => x + y))) := rfl
theorem pt_66_43 (w : qS) : gP w 66 43 = some (.inl (qo_put (gL w) 4 2)) := rfl
theorem pt_66_46 (w : qS) : gP w 66 46 = some (.inr (.inr 0)) := rfl
theorem pt_67_0 (w : qS) : gP w 67 0 = some (.inl (qo_k 0 1)) := rfl
theorem pt_67_1 (w : qS) : gP w 67 1 = some (.inl (qo_is 4 2)) := rfl
theorem pt_67_3 (w : qS) : gP w 67 3 = some (.inl (qo_il 4 2)) := rfl
theorem pt_67_5 (w : qS) : gP w 67 5 = some (.inl (qo_k (iN 240) 3)) := rfl
theorem pt_67_8 (w : qS) : gP w 67 8 = some (.inl (qo_c (fun x y => y ≤ x) 40)) := rfl
theorem pt_67_11 (w : qS) : gP w 67 11 = some (.inl (qo_al 0 1)) := rfl
theorem pt_67_12 (w : qS) : gP w 67 12 = some (.inl (qo_get (gL w) 4 3)) := rfl
theorem pt_67_15 (w : qS) : gP w 67 15 = some (.inl (qo_il 4 2)) := rfl
theorem pt_67_17 (w : qS) : gP w 67 17 = some (.inl (qo_al 1 1)) := rfl
theorem pt_67_18 (w : qS) : gP w 67 18 = some (.inl (qo_il 4 2)) := rfl
theorem pt_67_20 (w : qS) : gP w 67 20 = some (.inl (qo_il 2 1)) := rfl
theorem pt_67_21 (w : qS) : gP w 67 21 = some (.inr (.inl (36, 3, some 1))) := rfl
theorem pt_67_24 (w : qS) : gP w 67 24 = some (.inl (qo_zas (gL w))) := rfl
theorem pt_67_25 (w : qS) : gP w 67 25 = some (.inl (qo_al 0 1)) := rfl
theorem pt_67_26 (w : qS) : gP w 67 26 = some (.inl (qo_get (gL w) 4 4)) := rfl
theorem pt_67_29 (w : qS) : gP w 67 29 = some (.inl (qo_il 4 2)) := rfl
theorem pt_67_31 (w : qS) : gP w 67 31 = some (.inl (qo_k (iN 1000000) 2)) := rfl
theorem pt_67_33 (w : qS) : gP w 67 33 = some (.inl (qo_ias (gL w))) := rfl
theorem pt_67_34 (w : qS) : gP w 67 34 = some (.inl (qo_inc 4 1)) := rfl
theorem pt_67_37 (w : qS) : gP w 67 37 = some (.inl (qo_g 3)) := rfl
theorem pt_67_40 (w : qS) : gP w 67 40 = some (.inl (qo_al 0 1)) := rfl
theorem pt_67_41 (w : qS) : gP w 67 41 = some (.inl (qo_get (gL w) 4 5)) := rfl
theorem pt_67_44 (w : qS) : gP w 67 44 = some (.inr (.inl (73, 1, some 5))) := rfl
theorem pt_67_47 (w : qS) : gP w 67 47 = some (.inl (qo_k 0 1)) := rfl
theorem pt_67_48 (w : qS) : gP w 67 48 = some (.inl (qo_is 4 2)) := rfl
theorem pt_67_50 (w : qS) : gP w 67 50 = some (.inl (qo_il 4 2)) := rfl
theorem pt_67_52 (w : qS) : gP w 67 52 = some (.inl (qo_al 0 1)) := rfl
theorem pt_67_53 (w : qS) : gP w 67 53 = some (.inl (qo_get (gL w) 4 2)) := rfl
theorem pt_67_56 (w : qS) : gP w 67 56 = some (.inl (qo_c (fun x y => y ≤ x) 93)) := rfl
theorem pt_67_59 (w : qS) : gP w 67 59 = some (.inl (qo_al 0 1)) := rfl
theorem pt_67_60 (w : qS) : gP w 67 60 = some (.inl (qo_get (gL w) 4 4)) := rfl
theorem pt_67_63 (w : qS) : gP w 67 63 = some (.inl (qo_al 0 1)) := rfl
theorem pt_67_64 (w : qS) : gP w 67 64 = some (.inl (qo_get (gL w) 4 1)) := rfl
theorem pt_67_67 (w : qS) : gP w 67 67 = some (.inl (qo_il 4 2)) := rfl
theorem pt_67_69 (w : qS) : gP w 67 69 = some (.inl (qo_ia (gL w))) := rfl
theorem pt_67_70 (w : qS) : gP w 67 70 = some (.inl (qo_k 0 1)) := rfl
theorem pt_67_71 (w : qS) : gP w 67 71 = some (.inl (qo_ias (gL w))) := rfl
theorem pt_67_72 (w : qS) : gP w 67 72 = some (.inl (qo_al 0 1)) := rfl
theorem pt_67_73 (w : qS) : gP w 67 73 = some (.inl (qo_get (gL w) 4 5)) := rfl
theorem pt_67_76 (w : qS) : gP w 67 76 = some (.inl (qo_k 0 1)) := rfl
theorem pt_67_77 (w : qS) : gP w 67 77 = some (.inl (qo_al 0 1)) := rfl
theorem pt_67_78 (w : qS) : gP w 67 78 = some (.inl (qo_get (gL w) 4 1)) := rfl
theorem pt_67_81 (w : qS) : gP w 67 81 = some (.inl (qo_il 4 2)) := rfl
theorem pt_67_83 (w : qS) : gP w 67 83 = some (.inl (qo_ia (gL w))) := rfl
theorem pt_67_84 (w : qS) : gP w 67 84 = some (.inr (.inl (74, 3, some 5))) := rfl
theorem pt_67_87 (w : qS) : gP w 67 87 = some (.inl (qo_inc 4 1)) := rfl
theorem pt_67_90 (w : qS) : gP w 67 90 = some (.inl (qo_g 50)) := rfl
theorem pt_67_93 (w : qS) : gP w 67 93 = some (.inl (qo_k 0 1)) := rfl
theorem pt_67_94 (w : qS) : gP w 67 94 = some (.inl (qo_is 4 2)) := rfl
theorem pt_67_96 (w : qS) : gP w 67 96 = some (.inl (qo_il 4 2)) := rfl
theorem pt_67_98 (w : qS) : gP w 67 98 = some (.inl (qo_k (iN 240) 3)) := rfl
theorem pt_67_101 (w : qS) : gP w 67 101 = some (.inl (qo_c (fun x y => y ≤ x) 149)) := rfl
theorem pt_67_104 (w : qS) : gP w 67 104 = some (.inl (qo_al 0 1)) := rfl
theorem pt_67_105 (w : qS) : gP w 67 105 = some (.inl (qo_get (gL w) 4 5)) := rfl
theorem pt_67_108 (w : qS) : gP w 67 108 = some (.inl (qo_al 0 1)) := rfl
theorem pt_67_109 (w : qS) : gP w 67 109 = some (.inl (qo_get (gL w) 4 4)) := rfl
theorem pt_67_112 (w : qS) : gP w 67 112 = some (.inr (.inl (75, 2, some 5))) := rfl
theorem pt_67_115 (w : qS) : gP w 67 115 = some (.inl (qo_is 5 2)) := rfl
theorem pt_67_117 (w : qS) : gP w 67 117 = some (.inl (qo_il 5 2)) := rfl
theorem pt_67_119 (w : qS) : gP w 67 119 = some (.inl (qo_k (-1) 1)) := rfl
theorem pt_67_120 (w : qS) : gP w 67 120 = some (.inl (qo_c (fun x y => ¬ x = y) 126)) := rfl
theorem pt_67_123 (w : qS) : gP w 67 123 = some (.inl (qo_g 149)) := rfl
theorem pt_67_126 (w : qS) : gP w 67 126 = some (.inl (qo_al 0 1)) := rfl
theorem pt_67_127 (w : qS) : gP w 67 127 = some (.inl (qo_il 5 2)) := rfl
theorem pt_67_129 (w : qS) : gP w 67 129 = some (.inr (.inl (68, 2, some 4))) := rfl
theorem pt_67_132 (w : qS) : gP w 67 132 = some (.inl (qo_z (fun x => x = 0) 143)) := rfl
theorem pt_67_135 (w : qS) : gP w 67 135 = some (.inl (qo_al 0 1)) := rfl
theorem pt_67_136 (w : qS) : gP w 67 136 = some (.inl (qo_al 1 1)) := rfl
theorem pt_67_137 (w : qS) : gP w 67 137 = some (.inl (qo_il 5 2)) := rfl
theorem pt_67_139 (w : qS) : gP w 67 139 = some (.inl (qo_il 3 1)) := rfl
theorem pt_67_140 (w : qS) : gP w 67 140 = some (.inr (.inl (69, 4, some 4))) := rfl
theorem pt_67_143 (w : qS) : gP w 67 143 = some (.inl (qo_inc 4 1)) := rfl
theorem pt_67_146 (w : qS) : gP w 67 146 = some (.inl (qo_g 96)) := rfl
theorem pt_67_149 (w : qS) : gP w 67 149 = some (.inr (.inr 0)) := rfl
theorem pt_68_0 (w : qS) : gP w 68 0 = some (.inl (qo_al 0 1)) := rfl
theorem pt_68_1 (w : qS) : gP w 68 1 = some (.inl (qo_get (gL w) 4 0)) := rfl
theorem pt_68_4 (w : qS) : gP w 68 4 = some (.inl (qo_il 1 1)) := rfl
theorem pt_68_5 (w : qS) : gP w 68 5 = some (.inl (qo_za (gL w))) := rfl
theorem pt_68_6 (w : qS) : gP w 68 6 = some (.inl (qo_z (fun x => ¬ x = 0) 18)) := rfl
theorem pt_68_9 (w : qS) : gP w 68 9 = some (.inl (qo_al 0 1)) := rfl
theorem pt_68_10 (w : qS) : gP w 68 10 = some (.inl (qo_get (gL w) 4 3)) := rfl
theorem pt_68_13 (w : qS) : gP w 68 13 = some (.inl (qo_il 1 1)) := rfl
theorem pt_68_14 (w : qS) : gP w 68 14 = some (.inl (qo_za (gL w))) := rfl
theorem pt_68_15 (w : qS) : gP w 68 15 = some (.inl (qo_z (fun x => x = 0) 22)) := rfl
theorem pt_68_18 (w : qS) : gP w 68 18 = some (.inl (qo_k 1 1)) := rfl
theorem pt_68_19 (w : qS) : gP w 68 19 = some (.inl (qo_g 23)) := rfl
theorem pt_68_22 (w : qS) : gP w 68 22 = some (.inl (qo_k 0 1)) := rfl
theorem pt_68_23 (w : qS) : gP w 68 23 = some (.inr (.inr 2)) := rfl
theorem pt_69_0 (w : qS) : gP w 69 0 = some (.inl (qo_k 0 1)) := rfl
theorem pt_69_1 (w : qS) : gP w 69 1 = some (.inl (qo_is 4 2)) := rfl
theorem pt_69_3 (w : qS) : gP w 69 3 = some (.inl (qo_il 4 2)) := rfl
theorem pt_69_5 (w : qS) : gP w 69 5 = some (.inl (qo_k (iN 9) 2)) := rfl
theorem pt_69_7 (w : qS) : gP w 69 7 = some (.inl (qo_c (fun x y => y ≤ x) 113)) := rfl
theorem pt_69_10 (w : qS) : gP w 69 10 = some (.inl (qo_il 2 1)) := rfl
theorem pt_69_11 (w : qS) : gP w 69 11 = some (.inl (qo_il 4 2)) := rfl
theorem pt_69_13 (w : qS) : gP w 69 13 = some (.inr (.inl (28, 2, none))) := rfl
theorem pt_69_16 (w : qS) : gP w 69 16 = some (.inl (qo_is 5 2)) := rfl
theorem pt_69_18 (w : qS) : gP w 69 18 = some (.inl (qo_il 5 2)) := rfl
theorem pt_69_20 (w : qS) : gP w 69 20 = some (.inl (qo_k (-1) 1)) := rfl
theorem pt_69_21 (w : qS) : gP w 69 21 = some (.inl (qo_c (fun x y => x = y) 107)) := rfl
theorem pt_69_24 (w : qS) : gP w 69 24 = some (.inl (qo_al 0 1)) := rfl
theorem pt_69_25 (w : qS) : gP w 69 25 = some (.inl (qo_get (gL w) 4 3)) := rfl
theorem pt_69_28 (w : qS) : gP w 69 28 = some (.inl (qo_il 5 2)) := rfl
theorem pt_69_30 (w : qS) : gP w 69 30 = some (.inl (qo_za (gL w))) := rfl
theorem pt_69_31 (w : qS) : gP w 69 31 = some (.inl (qo_z (fun x => ¬ x = 0) 47)) := rfl
theorem pt_69_34 (w : qS) : gP w 69 34 = some (.inl (qo_al 1 1)) := rfl
theorem pt_69_35 (w : qS) : gP w 69 35 = some (.inl (qo_il 3 1)) := rfl
theorem pt_69_36 (w : qS) : gP w 69 36 = some (.inl (qo_il 5 2)) := rfl
theorem pt_69_38 (w : qS) : gP w 69 38 = some (.inr (.inl (33, 3, some 1))) := rfl
theorem pt_69_41 (w : qS) : gP w 69 41 = some (.inl (qo_z (fun x => ¬ x = 0) 47)) := rfl
theorem pt_69_44 (w : qS) : gP w 69 44 = some (.inl (qo_g 107)) := rfl
theorem pt_69_47 (w : qS) : gP w 69 47 = some (.inl (qo_al 0 1)) := rfl
theorem pt_69_48 (w : qS) : gP w 69 48 = some (.inl (qo_get (gL w) 4 4)) := rfl
theorem pt_69_51 (w : qS) : gP w 69 51 = some (.inl (qo_il 2 1)) := rfl
theorem pt_69_52 (w : qS) : gP w 69 52 = some (.inl (qo_ia (gL w))) := rfl
theorem pt_69_53 (w : qS) : gP w 69 53 = some (.inl (qo_ss 202)) := rfl
theorem pt_69_56 (w : qS) : gP w 69 56 = some (.inl (qo_il 4 2)) := rfl
theorem pt_69_58 (w : qS) : gP w 69 58 = some (.inl (qo_ia (gL w))) := rfl
theorem pt_69_59 (w : qS) : gP w 69 59 = some (.inl (qo_b (fun x y => x + y))) := rfl
theorem pt_69_60 (w : qS) : gP w 69 60 = some (.inl (qo_is 6 2)) := rfl
theorem pt_69_62 (w : qS) : gP w 69 62 = some (.inl (qo_il 6 2)) := rfl
theorem pt_69_64 (w : qS) : gP w 69 64 = some (.inl (qo_al 0 1)) := rfl
theorem pt_69_65 (w : qS) : gP w 69 65 = some (.inl (qo_get (gL w) 4 4)) := rfl
theorem pt_69_68 (w : qS) : gP w 69 68 = some (.inl (qo_il 5 2)) := rfl
theorem pt_69_70 (w : qS) : gP w 69 70 = some (.inl (qo_ia (gL w))) := rfl
theorem pt_69_71 (w : qS) : gP w 69 71 = some (.inl (qo_c (fun x y => y ≤ x) 107)) := rfl
theorem pt_69_74 (w : qS) : gP w 69 74 = some (.inl (qo_al 0 1)) := rfl
theorem pt_69_75 (w : qS) : gP w 69 75 = some (.inl (qo_get (gL w) 4 4)) := rfl
theorem pt_69_78 (w : qS) : gP w 69 78 = some (.inl (qo_il 5 2)) := rfl
theorem pt_69_80 (w : qS) : gP w 69 80 = some (.inl (qo_il 6 2)) := rfl
theorem pt_69_82 (w : qS) : gP w 69 82 = some (.inl (qo_ias (gL w))) := rfl
theorem pt_69_83 (w : qS) : gP w 69 83 = some (.inl (qo_al 0 1)) := rfl
theorem pt_69_84 (w : qS) : gP w 69 84 = some (.inl (qo_get (gL w) 4 5)) := rfl
theorem pt_69_87 (w : qS) : gP w 69 87 = some (.inl (qo_il 4 2)) := rfl
theorem pt_69_89 (w : qS) : gP w 69 89 = some (.inl (qo_k (iN 8) 2)) := rfl
theorem pt_69_91 (w : qS) : gP w 69 91 = some (.inl (qo_c (fun x y => ¬ x = y) 98)) := rfl
theorem pt_69_94 (w : qS) : gP w 69 94 = some (.inl (qo_k (iN 2) 1)) := rfl
theorem pt_69_95 (w : qS) : gP w 69 95 = some (.inl (qo_g 102)) := rfl
theorem pt_69_98 (w : qS) : gP w 69 98 = some (.inl (qo_il 4 2)) := rfl
theorem pt_69_100 (w : qS) : gP w 69 100 = some (.inl (qo_k 1 1)) := rfl
theorem pt_69_101 (w : qS) : gP w 69 101 = some (.inl (qo_b (fun x y => x &&& y))) := rfl
theorem pt_69_102 (w : qS) : gP w 69 102 = some (.inl (qo_il 5 2)) := rfl
theorem pt_69_104 (w : qS) : gP w 69 104 = some (.inr (.inl (74, 3, some 5))) := rfl
theorem pt_69_107 (w : qS) : gP w 69 107 = some (.inl (qo_inc 4 1)) := rfl
theorem pt_69_110 (w : qS) : gP w 69 110 = some (.inl (qo_g 3)) := rfl
theorem pt_69_113 (w : qS) : gP w 69 113 = some (.inr (.inr 0)) := rfl
theorem pt_70_0 (w : qS) : gP w 70 0 = some (.inl (qo_al 1 1)) := rfl
theorem pt_70_1 (w : qS) : gP w 70 1 = some (.inl (qo_il 2 1)) := rfl
theorem pt_70_2 (w : qS) : gP w 70 2 = some (.inr (.inl (35, 2, some 1))) := rfl
theorem pt_70_5 (w : qS) : gP w 70 5 = some (.inl (qo_is 3 1)) := rfl
theorem pt_70_6 (w : qS) : gP w 70 6 = some (.inl (qo_il 3 1)) := rfl
theorem pt_70_7 (w : qS) : gP w 70 7 = some (.inl (qo_k (iN 8) 2)) := rfl
theorem pt_70_9 (w : qS) : gP w 70 9 = some (.inr (.inl (28, 2, none))) := rfl
theorem pt_70_12 (w : qS) : gP w 70 12 = some (.inl (qo_is 4 2)) := rfl
theorem pt_70_14 (w : qS) : gP w 70 14 = some (.inl (qo_al 1 1)) := rfl
theorem pt_70_15 (w : qS) : gP w 70 15 = some (.inl (qo_il 2 1)) := rfl
theorem pt_70_16 (w : qS) : gP w 70 16 = some (.inl (qo_il 4 2)) := rfl
theorem pt_70_18 (w : qS) : gP w 70 18 = some (.inr (.inl (33, 3, some 1))) := rfl
theorem pt_70_21 (w : qS) : gP w 70 21 = some (.inl (qo_z (fun x => x = 0) 45)) := rfl
theorem pt_70_24 (w : qS) : gP w 70 24 = some (.inl (qo_al 0 1)) := rfl
theorem pt_70_25 (w : qS) : gP w 70 25 = some (.inl (qo_get (gL w) 4 4)) := rfl
theorem pt_70_28 (w : qS) : gP w 70 28 = some (.inl (qo_il 4 2)) := rfl
theorem pt_70_30 (w : qS) : gP w 70 30 = some (.inl (qo_ia (gL w))) := rfl
theorem pt_70_31 (w : qS) : gP w 70 31 = some (.inl (qo_al 0 1)) := rfl
theorem pt_70_32 (w : qS) : gP w 70 32 = some (.inl (qo_get (gL w) 4 4)) := rfl
theorem pt_70_35 (w : qS) : gP w 70 35 = some (.inl (qo_il 3 1)) := rfl
theorem pt_70_36 (w : qS) : gP w 70 36 = some (.inl (qo_ia (gL w))) := rfl
theorem pt_70_37 (w : qS) : gP w 70 37 = some (.inl (qo_c (fun x y => y ≤ x) 45)) := rfl
theorem pt_70_40 (w : qS) : gP w 70 40 = some (.inl (qo_il 4 2)) := rfl
theorem pt_70_42 (w : qS) : gP w 70 42 = some (.inl (qo_g 46)) := rfl
theorem pt_70_45 (w : qS) : gP w 70 45 = some (.inl (qo_il 3 1)) := rfl
theorem pt_70_46 (w : qS) : gP w 70 46 = some (.inr (.inr 1)) := rfl
theorem pt_71_0 (w : qS) : gP w 71 0 = some (.inl (qo_il 2 1)) := rfl
theorem pt_71_1 (w : qS) : gP w 71 1 = some (.inl (qo_is 4 2)) := rfl
theorem pt_71_3 (w : qS) : gP w 71 3 = some (.inl (qo_k 0 1)) := rfl
theorem pt_71_4 (w : qS) : gP w 71 4 = some (.inl (qo_is 5 2)) := rfl
theorem pt_71_6 (w : qS) : gP w 71 6 = some (.inl (qo_il 5 2)) := rfl
theorem pt_71_8 (w : qS) : gP w 71 8 = some (.inl (qo_k (iN 240) 3)) := rfl
theorem pt_71_11 (w : qS) : gP w 71 11 = some (.inl (qo_c (fun x y => y ≤ x) 56)) := rfl
theorem pt_71_14 (w : qS) : gP w 71 14 = some (.inl (qo_al 0 1)) := rfl
theorem pt_71_15 (w : qS) : gP w 71 15 = some (.inl (qo_get (gL w) 4 0)) := rfl
theorem pt_71_18 (w : qS) : gP w 71 18 = some (.inl (qo_il 4 2)) := rfl
theorem pt_71_20 (w : qS) : gP w 71 20 = some (.inl (qo_za (gL w))) := rfl
theorem pt_71_21 (w : qS) : gP w 71 21 = some (.inl (qo_z (fun x => ¬ x = 0) 56)) := rfl
theorem pt_71_24 (w : qS) : gP w 71 24 = some (.inl (qo_al 0 1)) := rfl
theorem pt_71_25 (w : qS) : gP w 71 25 = some (.inl (qo_il 4 2)) := rfl
theorem pt_71_27 (w : qS) : gP w 71 27 = some (.inr (.inl (72, 2, some 4))) := rfl
theorem pt_71_30 (w : qS) : gP w 71 30 = some (.inl (qo_is 6 2)) := rfl
theorem pt_71_32 (w : qS) : gP w 71 32 = some (.inl (qo_il 6 2)) := rfl
theorem pt_71_34 (w : qS) : gP w 71 34 = some (.inl (qo_k (-1) 1)) := rfl
theorem pt_71_35 (w : qS) : gP w 71 35 = some (.inl (qo_c (fun x y => ¬ x = y) 39)) := rfl
theorem pt_71_38 (w : qS) : gP w 71 38 = some (.inr (.inr 0)) := rfl
theorem pt_71_39 (w : qS) : gP w 71 39 = some (.inl (qo_al 1 1)) := rfl
theorem pt_71_40 (w : qS) : gP w 71 40 = some (.inl (qo_il 6 2)) := rfl
theorem pt_71_42 (w : qS) : gP w 71 42 = some (.inl (qo_il 3 1)) := rfl
theorem pt_71_43 (w : qS) : gP w 71 43 = some (.inr (.inl (50, 3, some 1))) := rfl
theorem pt_71_46 (w : qS) : gP w 71 46 = some (.inl (qo_il 6 2)) := rfl
theorem pt_71_48 (w : qS) : gP w 71 48 = some (.inl (qo_is 4 2)) := rfl
theorem pt_71_50 (w : qS) : gP w 71 50 = some (.inl (qo_inc 5 1)) := rfl
theorem pt_71_53 (w : qS) : gP w 71 53 = some (.inl (qo_g 6)) := rfl
theorem pt_71_56 (w : qS) : gP w 71 56 = some (.inr (.inr 0)) := rfl
theorem pt_72_0 (w : qS) : gP w 72 0 = some (.inl (qo_k (-1) 1)) := rfl
theorem pt_72_1 (w : qS) : gP w 72 1 = some (.inl (qo_is 2 1)) := rfl
theorem pt_72_2 (w : qS) : gP w 72 2 = some (.inl (qo_k 0 1)) := rfl
theorem pt_72_3 (w : qS) : gP w 72 3 = some (.inl (qo_is 3 1)) := rfl
theorem pt_72_4 (w : qS) : gP w 72 4 = some (.inl (qo_il 3 1)) := rfl
theorem pt_72_5 (w : qS) : gP w 72 5 = some (.inl (qo_k (iN 9) 2)) := rfl
theorem pt_72_7 (w : qS) : gP w 72 7 = some (.inl (qo_c (fun x y => y ≤ x) 86)) := rfl
theorem pt_72_10 (w : qS) : gP w 72 10 = some (.inl (qo_il 1 1)) := rfl
theorem pt_72_11 (w : qS) : gP w 72 11 = some (.inl (qo_il 3 1)) := rfl
theorem pt_72_12 (w : qS) : gP w 72 12 = some (.inr (.inl (28, 2, none))) := rfl
theorem pt_72_15 (w : qS) : gP w 72 15 = some (.inl (qo_is 4 2)) := rfl
theorem pt_72_17 (w : qS) : gP w 72 17 = some (.inl (qo_il 4 2)) := rfl
theorem pt_72_19 (w : qS) : gP w 72 19 = some (.inl (qo_k (-1) 1)) := rfl
theorem pt_72_20 (w : qS) : gP w 72 20 = some (.inl (qo_c (fun x y => x = y) 58)) := rfl
theorem pt_72_23 (w : qS) : gP w 72 23 = some (.inl (qo_al 0 1)) := rfl
theorem pt_72_24 (w : qS) : gP w 72 24 = some (.inl (qo_il 4 2)) := rfl
theorem pt_72_26 (w : qS) : gP w 72 26 = some (.inr (.inl (68, 2, some 4))) := rfl
theorem pt_72_29 (w : qS) : gP w 72 29 = some (.inl (qo_z (fun x => x = 0) 58)) := rfl
theorem pt_72_32 (w : qS) : gP w 72 32 = some (.inl (qo_al 0 1)) := rfl
theorem pt_72_33 (w : qS) : gP w 72 33 = some (.inl (qo_get (gL w) 4 4)) := rfl
theorem pt_72_36 (w : qS) : gP w 72 36 = some (.inl (qo_il 4 2)) := rfl
theorem pt_72_38 (w : qS) : gP w 72 38 = some (.inl (qo_ia (gL w))) := rfl
theorem pt_72_39 (w : qS) : gP w 72 39 = some (.inl (qo_ss 202)) := rfl
theorem pt_72_42 (w : qS) : gP w 72 42 = some (.inl (qo_il 3 1)) := rfl
theorem pt_72_43 (w : qS) : gP w 72 43 = some (.inl (qo_ia (gL w))) := rfl
theorem pt_72_44 (w : qS) : gP w 72 44 = some (.inl (qo_b (fun x y => x + y))) := rfl
theorem pt_72_45 (w : qS) : gP w 72 45 = some (.inl (qo_al 0 1)) := rfl
theorem pt_72_46 (w : qS) : gP w 72 46 = some (.inl (qo_get (gL w) 4 4)) := rfl
theorem pt_72_49 (w : qS) : gP w 72 49 = some (.inl (qo_il 1 1)) := rfl
theorem pt_72_50 (w : qS) : gP w 72 50 = some (.inl (qo_ia (gL w))) := rfl
theorem pt_72_51 (w : qS) : gP w 72 51 = some (.inl (qo_c (fun x y => ¬ x = y) 58)) := rfl
theorem pt_72_54 (w : qS) : gP w 72 54 = some (.inl (qo_k 1 1)) := rfl
theorem pt_72_55 (w : qS) : gP w 72 55 = some (.inl (qo_g 59)) := rfl
theorem pt_72_58 (w : qS) : gP w 72 58 = some (.inl (qo_k 0 1)) := rfl
theorem pt_72_59 (w : qS) : gP w 72 59 = some (.inl (qo_is 5 2)) := rfl
theorem pt_72_61 (w : qS) : gP w 72 61 = some (.inl (qo_il 5 2)) := rfl
theorem pt_72_63 (w : qS) : gP w 72 63 = some (.inl (qo_z (fun x => x = 0) 80)) := rfl
theorem pt_72_66 (w : qS) : gP w 72 66 = some (.inl (qo_il 2 1)) := rfl
theorem pt_72_67 (w : qS) : gP w 72 67 = some (.inl (qo_k (-1) 1)) := rfl
theorem pt_72_68 (w : qS) : gP w 72 68 = some (.inl (qo_c (fun x y => x = y) 77)) := rfl
theorem pt_72_71 (w : qS) : gP w 72 71 = some (.inl (qo_il 4 2)) := rfl
theorem pt_72_73 (w : qS) : gP w 72 73 = some (.inl (qo_il 2 1)) := rfl
theorem pt_72_74 (w : qS) : gP w 72 74 = some (.inl (qo_c (fun x y => y ≤ x) 80)) := rfl
theorem pt_72_77 (w : qS) : gP w 72 77 = some (.inl (qo_il 4 2)) := rfl
theorem pt_72_79 (w : qS) : gP w 72 79 = some (.inl (qo_is 2 1)) := rfl
theorem pt_72_80 (w : qS) : gP w 72 80 = some (.inl (qo_inc 3 1)) := rfl
theorem pt_72_83 (w : qS) : gP w 72 83 = some (.inl (qo_g 4)) := rfl
theorem pt_72_86 (w : qS) : gP w 72 86 = some (.inl (qo_il 2 1)) := rfl
theorem pt_72_87 (w : qS) : gP w 72 87 = some (.inr (.inr 1)) := rfl
theorem pt_73_0 (w : qS) : gP w 73 0 = some (.inl (qo_al 0 1)) := rfl
theorem pt_73_1 (w : qS) : gP w 73 1 = some (.inl (qo_get (gL w) 5 1)) := rfl
theorem pt_73_4 (w : qS) : gP w 73 4 = some (.inl (qo_k 0 1)) := rfl
theorem pt_73_5 (w : qS) : gP w 73 5 = some (.inr (.inl (122, 2, none))) := rfl
theorem pt_73_8 (w : qS) : gP w 73 8 = some (.inl (qo_al 0 1)) := rfl
theorem pt_73_9 (w : qS) : gP w 73 9 = some (.inl (qo_get (gL w) 5 2)) := rfl
theorem pt_73_12 (w : qS) : gP w 73 12 = some (.inl (qo_k 0 1)) := rfl
theorem pt_73_13 (w : qS) : gP w 73 13 = some (.inr (.inl (122, 2, none))) := rfl
theorem pt_73_16 (w : qS) : gP w 73 16 = some (.inl (qo_k 0 1)) := rfl
theorem pt_73_17 (w : qS) : gP w 73 17 = some (.inl (qo_is 1 1)) := rfl
theorem pt_73_18 (w : qS) : gP w 73 18 = some (.inl (qo_il 1 1)) := rfl
theorem pt_73_19 (w : qS) : gP w 73 19 = some (.inl (qo_k (iN 240) 3)) := rfl
theorem pt_73_22 (w : qS) : gP w 73 22 = some (.inl (qo_c (fun x y => y ≤ x) 38)) := rfl
theorem pt_73_25 (w : qS) : gP w 73 25 = some (.inl (qo_al 0 1)) := rfl
theorem pt_73_26 (w : qS) : gP w 73 26 = some (.inl (qo_get (gL w) 5 3)) := rfl
theorem pt_73_29 (w : qS) : gP w 73 29 = some (.inl (qo_il 1 1)) := rfl
theorem pt_73_30 (w : qS) : gP w 73 30 = some (.inl (qo_k 0 1)) := rfl
theorem pt_73_31 (w : qS) : gP w 73 31 = some (.inl (qo_zas (gL w))) := rfl
theorem pt_73_32 (w : qS) : gP w 73 32 = some (.inl (qo_inc 1 1)) := rfl
theorem pt_73_35 (w : qS) : gP w 73 35 = some (.inl (qo_g 18)) := rfl
theorem pt_73_38 (w : qS) : gP w 73 38 = some (.inr (.inr 0)) := rfl
theorem pt_74_0 (w : qS) : gP w 74 0 = some (.inl (qo_al 0 1)) := rfl
theorem pt_74_1 (w : qS) : gP w 74 1 = some (.inl (qo_get (gL w) 5 2)) := rfl
theorem pt_74_4 (w : qS) : gP w 74 4 = some (.inl (qo_il 1 1)) := rfl
theorem pt_74_5 (w : qS) : gP w 74 5 = some (.inl (qo_ia (gL w))) := rfl
theorem pt_74_6 (w : qS) : gP w 74 6 = some (.inl (qo_k (iN 240) 3)) := rfl
theorem pt_74_9 (w : qS) : gP w 74 9 = some (.inl (qo_c (fun x y => y ≤ x) 36)) := rfl
theorem pt_74_12 (w : qS) : gP w 74 12 = some (.inl (qo_al 0 1)) := rfl
theorem pt_74_13 (w : qS) : gP w 74 13 = some (.inl (qo_get (gL w) 5 0)) := rfl
theorem pt_74_16 (w : qS) : gP w 74 16 = some (.inl (qo_il 1 1)) := rfl
theorem pt_74_17 (w : qS) : gP w 74 17 = some (.inl (qo_aa (gL w))) := rfl
theorem pt_74_18 (w : qS) : gP w 74 18 = some (.inl (qo_al 0 1)) := rfl
theorem pt_74_19 (w : qS) : gP w 74 19 = some (.inl (qo_get (gL w) 5 2)) := rfl
theorem pt_74_22 (w : qS) : gP w 74 22 = some (.inl (qo_il 1 1)) := rfl
theorem pt_74_23 (w : qS) : gP w 74 23 = some (.inl (qo_ia (gL w))) := rfl
theorem pt_74_24 (w : qS) : gP w 74 24 = some (.inl (qo_il 2 1)) := rfl
theorem pt_74_25 (w : qS) : gP w 74 25 = some (.inl (qo_ias (gL w))) := rfl
theorem pt_74_26 (w : qS) : gP w 74 26 = some (.inl (qo_al 0 1)) := rfl
theorem pt_74_27 (w : qS) : gP w 74 27 = some (.inl (qo_get (gL w) 5 2)) := rfl
theorem pt_74_30 (w : qS) : gP w 74 30 = some (.inl (qo_il 1 1)) := rfl
theorem pt_74_31 (w : qS) : gP w 74 31 = some (.inl qo_dup2) := rfl
theorem pt_74_32 (w : qS) : gP w 74 32 = some (.inl (qo_ia (gL w))) := rfl
theorem pt_74_33 (w : qS) : gP w 74 33 = some (.inl (qo_k 1 1)) := rfl
theorem pt_74_34 (w : qS) : gP w 74 34 = some (.inl (qo_b (fun x y => x + y))) := rfl
theorem pt_74_35 (w : qS) : gP w 74 35 = some (.inl (qo_ias (gL w))) := rfl
theorem pt_74_36 (w : qS) : gP w 74 36 = some (.inr (.inr 0)) := rfl
theorem pt_75_0 (w : qS) : gP w 75 0 = some (.inl (qo_k (-1) 1)) := rfl
theorem pt_75_1 (w : qS) : gP w 75 1 = some (.inl (qo_is 2 1)) := rfl
theorem pt_75_2 (w : qS) : gP w 75 2 = some (.inl (qo_k 0 1)) := rfl
theorem pt_75_3 (w : qS) : gP w 75 3 = some (.inl (qo_is 3 1)) := rfl
theorem pt_75_4 (w : qS) : gP w 75 4 = some (.inl (qo_il 3 1)) := rfl
theorem pt_75_5 (w : qS) : gP w 75 5 = some (.inl (qo_k (iN 3) 1)) := rfl
theorem pt_75_6 (w : qS) : gP w 75 6 = some (.inl (qo_c (fun x y => y ≤ x) 46)) := rfl
theorem pt_75_9 (w : qS) : gP w 75 9 = some (.inl (qo_al 0 1)) := rfl
theorem pt_75_10 (w : qS) : gP w 75 10 = some (.inl (qo_il 3 1)) := rfl
theorem pt_75_11 (w : qS) : gP w 75 11 = some (.inr (.inl (76, 2, some 5))) := rfl
theorem pt_75_14 (w : qS) : gP w 75 14 = some (.inl (qo_is 4 2)) := rfl
theorem pt_75_16 (w : qS) : gP w 75 16 = some (.inl (qo_il 4 2)) := rfl
theorem pt_75_18 (w : qS) : gP w 75 18 = some (.inl (qo_k (-1) 1)) := rfl
theorem pt_75_19 (w : qS) : gP w 75 19 = some (.inl (qo_c (fun x y => x = y) 40)) := rfl
theorem pt_75_22 (w : qS) : gP w 75 22 = some (.inl (qo_il 2 1)) := rfl
theorem pt_75_23 (w : qS) : gP w 75 23 = some (.inl (qo_k (-1) 1)) := rfl
theorem pt_75_24 (w : qS) : gP w 75 24 = some (.inl (qo_c (fun x y => x = y) 37)) := rfl
theorem pt_75_27 (w : qS) : gP w 75 27 = some (.inl (qo_al 1 1)) := rfl
theorem pt_75_28 (w : qS) : gP w 75 28 = some (.inl (qo_il 4 2)) := rfl
theorem pt_75_30 (w : qS) : gP w 75 30 = some (.inl (qo_ia (gL w))) := rfl
theorem pt_75_31 (w : qS) : gP w 75 31 = some (.inl (qo_al 1 1)) := rfl
theorem pt_75_32 (w : qS) : gP w 75 32 = some (.inl (qo_il 2 1)) := rfl
theorem pt_75_33 (w : qS) : gP w 75 33 = some (.inl (qo_ia (gL w))) := rfl
theorem pt_75_34 (w : qS) : gP w 75 34 = some (.inl (qo_c (fun x y => y ≤ x) 40)) := rfl
theorem pt_75_37 (w : qS) : gP w 75 37 = some (.inl (qo_il 4 2)) := rfl
theorem pt_75_39 (w : qS) : gP w 75 39 = some (.inl (qo_is 2 1)) := rfl
theorem pt_75_40 (w : qS) : gP w 75 40 = some (.inl (qo_inc 3 1)) := rfl
theorem pt_75_43 (w : qS) : gP w 75 43 = some (.inl (qo_g 4)) := rfl
theorem pt_75_46 (w : qS) : gP w 75 46 = some (.inl (qo_il 2 1)) := rfl
theorem pt_75_47 (w : qS) : gP w 75 47 = some (.inl (qo_k (-1) 1)) := rfl
theorem pt_75_48 (w : qS) : gP w 75 48 = some (.inl (qo_c (fun x y => x = y) 58)) := rfl
theorem pt_75_51 (w : qS) : gP w 75 51 = some (.inl (qo_al 0 1)) := rfl
theorem pt_75_52 (w : qS) : gP w 75 52 = some (.inl (qo_get (gL w) 5 3)) := rfl
theorem pt_75_55 (w : qS) : gP w 75 55 = some (.inl (qo_il 2 1)) := rfl
theorem pt_75_56 (w : qS) : gP w 75 56 = some (.inl (qo_k 1 1)) := rfl
theorem pt_75_57 (w : qS) : gP w 75 57 = some (.inl (qo_zas (gL w))) := rfl
theorem pt_75_58 (w : qS) : gP w 75 58 = some (.inl (qo_il 2 1)) := rfl
theorem pt_75_59 (w : qS) : gP w 75 59 = some (.inr (.inr 1)) := rfl
theorem pt_76_0 (w : qS) : gP w 76 0 = some (.inl (qo_al 0 1)) := rfl
theorem pt_76_1 (w : qS) : gP w 76 1 = some (.inl (qo_get (gL w) 5 1)) := rfl
theorem pt_76_4 (w : qS) : gP w 76 4 = some (.inl (qo_il 1 1)) := rfl
theorem pt_76_5 (w : qS) : gP w 76 5 = some (.inl (qo_ia (gL w))) := rfl
theorem pt_76_6 (w : qS) : gP w 76 6 = some (.inl (qo_al 0 1)) := rfl
theorem pt_76_7 (w : qS) : gP w 76 7 = some (.inl (qo_get (gL w) 5 2)) := rfl
theorem pt_76_10 (w : qS) : gP w 76 10 = some (.inl (qo_il 1 1)) := rfl
theorem pt_76_11 (w : qS) : gP w 76 11 = some (.inl (qo_ia (gL w))) := rfl
theorem pt_76_12 (w : qS) : gP w 76 12 = some (.inl (qo_c (fun x y => y ≤ x) 49)) := rfl
theorem pt_76_15 (w : qS) : gP w 76 15 = some (.inl (qo_al 0 1)) := rfl
theorem pt_76_16 (w : qS) : gP w 76 16 = some (.inl (qo_get (gL w) 5 3)) := rfl
theorem pt_76_19 (w : qS) : gP w 76 19 = some (.inl (qo_al 0 1)) := rfl
theorem pt_76_20 (w : qS) : gP w 76 20 = some (.inl (qo_get (gL w) 5 0)) := rfl
theorem pt_76_23 (w : qS) : gP w 76 23 = some (.inl (qo_il 1 1)) := rfl
theorem pt_76_24 (w : qS) : gP w 76 24 = some (.inl (qo_aa (gL w))) := rfl
theorem pt_76_25 (w : qS) : gP w 76 25 = some (.inl (qo_al 0 1)) := rfl
theorem pt_76_26 (w : qS) : gP w 76 26 = some (.inl (qo_get (gL w) 5 1)) := rfl
theorem pt_76_29 (w : qS) : gP w 76 29 = some (.inl (qo_il 1 1)) := rfl
theorem pt_76_30 (w : qS) : gP w 76 30 = some (.inl (qo_ia (gL w))) := rfl
theorem pt_76_31 (w : qS) : gP w 76 31 = some (.inl (qo_ia (gL w))) := rfl
theorem pt_76_32 (w : qS) : gP w 76 32 = some (.inl (qo_za (gL w))) := rfl
theorem pt_76_33 (w : qS) : gP w 76 33 = some (.inl (qo_z (fun x => x = 0) 49)) := rfl
theorem pt_76_36 (w : qS) : gP w 76 36 = some (.inl (qo_al 0 1)) := rfl
theorem pt_76_37 (w : qS) : gP w 76 37 = some (.inl (qo_get (gL w) 5 1)) := rfl
theorem pt_76_40 (w : qS) : gP w 76 40 = some (.inl (qo_il 1 1)) := rfl
theorem pt_76_41 (w : qS) : gP w 76 41 = some (.inl qo_dup2) := rfl
theorem pt_76_42 (w : qS) : gP w 76 42 = some (.inl (qo_ia (gL w))) := rfl
theorem pt_76_43 (w : qS) : gP w 76 43 = some (.inl (qo_k 1 1)) := rfl
theorem pt_76_44 (w : qS) : gP w 76 44 = some (.inl (qo_b (fun x y => x + y))) := rfl
theorem pt_76_45 (w : qS) : gP w 76 45 = some (.inl (qo_ias (gL w))) := rfl
theorem pt_76_46 (w : qS) : gP w 76 46 = some (.inl (qo_g 0)) := rfl
theorem pt_76_49 (w : qS) : gP w 76 49 = some (.inl (qo_al 0 1)) := rfl
theorem pt_76_50 (w : qS) : gP w 76 50 = some (.inl (qo_get (gL w) 5 1)) := rfl
theorem pt_76_53 (w : qS) : gP w 76 53 = some (.inl (qo_il 1 1)) := rfl
theorem pt_76_54 (w : qS) : gP w 76 54 = some (.inl (qo_ia (gL w))) := rfl
theorem pt_76_55 (w : qS) : gP w 76 55 = some (.inl (qo_al 0 1)) := rfl
theorem pt_76_56 (w : qS) : gP w 76 56 = some (.inl (qo_get (gL w) 5 2)) := rfl
theorem pt_76_59 (w : qS) : gP w 76 59 = some (.inl (qo_il 1 1)) := rfl
theorem pt_76_60 (w : qS) : gP w 76 60 = some (.inl (qo_ia (gL w))) := rfl
theorem pt_76_61 (w : qS) : gP w 76 61 = some (.inl (qo_c (fun x y => y ≤ x) 80)) := rfl
theorem pt_76_64 (w : qS) : gP w 76 64 = some (.inl (qo_al 0 1)) := rfl
theorem pt_76_65 (w : qS) : gP w 76 65 = some (.inl (qo_get (gL w) 5 0)) := rfl
theorem pt_76_68 (w : qS) : gP w 76 68 = some (.inl (qo_il 1 1)) := rfl
theorem pt_76_69 (w : qS) : gP w 76 69 = some (.inl (qo_aa (gL w))) := rfl
theorem pt_76_70 (w : qS) : gP w 76 70 = some (.inl (qo_al 0 1)) := rfl
theorem pt_76_71 (w : qS) : gP w 76 71 = some (.inl (qo_get (gL w) 5 1)) := rfl
theorem pt_76_74 (w : qS) : gP w 76 74 = some (.inl (qo_il 1 1)) := rfl
theorem pt_76_75 (w : qS) : gP w 76 75 = some (.inl (qo_ia (gL w))) := rfl
theorem pt_76_76 (w : qS) : gP w 76 76 = some (.inl (qo_ia (gL w))) := rfl
theorem pt_76_77 (w : qS) : gP w 76 77 = some (.inl (qo_g 81)) := rfl
theorem pt_76_80 (w : qS) : gP w 76 80 = some (.inl (qo_k (-1) 1)) := rfl
theorem pt_76_81 (w : qS) : gP w 76 81 = some (.inr (.inr 1)) := rfl
theorem pt_77_0 (w : qS) : gP w 77 0 = some (.inl (qo_al 0 1)) := rfl
theorem pt_77_1 (w : qS) : gP w 77 1 = some (.inl (qo_get (gL w) 6 1)) := rfl
theorem pt_77_4 (w : qS) : gP w 77 4 = some (.inl (qo_k (iN 400) 3)) := rfl
theorem pt_77_7 (w : qS) : gP w 77 7 = some (.inl (qo_c (fun x y => x < y) 12)) := rfl
theorem pt_77_10 (w : qS) : gP w 77 10 = some (.inl (qo_k 0 1)) := rfl
theorem pt_77_11 (w : qS) : gP w 77 11 = some (.inr (.inr 2)) := rfl
theorem pt_77_12 (w : qS) : gP w 77 12 = some (.inl (qo_al 0 1)) := rfl
theorem pt_77_13 (w : qS) : gP w 77 13 = some (.inl (qo_get (gL w) 6 0)) := rfl
theorem pt_77_16 (w : qS) : gP w 77 16 = some (.inl (qo_al 0 1)) := rfl
theorem pt_77_17 (w : qS) : gP w 77 17 = some (.inl (qo_get (gL w) 6 1)) := rfl
theorem pt_77_20 (w : qS) : gP w 77 20 = some (.inl (qo_il 1 1)) := rfl
theorem pt_77_21 (w : qS) : gP w 77 21 = some (.inl (qo_ias (gL w))) := rfl
theorem pt_77_22 (w : qS) : gP w 77 22 = some (.inl (qo_al 0 1)) := rfl
theorem pt_77_23 (w : qS) : gP w 77 23 = some (.inl qo_dup) := rfl
theorem pt_77_24 (w : qS) : gP w 77 24 = some (.inl (qo_get (gL w) 6 1)) := rfl
theorem pt_77_27 (w : qS) : gP w 77 27 = some (.inl (qo_k 1 1)) := rfl
theorem pt_77_28 (w : qS) : gP w 77 28 = some (.inl (qo_b (fun x y => x + y))) := rfl
theorem pt_77_29 (w : qS) : gP w 77 29 = some (.inl (qo_put (gL w) 6 1)) := rfl
theorem pt_77_32 (w : qS) : gP w 77 32 = some (.inl (qo_k 1 1)) := rfl
theorem pt_77_33 (w : qS) : gP w 77 33 = some (.inr (.inr 2)) := rfl
theorem pt_78_0 (w : qS) : gP w 78 0 = some (.inl (qo_al 0 1)) := rfl
theorem pt_78_1 (w : qS) : gP w 78 1 = some (.inl (qo_get (gL w) 6 2)) := rfl
theorem pt_78_4 (w : qS) : gP w 78 4 = some (.inl (qo_k (-1) 1)) := rfl
theorem pt_78_5 (w : qS) : gP w 78 5 = some (.inr (.inl (122, 2, none))) := rfl
theorem pt_78_8 (w : qS) : gP w 78 8 = some (.inl (qo_al 0 1)) := rfl
theorem pt_78_9 (w : qS) : gP w 78 9 = some (.inl (qo_get (gL w) 6 1)) := rfl
theorem pt_78_12 (w : qS) : gP w 78 12 = some (.inl (qo_al 0 1)) := rfl
theorem pt_78_13 (w : qS) : gP w 78 13 = some (.inl (qo_get (gL w) 6 1)) := rfl
theorem pt_78_16 (w : qS) : gP w 78 16 = some (.inl (qo_k (iN 4) 1)) := rfl
theorem pt_78_17 (w : qS) : gP w 78 17 = some (.inl (qo_d (fun x y => x - x / y * y))) := rfl
theorem pt_78_18 (w : qS) : gP w 78 18 = some (.inl (qo_b (fun x y => x - y))) := rfl
theorem pt_78_19 (w : qS) : gP w 78 19 = some (.inl (qo_is 1 1)) := rfl
theorem pt_78_20 (w : qS) : gP w 78 20 = some (.inl (qo_k 0 1)) := rfl
theorem pt_78_21 (w : qS) : gP w 78 21 = some (.inl (qo_is 2 1)) := rfl
theorem pt_78_22 (w : qS) : gP w 78 22 = some (.inl (qo_il 2 1)) := rfl
theorem pt_78_23 (w : qS) : gP w 78 23 = some (.inl (qo_il 1 1)) := rfl
theorem pt_78_24 (w : qS) : gP w 78 24 = some (.inl (qo_c (fun x y => y ≤ x) 81)) := rfl
theorem pt_78_27 (w : qS) : gP w 78 27 = some (.inl (qo_al 0 1)) := rfl
theorem pt_78_28 (w : qS) : gP w 78 28 = some (.inl (qo_get (gL w) 6 0)) := rfl
theorem pt_78_31 (w : qS) : gP w 78 31 = some (.inl (qo_il 2 1)) := rfl
theorem pt_78_32 (w : qS) : gP w 78 32 = some (.inl (qo_ia (gL w))) := rfl
theorem pt_78_33 (w : qS) : gP w 78 33 = some (.inl (qo_k (iN 255) 3)) := rfl
theorem pt_78_36 (w : qS) : gP w 78 36 = some (.inl (qo_c (fun x y => x = y) 81)) := rfl
theorem pt_78_39 (w : qS) : gP w 78 39 = some (.inl (qo_al 0 1)) := rfl
theorem pt_78_40 (w : qS) : gP w 78 40 = some (.inl (qo_al 0 1)) := rfl
theorem pt_78_41 (w : qS) : gP w 78 41 = some (.inl (qo_get (gL w) 6 0)) := rfl
theorem pt_78_44 (w : qS) : gP w 78 44 = some (.inl (qo_il 2 1)) := rfl
theorem pt_78_45 (w : qS) : gP w 78 45 = some (.inl (qo_ia (gL w))) := rfl
theorem pt_78_46 (w : qS) : gP w 78 46 = some (.inl (qo_al 0 1)) := rfl
theorem pt_78_47 (w : qS) : gP w 78 47 = some (.inl (qo_get (gL w) 6 0)) := rfl
theorem pt_78_50 (w : qS) : gP w 78 50 = some (.inl (qo_il 2 1)) := rfl
theorem pt_78_51 (w : qS) : gP w 78 51 = some (.inl (qo_k 1 1)) := rfl
theorem pt_78_52 (w : qS) : gP w 78 52 = some (.inl (qo_b (fun x y => x + y))) := rfl
theorem pt_78_53 (w : qS) : gP w 78 53 = some (.inl (qo_ia (gL w))) := rfl
theorem pt_78_54 (w : qS) : gP w 78 54 = some (.inl (qo_al 0 1)) := rfl
theorem pt_78_55 (w : qS) : gP w 78 55 = some (.inl (qo_get (gL w) 6 0)) := rfl
theorem pt_78_58 (w : qS) : gP w 78 58 = some (.inl (qo_il 2 1)) := rfl
theorem pt_78_59 (w : qS) : gP w 78 59 = some (.inl (qo_k (iN 2) 1)) := rfl
theorem pt_78_60 (w : qS) : gP w 78 60 = some (.inl (qo_b (fun x y => x + y))) := rfl
theorem pt_78_61 (w : qS) : gP w 78 61 = some (.inl (qo_ia (gL w))) := rfl
theorem pt_78_62 (w : qS) : gP w 78 62 = some (.inl (qo_al 0 1)) := rfl
theorem pt_78_63 (w : qS) : gP w 78 63 = some (.inl (qo_get (gL w) 6 0)) := rfl
theorem pt_78_66 (w : qS) : gP w 78 66 = some (.inl (qo_il 2 1)) := rfl
theorem pt_78_67 (w : qS) : gP w 78 67 = some (.inl (qo_k (iN 3) 1)) := rfl
theorem pt_78_68 (w : qS) : gP w 78 68 = some (.inl (qo_b (fun x y => x + y))) := rfl
theorem pt_78_69 (w : qS) : gP w 78 69 = some (.inl (qo_ia (gL w))) := rfl
theorem pt_78_70 (w : qS) : gP w 78 70 = some (.inl (qo_k 1 1)) := rfl
theorem pt_78_71 (w : qS) : gP w 78 71 = some (.inl (qo_b (fun x y => x - y))) := rfl
theorem pt_78_72 (w : qS) : gP w 78 72 = some (.inr (.inl (79, 5, some 6))) := rfl
theorem pt_78_75 (w : qS) : gP w 78 75 = some (.inl (qo_inc 2 (iN 4))) := rfl
theorem pt_78_78 (w : qS) : gP w 78 78 = some (.inl (qo_g 22)) := rfl
theorem pt_78_81 (w : qS) : gP w 78 81 = some (.inr (.inr 0)) := rfl
theorem pt_79_0 (w : qS) : gP w 79 0 = some (.inl (qo_il 2 1)) := rfl
theorem pt_79_1 (w : qS) : gP w 79 1 = some (.inl (qo_il 3 1)) := rfl
theorem pt_79_2 (w : qS) : gP w 79 2 = some (.inl (qo_b (fun x y => x + y))) := rfl
theorem pt_79_3 (w : qS) : gP w 79 3 = some (.inl (qo_k (iN 12) 2)) := rfl
theorem pt_79_5 (w : qS) : gP w 79 5 = some (.inl qo_mn) := rfl
theorem pt_79_8 (w : qS) : gP w 79 8 = some (.inl (qo_is 5 2)) := rfl
theorem pt_79_10 (w : qS) : gP w 79 10 = some (.inl (qo_il 2 1)) := rfl
theorem pt_79_11 (w : qS) : gP w 79 11 = some (.inl (qo_is 6 2)) := rfl
theorem pt_79_13 (w : qS) : gP w 79 13 = some (.inl (qo_il 1 1)) := rfl
theorem pt_79_14 (w : qS) : gP w 79 14 = some (.inl (qo_k (iN 10) 2)) := rfl
theorem pt_79_16 (w : qS) : gP w 79 16 = some (.inl (qo_c (fun x y => y ≤ x) 46)) := rfl
theorem pt_79_19 (w : qS) : gP w 79 19 = some (.inl (qo_il 6 2)) := rfl
theorem pt_79_21 (w : qS) : gP w 79 21 = some (.inl (qo_il 5 2)) := rfl
theorem pt_79_23 (w : qS) : gP w 79 23 = some (.inl (qo_c (fun x y => y ≤ x) 46)) := rfl
theorem pt_79_26 (w : qS) : gP w 79 26 = some (.inl (qo_al 0 1)) := rfl
theorem pt_79_27 (w : qS) : gP w 79 27 = some (.inl (qo_get (gL w) 6 2)) := rfl
theorem pt_79_30 (w : qS) : gP w 79 30 = some (.inl (qo_il 1 1)) := rfl
theorem pt_79_31 (w : qS) : gP w 79 31 = some (.inl (qo_k (iN 12) 2)) := rfl
theorem pt_79_33 (w : qS) : gP w 79 33 = some (.inl (qo_b (fun x y => x * y))) := rfl
theorem pt_79_34 (w : qS) : gP w 79 34 = some (.inl (qo_il 6 2)) := rfl
theorem pt_79_36 (w : qS) : gP w 79 36 = some (.inl (qo_b (fun x y => x + y))) := rfl
theorem pt_79_37 (w : qS) : gP w 79 37 = some (.inl (qo_il 4 2)) := rfl
theorem pt_79_39 (w : qS) : gP w 79 39 = some (.inl (qo_ias (gL w))) := rfl
theorem pt_79_40 (w : qS) : gP w 79 40 = some (.inl (qo_inc 6 1)) := rfl
theorem pt_79_43 (w : qS) : gP w 79 43 = some (.inl (qo_g 13)) := rfl
theorem pt_79_46 (w : qS) : gP w 79 46 = some (.inr (.inr 0)) := rfl
